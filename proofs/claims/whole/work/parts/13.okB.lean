/-! the tables are the methods' code: by program -/
theorem dX1_init_0 : decode cX1_init 0 = .ok (.aload_n 0, 1) := by decide +kernel
theorem dX1_init_1 : decode cX1_init 1 = .ok (.invokespecial 3, 3) := by decide +kernel
theorem dX1_init_4 : decode cX1_init 4 = .ok (.aload_n 0, 1) := by decide +kernel
theorem dX1_init_5 : decode cX1_init 5 = .ok (.bipush 36, 2) := by decide +kernel
theorem dX1_init_7 : decode cX1_init 7 = .ok (.newarray .int, 2) := by decide +kernel
theorem dX1_init_9 : decode cX1_init 9 = .ok (.putfield 11, 3) := by decide +kernel
theorem dX1_init_12 : decode cX1_init 12 = .ok (.aload_n 0, 1) := by decide +kernel
theorem dX1_init_13 : decode cX1_init 13 = .ok (.iconst 4, 1) := by decide +kernel
theorem dX1_init_14 : decode cX1_init 14 = .ok (.newarray .int, 2) := by decide +kernel
theorem dX1_init_16 : decode cX1_init 16 = .ok (.putfield 17, 3) := by decide +kernel
theorem dX1_init_19 : decode cX1_init 19 = .ok (.aload_n 0, 1) := by decide +kernel
theorem dX1_init_20 : decode cX1_init 20 = .ok (.iconst 4, 1) := by decide +kernel
theorem dX1_init_21 : decode cX1_init 21 = .ok (.newarray .int, 2) := by decide +kernel
theorem dX1_init_23 : decode cX1_init 23 = .ok (.putfield 20, 3) := by decide +kernel
theorem dX1_init_26 : decode cX1_init 26 = .ok (.return_, 1) := by decide +kernel
set_option maxRecDepth 20000 in
theorem tkX1_init : ∀ q ∈ tbX1_init, xOk (Zm true yX1_init.name) RX1 cX1_init 1 (none) pT pY q :=
  fa_c (ok_p (xg_load _ _ _) (x_aload_n dX1_init_0 rfl)) <|
  fa_c (ok_p (xg_obj _) (x_obj (fun _ _ _ _ _ h => h.2 rfl) kw100 kw75 kw76 dX1_init_1)) <|
  fa_c (ok_p (xg_load _ _ _) (x_aload_n dX1_init_4 rfl)) <|
  fa_c (ok_p (xg_st _ _) (x_bipush dX1_init_5 rfl)) <|
  fa_c (ok_p (xg_newa _) (x_newa dX1_init_7 kw94)) <|
  fa_c (ok_p (xg_putf _ _ _ _) (x_putfof (C := RX1) (T := TX1) (N := 10) tyX1 tyX1_ok nmX1 rfl (by decide) inX1 kw101 dX1_init_9 (tyX1_ok 0 (by decide)) (fun _ _ _ _ _ h => Or.inr ⟨rfl, h.1, rfl⟩))) <|
  fa_c (ok_p (xg_load _ _ _) (x_aload_n dX1_init_12 rfl)) <|
  fa_c (ok_p (xg_st _ _) (x_iconst dX1_init_13 rfl)) <|
  fa_c (ok_p (xg_newa _) (x_newa dX1_init_14 kw94)) <|
  fa_c (ok_p (xg_putf _ _ _ _) (x_putfof (C := RX1) (T := TX1) (N := 10) tyX1 tyX1_ok nmX1 rfl (by decide) inX1 kw102 dX1_init_16 (tyX1_ok 1 (by decide)) (fun _ _ _ _ _ h => Or.inr ⟨rfl, h.1, rfl⟩))) <|
  fa_c (ok_p (xg_load _ _ _) (x_aload_n dX1_init_19 rfl)) <|
  fa_c (ok_p (xg_st _ _) (x_iconst dX1_init_20 rfl)) <|
  fa_c (ok_p (xg_newa _) (x_newa dX1_init_21 kw94)) <|
  fa_c (ok_p (xg_putf _ _ _ _) (x_putfof (C := RX1) (T := TX1) (N := 10) tyX1 tyX1_ok nmX1 rfl (by decide) inX1 kw103 dX1_init_23 (tyX1_ok 2 (by decide)) (fun _ _ _ _ _ h => Or.inr ⟨rfl, h.1, rfl⟩))) <|
  fa_c (ok_r ⟨rfl, dX1_init_26⟩) <|
  fa_n
theorem dX1_beginBy_0 : decode cX1_beginBy 0 = .ok (.aload_n 0, 1) := by decide +kernel
theorem dX1_beginBy_1 : decode cX1_beginBy 1 = .ok (.aload_n 1, 1) := by decide +kernel
theorem dX1_beginBy_2 : decode cX1_beginBy 2 = .ok (.iconst 1, 1) := by decide +kernel
theorem dX1_beginBy_3 : decode cX1_beginBy 3 = .ok (.invokestatic 23, 3) := by decide +kernel
theorem dX1_beginBy_6 : decode cX1_beginBy 6 = .ok (.invokestatic 27, 3) := by decide +kernel
theorem dX1_beginBy_9 : decode cX1_beginBy 9 = .ok (.putfield 31, 3) := by decide +kernel
theorem dX1_beginBy_12 : decode cX1_beginBy 12 = .ok (.aload_n 0, 1) := by decide +kernel
theorem dX1_beginBy_13 : decode cX1_beginBy 13 = .ok (.aload_n 1, 1) := by decide +kernel
theorem dX1_beginBy_14 : decode cX1_beginBy 14 = .ok (.iconst 2, 1) := by decide +kernel
theorem dX1_beginBy_15 : decode cX1_beginBy 15 = .ok (.invokestatic 23, 3) := by decide +kernel
theorem dX1_beginBy_18 : decode cX1_beginBy 18 = .ok (.invokestatic 27, 3) := by decide +kernel
theorem dX1_beginBy_21 : decode cX1_beginBy 21 = .ok (.putfield 35, 3) := by decide +kernel
theorem dX1_beginBy_24 : decode cX1_beginBy 24 = .ok (.iconst 0, 1) := by decide +kernel
theorem dX1_beginBy_25 : decode cX1_beginBy 25 = .ok (.istore_n 3, 1) := by decide +kernel
theorem dX1_beginBy_26 : decode cX1_beginBy 26 = .ok (.iload_n 3, 1) := by decide +kernel
theorem dX1_beginBy_27 : decode cX1_beginBy 27 = .ok (.aload_n 0, 1) := by decide +kernel
theorem dX1_beginBy_28 : decode cX1_beginBy 28 = .ok (.invokevirtual 38, 3) := by decide +kernel
theorem dX1_beginBy_31 : decode cX1_beginBy 31 = .ok (.if_icmp .ge 24, 3) := by decide +kernel
theorem dX1_beginBy_34 : decode cX1_beginBy 34 = .ok (.aload_n 0, 1) := by decide +kernel
theorem dX1_beginBy_35 : decode cX1_beginBy 35 = .ok (.iload_n 3, 1) := by decide +kernel
theorem dX1_beginBy_36 : decode cX1_beginBy 36 = .ok (.aload_n 1, 1) := by decide +kernel
theorem dX1_beginBy_37 : decode cX1_beginBy 37 = .ok (.iconst 3, 1) := by decide +kernel
theorem dX1_beginBy_38 : decode cX1_beginBy 38 = .ok (.iload_n 3, 1) := by decide +kernel
theorem dX1_beginBy_39 : decode cX1_beginBy 39 = .ok (.iadd, 1) := by decide +kernel
theorem dX1_beginBy_40 : decode cX1_beginBy 40 = .ok (.invokestatic 23, 3) := by decide +kernel
theorem dX1_beginBy_43 : decode cX1_beginBy 43 = .ok (.invokestatic 27, 3) := by decide +kernel
theorem dX1_beginBy_46 : decode cX1_beginBy 46 = .ok (.invokevirtual 42, 3) := by decide +kernel
theorem dX1_beginBy_49 : decode cX1_beginBy 49 = .ok (.iinc 3 1, 3) := by decide +kernel
theorem dX1_beginBy_52 : decode cX1_beginBy 52 = .ok (.goto (-26), 3) := by decide +kernel
theorem dX1_beginBy_55 : decode cX1_beginBy 55 = .ok (.iconst 3, 1) := by decide +kernel
theorem dX1_beginBy_56 : decode cX1_beginBy 56 = .ok (.aload_n 0, 1) := by decide +kernel
theorem dX1_beginBy_57 : decode cX1_beginBy 57 = .ok (.invokevirtual 38, 3) := by decide +kernel
theorem dX1_beginBy_60 : decode cX1_beginBy 60 = .ok (.iadd, 1) := by decide +kernel
theorem dX1_beginBy_61 : decode cX1_beginBy 61 = .ok (.istore_n 3, 1) := by decide +kernel
theorem dX1_beginBy_62 : decode cX1_beginBy 62 = .ok (.aload_n 0, 1) := by decide +kernel
theorem dX1_beginBy_63 : decode cX1_beginBy 63 = .ok (.iload_n 2, 1) := by decide +kernel
theorem dX1_beginBy_64 : decode cX1_beginBy 64 = .ok (.iload_n 3, 1) := by decide +kernel
theorem dX1_beginBy_65 : decode cX1_beginBy 65 = .ok (.isub, 1) := by decide +kernel
theorem dX1_beginBy_66 : decode cX1_beginBy 66 = .ok (.iconst 3, 1) := by decide +kernel
theorem dX1_beginBy_67 : decode cX1_beginBy 67 = .ok (.isub, 1) := by decide +kernel
theorem dX1_beginBy_68 : decode cX1_beginBy 68 = .ok (.iconst 3, 1) := by decide +kernel
theorem dX1_beginBy_69 : decode cX1_beginBy 69 = .ok (.idiv, 1) := by decide +kernel
theorem dX1_beginBy_70 : decode cX1_beginBy 70 = .ok (.putfield 46, 3) := by decide +kernel
theorem dX1_beginBy_73 : decode cX1_beginBy 73 = .ok (.iconst 0, 1) := by decide +kernel
theorem dX1_beginBy_74 : decode cX1_beginBy 74 = .ok (.istore 4, 2) := by decide +kernel
theorem dX1_beginBy_76 : decode cX1_beginBy 76 = .ok (.iload 4, 2) := by decide +kernel
theorem dX1_beginBy_78 : decode cX1_beginBy 78 = .ok (.aload_n 0, 1) := by decide +kernel
theorem dX1_beginBy_79 : decode cX1_beginBy 79 = .ok (.getfield 46, 3) := by decide +kernel
theorem dX1_beginBy_82 : decode cX1_beginBy 82 = .ok (.if_icmp .ge 54, 3) := by decide +kernel
theorem dX1_beginBy_85 : decode cX1_beginBy 85 = .ok (.iload_n 3, 1) := by decide +kernel
theorem dX1_beginBy_86 : decode cX1_beginBy 86 = .ok (.iconst 3, 1) := by decide +kernel
theorem dX1_beginBy_87 : decode cX1_beginBy 87 = .ok (.iload 4, 2) := by decide +kernel
theorem dX1_beginBy_89 : decode cX1_beginBy 89 = .ok (.imul, 1) := by decide +kernel
theorem dX1_beginBy_90 : decode cX1_beginBy 90 = .ok (.iadd, 1) := by decide +kernel
theorem dX1_beginBy_91 : decode cX1_beginBy 91 = .ok (.istore 5, 2) := by decide +kernel
theorem dX1_beginBy_93 : decode cX1_beginBy 93 = .ok (.aload_n 0, 1) := by decide +kernel
theorem dX1_beginBy_94 : decode cX1_beginBy 94 = .ok (.getfield 17, 3) := by decide +kernel
theorem dX1_beginBy_97 : decode cX1_beginBy 97 = .ok (.iload 4, 2) := by decide +kernel
theorem dX1_beginBy_99 : decode cX1_beginBy 99 = .ok (.aload_n 1, 1) := by decide +kernel
theorem dX1_beginBy_100 : decode cX1_beginBy 100 = .ok (.iload 5, 2) := by decide +kernel
theorem dX1_beginBy_102 : decode cX1_beginBy 102 = .ok (.iconst 1, 1) := by decide +kernel
theorem dX1_beginBy_103 : decode cX1_beginBy 103 = .ok (.iadd, 1) := by decide +kernel
theorem dX1_beginBy_104 : decode cX1_beginBy 104 = .ok (.invokestatic 23, 3) := by decide +kernel
theorem dX1_beginBy_107 : decode cX1_beginBy 107 = .ok (.invokestatic 49, 3) := by decide +kernel
theorem dX1_beginBy_110 : decode cX1_beginBy 110 = .ok (.invokestatic 52, 3) := by decide +kernel
theorem dX1_beginBy_113 : decode cX1_beginBy 113 = .ok (.aload_n 0, 1) := by decide +kernel
theorem dX1_beginBy_114 : decode cX1_beginBy 114 = .ok (.iload 4, 2) := by decide +kernel
theorem dX1_beginBy_116 : decode cX1_beginBy 116 = .ok (.aload_n 1, 1) := by decide +kernel
theorem dX1_beginBy_117 : decode cX1_beginBy 117 = .ok (.iload 5, 2) := by decide +kernel
theorem dX1_beginBy_119 : decode cX1_beginBy 119 = .ok (.iconst 2, 1) := by decide +kernel
theorem dX1_beginBy_120 : decode cX1_beginBy 120 = .ok (.iadd, 1) := by decide +kernel
theorem dX1_beginBy_121 : decode cX1_beginBy 121 = .ok (.invokestatic 23, 3) := by decide +kernel
theorem dX1_beginBy_124 : decode cX1_beginBy 124 = .ok (.invokestatic 27, 3) := by decide +kernel
theorem dX1_beginBy_127 : decode cX1_beginBy 127 = .ok (.invokevirtual 56, 3) := by decide +kernel
theorem dX1_beginBy_130 : decode cX1_beginBy 130 = .ok (.iinc 4 1, 3) := by decide +kernel
theorem dX1_beginBy_133 : decode cX1_beginBy 133 = .ok (.goto (-57), 3) := by decide +kernel
theorem dX1_beginBy_136 : decode cX1_beginBy 136 = .ok (.aload_n 0, 1) := by decide +kernel
theorem dX1_beginBy_137 : decode cX1_beginBy 137 = .ok (.aload_n 1, 1) := by decide +kernel
theorem dX1_beginBy_138 : decode cX1_beginBy 138 = .ok (.iload_n 2, 1) := by decide +kernel
theorem dX1_beginBy_139 : decode cX1_beginBy 139 = .ok (.iconst 2, 1) := by decide +kernel
theorem dX1_beginBy_140 : decode cX1_beginBy 140 = .ok (.isub, 1) := by decide +kernel
theorem dX1_beginBy_141 : decode cX1_beginBy 141 = .ok (.invokestatic 23, 3) := by decide +kernel
theorem dX1_beginBy_144 : decode cX1_beginBy 144 = .ok (.invokestatic 27, 3) := by decide +kernel
theorem dX1_beginBy_147 : decode cX1_beginBy 147 = .ok (.aload_n 0, 1) := by decide +kernel
theorem dX1_beginBy_148 : decode cX1_beginBy 148 = .ok (.getfield 31, 3) := by decide +kernel
theorem dX1_beginBy_151 : decode cX1_beginBy 151 = .ok (.aload_n 1, 1) := by decide +kernel
theorem dX1_beginBy_152 : decode cX1_beginBy 152 = .ok (.iload_n 2, 1) := by decide +kernel
theorem dX1_beginBy_153 : decode cX1_beginBy 153 = .ok (.iconst 1, 1) := by decide +kernel
theorem dX1_beginBy_154 : decode cX1_beginBy 154 = .ok (.isub, 1) := by decide +kernel
theorem dX1_beginBy_155 : decode cX1_beginBy 155 = .ok (.invokestatic 23, 3) := by decide +kernel
theorem dX1_beginBy_158 : decode cX1_beginBy 158 = .ok (.invokestatic 27, 3) := by decide +kernel
theorem dX1_beginBy_161 : decode cX1_beginBy 161 = .ok (.imul, 1) := by decide +kernel
theorem dX1_beginBy_162 : decode cX1_beginBy 162 = .ok (.iadd, 1) := by decide +kernel
theorem dX1_beginBy_163 : decode cX1_beginBy 163 = .ok (.putfield 59, 3) := by decide +kernel
theorem dX1_beginBy_166 : decode cX1_beginBy 166 = .ok (.aload_n 0, 1) := by decide +kernel
theorem dX1_beginBy_167 : decode cX1_beginBy 167 = .ok (.iconst 1, 1) := by decide +kernel
theorem dX1_beginBy_168 : decode cX1_beginBy 168 = .ok (.aload_n 0, 1) := by decide +kernel
theorem dX1_beginBy_169 : decode cX1_beginBy 169 = .ok (.getfield 46, 3) := by decide +kernel
theorem dX1_beginBy_172 : decode cX1_beginBy 172 = .ok (.ishl, 1) := by decide +kernel
theorem dX1_beginBy_173 : decode cX1_beginBy 173 = .ok (.iconst 1, 1) := by decide +kernel
theorem dX1_beginBy_174 : decode cX1_beginBy 174 = .ok (.isub, 1) := by decide +kernel
theorem dX1_beginBy_175 : decode cX1_beginBy 175 = .ok (.putfield 62, 3) := by decide +kernel
theorem dX1_beginBy_178 : decode cX1_beginBy 178 = .ok (.aload_n 0, 1) := by decide +kernel
theorem dX1_beginBy_179 : decode cX1_beginBy 179 = .ok (.aload_n 0, 1) := by decide +kernel
theorem dX1_beginBy_180 : decode cX1_beginBy 180 = .ok (.aload_n 0, 1) := by decide +kernel
theorem dX1_beginBy_181 : decode cX1_beginBy 181 = .ok (.getfield 59, 3) := by decide +kernel
theorem dX1_beginBy_184 : decode cX1_beginBy 184 = .ok (.invokevirtual 65, 3) := by decide +kernel
theorem dX1_beginBy_187 : decode cX1_beginBy 187 = .ok (.putfield 69, 3) := by decide +kernel
theorem dX1_beginBy_190 : decode cX1_beginBy 190 = .ok (.aload_n 0, 1) := by decide +kernel
theorem dX1_beginBy_191 : decode cX1_beginBy 191 = .ok (.iconst 0, 1) := by decide +kernel
theorem dX1_beginBy_192 : decode cX1_beginBy 192 = .ok (.putfield 73, 3) := by decide +kernel
theorem dX1_beginBy_195 : decode cX1_beginBy 195 = .ok (.return_, 1) := by decide +kernel
set_option maxRecDepth 20000 in
theorem tkX1_beginBy : ∀ q ∈ tbX1_beginBy, xOk (Zm false yX1_beginBy.name) RX1 cX1_beginBy 6 (none) pT pY q :=
  fa_c (ok_p (xg_load _ _ _) (x_aload_n dX1_beginBy_0 rfl)) <|
  fa_c (ok_p (xg_load _ _ _) (x_aload_n dX1_beginBy_1 rfl)) <|
  fa_c (ok_p (xg_st _ _) (x_iconst dX1_beginBy_2 rfl)) <|
  fa_c (ok_c pT_119 pY_119 (x_callSN (n := 2) (host := "HullCharts") rfl (by decide +kernel) kw208 kw59 kw209 (by decide +kernel) dX1_beginBy_3)) <|
  fa_c (ok_c pT_58 pY_58 (x_callS (n := 1) rfl kw248 kw225 kw64 kw226 (by decide +kernel) dX1_beginBy_6)) <|
  fa_c (ok_p (xg_putf _ _ _ _) (x_putfof (C := RX1) (T := TX1) (N := 10) tyX1 tyX1_ok nmX1 rfl (by decide) inX1 kw104 dX1_beginBy_9 (tyX1_ok 3 (by decide)) (fun _ _ _ _ _ _ => Or.inl rfl))) <|
  fa_c (ok_p (xg_load _ _ _) (x_aload_n dX1_beginBy_12 rfl)) <|
  fa_c (ok_p (xg_load _ _ _) (x_aload_n dX1_beginBy_13 rfl)) <|
  fa_c (ok_p (xg_st _ _) (x_iconst dX1_beginBy_14 rfl)) <|
  fa_c (ok_c pT_119 pY_119 (x_callSN (n := 2) (host := "HullCharts") rfl (by decide +kernel) kw208 kw59 kw209 (by decide +kernel) dX1_beginBy_15)) <|
  fa_c (ok_c pT_58 pY_58 (x_callS (n := 1) rfl kw248 kw225 kw64 kw226 (by decide +kernel) dX1_beginBy_18)) <|
  fa_c (ok_p (xg_putf _ _ _ _) (x_putfof (C := RX1) (T := TX1) (N := 10) tyX1 tyX1_ok nmX1 rfl (by decide) inX1 kw105 dX1_beginBy_21 (tyX1_ok 4 (by decide)) (fun _ _ _ _ _ _ => Or.inl rfl))) <|
  fa_c (ok_p (xg_st _ _) (x_iconst dX1_beginBy_24 rfl)) <|
  fa_c (ok_p (xg_store _ _ _) (x_istore_n dX1_beginBy_25 rfl)) <|
  fa_c (ok_p (xg_clr _ (xg_load _ _ _)) (x_clr _ (x_iload_n dX1_beginBy_26 rfl))) <|
  fa_c (ok_p (xg_load _ _ _) (x_aload_n dX1_beginBy_27 rfl)) <|
  fa_c (ok_c pT_15 pY_15 (x_callV (n := 0) (C := RX1) (T := TX1) (N := 10) rfl rfl kw249 kw250 kw251 kw61 kw252 (by decide +kernel) dX1_beginBy_28)) <|
  fa_c (ok_p (xg_icmp _ _ _) (x_icmp_ge dX1_beginBy_31 (by decide))) <|
  fa_c (ok_p (xg_load _ _ _) (x_aload_n dX1_beginBy_34 rfl)) <|
  fa_c (ok_p (xg_load _ _ _) (x_iload_n dX1_beginBy_35 rfl)) <|
  fa_c (ok_p (xg_load _ _ _) (x_aload_n dX1_beginBy_36 rfl)) <|
  fa_c (ok_p (xg_st _ _) (x_iconst dX1_beginBy_37 rfl)) <|
  fa_c (ok_p (xg_load _ _ _) (x_iload_n dX1_beginBy_38 rfl)) <|
  fa_c (ok_p (xg_st _ _) (x_iadd dX1_beginBy_39)) <|
  fa_c (ok_c pT_119 pY_119 (x_callSN (n := 2) (host := "HullCharts") rfl (by decide +kernel) kw208 kw59 kw209 (by decide +kernel) dX1_beginBy_40)) <|
  fa_c (ok_c pT_58 pY_58 (x_callS (n := 1) rfl kw248 kw225 kw64 kw226 (by decide +kernel) dX1_beginBy_43)) <|
  fa_c (ok_c pT_19 pY_19 (x_callV (n := 2) (C := RX1) (T := TX1) (N := 10) rfl rfl kw253 kw254 kw255 kw61 kw256 (by decide +kernel) dX1_beginBy_46)) <|
  fa_c (ok_p (xg_iinc _ _ _) (x_iinc dX1_beginBy_49 rfl)) <|
  fa_c (ok_p (xg_st _ _) (x_goto dX1_beginBy_52 (by decide))) <|
  fa_c (ok_p (xg_st _ _) (x_iconst dX1_beginBy_55 rfl)) <|
  fa_c (ok_p (xg_load _ _ _) (x_aload_n dX1_beginBy_56 rfl)) <|
  fa_c (ok_c pT_15 pY_15 (x_callV (n := 0) (C := RX1) (T := TX1) (N := 10) rfl rfl kw249 kw250 kw251 kw61 kw252 (by decide +kernel) dX1_beginBy_57)) <|
  fa_c (ok_p (xg_st _ _) (x_iadd dX1_beginBy_60)) <|
  fa_c (ok_p (xg_store _ _ _) (x_istore_n dX1_beginBy_61 rfl)) <|
  fa_c (ok_p (xg_load _ _ _) (x_aload_n dX1_beginBy_62 rfl)) <|
  fa_c (ok_p (xg_load _ _ _) (x_iload_n dX1_beginBy_63 rfl)) <|
  fa_c (ok_p (xg_load _ _ _) (x_iload_n dX1_beginBy_64 rfl)) <|
  fa_c (ok_p (xg_st _ _) (x_isub dX1_beginBy_65)) <|
  fa_c (ok_p (xg_st _ _) (x_iconst dX1_beginBy_66 rfl)) <|
  fa_c (ok_p (xg_st _ _) (x_isub dX1_beginBy_67)) <|
  fa_c (ok_p (xg_st _ _) (x_iconst dX1_beginBy_68 rfl)) <|
  fa_c (ok_p (xg_st _ _) (x_idiv dX1_beginBy_69)) <|
  fa_c (ok_p (xg_putf _ _ _ _) (x_putfof (C := RX1) (T := TX1) (N := 10) tyX1 tyX1_ok nmX1 rfl (by decide) inX1 kw106 dX1_beginBy_70 (tyX1_ok 5 (by decide)) (fun _ _ _ _ _ _ => Or.inl rfl))) <|
  fa_c (ok_p (xg_st _ _) (x_iconst dX1_beginBy_73 rfl)) <|
  fa_c (ok_p (xg_store _ _ _) (x_istore dX1_beginBy_74)) <|
  fa_c (ok_p (xg_clr _ (xg_load _ _ _)) (x_clr _ (x_iload dX1_beginBy_76))) <|
  fa_c (ok_p (xg_load _ _ _) (x_aload_n dX1_beginBy_78 rfl)) <|
  fa_c (ok_p (xg_getf _ _ _) (x_getf (C := RX1) (T := TX1) (N := 10) rfl (by decide) inX1 kw106 dX1_beginBy_79)) <|
  fa_c (ok_p (xg_icmp _ _ _) (x_icmp_ge dX1_beginBy_82 (by decide))) <|
  fa_c (ok_p (xg_load _ _ _) (x_iload_n dX1_beginBy_85 rfl)) <|
  fa_c (ok_p (xg_st _ _) (x_iconst dX1_beginBy_86 rfl)) <|
  fa_c (ok_p (xg_load _ _ _) (x_iload dX1_beginBy_87)) <|
  fa_c (ok_p (xg_st _ _) (x_imul dX1_beginBy_89)) <|
  fa_c (ok_p (xg_st _ _) (x_iadd dX1_beginBy_90)) <|
  fa_c (ok_p (xg_store _ _ _) (x_istore dX1_beginBy_91)) <|
  fa_c (ok_p (xg_load _ _ _) (x_aload_n dX1_beginBy_93 rfl)) <|
  fa_c (ok_p (xg_getf _ _ _) (x_getf (C := RX1) (T := TX1) (N := 10) rfl (by decide) inX1 kw102 dX1_beginBy_94)) <|
  fa_c (ok_p (xg_load _ _ _) (x_iload dX1_beginBy_97)) <|
  fa_c (ok_p (xg_load _ _ _) (x_aload_n dX1_beginBy_99 rfl)) <|
  fa_c (ok_p (xg_load _ _ _) (x_iload dX1_beginBy_100)) <|
  fa_c (ok_p (xg_st _ _) (x_iconst dX1_beginBy_102 rfl)) <|
  fa_c (ok_p (xg_st _ _) (x_iadd dX1_beginBy_103)) <|
  fa_c (ok_c pT_119 pY_119 (x_callSN (n := 2) (host := "HullCharts") rfl (by decide +kernel) kw208 kw59 kw209 (by decide +kernel) dX1_beginBy_104)) <|
  fa_c (ok_c pT_59 pY_59 (x_callS (n := 1) rfl kw258 kw241 kw64 kw242 (by decide +kernel) dX1_beginBy_107)) <|
  fa_c (ok_c pT_120 pY_120 (x_callSN (n := 3) (host := "HullCharts") rfl (by decide +kernel) kw211 kw59 kw212 (by decide +kernel) dX1_beginBy_110)) <|
  fa_c (ok_p (xg_load _ _ _) (x_aload_n dX1_beginBy_113 rfl)) <|
  fa_c (ok_p (xg_load _ _ _) (x_iload dX1_beginBy_114)) <|
  fa_c (ok_p (xg_load _ _ _) (x_aload_n dX1_beginBy_116 rfl)) <|
  fa_c (ok_p (xg_load _ _ _) (x_iload dX1_beginBy_117)) <|
  fa_c (ok_p (xg_st _ _) (x_iconst dX1_beginBy_119 rfl)) <|
  fa_c (ok_p (xg_st _ _) (x_iadd dX1_beginBy_120)) <|
  fa_c (ok_c pT_119 pY_119 (x_callSN (n := 2) (host := "HullCharts") rfl (by decide +kernel) kw208 kw59 kw209 (by decide +kernel) dX1_beginBy_121)) <|
  fa_c (ok_c pT_58 pY_58 (x_callS (n := 1) rfl kw248 kw225 kw64 kw226 (by decide +kernel) dX1_beginBy_124)) <|
  fa_c (ok_c pT_22 pY_22 (x_callV (n := 2) (C := RX1) (T := TX1) (N := 10) rfl rfl kw259 kw260 kw261 kw61 kw262 (by decide +kernel) dX1_beginBy_127)) <|
  fa_c (ok_p (xg_iinc _ _ _) (x_iinc dX1_beginBy_130 rfl)) <|
  fa_c (ok_p (xg_st _ _) (x_goto dX1_beginBy_133 (by decide))) <|
  fa_c (ok_p (xg_load _ _ _) (x_aload_n dX1_beginBy_136 rfl)) <|
  fa_c (ok_p (xg_load _ _ _) (x_aload_n dX1_beginBy_137 rfl)) <|
  fa_c (ok_p (xg_load _ _ _) (x_iload_n dX1_beginBy_138 rfl)) <|
  fa_c (ok_p (xg_st _ _) (x_iconst dX1_beginBy_139 rfl)) <|
  fa_c (ok_p (xg_st _ _) (x_isub dX1_beginBy_140)) <|
  fa_c (ok_c pT_119 pY_119 (x_callSN (n := 2) (host := "HullCharts") rfl (by decide +kernel) kw208 kw59 kw209 (by decide +kernel) dX1_beginBy_141)) <|
  fa_c (ok_c pT_58 pY_58 (x_callS (n := 1) rfl kw248 kw225 kw64 kw226 (by decide +kernel) dX1_beginBy_144)) <|
  fa_c (ok_p (xg_load _ _ _) (x_aload_n dX1_beginBy_147 rfl)) <|
  fa_c (ok_p (xg_getf _ _ _) (x_getf (C := RX1) (T := TX1) (N := 10) rfl (by decide) inX1 kw104 dX1_beginBy_148)) <|
  fa_c (ok_p (xg_load _ _ _) (x_aload_n dX1_beginBy_151 rfl)) <|
  fa_c (ok_p (xg_load _ _ _) (x_iload_n dX1_beginBy_152 rfl)) <|
  fa_c (ok_p (xg_st _ _) (x_iconst dX1_beginBy_153 rfl)) <|
  fa_c (ok_p (xg_st _ _) (x_isub dX1_beginBy_154)) <|
  fa_c (ok_c pT_119 pY_119 (x_callSN (n := 2) (host := "HullCharts") rfl (by decide +kernel) kw208 kw59 kw209 (by decide +kernel) dX1_beginBy_155)) <|
  fa_c (ok_c pT_58 pY_58 (x_callS (n := 1) rfl kw248 kw225 kw64 kw226 (by decide +kernel) dX1_beginBy_158)) <|
  fa_c (ok_p (xg_st _ _) (x_imul dX1_beginBy_161)) <|
  fa_c (ok_p (xg_st _ _) (x_iadd dX1_beginBy_162)) <|
  fa_c (ok_p (xg_putf _ _ _ _) (x_putfof (C := RX1) (T := TX1) (N := 10) tyX1 tyX1_ok nmX1 rfl (by decide) inX1 kw108 dX1_beginBy_163 (tyX1_ok 7 (by decide)) (fun _ _ _ _ _ _ => Or.inl rfl))) <|
  fa_c (ok_p (xg_load _ _ _) (x_aload_n dX1_beginBy_166 rfl)) <|
  fa_c (ok_p (xg_st _ _) (x_iconst dX1_beginBy_167 rfl)) <|
  fa_c (ok_p (xg_load _ _ _) (x_aload_n dX1_beginBy_168 rfl)) <|
  fa_c (ok_p (xg_getf _ _ _) (x_getf (C := RX1) (T := TX1) (N := 10) rfl (by decide) inX1 kw106 dX1_beginBy_169)) <|
  fa_c (ok_p (xg_st _ _) (x_ishl dX1_beginBy_172)) <|
  fa_c (ok_p (xg_st _ _) (x_iconst dX1_beginBy_173 rfl)) <|
  fa_c (ok_p (xg_st _ _) (x_isub dX1_beginBy_174)) <|
  fa_c (ok_p (xg_putf _ _ _ _) (x_putfof (C := RX1) (T := TX1) (N := 10) tyX1 tyX1_ok nmX1 rfl (by decide) inX1 kw107 dX1_beginBy_175 (tyX1_ok 6 (by decide)) (fun _ _ _ _ _ _ => Or.inl rfl))) <|
  fa_c (ok_p (xg_load _ _ _) (x_aload_n dX1_beginBy_178 rfl)) <|
  fa_c (ok_p (xg_load _ _ _) (x_aload_n dX1_beginBy_179 rfl)) <|
  fa_c (ok_p (xg_load _ _ _) (x_aload_n dX1_beginBy_180 rfl)) <|
  fa_c (ok_p (xg_getf _ _ _) (x_getf (C := RX1) (T := TX1) (N := 10) rfl (by decide) inX1 kw108 dX1_beginBy_181)) <|
  fa_c (ok_c pT_28 pY_28 (x_callV (n := 1) (C := RX1) (T := TX1) (N := 10) rfl rfl kw263 kw265 kw3 kw61 kw266 (by decide +kernel) dX1_beginBy_184)) <|
  fa_c (ok_p (xg_putf _ _ _ _) (x_putfof (C := RX1) (T := TX1) (N := 10) tyX1 tyX1_ok nmX1 rfl (by decide) inX1 kw109 dX1_beginBy_187 (tyX1_ok 8 (by decide)) (fun _ _ _ _ _ _ => Or.inl rfl))) <|
  fa_c (ok_p (xg_load _ _ _) (x_aload_n dX1_beginBy_190 rfl)) <|
  fa_c (ok_p (xg_st _ _) (x_iconst dX1_beginBy_191 rfl)) <|
  fa_c (ok_p (xg_putf _ _ _ _) (x_putfof (C := RX1) (T := TX1) (N := 10) tyX1 tyX1_ok nmX1 rfl (by decide) inX1 kw110 dX1_beginBy_192 (tyX1_ok 9 (by decide)) (fun _ _ _ _ _ _ => Or.inl rfl))) <|
  fa_c (ok_r ⟨rfl, dX1_beginBy_195⟩) <|
  fa_n
theorem dX1_exists_0 : decode cX1_exists 0 = .ok (.aload_n 0, 1) := by decide +kernel
theorem dX1_exists_1 : decode cX1_exists 1 = .ok (.getfield 31, 3) := by decide +kernel
theorem dX1_exists_4 : decode cX1_exists 4 = .ok (.ifCond .le 7, 3) := by decide +kernel
theorem dX1_exists_7 : decode cX1_exists 7 = .ok (.iconst 1, 1) := by decide +kernel
theorem dX1_exists_8 : decode cX1_exists 8 = .ok (.goto 4, 3) := by decide +kernel
theorem dX1_exists_11 : decode cX1_exists 11 = .ok (.iconst 0, 1) := by decide +kernel
theorem dX1_exists_12 : decode cX1_exists 12 = .ok (.ireturn, 1) := by decide +kernel
set_option maxRecDepth 20000 in
theorem tkX1_exists : ∀ q ∈ tbX1_exists, xOk (Zm false yX1_exists.name) RX1 cX1_exists 1 (some .boolean) pT pY q :=
  fa_c (ok_p (xg_load _ _ _) (x_aload_n dX1_exists_0 rfl)) <|
  fa_c (ok_p (xg_getf _ _ _) (x_getf (C := RX1) (T := TX1) (N := 10) rfl (by decide) inX1 kw104 dX1_exists_1)) <|
  fa_c (ok_p (xg_if _ _ _) (x_if_le dX1_exists_4 (by decide))) <|
  fa_c (ok_p (xg_st _ _) (x_iconst dX1_exists_7 rfl)) <|
  fa_c (ok_p (xg_st _ _) (x_goto dX1_exists_8 (by decide))) <|
  fa_c (ok_p (xg_st _ _) (x_iconst dX1_exists_11 rfl)) <|
  fa_c (ok_r ⟨rfl, dX1_exists_12⟩) <|
  fa_n
theorem dX1_columns_0 : decode cX1_columns 0 = .ok (.aload_n 0, 1) := by decide +kernel
theorem dX1_columns_1 : decode cX1_columns 1 = .ok (.getfield 31, 3) := by decide +kernel
theorem dX1_columns_4 : decode cX1_columns 4 = .ok (.ireturn, 1) := by decide +kernel
set_option maxRecDepth 20000 in
theorem tkX1_columns : ∀ q ∈ tbX1_columns, xOk (Zm false yX1_columns.name) RX1 cX1_columns 1 (some .int) pT pY q :=
  fa_c (ok_p (xg_load _ _ _) (x_aload_n dX1_columns_0 rfl)) <|
  fa_c (ok_p (xg_getf _ _ _) (x_getf (C := RX1) (T := TX1) (N := 10) rfl (by decide) inX1 kw104 dX1_columns_1)) <|
  fa_c (ok_r ⟨rfl, dX1_columns_4⟩) <|
  fa_n
theorem dX1_rows_0 : decode cX1_rows 0 = .ok (.aload_n 0, 1) := by decide +kernel
theorem dX1_rows_1 : decode cX1_rows 1 = .ok (.getfield 35, 3) := by decide +kernel
theorem dX1_rows_4 : decode cX1_rows 4 = .ok (.ireturn, 1) := by decide +kernel
set_option maxRecDepth 20000 in
theorem tkX1_rows : ∀ q ∈ tbX1_rows, xOk (Zm false yX1_rows.name) RX1 cX1_rows 1 (some .int) pT pY q :=
  fa_c (ok_p (xg_load _ _ _) (x_aload_n dX1_rows_0 rfl)) <|
  fa_c (ok_p (xg_getf _ _ _) (x_getf (C := RX1) (T := TX1) (N := 10) rfl (by decide) inX1 kw105 dX1_rows_1)) <|
  fa_c (ok_r ⟨rfl, dX1_rows_4⟩) <|
  fa_n
theorem dX1_lookers_0 : decode cX1_lookers 0 = .ok (.aload_n 0, 1) := by decide +kernel
theorem dX1_lookers_1 : decode cX1_lookers 1 = .ok (.getfield 46, 3) := by decide +kernel
theorem dX1_lookers_4 : decode cX1_lookers 4 = .ok (.ireturn, 1) := by decide +kernel
set_option maxRecDepth 20000 in
theorem tkX1_lookers : ∀ q ∈ tbX1_lookers, xOk (Zm false yX1_lookers.name) RX1 cX1_lookers 1 (some .int) pT pY q :=
  fa_c (ok_p (xg_load _ _ _) (x_aload_n dX1_lookers_0 rfl)) <|
  fa_c (ok_p (xg_getf _ _ _) (x_getf (C := RX1) (T := TX1) (N := 10) rfl (by decide) inX1 kw106 dX1_lookers_1)) <|
  fa_c (ok_r ⟨rfl, dX1_lookers_4⟩) <|
  fa_n
theorem dX1_place_0 : decode cX1_place 0 = .ok (.aload_n 0, 1) := by decide +kernel
theorem dX1_place_1 : decode cX1_place 1 = .ok (.getfield 59, 3) := by decide +kernel
theorem dX1_place_4 : decode cX1_place 4 = .ok (.ireturn, 1) := by decide +kernel
set_option maxRecDepth 20000 in
theorem tkX1_place : ∀ q ∈ tbX1_place, xOk (Zm false yX1_place.name) RX1 cX1_place 1 (some .int) pT pY q :=
  fa_c (ok_p (xg_load _ _ _) (x_aload_n dX1_place_0 rfl)) <|
  fa_c (ok_p (xg_getf _ _ _) (x_getf (C := RX1) (T := TX1) (N := 10) rfl (by decide) inX1 kw108 dX1_place_1)) <|
  fa_c (ok_r ⟨rfl, dX1_place_4⟩) <|
  fa_n
theorem dX1_seenCells_0 : decode cX1_seenCells 0 = .ok (.aload_n 0, 1) := by decide +kernel
theorem dX1_seenCells_1 : decode cX1_seenCells 1 = .ok (.getfield 69, 3) := by decide +kernel
theorem dX1_seenCells_4 : decode cX1_seenCells 4 = .ok (.lreturn, 1) := by decide +kernel
set_option maxRecDepth 20000 in
theorem tkX1_seenCells : ∀ q ∈ tbX1_seenCells, xOk (Zm false yX1_seenCells.name) RX1 cX1_seenCells 1 (some .long) pT pY q :=
  fa_c (ok_p (xg_load _ _ _) (x_aload_n dX1_seenCells_0 rfl)) <|
  fa_c (ok_p (xg_getf _ _ _) (x_getf (C := RX1) (T := TX1) (N := 10) rfl (by decide) inX1 kw109 dX1_seenCells_1)) <|
  fa_c (ok_r ⟨rfl, dX1_seenCells_4⟩) <|
  fa_n
theorem dX1_stepsDone_0 : decode cX1_stepsDone 0 = .ok (.aload_n 0, 1) := by decide +kernel
theorem dX1_stepsDone_1 : decode cX1_stepsDone 1 = .ok (.getfield 73, 3) := by decide +kernel
theorem dX1_stepsDone_4 : decode cX1_stepsDone 4 = .ok (.ireturn, 1) := by decide +kernel
set_option maxRecDepth 20000 in
theorem tkX1_stepsDone : ∀ q ∈ tbX1_stepsDone, xOk (Zm false yX1_stepsDone.name) RX1 cX1_stepsDone 1 (some .int) pT pY q :=
  fa_c (ok_p (xg_load _ _ _) (x_aload_n dX1_stepsDone_0 rfl)) <|
  fa_c (ok_p (xg_getf _ _ _) (x_getf (C := RX1) (T := TX1) (N := 10) rfl (by decide) inX1 kw110 dX1_stepsDone_1)) <|
  fa_c (ok_r ⟨rfl, dX1_stepsDone_4⟩) <|
  fa_n
theorem dX1_cells_0 : decode cX1_cells 0 = .ok (.aload_n 0, 1) := by decide +kernel
theorem dX1_cells_1 : decode cX1_cells 1 = .ok (.getfield 31, 3) := by decide +kernel
theorem dX1_cells_4 : decode cX1_cells 4 = .ok (.aload_n 0, 1) := by decide +kernel
theorem dX1_cells_5 : decode cX1_cells 5 = .ok (.getfield 35, 3) := by decide +kernel
theorem dX1_cells_8 : decode cX1_cells 8 = .ok (.imul, 1) := by decide +kernel
theorem dX1_cells_9 : decode cX1_cells 9 = .ok (.ireturn, 1) := by decide +kernel
set_option maxRecDepth 20000 in
theorem tkX1_cells : ∀ q ∈ tbX1_cells, xOk (Zm false yX1_cells.name) RX1 cX1_cells 1 (some .int) pT pY q :=
  fa_c (ok_p (xg_load _ _ _) (x_aload_n dX1_cells_0 rfl)) <|
  fa_c (ok_p (xg_getf _ _ _) (x_getf (C := RX1) (T := TX1) (N := 10) rfl (by decide) inX1 kw104 dX1_cells_1)) <|
  fa_c (ok_p (xg_load _ _ _) (x_aload_n dX1_cells_4 rfl)) <|
  fa_c (ok_p (xg_getf _ _ _) (x_getf (C := RX1) (T := TX1) (N := 10) rfl (by decide) inX1 kw105 dX1_cells_5)) <|
  fa_c (ok_p (xg_st _ _) (x_imul dX1_cells_8)) <|
  fa_c (ok_r ⟨rfl, dX1_cells_9⟩) <|
  fa_n
theorem dX1_isCell_0 : decode cX1_isCell 0 = .ok (.iload_n 1, 1) := by decide +kernel
theorem dX1_isCell_1 : decode cX1_isCell 1 = .ok (.ifCond .lt 15, 3) := by decide +kernel
theorem dX1_isCell_4 : decode cX1_isCell 4 = .ok (.iload_n 1, 1) := by decide +kernel
theorem dX1_isCell_5 : decode cX1_isCell 5 = .ok (.aload_n 0, 1) := by decide +kernel
theorem dX1_isCell_6 : decode cX1_isCell 6 = .ok (.invokevirtual 38, 3) := by decide +kernel
theorem dX1_isCell_9 : decode cX1_isCell 9 = .ok (.if_icmp .ge 7, 3) := by decide +kernel
theorem dX1_isCell_12 : decode cX1_isCell 12 = .ok (.iconst 1, 1) := by decide +kernel
theorem dX1_isCell_13 : decode cX1_isCell 13 = .ok (.goto 4, 3) := by decide +kernel
theorem dX1_isCell_16 : decode cX1_isCell 16 = .ok (.iconst 0, 1) := by decide +kernel
theorem dX1_isCell_17 : decode cX1_isCell 17 = .ok (.ireturn, 1) := by decide +kernel
set_option maxRecDepth 20000 in
theorem tkX1_isCell : ∀ q ∈ tbX1_isCell, xOk (Zm false yX1_isCell.name) RX1 cX1_isCell 2 (some .boolean) pT pY q :=
  fa_c (ok_p (xg_load _ _ _) (x_iload_n dX1_isCell_0 rfl)) <|
  fa_c (ok_p (xg_if _ _ _) (x_if_lt dX1_isCell_1 (by decide))) <|
  fa_c (ok_p (xg_load _ _ _) (x_iload_n dX1_isCell_4 rfl)) <|
  fa_c (ok_p (xg_load _ _ _) (x_aload_n dX1_isCell_5 rfl)) <|
  fa_c (ok_c pT_15 pY_15 (x_callV (n := 0) (C := RX1) (T := TX1) (N := 10) rfl rfl kw249 kw250 kw251 kw61 kw252 (by decide +kernel) dX1_isCell_6)) <|
  fa_c (ok_p (xg_icmp _ _ _) (x_icmp_ge dX1_isCell_9 (by decide))) <|
  fa_c (ok_p (xg_st _ _) (x_iconst dX1_isCell_12 rfl)) <|
  fa_c (ok_p (xg_st _ _) (x_goto dX1_isCell_13 (by decide))) <|
  fa_c (ok_p (xg_st _ _) (x_iconst dX1_isCell_16 rfl)) <|
  fa_c (ok_r ⟨rfl, dX1_isCell_17⟩) <|
  fa_n
theorem dX1_isLooker_0 : decode cX1_isLooker 0 = .ok (.iload_n 1, 1) := by decide +kernel
theorem dX1_isLooker_1 : decode cX1_isLooker 1 = .ok (.ifCond .lt 15, 3) := by decide +kernel
theorem dX1_isLooker_4 : decode cX1_isLooker 4 = .ok (.iload_n 1, 1) := by decide +kernel
theorem dX1_isLooker_5 : decode cX1_isLooker 5 = .ok (.aload_n 0, 1) := by decide +kernel
theorem dX1_isLooker_6 : decode cX1_isLooker 6 = .ok (.getfield 46, 3) := by decide +kernel
theorem dX1_isLooker_9 : decode cX1_isLooker 9 = .ok (.if_icmp .ge 7, 3) := by decide +kernel
theorem dX1_isLooker_12 : decode cX1_isLooker 12 = .ok (.iconst 1, 1) := by decide +kernel
theorem dX1_isLooker_13 : decode cX1_isLooker 13 = .ok (.goto 4, 3) := by decide +kernel
theorem dX1_isLooker_16 : decode cX1_isLooker 16 = .ok (.iconst 0, 1) := by decide +kernel
theorem dX1_isLooker_17 : decode cX1_isLooker 17 = .ok (.ireturn, 1) := by decide +kernel
set_option maxRecDepth 20000 in
theorem tkX1_isLooker : ∀ q ∈ tbX1_isLooker, xOk (Zm false yX1_isLooker.name) RX1 cX1_isLooker 2 (some .boolean) pT pY q :=
  fa_c (ok_p (xg_load _ _ _) (x_iload_n dX1_isLooker_0 rfl)) <|
  fa_c (ok_p (xg_if _ _ _) (x_if_lt dX1_isLooker_1 (by decide))) <|
  fa_c (ok_p (xg_load _ _ _) (x_iload_n dX1_isLooker_4 rfl)) <|
  fa_c (ok_p (xg_load _ _ _) (x_aload_n dX1_isLooker_5 rfl)) <|
  fa_c (ok_p (xg_getf _ _ _) (x_getf (C := RX1) (T := TX1) (N := 10) rfl (by decide) inX1 kw106 dX1_isLooker_6)) <|
  fa_c (ok_p (xg_icmp _ _ _) (x_icmp_ge dX1_isLooker_9 (by decide))) <|
  fa_c (ok_p (xg_st _ _) (x_iconst dX1_isLooker_12 rfl)) <|
  fa_c (ok_p (xg_st _ _) (x_goto dX1_isLooker_13 (by decide))) <|
  fa_c (ok_p (xg_st _ _) (x_iconst dX1_isLooker_16 rfl)) <|
  fa_c (ok_r ⟨rfl, dX1_isLooker_17⟩) <|
  fa_n
theorem dX1_heightOf_0 : decode cX1_heightOf 0 = .ok (.aload_n 0, 1) := by decide +kernel
theorem dX1_heightOf_1 : decode cX1_heightOf 1 = .ok (.getfield 11, 3) := by decide +kernel
theorem dX1_heightOf_4 : decode cX1_heightOf 4 = .ok (.iload_n 1, 1) := by decide +kernel
theorem dX1_heightOf_5 : decode cX1_heightOf 5 = .ok (.invokestatic 23, 3) := by decide +kernel
theorem dX1_heightOf_8 : decode cX1_heightOf 8 = .ok (.ireturn, 1) := by decide +kernel
set_option maxRecDepth 20000 in
theorem tkX1_heightOf : ∀ q ∈ tbX1_heightOf, xOk (Zm false yX1_heightOf.name) RX1 cX1_heightOf 2 (some .int) pT pY q :=
  fa_c (ok_p (xg_load _ _ _) (x_aload_n dX1_heightOf_0 rfl)) <|
  fa_c (ok_p (xg_getf _ _ _) (x_getf (C := RX1) (T := TX1) (N := 10) rfl (by decide) inX1 kw101 dX1_heightOf_1)) <|
  fa_c (ok_p (xg_load _ _ _) (x_iload_n dX1_heightOf_4 rfl)) <|
  fa_c (ok_c pT_119 pY_119 (x_callSN (n := 2) (host := "HullCharts") rfl (by decide +kernel) kw208 kw59 kw209 (by decide +kernel) dX1_heightOf_5)) <|
  fa_c (ok_r ⟨rfl, dX1_heightOf_8⟩) <|
  fa_n
theorem dX1_makeHeight_0 : decode cX1_makeHeight 0 = .ok (.aload_n 0, 1) := by decide +kernel
theorem dX1_makeHeight_1 : decode cX1_makeHeight 1 = .ok (.getfield 11, 3) := by decide +kernel
theorem dX1_makeHeight_4 : decode cX1_makeHeight 4 = .ok (.iload_n 1, 1) := by decide +kernel
theorem dX1_makeHeight_5 : decode cX1_makeHeight 5 = .ok (.iload_n 2, 1) := by decide +kernel
theorem dX1_makeHeight_6 : decode cX1_makeHeight 6 = .ok (.invokestatic 52, 3) := by decide +kernel
theorem dX1_makeHeight_9 : decode cX1_makeHeight 9 = .ok (.return_, 1) := by decide +kernel
set_option maxRecDepth 20000 in
theorem tkX1_makeHeight : ∀ q ∈ tbX1_makeHeight, xOk (Zm false yX1_makeHeight.name) RX1 cX1_makeHeight 3 (none) pT pY q :=
  fa_c (ok_p (xg_load _ _ _) (x_aload_n dX1_makeHeight_0 rfl)) <|
  fa_c (ok_p (xg_getf _ _ _) (x_getf (C := RX1) (T := TX1) (N := 10) rfl (by decide) inX1 kw101 dX1_makeHeight_1)) <|
  fa_c (ok_p (xg_load _ _ _) (x_iload_n dX1_makeHeight_4 rfl)) <|
  fa_c (ok_p (xg_load _ _ _) (x_iload_n dX1_makeHeight_5 rfl)) <|
  fa_c (ok_c pT_120 pY_120 (x_callSN (n := 3) (host := "HullCharts") rfl (by decide +kernel) kw211 kw59 kw212 (by decide +kernel) dX1_makeHeight_6)) <|
  fa_c (ok_r ⟨rfl, dX1_makeHeight_9⟩) <|
  fa_n
theorem dX1_kindOf_0 : decode cX1_kindOf 0 = .ok (.aload_n 0, 1) := by decide +kernel
theorem dX1_kindOf_1 : decode cX1_kindOf 1 = .ok (.getfield 17, 3) := by decide +kernel
theorem dX1_kindOf_4 : decode cX1_kindOf 4 = .ok (.iload_n 1, 1) := by decide +kernel
theorem dX1_kindOf_5 : decode cX1_kindOf 5 = .ok (.invokestatic 23, 3) := by decide +kernel
theorem dX1_kindOf_8 : decode cX1_kindOf 8 = .ok (.ireturn, 1) := by decide +kernel
set_option maxRecDepth 20000 in
theorem tkX1_kindOf : ∀ q ∈ tbX1_kindOf, xOk (Zm false yX1_kindOf.name) RX1 cX1_kindOf 2 (some .int) pT pY q :=
  fa_c (ok_p (xg_load _ _ _) (x_aload_n dX1_kindOf_0 rfl)) <|
  fa_c (ok_p (xg_getf _ _ _) (x_getf (C := RX1) (T := TX1) (N := 10) rfl (by decide) inX1 kw102 dX1_kindOf_1)) <|
  fa_c (ok_p (xg_load _ _ _) (x_iload_n dX1_kindOf_4 rfl)) <|
  fa_c (ok_c pT_119 pY_119 (x_callSN (n := 2) (host := "HullCharts") rfl (by decide +kernel) kw208 kw59 kw209 (by decide +kernel) dX1_kindOf_5)) <|
  fa_c (ok_r ⟨rfl, dX1_kindOf_8⟩) <|
  fa_n
theorem dX1_shortOf_0 : decode cX1_shortOf 0 = .ok (.aload_n 0, 1) := by decide +kernel
theorem dX1_shortOf_1 : decode cX1_shortOf 1 = .ok (.getfield 20, 3) := by decide +kernel
theorem dX1_shortOf_4 : decode cX1_shortOf 4 = .ok (.iload_n 1, 1) := by decide +kernel
theorem dX1_shortOf_5 : decode cX1_shortOf 5 = .ok (.invokestatic 23, 3) := by decide +kernel
theorem dX1_shortOf_8 : decode cX1_shortOf 8 = .ok (.ireturn, 1) := by decide +kernel
set_option maxRecDepth 20000 in
theorem tkX1_shortOf : ∀ q ∈ tbX1_shortOf, xOk (Zm false yX1_shortOf.name) RX1 cX1_shortOf 2 (some .int) pT pY q :=
  fa_c (ok_p (xg_load _ _ _) (x_aload_n dX1_shortOf_0 rfl)) <|
  fa_c (ok_p (xg_getf _ _ _) (x_getf (C := RX1) (T := TX1) (N := 10) rfl (by decide) inX1 kw103 dX1_shortOf_1)) <|
  fa_c (ok_p (xg_load _ _ _) (x_iload_n dX1_shortOf_4 rfl)) <|
  fa_c (ok_c pT_119 pY_119 (x_callSN (n := 2) (host := "HullCharts") rfl (by decide +kernel) kw208 kw59 kw209 (by decide +kernel) dX1_shortOf_5)) <|
  fa_c (ok_r ⟨rfl, dX1_shortOf_8⟩) <|
  fa_n
theorem dX1_makeShort_0 : decode cX1_makeShort 0 = .ok (.aload_n 0, 1) := by decide +kernel
theorem dX1_makeShort_1 : decode cX1_makeShort 1 = .ok (.getfield 20, 3) := by decide +kernel
theorem dX1_makeShort_4 : decode cX1_makeShort 4 = .ok (.iload_n 1, 1) := by decide +kernel
theorem dX1_makeShort_5 : decode cX1_makeShort 5 = .ok (.iload_n 2, 1) := by decide +kernel
theorem dX1_makeShort_6 : decode cX1_makeShort 6 = .ok (.invokestatic 52, 3) := by decide +kernel
theorem dX1_makeShort_9 : decode cX1_makeShort 9 = .ok (.return_, 1) := by decide +kernel
set_option maxRecDepth 20000 in
theorem tkX1_makeShort : ∀ q ∈ tbX1_makeShort, xOk (Zm false yX1_makeShort.name) RX1 cX1_makeShort 3 (none) pT pY q :=
  fa_c (ok_p (xg_load _ _ _) (x_aload_n dX1_makeShort_0 rfl)) <|
  fa_c (ok_p (xg_getf _ _ _) (x_getf (C := RX1) (T := TX1) (N := 10) rfl (by decide) inX1 kw103 dX1_makeShort_1)) <|
  fa_c (ok_p (xg_load _ _ _) (x_iload_n dX1_makeShort_4 rfl)) <|
  fa_c (ok_p (xg_load _ _ _) (x_iload_n dX1_makeShort_5 rfl)) <|
  fa_c (ok_c pT_120 pY_120 (x_callSN (n := 3) (host := "HullCharts") rfl (by decide +kernel) kw211 kw59 kw212 (by decide +kernel) dX1_makeShort_6)) <|
  fa_c (ok_r ⟨rfl, dX1_makeShort_9⟩) <|
  fa_n
theorem dX1_isGone_0 : decode cX1_isGone 0 = .ok (.aload_n 0, 1) := by decide +kernel
theorem dX1_isGone_1 : decode cX1_isGone 1 = .ok (.getfield 62, 3) := by decide +kernel
theorem dX1_isGone_4 : decode cX1_isGone 4 = .ok (.iload_n 1, 1) := by decide +kernel
theorem dX1_isGone_5 : decode cX1_isGone 5 = .ok (.ishr, 1) := by decide +kernel
theorem dX1_isGone_6 : decode cX1_isGone 6 = .ok (.iconst 1, 1) := by decide +kernel
theorem dX1_isGone_7 : decode cX1_isGone 7 = .ok (.iand, 1) := by decide +kernel
theorem dX1_isGone_8 : decode cX1_isGone 8 = .ok (.ifCond .ne 7, 3) := by decide +kernel
theorem dX1_isGone_11 : decode cX1_isGone 11 = .ok (.iconst 1, 1) := by decide +kernel
theorem dX1_isGone_12 : decode cX1_isGone 12 = .ok (.goto 4, 3) := by decide +kernel
theorem dX1_isGone_15 : decode cX1_isGone 15 = .ok (.iconst 0, 1) := by decide +kernel
theorem dX1_isGone_16 : decode cX1_isGone 16 = .ok (.ireturn, 1) := by decide +kernel
set_option maxRecDepth 20000 in
theorem tkX1_isGone : ∀ q ∈ tbX1_isGone, xOk (Zm false yX1_isGone.name) RX1 cX1_isGone 2 (some .boolean) pT pY q :=
  fa_c (ok_p (xg_load _ _ _) (x_aload_n dX1_isGone_0 rfl)) <|
  fa_c (ok_p (xg_getf _ _ _) (x_getf (C := RX1) (T := TX1) (N := 10) rfl (by decide) inX1 kw107 dX1_isGone_1)) <|
  fa_c (ok_p (xg_load _ _ _) (x_iload_n dX1_isGone_4 rfl)) <|
  fa_c (ok_p (xg_st _ _) (x_ishr dX1_isGone_5)) <|
  fa_c (ok_p (xg_st _ _) (x_iconst dX1_isGone_6 rfl)) <|
  fa_c (ok_p (xg_st _ _) (x_iand dX1_isGone_7)) <|
  fa_c (ok_p (xg_if _ _ _) (x_if_ne dX1_isGone_8 (by decide))) <|
  fa_c (ok_p (xg_st _ _) (x_iconst dX1_isGone_11 rfl)) <|
  fa_c (ok_p (xg_st _ _) (x_goto dX1_isGone_12 (by decide))) <|
  fa_c (ok_p (xg_st _ _) (x_iconst dX1_isGone_15 rfl)) <|
  fa_c (ok_r ⟨rfl, dX1_isGone_16⟩) <|
  fa_n
theorem dX1_lookersLeft_0 : decode cX1_lookersLeft 0 = .ok (.aload_n 0, 1) := by decide +kernel
theorem dX1_lookersLeft_1 : decode cX1_lookersLeft 1 = .ok (.getfield 62, 3) := by decide +kernel
theorem dX1_lookersLeft_4 : decode cX1_lookersLeft 4 = .ok (.invokestatic 76, 3) := by decide +kernel
theorem dX1_lookersLeft_7 : decode cX1_lookersLeft 7 = .ok (.ireturn, 1) := by decide +kernel
set_option maxRecDepth 20000 in
theorem tkX1_lookersLeft : ∀ q ∈ tbX1_lookersLeft, xOk (Zm false yX1_lookersLeft.name) RX1 cX1_lookersLeft 1 (some .int) pT pY q :=
  fa_c (ok_p (xg_load _ _ _) (x_aload_n dX1_lookersLeft_0 rfl)) <|
  fa_c (ok_p (xg_getf _ _ _) (x_getf (C := RX1) (T := TX1) (N := 10) rfl (by decide) inX1 kw107 dX1_lookersLeft_1)) <|
  fa_c (ok_c pT_194 pY_194 (x_callS (n := 1) rfl kw349 kw350 kw66 kw351 (by decide +kernel) dX1_lookersLeft_4)) <|
  fa_c (ok_r ⟨rfl, dX1_lookersLeft_7⟩) <|
  fa_n
theorem dX1_takeOff_0 : decode cX1_takeOff 0 = .ok (.aload_n 0, 1) := by decide +kernel
theorem dX1_takeOff_1 : decode cX1_takeOff 1 = .ok (.dup, 1) := by decide +kernel
theorem dX1_takeOff_2 : decode cX1_takeOff 2 = .ok (.getfield 62, 3) := by decide +kernel
theorem dX1_takeOff_5 : decode cX1_takeOff 5 = .ok (.iconst 1, 1) := by decide +kernel
theorem dX1_takeOff_6 : decode cX1_takeOff 6 = .ok (.iload_n 1, 1) := by decide +kernel
theorem dX1_takeOff_7 : decode cX1_takeOff 7 = .ok (.ishl, 1) := by decide +kernel
theorem dX1_takeOff_8 : decode cX1_takeOff 8 = .ok (.iconst (-1), 1) := by decide +kernel
theorem dX1_takeOff_9 : decode cX1_takeOff 9 = .ok (.ixor, 1) := by decide +kernel
theorem dX1_takeOff_10 : decode cX1_takeOff 10 = .ok (.iand, 1) := by decide +kernel
theorem dX1_takeOff_11 : decode cX1_takeOff 11 = .ok (.putfield 62, 3) := by decide +kernel
theorem dX1_takeOff_14 : decode cX1_takeOff 14 = .ok (.return_, 1) := by decide +kernel
set_option maxRecDepth 20000 in
theorem tkX1_takeOff : ∀ q ∈ tbX1_takeOff, xOk (Zm false yX1_takeOff.name) RX1 cX1_takeOff 2 (none) pT pY q :=
  fa_c (ok_p (xg_load _ _ _) (x_aload_n dX1_takeOff_0 rfl)) <|
  fa_c (ok_p (xg_st _ _) (x_dup dX1_takeOff_1)) <|
  fa_c (ok_p (xg_getf _ _ _) (x_getf (C := RX1) (T := TX1) (N := 10) rfl (by decide) inX1 kw107 dX1_takeOff_2)) <|
  fa_c (ok_p (xg_st _ _) (x_iconst dX1_takeOff_5 rfl)) <|
  fa_c (ok_p (xg_load _ _ _) (x_iload_n dX1_takeOff_6 rfl)) <|
  fa_c (ok_p (xg_st _ _) (x_ishl dX1_takeOff_7)) <|
  fa_c (ok_p (xg_st _ _) (x_iconst dX1_takeOff_8 rfl)) <|
  fa_c (ok_p (xg_st _ _) (x_ixor dX1_takeOff_9)) <|
  fa_c (ok_p (xg_st _ _) (x_iand dX1_takeOff_10)) <|
  fa_c (ok_p (xg_putf _ _ _ _) (x_putfof (C := RX1) (T := TX1) (N := 10) tyX1 tyX1_ok nmX1 rfl (by decide) inX1 kw107 dX1_takeOff_11 (tyX1_ok 6 (by decide)) (fun _ _ _ _ _ _ => Or.inl rfl))) <|
  fa_c (ok_r ⟨rfl, dX1_takeOff_14⟩) <|
  fa_n
theorem dX1_bringBack_0 : decode cX1_bringBack 0 = .ok (.aload_n 0, 1) := by decide +kernel
theorem dX1_bringBack_1 : decode cX1_bringBack 1 = .ok (.dup, 1) := by decide +kernel
theorem dX1_bringBack_2 : decode cX1_bringBack 2 = .ok (.getfield 62, 3) := by decide +kernel
theorem dX1_bringBack_5 : decode cX1_bringBack 5 = .ok (.iconst 1, 1) := by decide +kernel
theorem dX1_bringBack_6 : decode cX1_bringBack 6 = .ok (.iload_n 1, 1) := by decide +kernel
theorem dX1_bringBack_7 : decode cX1_bringBack 7 = .ok (.ishl, 1) := by decide +kernel
theorem dX1_bringBack_8 : decode cX1_bringBack 8 = .ok (.ior, 1) := by decide +kernel
theorem dX1_bringBack_9 : decode cX1_bringBack 9 = .ok (.putfield 62, 3) := by decide +kernel
theorem dX1_bringBack_12 : decode cX1_bringBack 12 = .ok (.aload_n 0, 1) := by decide +kernel
theorem dX1_bringBack_13 : decode cX1_bringBack 13 = .ok (.dup, 1) := by decide +kernel
theorem dX1_bringBack_14 : decode cX1_bringBack 14 = .ok (.getfield 69, 3) := by decide +kernel
theorem dX1_bringBack_17 : decode cX1_bringBack 17 = .ok (.aload_n 0, 1) := by decide +kernel
theorem dX1_bringBack_18 : decode cX1_bringBack 18 = .ok (.aload_n 0, 1) := by decide +kernel
theorem dX1_bringBack_19 : decode cX1_bringBack 19 = .ok (.getfield 59, 3) := by decide +kernel
theorem dX1_bringBack_22 : decode cX1_bringBack 22 = .ok (.invokevirtual 65, 3) := by decide +kernel
theorem dX1_bringBack_25 : decode cX1_bringBack 25 = .ok (.lor, 1) := by decide +kernel
theorem dX1_bringBack_26 : decode cX1_bringBack 26 = .ok (.putfield 69, 3) := by decide +kernel
theorem dX1_bringBack_29 : decode cX1_bringBack 29 = .ok (.return_, 1) := by decide +kernel
set_option maxRecDepth 20000 in
theorem tkX1_bringBack : ∀ q ∈ tbX1_bringBack, xOk (Zm false yX1_bringBack.name) RX1 cX1_bringBack 2 (none) pT pY q :=
  fa_c (ok_p (xg_load _ _ _) (x_aload_n dX1_bringBack_0 rfl)) <|
  fa_c (ok_p (xg_st _ _) (x_dup dX1_bringBack_1)) <|
  fa_c (ok_p (xg_getf _ _ _) (x_getf (C := RX1) (T := TX1) (N := 10) rfl (by decide) inX1 kw107 dX1_bringBack_2)) <|
  fa_c (ok_p (xg_st _ _) (x_iconst dX1_bringBack_5 rfl)) <|
  fa_c (ok_p (xg_load _ _ _) (x_iload_n dX1_bringBack_6 rfl)) <|
  fa_c (ok_p (xg_st _ _) (x_ishl dX1_bringBack_7)) <|
  fa_c (ok_p (xg_st _ _) (x_ior dX1_bringBack_8)) <|
  fa_c (ok_p (xg_putf _ _ _ _) (x_putfof (C := RX1) (T := TX1) (N := 10) tyX1 tyX1_ok nmX1 rfl (by decide) inX1 kw107 dX1_bringBack_9 (tyX1_ok 6 (by decide)) (fun _ _ _ _ _ _ => Or.inl rfl))) <|
  fa_c (ok_p (xg_load _ _ _) (x_aload_n dX1_bringBack_12 rfl)) <|
  fa_c (ok_p (xg_st _ _) (x_dup dX1_bringBack_13)) <|
  fa_c (ok_p (xg_getf _ _ _) (x_getf (C := RX1) (T := TX1) (N := 10) rfl (by decide) inX1 kw109 dX1_bringBack_14)) <|
  fa_c (ok_p (xg_load _ _ _) (x_aload_n dX1_bringBack_17 rfl)) <|
  fa_c (ok_p (xg_load _ _ _) (x_aload_n dX1_bringBack_18 rfl)) <|
  fa_c (ok_p (xg_getf _ _ _) (x_getf (C := RX1) (T := TX1) (N := 10) rfl (by decide) inX1 kw108 dX1_bringBack_19)) <|
  fa_c (ok_c pT_28 pY_28 (x_callV (n := 1) (C := RX1) (T := TX1) (N := 10) rfl rfl kw263 kw265 kw3 kw61 kw266 (by decide +kernel) dX1_bringBack_22)) <|
  fa_c (ok_p (xg_st _ _) (x_lor dX1_bringBack_25)) <|
  fa_c (ok_p (xg_putf _ _ _ _) (x_putfof (C := RX1) (T := TX1) (N := 10) tyX1 tyX1_ok nmX1 rfl (by decide) inX1 kw109 dX1_bringBack_26 (tyX1_ok 8 (by decide)) (fun _ _ _ _ _ _ => Or.inl rfl))) <|
  fa_c (ok_r ⟨rfl, dX1_bringBack_29⟩) <|
  fa_n
theorem dX1_moveTo_0 : decode cX1_moveTo 0 = .ok (.aload_n 0, 1) := by decide +kernel
theorem dX1_moveTo_1 : decode cX1_moveTo 1 = .ok (.iload_n 1, 1) := by decide +kernel
theorem dX1_moveTo_2 : decode cX1_moveTo 2 = .ok (.putfield 59, 3) := by decide +kernel
theorem dX1_moveTo_5 : decode cX1_moveTo 5 = .ok (.aload_n 0, 1) := by decide +kernel
theorem dX1_moveTo_6 : decode cX1_moveTo 6 = .ok (.dup, 1) := by decide +kernel
theorem dX1_moveTo_7 : decode cX1_moveTo 7 = .ok (.getfield 69, 3) := by decide +kernel
theorem dX1_moveTo_10 : decode cX1_moveTo 10 = .ok (.aload_n 0, 1) := by decide +kernel
theorem dX1_moveTo_11 : decode cX1_moveTo 11 = .ok (.aload_n 0, 1) := by decide +kernel
theorem dX1_moveTo_12 : decode cX1_moveTo 12 = .ok (.getfield 59, 3) := by decide +kernel
theorem dX1_moveTo_15 : decode cX1_moveTo 15 = .ok (.invokevirtual 65, 3) := by decide +kernel
theorem dX1_moveTo_18 : decode cX1_moveTo 18 = .ok (.lor, 1) := by decide +kernel
theorem dX1_moveTo_19 : decode cX1_moveTo 19 = .ok (.putfield 69, 3) := by decide +kernel
theorem dX1_moveTo_22 : decode cX1_moveTo 22 = .ok (.aload_n 0, 1) := by decide +kernel
theorem dX1_moveTo_23 : decode cX1_moveTo 23 = .ok (.dup, 1) := by decide +kernel
theorem dX1_moveTo_24 : decode cX1_moveTo 24 = .ok (.getfield 73, 3) := by decide +kernel
theorem dX1_moveTo_27 : decode cX1_moveTo 27 = .ok (.iconst 1, 1) := by decide +kernel
theorem dX1_moveTo_28 : decode cX1_moveTo 28 = .ok (.iadd, 1) := by decide +kernel
theorem dX1_moveTo_29 : decode cX1_moveTo 29 = .ok (.putfield 73, 3) := by decide +kernel
theorem dX1_moveTo_32 : decode cX1_moveTo 32 = .ok (.return_, 1) := by decide +kernel
set_option maxRecDepth 20000 in
theorem tkX1_moveTo : ∀ q ∈ tbX1_moveTo, xOk (Zm false yX1_moveTo.name) RX1 cX1_moveTo 2 (none) pT pY q :=
  fa_c (ok_p (xg_load _ _ _) (x_aload_n dX1_moveTo_0 rfl)) <|
  fa_c (ok_p (xg_load _ _ _) (x_iload_n dX1_moveTo_1 rfl)) <|
  fa_c (ok_p (xg_putf _ _ _ _) (x_putfof (C := RX1) (T := TX1) (N := 10) tyX1 tyX1_ok nmX1 rfl (by decide) inX1 kw108 dX1_moveTo_2 (tyX1_ok 7 (by decide)) (fun _ _ _ _ _ _ => Or.inl rfl))) <|
  fa_c (ok_p (xg_load _ _ _) (x_aload_n dX1_moveTo_5 rfl)) <|
  fa_c (ok_p (xg_st _ _) (x_dup dX1_moveTo_6)) <|
  fa_c (ok_p (xg_getf _ _ _) (x_getf (C := RX1) (T := TX1) (N := 10) rfl (by decide) inX1 kw109 dX1_moveTo_7)) <|
  fa_c (ok_p (xg_load _ _ _) (x_aload_n dX1_moveTo_10 rfl)) <|
  fa_c (ok_p (xg_load _ _ _) (x_aload_n dX1_moveTo_11 rfl)) <|
  fa_c (ok_p (xg_getf _ _ _) (x_getf (C := RX1) (T := TX1) (N := 10) rfl (by decide) inX1 kw108 dX1_moveTo_12)) <|
  fa_c (ok_c pT_28 pY_28 (x_callV (n := 1) (C := RX1) (T := TX1) (N := 10) rfl rfl kw263 kw265 kw3 kw61 kw266 (by decide +kernel) dX1_moveTo_15)) <|
  fa_c (ok_p (xg_st _ _) (x_lor dX1_moveTo_18)) <|
  fa_c (ok_p (xg_putf _ _ _ _) (x_putfof (C := RX1) (T := TX1) (N := 10) tyX1 tyX1_ok nmX1 rfl (by decide) inX1 kw109 dX1_moveTo_19 (tyX1_ok 8 (by decide)) (fun _ _ _ _ _ _ => Or.inl rfl))) <|
  fa_c (ok_p (xg_load _ _ _) (x_aload_n dX1_moveTo_22 rfl)) <|
  fa_c (ok_p (xg_st _ _) (x_dup dX1_moveTo_23)) <|
  fa_c (ok_p (xg_getf _ _ _) (x_getf (C := RX1) (T := TX1) (N := 10) rfl (by decide) inX1 kw110 dX1_moveTo_24)) <|
  fa_c (ok_p (xg_st _ _) (x_iconst dX1_moveTo_27 rfl)) <|
  fa_c (ok_p (xg_st _ _) (x_iadd dX1_moveTo_28)) <|
  fa_c (ok_p (xg_putf _ _ _ _) (x_putfof (C := RX1) (T := TX1) (N := 10) tyX1 tyX1_ok nmX1 rfl (by decide) inX1 kw110 dX1_moveTo_29 (tyX1_ok 9 (by decide)) (fun _ _ _ _ _ _ => Or.inl rfl))) <|
  fa_c (ok_r ⟨rfl, dX1_moveTo_32⟩) <|
  fa_n
theorem dX1_seenFrom_0 : decode cX1_seenFrom 0 = .ok (.aload_n 0, 1) := by decide +kernel
theorem dX1_seenFrom_1 : decode cX1_seenFrom 1 = .ok (.getfield 62, 3) := by decide +kernel
theorem dX1_seenFrom_4 : decode cX1_seenFrom 4 = .ok (.i2l, 1) := by decide +kernel
theorem dX1_seenFrom_5 : decode cX1_seenFrom 5 = .ok (.iload_n 1, 1) := by decide +kernel
theorem dX1_seenFrom_6 : decode cX1_seenFrom 6 = .ok (.lshl, 1) := by decide +kernel
theorem dX1_seenFrom_7 : decode cX1_seenFrom 7 = .ok (.lreturn, 1) := by decide +kernel
set_option maxRecDepth 20000 in
theorem tkX1_seenFrom : ∀ q ∈ tbX1_seenFrom, xOk (Zm false yX1_seenFrom.name) RX1 cX1_seenFrom 2 (some .long) pT pY q :=
  fa_c (ok_p (xg_load _ _ _) (x_aload_n dX1_seenFrom_0 rfl)) <|
  fa_c (ok_p (xg_getf _ _ _) (x_getf (C := RX1) (T := TX1) (N := 10) rfl (by decide) inX1 kw107 dX1_seenFrom_1)) <|
  fa_c (ok_p (xg_st _ _) (x_i2l dX1_seenFrom_4)) <|
  fa_c (ok_p (xg_load _ _ _) (x_iload_n dX1_seenFrom_5 rfl)) <|
  fa_c (ok_p (xg_st _ _) (x_lshl dX1_seenFrom_6)) <|
  fa_c (ok_r ⟨rfl, dX1_seenFrom_7⟩) <|
  fa_n
theorem dX1_toldOf_0 : decode cX1_toldOf 0 = .ok (.aload_n 0, 1) := by decide +kernel
theorem dX1_toldOf_1 : decode cX1_toldOf 1 = .ok (.iload_n 1, 1) := by decide +kernel
theorem dX1_toldOf_2 : decode cX1_toldOf 2 = .ok (.invokevirtual 81, 3) := by decide +kernel
theorem dX1_toldOf_5 : decode cX1_toldOf 5 = .ok (.aload_n 0, 1) := by decide +kernel
theorem dX1_toldOf_6 : decode cX1_toldOf 6 = .ok (.iload_n 1, 1) := by decide +kernel
theorem dX1_toldOf_7 : decode cX1_toldOf 7 = .ok (.invokevirtual 82, 3) := by decide +kernel
theorem dX1_toldOf_10 : decode cX1_toldOf 10 = .ok (.aload_n 0, 1) := by decide +kernel
theorem dX1_toldOf_11 : decode cX1_toldOf 11 = .ok (.iload_n 2, 1) := by decide +kernel
theorem dX1_toldOf_12 : decode cX1_toldOf 12 = .ok (.invokevirtual 85, 3) := by decide +kernel
theorem dX1_toldOf_15 : decode cX1_toldOf 15 = .ok (.invokestatic 88, 3) := by decide +kernel
theorem dX1_toldOf_18 : decode cX1_toldOf 18 = .ok (.ireturn, 1) := by decide +kernel
set_option maxRecDepth 20000 in
theorem tkX1_toldOf : ∀ q ∈ tbX1_toldOf, xOk (Zm false yX1_toldOf.name) RX1 cX1_toldOf 3 (some .int) pT pY q :=
  fa_c (ok_p (xg_load _ _ _) (x_aload_n dX1_toldOf_0 rfl)) <|
  fa_c (ok_p (xg_load _ _ _) (x_iload_n dX1_toldOf_1 rfl)) <|
  fa_c (ok_c pT_20 pY_20 (x_callV (n := 1) (C := RX1) (T := TX1) (N := 10) rfl rfl kw303 kw284 kw285 kw61 kw286 (by decide +kernel) dX1_toldOf_2)) <|
  fa_c (ok_p (xg_load _ _ _) (x_aload_n dX1_toldOf_5 rfl)) <|
  fa_c (ok_p (xg_load _ _ _) (x_iload_n dX1_toldOf_6 rfl)) <|
  fa_c (ok_c pT_21 pY_21 (x_callV (n := 1) (C := RX1) (T := TX1) (N := 10) rfl rfl kw304 kw288 kw289 kw61 kw290 (by decide +kernel) dX1_toldOf_7)) <|
  fa_c (ok_p (xg_load _ _ _) (x_aload_n dX1_toldOf_10 rfl)) <|
  fa_c (ok_p (xg_load _ _ _) (x_iload_n dX1_toldOf_11 rfl)) <|
  fa_c (ok_c pT_18 pY_18 (x_callV (n := 1) (C := RX1) (T := TX1) (N := 10) rfl rfl kw305 kw306 kw307 kw61 kw308 (by decide +kernel) dX1_toldOf_12)) <|
  fa_c (ok_c pT_30 pY_30 (x_callS (n := 3) rfl kw309 kw310 kw61 kw311 (by decide +kernel) dX1_toldOf_15)) <|
  fa_c (ok_r ⟨rfl, dX1_toldOf_18⟩) <|
  fa_n
theorem dX1_told_0 : decode cX1_told 0 = .ok (.iload_n 2, 1) := by decide +kernel
theorem dX1_told_1 : decode cX1_told 1 = .ok (.iload_n 1, 1) := by decide +kernel
theorem dX1_told_2 : decode cX1_told 2 = .ok (.isub, 1) := by decide +kernel
theorem dX1_told_3 : decode cX1_told 3 = .ok (.iconst 0, 1) := by decide +kernel
theorem dX1_told_4 : decode cX1_told 4 = .ok (.invokestatic 92, 3) := by decide +kernel
theorem dX1_told_7 : decode cX1_told 7 = .ok (.istore_n 3, 1) := by decide +kernel
theorem dX1_told_8 : decode cX1_told 8 = .ok (.iload_n 0, 1) := by decide +kernel
theorem dX1_told_9 : decode cX1_told 9 = .ok (.ifCond .ne 5, 3) := by decide +kernel
theorem dX1_told_12 : decode cX1_told 12 = .ok (.iload_n 3, 1) := by decide +kernel
theorem dX1_told_13 : decode cX1_told 13 = .ok (.ireturn, 1) := by decide +kernel
theorem dX1_told_14 : decode cX1_told 14 = .ok (.iload_n 0, 1) := by decide +kernel
theorem dX1_told_15 : decode cX1_told 15 = .ok (.iconst 1, 1) := by decide +kernel
theorem dX1_told_16 : decode cX1_told 16 = .ok (.if_icmp .ne 9, 3) := by decide +kernel
theorem dX1_told_19 : decode cX1_told 19 = .ok (.iload_n 3, 1) := by decide +kernel
theorem dX1_told_20 : decode cX1_told 20 = .ok (.iconst 1, 1) := by decide +kernel
theorem dX1_told_21 : decode cX1_told 21 = .ok (.iadd, 1) := by decide +kernel
theorem dX1_told_22 : decode cX1_told 22 = .ok (.goto 8, 3) := by decide +kernel
theorem dX1_told_25 : decode cX1_told 25 = .ok (.iconst 2, 1) := by decide +kernel
theorem dX1_told_26 : decode cX1_told 26 = .ok (.iload_n 3, 1) := by decide +kernel
theorem dX1_told_27 : decode cX1_told 27 = .ok (.iconst 1, 1) := by decide +kernel
theorem dX1_told_28 : decode cX1_told 28 = .ok (.iadd, 1) := by decide +kernel
theorem dX1_told_29 : decode cX1_told 29 = .ok (.imul, 1) := by decide +kernel
theorem dX1_told_30 : decode cX1_told 30 = .ok (.ireturn, 1) := by decide +kernel
set_option maxRecDepth 20000 in
theorem tkX1_told : ∀ q ∈ tbX1_told, xOk (Zm true yX1_told.name) RX1 cX1_told 4 (some .int) pT pY q :=
  fa_c (ok_p (xg_load _ _ _) (x_iload_n dX1_told_0 rfl)) <|
  fa_c (ok_p (xg_load _ _ _) (x_iload_n dX1_told_1 rfl)) <|
  fa_c (ok_p (xg_st _ _) (x_isub dX1_told_2)) <|
  fa_c (ok_p (xg_st _ _) (x_iconst dX1_told_3 rfl)) <|
  fa_c (ok_p (xg_st _ _) (x_mmax (fun _ _ _ _ _ h => h.2 rfl) kw312 kw313 kw65 kw314 dX1_told_4)) <|
  fa_c (ok_p (xg_store _ _ _) (x_istore_n dX1_told_7 rfl)) <|
  fa_c (ok_p (xg_load _ _ _) (x_iload_n dX1_told_8 rfl)) <|
  fa_c (ok_p (xg_if _ _ _) (x_if_ne dX1_told_9 (by decide))) <|
  fa_c (ok_p (xg_load _ _ _) (x_iload_n dX1_told_12 rfl)) <|
  fa_c (ok_r ⟨rfl, dX1_told_13⟩) <|
  fa_c (ok_p (xg_load _ _ _) (x_iload_n dX1_told_14 rfl)) <|
  fa_c (ok_p (xg_st _ _) (x_iconst dX1_told_15 rfl)) <|
  fa_c (ok_p (xg_icmp _ _ _) (x_icmp_ne dX1_told_16 (by decide))) <|
  fa_c (ok_p (xg_load _ _ _) (x_iload_n dX1_told_19 rfl)) <|
  fa_c (ok_p (xg_st _ _) (x_iconst dX1_told_20 rfl)) <|
  fa_c (ok_p (xg_st _ _) (x_iadd dX1_told_21)) <|
  fa_c (ok_p (xg_st _ _) (x_goto dX1_told_22 (by decide))) <|
  fa_c (ok_p (xg_st _ _) (x_iconst dX1_told_25 rfl)) <|
  fa_c (ok_p (xg_load _ _ _) (x_iload_n dX1_told_26 rfl)) <|
  fa_c (ok_p (xg_st _ _) (x_iconst dX1_told_27 rfl)) <|
  fa_c (ok_p (xg_st _ _) (x_iadd dX1_told_28)) <|
  fa_c (ok_p (xg_st _ _) (x_imul dX1_told_29)) <|
  fa_c (ok_r ⟨rfl, dX1_told_30⟩) <|
  fa_n
theorem dX1_columnOf_0 : decode cX1_columnOf 0 = .ok (.aload_n 0, 1) := by decide +kernel
theorem dX1_columnOf_1 : decode cX1_columnOf 1 = .ok (.getfield 31, 3) := by decide +kernel
theorem dX1_columnOf_4 : decode cX1_columnOf 4 = .ok (.ifCond .le 12, 3) := by decide +kernel
theorem dX1_columnOf_7 : decode cX1_columnOf 7 = .ok (.iload_n 1, 1) := by decide +kernel
theorem dX1_columnOf_8 : decode cX1_columnOf 8 = .ok (.aload_n 0, 1) := by decide +kernel
theorem dX1_columnOf_9 : decode cX1_columnOf 9 = .ok (.getfield 31, 3) := by decide +kernel
theorem dX1_columnOf_12 : decode cX1_columnOf 12 = .ok (.irem, 1) := by decide +kernel
theorem dX1_columnOf_13 : decode cX1_columnOf 13 = .ok (.goto 4, 3) := by decide +kernel
theorem dX1_columnOf_16 : decode cX1_columnOf 16 = .ok (.iconst 0, 1) := by decide +kernel
theorem dX1_columnOf_17 : decode cX1_columnOf 17 = .ok (.ireturn, 1) := by decide +kernel
set_option maxRecDepth 20000 in
theorem tkX1_columnOf : ∀ q ∈ tbX1_columnOf, xOk (Zm false yX1_columnOf.name) RX1 cX1_columnOf 2 (some .int) pT pY q :=
  fa_c (ok_p (xg_load _ _ _) (x_aload_n dX1_columnOf_0 rfl)) <|
  fa_c (ok_p (xg_getf _ _ _) (x_getf (C := RX1) (T := TX1) (N := 10) rfl (by decide) inX1 kw104 dX1_columnOf_1)) <|
  fa_c (ok_p (xg_if _ _ _) (x_if_le dX1_columnOf_4 (by decide))) <|
  fa_c (ok_p (xg_load _ _ _) (x_iload_n dX1_columnOf_7 rfl)) <|
  fa_c (ok_p (xg_load _ _ _) (x_aload_n dX1_columnOf_8 rfl)) <|
  fa_c (ok_p (xg_getf _ _ _) (x_getf (C := RX1) (T := TX1) (N := 10) rfl (by decide) inX1 kw104 dX1_columnOf_9)) <|
  fa_c (ok_p (xg_st _ _) (x_irem dX1_columnOf_12)) <|
  fa_c (ok_p (xg_st _ _) (x_goto dX1_columnOf_13 (by decide))) <|
  fa_c (ok_p (xg_st _ _) (x_iconst dX1_columnOf_16 rfl)) <|
  fa_c (ok_r ⟨rfl, dX1_columnOf_17⟩) <|
  fa_n
theorem dX1_rowOf_0 : decode cX1_rowOf 0 = .ok (.aload_n 0, 1) := by decide +kernel
theorem dX1_rowOf_1 : decode cX1_rowOf 1 = .ok (.getfield 31, 3) := by decide +kernel
theorem dX1_rowOf_4 : decode cX1_rowOf 4 = .ok (.ifCond .le 12, 3) := by decide +kernel
theorem dX1_rowOf_7 : decode cX1_rowOf 7 = .ok (.iload_n 1, 1) := by decide +kernel
theorem dX1_rowOf_8 : decode cX1_rowOf 8 = .ok (.aload_n 0, 1) := by decide +kernel
theorem dX1_rowOf_9 : decode cX1_rowOf 9 = .ok (.getfield 31, 3) := by decide +kernel
theorem dX1_rowOf_12 : decode cX1_rowOf 12 = .ok (.idiv, 1) := by decide +kernel
theorem dX1_rowOf_13 : decode cX1_rowOf 13 = .ok (.goto 4, 3) := by decide +kernel
theorem dX1_rowOf_16 : decode cX1_rowOf 16 = .ok (.iconst 0, 1) := by decide +kernel
theorem dX1_rowOf_17 : decode cX1_rowOf 17 = .ok (.ireturn, 1) := by decide +kernel
set_option maxRecDepth 20000 in
theorem tkX1_rowOf : ∀ q ∈ tbX1_rowOf, xOk (Zm false yX1_rowOf.name) RX1 cX1_rowOf 2 (some .int) pT pY q :=
  fa_c (ok_p (xg_load _ _ _) (x_aload_n dX1_rowOf_0 rfl)) <|
  fa_c (ok_p (xg_getf _ _ _) (x_getf (C := RX1) (T := TX1) (N := 10) rfl (by decide) inX1 kw104 dX1_rowOf_1)) <|
  fa_c (ok_p (xg_if _ _ _) (x_if_le dX1_rowOf_4 (by decide))) <|
  fa_c (ok_p (xg_load _ _ _) (x_iload_n dX1_rowOf_7 rfl)) <|
  fa_c (ok_p (xg_load _ _ _) (x_aload_n dX1_rowOf_8 rfl)) <|
  fa_c (ok_p (xg_getf _ _ _) (x_getf (C := RX1) (T := TX1) (N := 10) rfl (by decide) inX1 kw104 dX1_rowOf_9)) <|
  fa_c (ok_p (xg_st _ _) (x_idiv dX1_rowOf_12)) <|
  fa_c (ok_p (xg_st _ _) (x_goto dX1_rowOf_13 (by decide))) <|
  fa_c (ok_p (xg_st _ _) (x_iconst dX1_rowOf_16 rfl)) <|
  fa_c (ok_r ⟨rfl, dX1_rowOf_17⟩) <|
  fa_n
theorem dX1_isPlace_0 : decode cX1_isPlace 0 = .ok (.aload_n 0, 1) := by decide +kernel
theorem dX1_isPlace_1 : decode cX1_isPlace 1 = .ok (.iload_n 1, 1) := by decide +kernel
theorem dX1_isPlace_2 : decode cX1_isPlace 2 = .ok (.invokevirtual 98, 3) := by decide +kernel
theorem dX1_isPlace_5 : decode cX1_isPlace 5 = .ok (.ifCond .eq 24, 3) := by decide +kernel
theorem dX1_isPlace_8 : decode cX1_isPlace 8 = .ok (.aload_n 0, 1) := by decide +kernel
theorem dX1_isPlace_9 : decode cX1_isPlace 9 = .ok (.iload_n 1, 1) := by decide +kernel
theorem dX1_isPlace_10 : decode cX1_isPlace 10 = .ok (.invokevirtual 102, 3) := by decide +kernel
theorem dX1_isPlace_13 : decode cX1_isPlace 13 = .ok (.aload_n 0, 1) := by decide +kernel
theorem dX1_isPlace_14 : decode cX1_isPlace 14 = .ok (.getfield 46, 3) := by decide +kernel
theorem dX1_isPlace_17 : decode cX1_isPlace 17 = .ok (.iadd, 1) := by decide +kernel
theorem dX1_isPlace_18 : decode cX1_isPlace 18 = .ok (.aload_n 0, 1) := by decide +kernel
theorem dX1_isPlace_19 : decode cX1_isPlace 19 = .ok (.getfield 31, 3) := by decide +kernel
theorem dX1_isPlace_22 : decode cX1_isPlace 22 = .ok (.if_icmp .gt 7, 3) := by decide +kernel
theorem dX1_isPlace_25 : decode cX1_isPlace 25 = .ok (.iconst 1, 1) := by decide +kernel
theorem dX1_isPlace_26 : decode cX1_isPlace 26 = .ok (.goto 4, 3) := by decide +kernel
theorem dX1_isPlace_29 : decode cX1_isPlace 29 = .ok (.iconst 0, 1) := by decide +kernel
theorem dX1_isPlace_30 : decode cX1_isPlace 30 = .ok (.ireturn, 1) := by decide +kernel
set_option maxRecDepth 20000 in
theorem tkX1_isPlace : ∀ q ∈ tbX1_isPlace, xOk (Zm false yX1_isPlace.name) RX1 cX1_isPlace 2 (some .boolean) pT pY q :=
  fa_c (ok_p (xg_load _ _ _) (x_aload_n dX1_isPlace_0 rfl)) <|
  fa_c (ok_p (xg_load _ _ _) (x_iload_n dX1_isPlace_1 rfl)) <|
  fa_c (ok_c pT_16 pY_16 (x_callV (n := 1) (C := RX1) (T := TX1) (N := 10) rfl rfl kw493 kw320 kw321 kw61 kw322 (by decide +kernel) dX1_isPlace_2)) <|
  fa_c (ok_p (xg_if _ _ _) (x_if_eq dX1_isPlace_5 (by decide))) <|
  fa_c (ok_p (xg_load _ _ _) (x_aload_n dX1_isPlace_8 rfl)) <|
  fa_c (ok_p (xg_load _ _ _) (x_iload_n dX1_isPlace_9 rfl)) <|
  fa_c (ok_c pT_31 pY_31 (x_callV (n := 1) (C := RX1) (T := TX1) (N := 10) rfl rfl kw391 kw393 kw5 kw61 kw394 (by decide +kernel) dX1_isPlace_10)) <|
  fa_c (ok_p (xg_load _ _ _) (x_aload_n dX1_isPlace_13 rfl)) <|
  fa_c (ok_p (xg_getf _ _ _) (x_getf (C := RX1) (T := TX1) (N := 10) rfl (by decide) inX1 kw106 dX1_isPlace_14)) <|
  fa_c (ok_p (xg_st _ _) (x_iadd dX1_isPlace_17)) <|
  fa_c (ok_p (xg_load _ _ _) (x_aload_n dX1_isPlace_18 rfl)) <|
  fa_c (ok_p (xg_getf _ _ _) (x_getf (C := RX1) (T := TX1) (N := 10) rfl (by decide) inX1 kw104 dX1_isPlace_19)) <|
  fa_c (ok_p (xg_icmp _ _ _) (x_icmp_gt dX1_isPlace_22 (by decide))) <|
  fa_c (ok_p (xg_st _ _) (x_iconst dX1_isPlace_25 rfl)) <|
  fa_c (ok_p (xg_st _ _) (x_goto dX1_isPlace_26 (by decide))) <|
  fa_c (ok_p (xg_st _ _) (x_iconst dX1_isPlace_29 rfl)) <|
  fa_c (ok_r ⟨rfl, dX1_isPlace_30⟩) <|
  fa_n
theorem dX1_nextPlace_0 : decode cX1_nextPlace 0 = .ok (.iload_n 2, 1) := by decide +kernel
theorem dX1_nextPlace_1 : decode cX1_nextPlace 1 = .ok (.tableswitch 120 0 3 #[31, 51, 77, 103], 31) := by decide +kernel
theorem dX1_nextPlace_32 : decode cX1_nextPlace 32 = .ok (.aload_n 0, 1) := by decide +kernel
theorem dX1_nextPlace_33 : decode cX1_nextPlace 33 = .ok (.iload_n 1, 1) := by decide +kernel
theorem dX1_nextPlace_34 : decode cX1_nextPlace 34 = .ok (.invokevirtual 105, 3) := by decide +kernel
theorem dX1_nextPlace_37 : decode cX1_nextPlace 37 = .ok (.ifCond .le 12, 3) := by decide +kernel
theorem dX1_nextPlace_40 : decode cX1_nextPlace 40 = .ok (.iload_n 1, 1) := by decide +kernel
theorem dX1_nextPlace_41 : decode cX1_nextPlace 41 = .ok (.aload_n 0, 1) := by decide +kernel
theorem dX1_nextPlace_42 : decode cX1_nextPlace 42 = .ok (.getfield 31, 3) := by decide +kernel
theorem dX1_nextPlace_45 : decode cX1_nextPlace 45 = .ok (.isub, 1) := by decide +kernel
theorem dX1_nextPlace_46 : decode cX1_nextPlace 46 = .ok (.goto 5, 3) := by decide +kernel
theorem dX1_nextPlace_49 : decode cX1_nextPlace 49 = .ok (.bipush (-9), 2) := by decide +kernel
theorem dX1_nextPlace_51 : decode cX1_nextPlace 51 = .ok (.ireturn, 1) := by decide +kernel
theorem dX1_nextPlace_52 : decode cX1_nextPlace 52 = .ok (.aload_n 0, 1) := by decide +kernel
theorem dX1_nextPlace_53 : decode cX1_nextPlace 53 = .ok (.iload_n 1, 1) := by decide +kernel
theorem dX1_nextPlace_54 : decode cX1_nextPlace 54 = .ok (.invokevirtual 102, 3) := by decide +kernel
theorem dX1_nextPlace_57 : decode cX1_nextPlace 57 = .ok (.aload_n 0, 1) := by decide +kernel
theorem dX1_nextPlace_58 : decode cX1_nextPlace 58 = .ok (.getfield 46, 3) := by decide +kernel
theorem dX1_nextPlace_61 : decode cX1_nextPlace 61 = .ok (.iadd, 1) := by decide +kernel
theorem dX1_nextPlace_62 : decode cX1_nextPlace 62 = .ok (.aload_n 0, 1) := by decide +kernel
theorem dX1_nextPlace_63 : decode cX1_nextPlace 63 = .ok (.getfield 31, 3) := by decide +kernel
theorem dX1_nextPlace_66 : decode cX1_nextPlace 66 = .ok (.if_icmp .ge 9, 3) := by decide +kernel
theorem dX1_nextPlace_69 : decode cX1_nextPlace 69 = .ok (.iload_n 1, 1) := by decide +kernel
theorem dX1_nextPlace_70 : decode cX1_nextPlace 70 = .ok (.iconst 1, 1) := by decide +kernel
theorem dX1_nextPlace_71 : decode cX1_nextPlace 71 = .ok (.iadd, 1) := by decide +kernel
theorem dX1_nextPlace_72 : decode cX1_nextPlace 72 = .ok (.goto 5, 3) := by decide +kernel
theorem dX1_nextPlace_75 : decode cX1_nextPlace 75 = .ok (.bipush (-9), 2) := by decide +kernel
theorem dX1_nextPlace_77 : decode cX1_nextPlace 77 = .ok (.ireturn, 1) := by decide +kernel
theorem dX1_nextPlace_78 : decode cX1_nextPlace 78 = .ok (.aload_n 0, 1) := by decide +kernel
theorem dX1_nextPlace_79 : decode cX1_nextPlace 79 = .ok (.iload_n 1, 1) := by decide +kernel
theorem dX1_nextPlace_80 : decode cX1_nextPlace 80 = .ok (.invokevirtual 105, 3) := by decide +kernel
theorem dX1_nextPlace_83 : decode cX1_nextPlace 83 = .ok (.iconst 1, 1) := by decide +kernel
theorem dX1_nextPlace_84 : decode cX1_nextPlace 84 = .ok (.iadd, 1) := by decide +kernel
theorem dX1_nextPlace_85 : decode cX1_nextPlace 85 = .ok (.aload_n 0, 1) := by decide +kernel
theorem dX1_nextPlace_86 : decode cX1_nextPlace 86 = .ok (.getfield 35, 3) := by decide +kernel
theorem dX1_nextPlace_89 : decode cX1_nextPlace 89 = .ok (.if_icmp .ge 12, 3) := by decide +kernel
theorem dX1_nextPlace_92 : decode cX1_nextPlace 92 = .ok (.iload_n 1, 1) := by decide +kernel
theorem dX1_nextPlace_93 : decode cX1_nextPlace 93 = .ok (.aload_n 0, 1) := by decide +kernel
theorem dX1_nextPlace_94 : decode cX1_nextPlace 94 = .ok (.getfield 31, 3) := by decide +kernel
theorem dX1_nextPlace_97 : decode cX1_nextPlace 97 = .ok (.iadd, 1) := by decide +kernel
theorem dX1_nextPlace_98 : decode cX1_nextPlace 98 = .ok (.goto 5, 3) := by decide +kernel
theorem dX1_nextPlace_101 : decode cX1_nextPlace 101 = .ok (.bipush (-9), 2) := by decide +kernel
theorem dX1_nextPlace_103 : decode cX1_nextPlace 103 = .ok (.ireturn, 1) := by decide +kernel
theorem dX1_nextPlace_104 : decode cX1_nextPlace 104 = .ok (.aload_n 0, 1) := by decide +kernel
theorem dX1_nextPlace_105 : decode cX1_nextPlace 105 = .ok (.iload_n 1, 1) := by decide +kernel
theorem dX1_nextPlace_106 : decode cX1_nextPlace 106 = .ok (.invokevirtual 102, 3) := by decide +kernel
theorem dX1_nextPlace_109 : decode cX1_nextPlace 109 = .ok (.ifCond .le 9, 3) := by decide +kernel
theorem dX1_nextPlace_112 : decode cX1_nextPlace 112 = .ok (.iload_n 1, 1) := by decide +kernel
theorem dX1_nextPlace_113 : decode cX1_nextPlace 113 = .ok (.iconst 1, 1) := by decide +kernel
theorem dX1_nextPlace_114 : decode cX1_nextPlace 114 = .ok (.isub, 1) := by decide +kernel
theorem dX1_nextPlace_115 : decode cX1_nextPlace 115 = .ok (.goto 5, 3) := by decide +kernel
theorem dX1_nextPlace_118 : decode cX1_nextPlace 118 = .ok (.bipush (-9), 2) := by decide +kernel
theorem dX1_nextPlace_120 : decode cX1_nextPlace 120 = .ok (.ireturn, 1) := by decide +kernel
theorem dX1_nextPlace_121 : decode cX1_nextPlace 121 = .ok (.bipush (-9), 2) := by decide +kernel
theorem dX1_nextPlace_123 : decode cX1_nextPlace 123 = .ok (.ireturn, 1) := by decide +kernel
set_option maxRecDepth 20000 in
theorem tkX1_nextPlace : ∀ q ∈ tbX1_nextPlace, xOk (Zm false yX1_nextPlace.name) RX1 cX1_nextPlace 3 (some .int) pT pY q :=
  fa_c (ok_p (xg_load _ _ _) (x_iload_n dX1_nextPlace_0 rfl)) <|
  fa_c (ok_p (xg_sw _ _) (x_tsw dX1_nextPlace_1 (by decide) (by decide +kernel) (by decide +kernel))) <|
  fa_c (ok_p (xg_load _ _ _) (x_aload_n dX1_nextPlace_32 rfl)) <|
  fa_c (ok_p (xg_load _ _ _) (x_iload_n dX1_nextPlace_33 rfl)) <|
  fa_c (ok_c pT_32 pY_32 (x_callV (n := 1) (C := RX1) (T := TX1) (N := 10) rfl rfl kw387 kw389 kw4 kw61 kw390 (by decide +kernel) dX1_nextPlace_34)) <|
  fa_c (ok_p (xg_if _ _ _) (x_if_le dX1_nextPlace_37 (by decide))) <|
  fa_c (ok_p (xg_load _ _ _) (x_iload_n dX1_nextPlace_40 rfl)) <|
  fa_c (ok_p (xg_load _ _ _) (x_aload_n dX1_nextPlace_41 rfl)) <|
  fa_c (ok_p (xg_getf _ _ _) (x_getf (C := RX1) (T := TX1) (N := 10) rfl (by decide) inX1 kw104 dX1_nextPlace_42)) <|
  fa_c (ok_p (xg_st _ _) (x_isub dX1_nextPlace_45)) <|
  fa_c (ok_p (xg_st _ _) (x_goto dX1_nextPlace_46 (by decide))) <|
  fa_c (ok_p (xg_st _ _) (x_bipush dX1_nextPlace_49 rfl)) <|
  fa_c (ok_r ⟨rfl, dX1_nextPlace_51⟩) <|
  fa_c (ok_p (xg_load _ _ _) (x_aload_n dX1_nextPlace_52 rfl)) <|
  fa_c (ok_p (xg_load _ _ _) (x_iload_n dX1_nextPlace_53 rfl)) <|
  fa_c (ok_c pT_31 pY_31 (x_callV (n := 1) (C := RX1) (T := TX1) (N := 10) rfl rfl kw391 kw393 kw5 kw61 kw394 (by decide +kernel) dX1_nextPlace_54)) <|
  fa_c (ok_p (xg_load _ _ _) (x_aload_n dX1_nextPlace_57 rfl)) <|
  fa_c (ok_p (xg_getf _ _ _) (x_getf (C := RX1) (T := TX1) (N := 10) rfl (by decide) inX1 kw106 dX1_nextPlace_58)) <|
  fa_c (ok_p (xg_st _ _) (x_iadd dX1_nextPlace_61)) <|
  fa_c (ok_p (xg_load _ _ _) (x_aload_n dX1_nextPlace_62 rfl)) <|
  fa_c (ok_p (xg_getf _ _ _) (x_getf (C := RX1) (T := TX1) (N := 10) rfl (by decide) inX1 kw104 dX1_nextPlace_63)) <|
  fa_c (ok_p (xg_icmp _ _ _) (x_icmp_ge dX1_nextPlace_66 (by decide))) <|
  fa_c (ok_p (xg_load _ _ _) (x_iload_n dX1_nextPlace_69 rfl)) <|
  fa_c (ok_p (xg_st _ _) (x_iconst dX1_nextPlace_70 rfl)) <|
  fa_c (ok_p (xg_st _ _) (x_iadd dX1_nextPlace_71)) <|
  fa_c (ok_p (xg_st _ _) (x_goto dX1_nextPlace_72 (by decide))) <|
  fa_c (ok_p (xg_st _ _) (x_bipush dX1_nextPlace_75 rfl)) <|
  fa_c (ok_r ⟨rfl, dX1_nextPlace_77⟩) <|
  fa_c (ok_p (xg_load _ _ _) (x_aload_n dX1_nextPlace_78 rfl)) <|
  fa_c (ok_p (xg_load _ _ _) (x_iload_n dX1_nextPlace_79 rfl)) <|
  fa_c (ok_c pT_32 pY_32 (x_callV (n := 1) (C := RX1) (T := TX1) (N := 10) rfl rfl kw387 kw389 kw4 kw61 kw390 (by decide +kernel) dX1_nextPlace_80)) <|
  fa_c (ok_p (xg_st _ _) (x_iconst dX1_nextPlace_83 rfl)) <|
  fa_c (ok_p (xg_st _ _) (x_iadd dX1_nextPlace_84)) <|
  fa_c (ok_p (xg_load _ _ _) (x_aload_n dX1_nextPlace_85 rfl)) <|
  fa_c (ok_p (xg_getf _ _ _) (x_getf (C := RX1) (T := TX1) (N := 10) rfl (by decide) inX1 kw105 dX1_nextPlace_86)) <|
  fa_c (ok_p (xg_icmp _ _ _) (x_icmp_ge dX1_nextPlace_89 (by decide))) <|
  fa_c (ok_p (xg_load _ _ _) (x_iload_n dX1_nextPlace_92 rfl)) <|
  fa_c (ok_p (xg_load _ _ _) (x_aload_n dX1_nextPlace_93 rfl)) <|
  fa_c (ok_p (xg_getf _ _ _) (x_getf (C := RX1) (T := TX1) (N := 10) rfl (by decide) inX1 kw104 dX1_nextPlace_94)) <|
  fa_c (ok_p (xg_st _ _) (x_iadd dX1_nextPlace_97)) <|
  fa_c (ok_p (xg_st _ _) (x_goto dX1_nextPlace_98 (by decide))) <|
  fa_c (ok_p (xg_st _ _) (x_bipush dX1_nextPlace_101 rfl)) <|
  fa_c (ok_r ⟨rfl, dX1_nextPlace_103⟩) <|
  fa_c (ok_p (xg_load _ _ _) (x_aload_n dX1_nextPlace_104 rfl)) <|
  fa_c (ok_p (xg_load _ _ _) (x_iload_n dX1_nextPlace_105 rfl)) <|
  fa_c (ok_c pT_31 pY_31 (x_callV (n := 1) (C := RX1) (T := TX1) (N := 10) rfl rfl kw391 kw393 kw5 kw61 kw394 (by decide +kernel) dX1_nextPlace_106)) <|
  fa_c (ok_p (xg_if _ _ _) (x_if_le dX1_nextPlace_109 (by decide))) <|
  fa_c (ok_p (xg_load _ _ _) (x_iload_n dX1_nextPlace_112 rfl)) <|
  fa_c (ok_p (xg_st _ _) (x_iconst dX1_nextPlace_113 rfl)) <|
  fa_c (ok_p (xg_st _ _) (x_isub dX1_nextPlace_114)) <|
  fa_c (ok_p (xg_st _ _) (x_goto dX1_nextPlace_115 (by decide))) <|
  fa_c (ok_p (xg_st _ _) (x_bipush dX1_nextPlace_118 rfl)) <|
  fa_c (ok_r ⟨rfl, dX1_nextPlace_120⟩) <|
  fa_c (ok_p (xg_st _ _) (x_bipush dX1_nextPlace_121 rfl)) <|
  fa_c (ok_r ⟨rfl, dX1_nextPlace_123⟩) <|
  fa_n
theorem dX1_ofVoyage_0 : decode cX1_ofVoyage 0 = .ok (.aload_n 0, 1) := by decide +kernel
theorem dX1_ofVoyage_1 : decode cX1_ofVoyage 1 = .ok (.getfield 59, 3) := by decide +kernel
theorem dX1_ofVoyage_4 : decode cX1_ofVoyage 4 = .ok (.istore 4, 2) := by decide +kernel
theorem dX1_ofVoyage_6 : decode cX1_ofVoyage 6 = .ok (.lconst 0, 1) := by decide +kernel
theorem dX1_ofVoyage_7 : decode cX1_ofVoyage 7 = .ok (.lstore 5, 2) := by decide +kernel
theorem dX1_ofVoyage_9 : decode cX1_ofVoyage 9 = .ok (.iconst 0, 1) := by decide +kernel
theorem dX1_ofVoyage_10 : decode cX1_ofVoyage 10 = .ok (.istore 7, 2) := by decide +kernel
theorem dX1_ofVoyage_12 : decode cX1_ofVoyage 12 = .ok (.bipush (-9), 2) := by decide +kernel
theorem dX1_ofVoyage_14 : decode cX1_ofVoyage 14 = .ok (.istore 8, 2) := by decide +kernel
theorem dX1_ofVoyage_16 : decode cX1_ofVoyage 16 = .ok (.iconst 0, 1) := by decide +kernel
theorem dX1_ofVoyage_17 : decode cX1_ofVoyage 17 = .ok (.istore 9, 2) := by decide +kernel
theorem dX1_ofVoyage_19 : decode cX1_ofVoyage 19 = .ok (.iload 9, 2) := by decide +kernel
theorem dX1_ofVoyage_21 : decode cX1_ofVoyage 21 = .ok (.iload_n 2, 1) := by decide +kernel
theorem dX1_ofVoyage_22 : decode cX1_ofVoyage 22 = .ok (.if_icmp .ge 81, 3) := by decide +kernel
theorem dX1_ofVoyage_25 : decode cX1_ofVoyage 25 = .ok (.aload_n 0, 1) := by decide +kernel
theorem dX1_ofVoyage_26 : decode cX1_ofVoyage 26 = .ok (.iload 4, 2) := by decide +kernel
theorem dX1_ofVoyage_28 : decode cX1_ofVoyage 28 = .ok (.aload_n 1, 1) := by decide +kernel
theorem dX1_ofVoyage_29 : decode cX1_ofVoyage 29 = .ok (.iload 9, 2) := by decide +kernel
theorem dX1_ofVoyage_31 : decode cX1_ofVoyage 31 = .ok (.invokestatic 23, 3) := by decide +kernel
theorem dX1_ofVoyage_34 : decode cX1_ofVoyage 34 = .ok (.invokevirtual 108, 3) := by decide +kernel
theorem dX1_ofVoyage_37 : decode cX1_ofVoyage 37 = .ok (.istore 4, 2) := by decide +kernel
theorem dX1_ofVoyage_39 : decode cX1_ofVoyage 39 = .ok (.iload 4, 2) := by decide +kernel
theorem dX1_ofVoyage_41 : decode cX1_ofVoyage 41 = .ok (.bipush (-9), 2) := by decide +kernel
theorem dX1_ofVoyage_43 : decode cX1_ofVoyage 43 = .ok (.if_icmp .ne 19, 3) := by decide +kernel
theorem dX1_ofVoyage_46 : decode cX1_ofVoyage 46 = .ok (.iload_n 3, 1) := by decide +kernel
theorem dX1_ofVoyage_47 : decode cX1_ofVoyage 47 = .ok (.iconst 1, 1) := by decide +kernel
theorem dX1_ofVoyage_48 : decode cX1_ofVoyage 48 = .ok (.if_icmp .ne 8, 3) := by decide +kernel
theorem dX1_ofVoyage_51 : decode cX1_ofVoyage 51 = .ok (.iload 9, 2) := by decide +kernel
theorem dX1_ofVoyage_53 : decode cX1_ofVoyage 53 = .ok (.goto 8, 3) := by decide +kernel
theorem dX1_ofVoyage_56 : decode cX1_ofVoyage 56 = .ok (.bipush (-100), 2) := by decide +kernel
theorem dX1_ofVoyage_58 : decode cX1_ofVoyage 58 = .ok (.iload 9, 2) := by decide +kernel
theorem dX1_ofVoyage_60 : decode cX1_ofVoyage 60 = .ok (.isub, 1) := by decide +kernel
theorem dX1_ofVoyage_61 : decode cX1_ofVoyage 61 = .ok (.ireturn, 1) := by decide +kernel
theorem dX1_ofVoyage_62 : decode cX1_ofVoyage 62 = .ok (.lload 5, 2) := by decide +kernel
theorem dX1_ofVoyage_64 : decode cX1_ofVoyage 64 = .ok (.aload_n 0, 1) := by decide +kernel
theorem dX1_ofVoyage_65 : decode cX1_ofVoyage 65 = .ok (.iload 4, 2) := by decide +kernel
theorem dX1_ofVoyage_67 : decode cX1_ofVoyage 67 = .ok (.invokevirtual 65, 3) := by decide +kernel
theorem dX1_ofVoyage_70 : decode cX1_ofVoyage 70 = .ok (.lor, 1) := by decide +kernel
theorem dX1_ofVoyage_71 : decode cX1_ofVoyage 71 = .ok (.lstore 5, 2) := by decide +kernel
theorem dX1_ofVoyage_73 : decode cX1_ofVoyage 73 = .ok (.iload 7, 2) := by decide +kernel
theorem dX1_ofVoyage_75 : decode cX1_ofVoyage 75 = .ok (.aload_n 0, 1) := by decide +kernel
theorem dX1_ofVoyage_76 : decode cX1_ofVoyage 76 = .ok (.iload 4, 2) := by decide +kernel
theorem dX1_ofVoyage_78 : decode cX1_ofVoyage 78 = .ok (.invokevirtual 111, 3) := by decide +kernel
theorem dX1_ofVoyage_81 : decode cX1_ofVoyage 81 = .ok (.iadd, 1) := by decide +kernel
theorem dX1_ofVoyage_82 : decode cX1_ofVoyage 82 = .ok (.istore 7, 2) := by decide +kernel
theorem dX1_ofVoyage_84 : decode cX1_ofVoyage 84 = .ok (.iload 8, 2) := by decide +kernel
theorem dX1_ofVoyage_86 : decode cX1_ofVoyage 86 = .ok (.aload_n 0, 1) := by decide +kernel
theorem dX1_ofVoyage_87 : decode cX1_ofVoyage 87 = .ok (.iload 4, 2) := by decide +kernel
theorem dX1_ofVoyage_89 : decode cX1_ofVoyage 89 = .ok (.invokevirtual 114, 3) := by decide +kernel
theorem dX1_ofVoyage_92 : decode cX1_ofVoyage 92 = .ok (.invokestatic 92, 3) := by decide +kernel
theorem dX1_ofVoyage_95 : decode cX1_ofVoyage 95 = .ok (.istore 8, 2) := by decide +kernel
theorem dX1_ofVoyage_97 : decode cX1_ofVoyage 97 = .ok (.iinc 9 1, 3) := by decide +kernel
theorem dX1_ofVoyage_100 : decode cX1_ofVoyage 100 = .ok (.goto (-81), 3) := by decide +kernel
theorem dX1_ofVoyage_103 : decode cX1_ofVoyage 103 = .ok (.iload_n 3, 1) := by decide +kernel
theorem dX1_ofVoyage_104 : decode cX1_ofVoyage 104 = .ok (.tableswitch 60 0 4 #[36, 60, 51, 54, 57], 36) := by decide +kernel
theorem dX1_ofVoyage_140 : decode cX1_ofVoyage 140 = .ok (.lload 5, 2) := by decide +kernel
theorem dX1_ofVoyage_142 : decode cX1_ofVoyage 142 = .ok (.aload_n 0, 1) := by decide +kernel
theorem dX1_ofVoyage_143 : decode cX1_ofVoyage 143 = .ok (.getfield 69, 3) := by decide +kernel
theorem dX1_ofVoyage_146 : decode cX1_ofVoyage 146 = .ok (.ldc2_w 117, 3) := by decide +kernel
theorem dX1_ofVoyage_149 : decode cX1_ofVoyage 149 = .ok (.lxor, 1) := by decide +kernel
theorem dX1_ofVoyage_150 : decode cX1_ofVoyage 150 = .ok (.land, 1) := by decide +kernel
theorem dX1_ofVoyage_151 : decode cX1_ofVoyage 151 = .ok (.invokestatic 119, 3) := by decide +kernel
theorem dX1_ofVoyage_154 : decode cX1_ofVoyage 154 = .ok (.ireturn, 1) := by decide +kernel
theorem dX1_ofVoyage_155 : decode cX1_ofVoyage 155 = .ok (.iload 7, 2) := by decide +kernel
theorem dX1_ofVoyage_157 : decode cX1_ofVoyage 157 = .ok (.ireturn, 1) := by decide +kernel
theorem dX1_ofVoyage_158 : decode cX1_ofVoyage 158 = .ok (.iload 8, 2) := by decide +kernel
theorem dX1_ofVoyage_160 : decode cX1_ofVoyage 160 = .ok (.ireturn, 1) := by decide +kernel
theorem dX1_ofVoyage_161 : decode cX1_ofVoyage 161 = .ok (.iload 4, 2) := by decide +kernel
theorem dX1_ofVoyage_163 : decode cX1_ofVoyage 163 = .ok (.ireturn, 1) := by decide +kernel
theorem dX1_ofVoyage_164 : decode cX1_ofVoyage 164 = .ok (.bipush (-9), 2) := by decide +kernel
theorem dX1_ofVoyage_166 : decode cX1_ofVoyage 166 = .ok (.ireturn, 1) := by decide +kernel
set_option maxRecDepth 20000 in
theorem tkX1_ofVoyage : ∀ q ∈ tbX1_ofVoyage, xOk (Zm true yX1_ofVoyage.name) RX1 cX1_ofVoyage 10 (some .int) pT pY q :=
  fa_c (ok_p (xg_load _ _ _) (x_aload_n dX1_ofVoyage_0 rfl)) <|
  fa_c (ok_p (xg_getf _ _ _) (x_getf (C := RX1) (T := TX1) (N := 10) rfl (by decide) inX1 kw108 dX1_ofVoyage_1)) <|
  fa_c (ok_p (xg_store _ _ _) (x_istore dX1_ofVoyage_4)) <|
  fa_c (ok_p (xg_st _ _) (x_lconst dX1_ofVoyage_6 rfl)) <|
  fa_c (ok_p (xg_store _ _ _) (x_lstore dX1_ofVoyage_7)) <|
  fa_c (ok_p (xg_st _ _) (x_iconst dX1_ofVoyage_9 rfl)) <|
  fa_c (ok_p (xg_store _ _ _) (x_istore dX1_ofVoyage_10)) <|
  fa_c (ok_p (xg_st _ _) (x_bipush dX1_ofVoyage_12 rfl)) <|
  fa_c (ok_p (xg_store _ _ _) (x_istore dX1_ofVoyage_14)) <|
  fa_c (ok_p (xg_st _ _) (x_iconst dX1_ofVoyage_16 rfl)) <|
  fa_c (ok_p (xg_store _ _ _) (x_istore dX1_ofVoyage_17)) <|
  fa_c (ok_p (xg_load _ _ _) (x_iload dX1_ofVoyage_19)) <|
  fa_c (ok_p (xg_load _ _ _) (x_iload_n dX1_ofVoyage_21 rfl)) <|
  fa_c (ok_p (xg_icmp _ _ _) (x_icmp_ge dX1_ofVoyage_22 (by decide))) <|
  fa_c (ok_p (xg_load _ _ _) (x_aload_n dX1_ofVoyage_25 rfl)) <|
  fa_c (ok_p (xg_load _ _ _) (x_iload dX1_ofVoyage_26)) <|
  fa_c (ok_p (xg_load _ _ _) (x_aload_n dX1_ofVoyage_28 rfl)) <|
  fa_c (ok_p (xg_load _ _ _) (x_iload dX1_ofVoyage_29)) <|
  fa_c (ok_c pT_119 pY_119 (x_callSN (n := 2) (host := "HullCharts") rfl (by decide +kernel) kw208 kw59 kw209 (by decide +kernel) dX1_ofVoyage_31)) <|
  fa_c (ok_c pT_34 pY_34 (x_callV (n := 2) (C := RX1) (T := TX1) (N := 10) rfl rfl kw414 kw384 kw385 kw61 kw386 (by decide +kernel) dX1_ofVoyage_34)) <|
  fa_c (ok_p (xg_store _ _ _) (x_istore dX1_ofVoyage_37)) <|
  fa_c (ok_p (xg_load _ _ _) (x_iload dX1_ofVoyage_39)) <|
  fa_c (ok_p (xg_st _ _) (x_bipush dX1_ofVoyage_41 rfl)) <|
  fa_c (ok_p (xg_icmp _ _ _) (x_icmp_ne dX1_ofVoyage_43 (by decide))) <|
  fa_c (ok_p (xg_load _ _ _) (x_iload_n dX1_ofVoyage_46 rfl)) <|
  fa_c (ok_p (xg_st _ _) (x_iconst dX1_ofVoyage_47 rfl)) <|
  fa_c (ok_p (xg_icmp _ _ _) (x_icmp_ne dX1_ofVoyage_48 (by decide))) <|
  fa_c (ok_p (xg_load _ _ _) (x_iload dX1_ofVoyage_51)) <|
  fa_c (ok_p (xg_st _ _) (x_goto dX1_ofVoyage_53 (by decide))) <|
  fa_c (ok_p (xg_st _ _) (x_bipush dX1_ofVoyage_56 rfl)) <|
  fa_c (ok_p (xg_load _ _ _) (x_iload dX1_ofVoyage_58)) <|
  fa_c (ok_p (xg_st _ _) (x_isub dX1_ofVoyage_60)) <|
  fa_c (ok_r ⟨rfl, dX1_ofVoyage_61⟩) <|
  fa_c (ok_p (xg_load _ _ _) (x_lload dX1_ofVoyage_62)) <|
  fa_c (ok_p (xg_load _ _ _) (x_aload_n dX1_ofVoyage_64 rfl)) <|
  fa_c (ok_p (xg_load _ _ _) (x_iload dX1_ofVoyage_65)) <|
  fa_c (ok_c pT_28 pY_28 (x_callV (n := 1) (C := RX1) (T := TX1) (N := 10) rfl rfl kw263 kw265 kw3 kw61 kw266 (by decide +kernel) dX1_ofVoyage_67)) <|
  fa_c (ok_p (xg_st _ _) (x_lor dX1_ofVoyage_70)) <|
  fa_c (ok_p (xg_store _ _ _) (x_lstore dX1_ofVoyage_71)) <|
  fa_c (ok_p (xg_load _ _ _) (x_iload dX1_ofVoyage_73)) <|
  fa_c (ok_p (xg_load _ _ _) (x_aload_n dX1_ofVoyage_75 rfl)) <|
  fa_c (ok_p (xg_load _ _ _) (x_iload dX1_ofVoyage_76)) <|
  fa_c (ok_c pT_36 pY_36 (x_callV (n := 1) (C := RX1) (T := TX1) (N := 10) rfl rfl kw415 kw417 kw6 kw61 kw418 (by decide +kernel) dX1_ofVoyage_78)) <|
  fa_c (ok_p (xg_st _ _) (x_iadd dX1_ofVoyage_81)) <|
  fa_c (ok_p (xg_store _ _ _) (x_istore dX1_ofVoyage_82)) <|
  fa_c (ok_p (xg_load _ _ _) (x_iload dX1_ofVoyage_84)) <|
  fa_c (ok_p (xg_load _ _ _) (x_aload_n dX1_ofVoyage_86 rfl)) <|
  fa_c (ok_p (xg_load _ _ _) (x_iload dX1_ofVoyage_87)) <|
  fa_c (ok_c pT_37 pY_37 (x_callV (n := 1) (C := RX1) (T := TX1) (N := 10) rfl rfl kw421 kw423 kw7 kw61 kw424 (by decide +kernel) dX1_ofVoyage_89)) <|
  fa_c (ok_p (xg_st _ _) (x_mmax (fun _ _ _ _ _ h => h.2 rfl) kw312 kw313 kw65 kw314 dX1_ofVoyage_92)) <|
  fa_c (ok_p (xg_store _ _ _) (x_istore dX1_ofVoyage_95)) <|
  fa_c (ok_p (xg_iinc _ _ _) (x_iinc dX1_ofVoyage_97 rfl)) <|
  fa_c (ok_p (xg_st _ _) (x_goto dX1_ofVoyage_100 (by decide))) <|
  fa_c (ok_p (xg_load _ _ _) (x_iload_n dX1_ofVoyage_103 rfl)) <|
  fa_c (ok_p (xg_sw _ _) (x_tsw dX1_ofVoyage_104 (by decide) (by decide +kernel) (by decide +kernel))) <|
  fa_c (ok_p (xg_load _ _ _) (x_lload dX1_ofVoyage_140)) <|
  fa_c (ok_p (xg_load _ _ _) (x_aload_n dX1_ofVoyage_142 rfl)) <|
  fa_c (ok_p (xg_getf _ _ _) (x_getf (C := RX1) (T := TX1) (N := 10) rfl (by decide) inX1 kw109 dX1_ofVoyage_143)) <|
  fa_c (ok_p (xg_st _ _) (x_ldc2 dX1_ofVoyage_146 kw425)) <|
  fa_c (ok_p (xg_st _ _) (x_lxor dX1_ofVoyage_149)) <|
  fa_c (ok_p (xg_st _ _) (x_land dX1_ofVoyage_150)) <|
  fa_c (ok_c pT_195 pY_195 (x_callS (n := 1) rfl kw426 kw396 kw67 kw397 (by decide +kernel) dX1_ofVoyage_151)) <|
  fa_c (ok_r ⟨rfl, dX1_ofVoyage_154⟩) <|
  fa_c (ok_p (xg_load _ _ _) (x_iload dX1_ofVoyage_155)) <|
  fa_c (ok_r ⟨rfl, dX1_ofVoyage_157⟩) <|
  fa_c (ok_p (xg_load _ _ _) (x_iload dX1_ofVoyage_158)) <|
  fa_c (ok_r ⟨rfl, dX1_ofVoyage_160⟩) <|
  fa_c (ok_p (xg_load _ _ _) (x_iload dX1_ofVoyage_161)) <|
  fa_c (ok_r ⟨rfl, dX1_ofVoyage_163⟩) <|
  fa_c (ok_p (xg_st _ _) (x_bipush dX1_ofVoyage_164 rfl)) <|
  fa_c (ok_r ⟨rfl, dX1_ofVoyage_166⟩) <|
  fa_n
theorem dX1_toldTogether_0 : decode cX1_toldTogether 0 = .ok (.iconst 0, 1) := by decide +kernel
theorem dX1_toldTogether_1 : decode cX1_toldTogether 1 = .ok (.istore_n 2, 1) := by decide +kernel
theorem dX1_toldTogether_2 : decode cX1_toldTogether 2 = .ok (.iconst 0, 1) := by decide +kernel
theorem dX1_toldTogether_3 : decode cX1_toldTogether 3 = .ok (.istore_n 3, 1) := by decide +kernel
theorem dX1_toldTogether_4 : decode cX1_toldTogether 4 = .ok (.iload_n 3, 1) := by decide +kernel
theorem dX1_toldTogether_5 : decode cX1_toldTogether 5 = .ok (.aload_n 0, 1) := by decide +kernel
theorem dX1_toldTogether_6 : decode cX1_toldTogether 6 = .ok (.getfield 46, 3) := by decide +kernel
theorem dX1_toldTogether_9 : decode cX1_toldTogether 9 = .ok (.if_icmp .ge 28, 3) := by decide +kernel
theorem dX1_toldTogether_12 : decode cX1_toldTogether 12 = .ok (.aload_n 0, 1) := by decide +kernel
theorem dX1_toldTogether_13 : decode cX1_toldTogether 13 = .ok (.iload_n 3, 1) := by decide +kernel
theorem dX1_toldTogether_14 : decode cX1_toldTogether 14 = .ok (.invokevirtual 124, 3) := by decide +kernel
theorem dX1_toldTogether_17 : decode cX1_toldTogether 17 = .ok (.ifCond .ne 14, 3) := by decide +kernel
theorem dX1_toldTogether_20 : decode cX1_toldTogether 20 = .ok (.iload_n 2, 1) := by decide +kernel
theorem dX1_toldTogether_21 : decode cX1_toldTogether 21 = .ok (.aload_n 0, 1) := by decide +kernel
theorem dX1_toldTogether_22 : decode cX1_toldTogether 22 = .ok (.iload_n 3, 1) := by decide +kernel
theorem dX1_toldTogether_23 : decode cX1_toldTogether 23 = .ok (.iload_n 1, 1) := by decide +kernel
theorem dX1_toldTogether_24 : decode cX1_toldTogether 24 = .ok (.iload_n 3, 1) := by decide +kernel
theorem dX1_toldTogether_25 : decode cX1_toldTogether 25 = .ok (.iadd, 1) := by decide +kernel
theorem dX1_toldTogether_26 : decode cX1_toldTogether 26 = .ok (.invokevirtual 127, 3) := by decide +kernel
theorem dX1_toldTogether_29 : decode cX1_toldTogether 29 = .ok (.iadd, 1) := by decide +kernel
theorem dX1_toldTogether_30 : decode cX1_toldTogether 30 = .ok (.istore_n 2, 1) := by decide +kernel
theorem dX1_toldTogether_31 : decode cX1_toldTogether 31 = .ok (.iinc 3 1, 3) := by decide +kernel
theorem dX1_toldTogether_34 : decode cX1_toldTogether 34 = .ok (.goto (-30), 3) := by decide +kernel
theorem dX1_toldTogether_37 : decode cX1_toldTogether 37 = .ok (.iload_n 2, 1) := by decide +kernel
theorem dX1_toldTogether_38 : decode cX1_toldTogether 38 = .ok (.ireturn, 1) := by decide +kernel
set_option maxRecDepth 20000 in
theorem tkX1_toldTogether : ∀ q ∈ tbX1_toldTogether, xOk (Zm false yX1_toldTogether.name) RX1 cX1_toldTogether 4 (some .int) pT pY q :=
  fa_c (ok_p (xg_st _ _) (x_iconst dX1_toldTogether_0 rfl)) <|
  fa_c (ok_p (xg_store _ _ _) (x_istore_n dX1_toldTogether_1 rfl)) <|
  fa_c (ok_p (xg_st _ _) (x_iconst dX1_toldTogether_2 rfl)) <|
  fa_c (ok_p (xg_store _ _ _) (x_istore_n dX1_toldTogether_3 rfl)) <|
  fa_c (ok_p (xg_load _ _ _) (x_iload_n dX1_toldTogether_4 rfl)) <|
  fa_c (ok_p (xg_load _ _ _) (x_aload_n dX1_toldTogether_5 rfl)) <|
  fa_c (ok_p (xg_getf _ _ _) (x_getf (C := RX1) (T := TX1) (N := 10) rfl (by decide) inX1 kw106 dX1_toldTogether_6)) <|
  fa_c (ok_p (xg_icmp _ _ _) (x_icmp_ge dX1_toldTogether_9 (by decide))) <|
  fa_c (ok_p (xg_load _ _ _) (x_aload_n dX1_toldTogether_12 rfl)) <|
  fa_c (ok_p (xg_load _ _ _) (x_iload_n dX1_toldTogether_13 rfl)) <|
  fa_c (ok_c pT_23 pY_23 (x_callV (n := 1) (C := RX1) (T := TX1) (N := 10) rfl rfl kw419 kw292 kw293 kw61 kw294 (by decide +kernel) dX1_toldTogether_14)) <|
  fa_c (ok_p (xg_if _ _ _) (x_if_ne dX1_toldTogether_17 (by decide))) <|
  fa_c (ok_p (xg_load _ _ _) (x_iload_n dX1_toldTogether_20 rfl)) <|
  fa_c (ok_p (xg_load _ _ _) (x_aload_n dX1_toldTogether_21 rfl)) <|
  fa_c (ok_p (xg_load _ _ _) (x_iload_n dX1_toldTogether_22 rfl)) <|
  fa_c (ok_p (xg_load _ _ _) (x_iload_n dX1_toldTogether_23 rfl)) <|
  fa_c (ok_p (xg_load _ _ _) (x_iload_n dX1_toldTogether_24 rfl)) <|
  fa_c (ok_p (xg_st _ _) (x_iadd dX1_toldTogether_25)) <|
  fa_c (ok_c pT_29 pY_29 (x_callV (n := 2) (C := RX1) (T := TX1) (N := 10) rfl rfl kw420 kw300 kw301 kw61 kw302 (by decide +kernel) dX1_toldTogether_26)) <|
  fa_c (ok_p (xg_st _ _) (x_iadd dX1_toldTogether_29)) <|
  fa_c (ok_p (xg_store _ _ _) (x_istore_n dX1_toldTogether_30 rfl)) <|
  fa_c (ok_p (xg_iinc _ _ _) (x_iinc dX1_toldTogether_31 rfl)) <|
  fa_c (ok_p (xg_st _ _) (x_goto dX1_toldTogether_34 (by decide))) <|
  fa_c (ok_p (xg_load _ _ _) (x_iload_n dX1_toldTogether_37 rfl)) <|
  fa_c (ok_r ⟨rfl, dX1_toldTogether_38⟩) <|
  fa_n
theorem dX1_mostTold_0 : decode cX1_mostTold 0 = .ok (.bipush (-9), 2) := by decide +kernel
theorem dX1_mostTold_2 : decode cX1_mostTold 2 = .ok (.istore_n 2, 1) := by decide +kernel
theorem dX1_mostTold_3 : decode cX1_mostTold 3 = .ok (.iconst 0, 1) := by decide +kernel
theorem dX1_mostTold_4 : decode cX1_mostTold 4 = .ok (.istore_n 3, 1) := by decide +kernel
theorem dX1_mostTold_5 : decode cX1_mostTold 5 = .ok (.iload_n 3, 1) := by decide +kernel
theorem dX1_mostTold_6 : decode cX1_mostTold 6 = .ok (.aload_n 0, 1) := by decide +kernel
theorem dX1_mostTold_7 : decode cX1_mostTold 7 = .ok (.getfield 46, 3) := by decide +kernel
theorem dX1_mostTold_10 : decode cX1_mostTold 10 = .ok (.if_icmp .ge 30, 3) := by decide +kernel
theorem dX1_mostTold_13 : decode cX1_mostTold 13 = .ok (.aload_n 0, 1) := by decide +kernel
theorem dX1_mostTold_14 : decode cX1_mostTold 14 = .ok (.iload_n 3, 1) := by decide +kernel
theorem dX1_mostTold_15 : decode cX1_mostTold 15 = .ok (.invokevirtual 124, 3) := by decide +kernel
theorem dX1_mostTold_18 : decode cX1_mostTold 18 = .ok (.ifCond .ne 16, 3) := by decide +kernel
theorem dX1_mostTold_21 : decode cX1_mostTold 21 = .ok (.iload_n 2, 1) := by decide +kernel
theorem dX1_mostTold_22 : decode cX1_mostTold 22 = .ok (.aload_n 0, 1) := by decide +kernel
theorem dX1_mostTold_23 : decode cX1_mostTold 23 = .ok (.iload_n 3, 1) := by decide +kernel
theorem dX1_mostTold_24 : decode cX1_mostTold 24 = .ok (.iload_n 1, 1) := by decide +kernel
theorem dX1_mostTold_25 : decode cX1_mostTold 25 = .ok (.iload_n 3, 1) := by decide +kernel
theorem dX1_mostTold_26 : decode cX1_mostTold 26 = .ok (.iadd, 1) := by decide +kernel
theorem dX1_mostTold_27 : decode cX1_mostTold 27 = .ok (.invokevirtual 127, 3) := by decide +kernel
theorem dX1_mostTold_30 : decode cX1_mostTold 30 = .ok (.invokestatic 92, 3) := by decide +kernel
theorem dX1_mostTold_33 : decode cX1_mostTold 33 = .ok (.istore_n 2, 1) := by decide +kernel
theorem dX1_mostTold_34 : decode cX1_mostTold 34 = .ok (.iinc 3 1, 3) := by decide +kernel
theorem dX1_mostTold_37 : decode cX1_mostTold 37 = .ok (.goto (-32), 3) := by decide +kernel
theorem dX1_mostTold_40 : decode cX1_mostTold 40 = .ok (.iload_n 2, 1) := by decide +kernel
theorem dX1_mostTold_41 : decode cX1_mostTold 41 = .ok (.ireturn, 1) := by decide +kernel
set_option maxRecDepth 20000 in
theorem tkX1_mostTold : ∀ q ∈ tbX1_mostTold, xOk (Zm true yX1_mostTold.name) RX1 cX1_mostTold 4 (some .int) pT pY q :=
  fa_c (ok_p (xg_st _ _) (x_bipush dX1_mostTold_0 rfl)) <|
  fa_c (ok_p (xg_store _ _ _) (x_istore_n dX1_mostTold_2 rfl)) <|
  fa_c (ok_p (xg_st _ _) (x_iconst dX1_mostTold_3 rfl)) <|
  fa_c (ok_p (xg_store _ _ _) (x_istore_n dX1_mostTold_4 rfl)) <|
  fa_c (ok_p (xg_load _ _ _) (x_iload_n dX1_mostTold_5 rfl)) <|
  fa_c (ok_p (xg_load _ _ _) (x_aload_n dX1_mostTold_6 rfl)) <|
  fa_c (ok_p (xg_getf _ _ _) (x_getf (C := RX1) (T := TX1) (N := 10) rfl (by decide) inX1 kw106 dX1_mostTold_7)) <|
  fa_c (ok_p (xg_icmp _ _ _) (x_icmp_ge dX1_mostTold_10 (by decide))) <|
  fa_c (ok_p (xg_load _ _ _) (x_aload_n dX1_mostTold_13 rfl)) <|
  fa_c (ok_p (xg_load _ _ _) (x_iload_n dX1_mostTold_14 rfl)) <|
  fa_c (ok_c pT_23 pY_23 (x_callV (n := 1) (C := RX1) (T := TX1) (N := 10) rfl rfl kw419 kw292 kw293 kw61 kw294 (by decide +kernel) dX1_mostTold_15)) <|
  fa_c (ok_p (xg_if _ _ _) (x_if_ne dX1_mostTold_18 (by decide))) <|
  fa_c (ok_p (xg_load _ _ _) (x_iload_n dX1_mostTold_21 rfl)) <|
  fa_c (ok_p (xg_load _ _ _) (x_aload_n dX1_mostTold_22 rfl)) <|
  fa_c (ok_p (xg_load _ _ _) (x_iload_n dX1_mostTold_23 rfl)) <|
  fa_c (ok_p (xg_load _ _ _) (x_iload_n dX1_mostTold_24 rfl)) <|
  fa_c (ok_p (xg_load _ _ _) (x_iload_n dX1_mostTold_25 rfl)) <|
  fa_c (ok_p (xg_st _ _) (x_iadd dX1_mostTold_26)) <|
  fa_c (ok_c pT_29 pY_29 (x_callV (n := 2) (C := RX1) (T := TX1) (N := 10) rfl rfl kw420 kw300 kw301 kw61 kw302 (by decide +kernel) dX1_mostTold_27)) <|
  fa_c (ok_p (xg_st _ _) (x_mmax (fun _ _ _ _ _ h => h.2 rfl) kw312 kw313 kw65 kw314 dX1_mostTold_30)) <|
  fa_c (ok_p (xg_store _ _ _) (x_istore_n dX1_mostTold_33 rfl)) <|
  fa_c (ok_p (xg_iinc _ _ _) (x_iinc dX1_mostTold_34 rfl)) <|
  fa_c (ok_p (xg_st _ _) (x_goto dX1_mostTold_37 (by decide))) <|
  fa_c (ok_p (xg_load _ _ _) (x_iload_n dX1_mostTold_40 rfl)) <|
  fa_c (ok_r ⟨rfl, dX1_mostTold_41⟩) <|
  fa_n
theorem dX1_ofWay_0 : decode cX1_ofWay 0 = .ok (.aload_n 0, 1) := by decide +kernel
theorem dX1_ofWay_1 : decode cX1_ofWay 1 = .ok (.iload_n 1, 1) := by decide +kernel
theorem dX1_ofWay_2 : decode cX1_ofWay 2 = .ok (.invokevirtual 130, 3) := by decide +kernel
theorem dX1_ofWay_5 : decode cX1_ofWay 5 = .ok (.istore_n 3, 1) := by decide +kernel
theorem dX1_ofWay_6 : decode cX1_ofWay 6 = .ok (.iload_n 3, 1) := by decide +kernel
theorem dX1_ofWay_7 : decode cX1_ofWay 7 = .ok (.bipush 99, 2) := by decide +kernel
theorem dX1_ofWay_9 : decode cX1_ofWay 9 = .ok (.if_icmp .ne 6, 3) := by decide +kernel
theorem dX1_ofWay_12 : decode cX1_ofWay 12 = .ok (.bipush (-9), 2) := by decide +kernel
theorem dX1_ofWay_14 : decode cX1_ofWay 14 = .ok (.ireturn, 1) := by decide +kernel
theorem dX1_ofWay_15 : decode cX1_ofWay 15 = .ok (.aload_n 0, 1) := by decide +kernel
theorem dX1_ofWay_16 : decode cX1_ofWay 16 = .ok (.iload_n 1, 1) := by decide +kernel
theorem dX1_ofWay_17 : decode cX1_ofWay 17 = .ok (.invokevirtual 105, 3) := by decide +kernel
theorem dX1_ofWay_20 : decode cX1_ofWay 20 = .ok (.aload_n 0, 1) := by decide +kernel
theorem dX1_ofWay_21 : decode cX1_ofWay 21 = .ok (.aload_n 0, 1) := by decide +kernel
theorem dX1_ofWay_22 : decode cX1_ofWay 22 = .ok (.getfield 59, 3) := by decide +kernel
theorem dX1_ofWay_25 : decode cX1_ofWay 25 = .ok (.invokevirtual 105, 3) := by decide +kernel
theorem dX1_ofWay_28 : decode cX1_ofWay 28 = .ok (.isub, 1) := by decide +kernel
theorem dX1_ofWay_29 : decode cX1_ofWay 29 = .ok (.istore 4, 2) := by decide +kernel
theorem dX1_ofWay_31 : decode cX1_ofWay 31 = .ok (.iload 4, 2) := by decide +kernel
theorem dX1_ofWay_33 : decode cX1_ofWay 33 = .ok (.ineg, 1) := by decide +kernel
theorem dX1_ofWay_34 : decode cX1_ofWay 34 = .ok (.iconst 0, 1) := by decide +kernel
theorem dX1_ofWay_35 : decode cX1_ofWay 35 = .ok (.invokestatic 92, 3) := by decide +kernel
theorem dX1_ofWay_38 : decode cX1_ofWay 38 = .ok (.istore 5, 2) := by decide +kernel
theorem dX1_ofWay_40 : decode cX1_ofWay 40 = .ok (.iload 5, 2) := by decide +kernel
theorem dX1_ofWay_42 : decode cX1_ofWay 42 = .ok (.iload_n 3, 1) := by decide +kernel
theorem dX1_ofWay_43 : decode cX1_ofWay 43 = .ok (.iconst 0, 1) := by decide +kernel
theorem dX1_ofWay_44 : decode cX1_ofWay 44 = .ok (.invokestatic 92, 3) := by decide +kernel
theorem dX1_ofWay_47 : decode cX1_ofWay 47 = .ok (.iadd, 1) := by decide +kernel
theorem dX1_ofWay_48 : decode cX1_ofWay 48 = .ok (.istore 6, 2) := by decide +kernel
theorem dX1_ofWay_50 : decode cX1_ofWay 50 = .ok (.iload 6, 2) := by decide +kernel
theorem dX1_ofWay_52 : decode cX1_ofWay 52 = .ok (.iload 4, 2) := by decide +kernel
theorem dX1_ofWay_54 : decode cX1_ofWay 54 = .ok (.iconst 0, 1) := by decide +kernel
theorem dX1_ofWay_55 : decode cX1_ofWay 55 = .ok (.invokestatic 92, 3) := by decide +kernel
theorem dX1_ofWay_58 : decode cX1_ofWay 58 = .ok (.iadd, 1) := by decide +kernel
theorem dX1_ofWay_59 : decode cX1_ofWay 59 = .ok (.istore 7, 2) := by decide +kernel
theorem dX1_ofWay_61 : decode cX1_ofWay 61 = .ok (.iload 7, 2) := by decide +kernel
theorem dX1_ofWay_63 : decode cX1_ofWay 63 = .ok (.iload_n 3, 1) := by decide +kernel
theorem dX1_ofWay_64 : decode cX1_ofWay 64 = .ok (.ineg, 1) := by decide +kernel
theorem dX1_ofWay_65 : decode cX1_ofWay 65 = .ok (.iconst 0, 1) := by decide +kernel
theorem dX1_ofWay_66 : decode cX1_ofWay 66 = .ok (.invokestatic 92, 3) := by decide +kernel
theorem dX1_ofWay_69 : decode cX1_ofWay 69 = .ok (.iadd, 1) := by decide +kernel
theorem dX1_ofWay_70 : decode cX1_ofWay 70 = .ok (.istore 8, 2) := by decide +kernel
theorem dX1_ofWay_72 : decode cX1_ofWay 72 = .ok (.iload_n 2, 1) := by decide +kernel
theorem dX1_ofWay_73 : decode cX1_ofWay 73 = .ok (.ifCond .ge 6, 3) := by decide +kernel
theorem dX1_ofWay_76 : decode cX1_ofWay 76 = .ok (.iload 8, 2) := by decide +kernel
theorem dX1_ofWay_78 : decode cX1_ofWay 78 = .ok (.ireturn, 1) := by decide +kernel
theorem dX1_ofWay_79 : decode cX1_ofWay 79 = .ok (.iload_n 2, 1) := by decide +kernel
theorem dX1_ofWay_80 : decode cX1_ofWay 80 = .ok (.iload 5, 2) := by decide +kernel
theorem dX1_ofWay_82 : decode cX1_ofWay 82 = .ok (.if_icmp .ge 5, 3) := by decide +kernel
theorem dX1_ofWay_85 : decode cX1_ofWay 85 = .ok (.iconst 0, 1) := by decide +kernel
theorem dX1_ofWay_86 : decode cX1_ofWay 86 = .ok (.ireturn, 1) := by decide +kernel
theorem dX1_ofWay_87 : decode cX1_ofWay 87 = .ok (.iload_n 2, 1) := by decide +kernel
theorem dX1_ofWay_88 : decode cX1_ofWay 88 = .ok (.iload 6, 2) := by decide +kernel
theorem dX1_ofWay_90 : decode cX1_ofWay 90 = .ok (.if_icmp .ge 5, 3) := by decide +kernel
theorem dX1_ofWay_93 : decode cX1_ofWay 93 = .ok (.iconst 1, 1) := by decide +kernel
theorem dX1_ofWay_94 : decode cX1_ofWay 94 = .ok (.ireturn, 1) := by decide +kernel
theorem dX1_ofWay_95 : decode cX1_ofWay 95 = .ok (.iload_n 2, 1) := by decide +kernel
theorem dX1_ofWay_96 : decode cX1_ofWay 96 = .ok (.iload 7, 2) := by decide +kernel
theorem dX1_ofWay_98 : decode cX1_ofWay 98 = .ok (.if_icmp .ge 5, 3) := by decide +kernel
theorem dX1_ofWay_101 : decode cX1_ofWay 101 = .ok (.iconst 2, 1) := by decide +kernel
theorem dX1_ofWay_102 : decode cX1_ofWay 102 = .ok (.ireturn, 1) := by decide +kernel
theorem dX1_ofWay_103 : decode cX1_ofWay 103 = .ok (.iload_n 2, 1) := by decide +kernel
theorem dX1_ofWay_104 : decode cX1_ofWay 104 = .ok (.iload 8, 2) := by decide +kernel
theorem dX1_ofWay_106 : decode cX1_ofWay 106 = .ok (.if_icmp .ge 7, 3) := by decide +kernel
theorem dX1_ofWay_109 : decode cX1_ofWay 109 = .ok (.iconst 3, 1) := by decide +kernel
theorem dX1_ofWay_110 : decode cX1_ofWay 110 = .ok (.goto 5, 3) := by decide +kernel
theorem dX1_ofWay_113 : decode cX1_ofWay 113 = .ok (.bipush (-9), 2) := by decide +kernel
theorem dX1_ofWay_115 : decode cX1_ofWay 115 = .ok (.ireturn, 1) := by decide +kernel
set_option maxRecDepth 20000 in
theorem tkX1_ofWay : ∀ q ∈ tbX1_ofWay, xOk (Zm true yX1_ofWay.name) RX1 cX1_ofWay 9 (some .int) pT pY q :=
  fa_c (ok_p (xg_load _ _ _) (x_aload_n dX1_ofWay_0 rfl)) <|
  fa_c (ok_p (xg_load _ _ _) (x_iload_n dX1_ofWay_1 rfl)) <|
  fa_c (ok_c pT_39 pY_39 (x_callV (n := 1) (C := RX1) (T := TX1) (N := 10) rfl rfl kw435 kw437 kw8 kw61 kw438 (by decide +kernel) dX1_ofWay_2)) <|
  fa_c (ok_p (xg_store _ _ _) (x_istore_n dX1_ofWay_5 rfl)) <|
  fa_c (ok_p (xg_load _ _ _) (x_iload_n dX1_ofWay_6 rfl)) <|
  fa_c (ok_p (xg_st _ _) (x_bipush dX1_ofWay_7 rfl)) <|
  fa_c (ok_p (xg_icmp _ _ _) (x_icmp_ne dX1_ofWay_9 (by decide))) <|
  fa_c (ok_p (xg_st _ _) (x_bipush dX1_ofWay_12 rfl)) <|
  fa_c (ok_r ⟨rfl, dX1_ofWay_14⟩) <|
  fa_c (ok_p (xg_load _ _ _) (x_aload_n dX1_ofWay_15 rfl)) <|
  fa_c (ok_p (xg_load _ _ _) (x_iload_n dX1_ofWay_16 rfl)) <|
  fa_c (ok_c pT_32 pY_32 (x_callV (n := 1) (C := RX1) (T := TX1) (N := 10) rfl rfl kw387 kw389 kw4 kw61 kw390 (by decide +kernel) dX1_ofWay_17)) <|
  fa_c (ok_p (xg_load _ _ _) (x_aload_n dX1_ofWay_20 rfl)) <|
  fa_c (ok_p (xg_load _ _ _) (x_aload_n dX1_ofWay_21 rfl)) <|
  fa_c (ok_p (xg_getf _ _ _) (x_getf (C := RX1) (T := TX1) (N := 10) rfl (by decide) inX1 kw108 dX1_ofWay_22)) <|
  fa_c (ok_c pT_32 pY_32 (x_callV (n := 1) (C := RX1) (T := TX1) (N := 10) rfl rfl kw387 kw389 kw4 kw61 kw390 (by decide +kernel) dX1_ofWay_25)) <|
  fa_c (ok_p (xg_st _ _) (x_isub dX1_ofWay_28)) <|
  fa_c (ok_p (xg_store _ _ _) (x_istore dX1_ofWay_29)) <|
  fa_c (ok_p (xg_load _ _ _) (x_iload dX1_ofWay_31)) <|
  fa_c (ok_p (xg_st _ _) (x_ineg dX1_ofWay_33)) <|
  fa_c (ok_p (xg_st _ _) (x_iconst dX1_ofWay_34 rfl)) <|
  fa_c (ok_p (xg_st _ _) (x_mmax (fun _ _ _ _ _ h => h.2 rfl) kw312 kw313 kw65 kw314 dX1_ofWay_35)) <|
  fa_c (ok_p (xg_store _ _ _) (x_istore dX1_ofWay_38)) <|
  fa_c (ok_p (xg_load _ _ _) (x_iload dX1_ofWay_40)) <|
  fa_c (ok_p (xg_load _ _ _) (x_iload_n dX1_ofWay_42 rfl)) <|
  fa_c (ok_p (xg_st _ _) (x_iconst dX1_ofWay_43 rfl)) <|
  fa_c (ok_p (xg_st _ _) (x_mmax (fun _ _ _ _ _ h => h.2 rfl) kw312 kw313 kw65 kw314 dX1_ofWay_44)) <|
  fa_c (ok_p (xg_st _ _) (x_iadd dX1_ofWay_47)) <|
  fa_c (ok_p (xg_store _ _ _) (x_istore dX1_ofWay_48)) <|
  fa_c (ok_p (xg_load _ _ _) (x_iload dX1_ofWay_50)) <|
  fa_c (ok_p (xg_load _ _ _) (x_iload dX1_ofWay_52)) <|
  fa_c (ok_p (xg_st _ _) (x_iconst dX1_ofWay_54 rfl)) <|
  fa_c (ok_p (xg_st _ _) (x_mmax (fun _ _ _ _ _ h => h.2 rfl) kw312 kw313 kw65 kw314 dX1_ofWay_55)) <|
  fa_c (ok_p (xg_st _ _) (x_iadd dX1_ofWay_58)) <|
  fa_c (ok_p (xg_store _ _ _) (x_istore dX1_ofWay_59)) <|
  fa_c (ok_p (xg_load _ _ _) (x_iload dX1_ofWay_61)) <|
  fa_c (ok_p (xg_load _ _ _) (x_iload_n dX1_ofWay_63 rfl)) <|
  fa_c (ok_p (xg_st _ _) (x_ineg dX1_ofWay_64)) <|
  fa_c (ok_p (xg_st _ _) (x_iconst dX1_ofWay_65 rfl)) <|
  fa_c (ok_p (xg_st _ _) (x_mmax (fun _ _ _ _ _ h => h.2 rfl) kw312 kw313 kw65 kw314 dX1_ofWay_66)) <|
  fa_c (ok_p (xg_st _ _) (x_iadd dX1_ofWay_69)) <|
  fa_c (ok_p (xg_store _ _ _) (x_istore dX1_ofWay_70)) <|
  fa_c (ok_p (xg_load _ _ _) (x_iload_n dX1_ofWay_72 rfl)) <|
  fa_c (ok_p (xg_if _ _ _) (x_if_ge dX1_ofWay_73 (by decide))) <|
  fa_c (ok_p (xg_load _ _ _) (x_iload dX1_ofWay_76)) <|
  fa_c (ok_r ⟨rfl, dX1_ofWay_78⟩) <|
  fa_c (ok_p (xg_load _ _ _) (x_iload_n dX1_ofWay_79 rfl)) <|
  fa_c (ok_p (xg_load _ _ _) (x_iload dX1_ofWay_80)) <|
  fa_c (ok_p (xg_icmp _ _ _) (x_icmp_ge dX1_ofWay_82 (by decide))) <|
  fa_c (ok_p (xg_st _ _) (x_iconst dX1_ofWay_85 rfl)) <|
  fa_c (ok_r ⟨rfl, dX1_ofWay_86⟩) <|
  fa_c (ok_p (xg_load _ _ _) (x_iload_n dX1_ofWay_87 rfl)) <|
  fa_c (ok_p (xg_load _ _ _) (x_iload dX1_ofWay_88)) <|
  fa_c (ok_p (xg_icmp _ _ _) (x_icmp_ge dX1_ofWay_90 (by decide))) <|
  fa_c (ok_p (xg_st _ _) (x_iconst dX1_ofWay_93 rfl)) <|
  fa_c (ok_r ⟨rfl, dX1_ofWay_94⟩) <|
  fa_c (ok_p (xg_load _ _ _) (x_iload_n dX1_ofWay_95 rfl)) <|
  fa_c (ok_p (xg_load _ _ _) (x_iload dX1_ofWay_96)) <|
  fa_c (ok_p (xg_icmp _ _ _) (x_icmp_ge dX1_ofWay_98 (by decide))) <|
  fa_c (ok_p (xg_st _ _) (x_iconst dX1_ofWay_101 rfl)) <|
  fa_c (ok_r ⟨rfl, dX1_ofWay_102⟩) <|
  fa_c (ok_p (xg_load _ _ _) (x_iload_n dX1_ofWay_103 rfl)) <|
  fa_c (ok_p (xg_load _ _ _) (x_iload dX1_ofWay_104)) <|
  fa_c (ok_p (xg_icmp _ _ _) (x_icmp_ge dX1_ofWay_106 (by decide))) <|
  fa_c (ok_p (xg_st _ _) (x_iconst dX1_ofWay_109 rfl)) <|
  fa_c (ok_p (xg_st _ _) (x_goto dX1_ofWay_110 (by decide))) <|
  fa_c (ok_p (xg_st _ _) (x_bipush dX1_ofWay_113 rfl)) <|
  fa_c (ok_r ⟨rfl, dX1_ofWay_115⟩) <|
  fa_n
theorem dX1_fewestAcross_0 : decode cX1_fewestAcross 0 = .ok (.bipush 99, 2) := by decide +kernel
theorem dX1_fewestAcross_2 : decode cX1_fewestAcross 2 = .ok (.istore_n 2, 1) := by decide +kernel
theorem dX1_fewestAcross_3 : decode cX1_fewestAcross 3 = .ok (.iconst 0, 1) := by decide +kernel
theorem dX1_fewestAcross_4 : decode cX1_fewestAcross 4 = .ok (.istore_n 3, 1) := by decide +kernel
theorem dX1_fewestAcross_5 : decode cX1_fewestAcross 5 = .ok (.iload_n 3, 1) := by decide +kernel
theorem dX1_fewestAcross_6 : decode cX1_fewestAcross 6 = .ok (.aload_n 0, 1) := by decide +kernel
theorem dX1_fewestAcross_7 : decode cX1_fewestAcross 7 = .ok (.getfield 46, 3) := by decide +kernel
theorem dX1_fewestAcross_10 : decode cX1_fewestAcross 10 = .ok (.if_icmp .ge 76, 3) := by decide +kernel
theorem dX1_fewestAcross_13 : decode cX1_fewestAcross 13 = .ok (.aload_n 0, 1) := by decide +kernel
theorem dX1_fewestAcross_14 : decode cX1_fewestAcross 14 = .ok (.iload_n 1, 1) := by decide +kernel
theorem dX1_fewestAcross_15 : decode cX1_fewestAcross 15 = .ok (.invokevirtual 102, 3) := by decide +kernel
theorem dX1_fewestAcross_18 : decode cX1_fewestAcross 18 = .ok (.iload_n 3, 1) := by decide +kernel
theorem dX1_fewestAcross_19 : decode cX1_fewestAcross 19 = .ok (.isub, 1) := by decide +kernel
theorem dX1_fewestAcross_20 : decode cX1_fewestAcross 20 = .ok (.istore 4, 2) := by decide +kernel
theorem dX1_fewestAcross_22 : decode cX1_fewestAcross 22 = .ok (.aload_n 0, 1) := by decide +kernel
theorem dX1_fewestAcross_23 : decode cX1_fewestAcross 23 = .ok (.iload_n 3, 1) := by decide +kernel
theorem dX1_fewestAcross_24 : decode cX1_fewestAcross 24 = .ok (.invokevirtual 124, 3) := by decide +kernel
theorem dX1_fewestAcross_27 : decode cX1_fewestAcross 27 = .ok (.ifCond .ne 53, 3) := by decide +kernel
theorem dX1_fewestAcross_30 : decode cX1_fewestAcross 30 = .ok (.iload 4, 2) := by decide +kernel
theorem dX1_fewestAcross_32 : decode cX1_fewestAcross 32 = .ok (.ifCond .lt 48, 3) := by decide +kernel
theorem dX1_fewestAcross_35 : decode cX1_fewestAcross 35 = .ok (.iload 4, 2) := by decide +kernel
theorem dX1_fewestAcross_37 : decode cX1_fewestAcross 37 = .ok (.aload_n 0, 1) := by decide +kernel
theorem dX1_fewestAcross_38 : decode cX1_fewestAcross 38 = .ok (.getfield 46, 3) := by decide +kernel
theorem dX1_fewestAcross_41 : decode cX1_fewestAcross 41 = .ok (.iadd, 1) := by decide +kernel
theorem dX1_fewestAcross_42 : decode cX1_fewestAcross 42 = .ok (.aload_n 0, 1) := by decide +kernel
theorem dX1_fewestAcross_43 : decode cX1_fewestAcross 43 = .ok (.getfield 31, 3) := by decide +kernel
theorem dX1_fewestAcross_46 : decode cX1_fewestAcross 46 = .ok (.if_icmp .le 6, 3) := by decide +kernel
theorem dX1_fewestAcross_49 : decode cX1_fewestAcross 49 = .ok (.goto 31, 3) := by decide +kernel
theorem dX1_fewestAcross_52 : decode cX1_fewestAcross 52 = .ok (.iload 4, 2) := by decide +kernel
theorem dX1_fewestAcross_54 : decode cX1_fewestAcross 54 = .ok (.aload_n 0, 1) := by decide +kernel
theorem dX1_fewestAcross_55 : decode cX1_fewestAcross 55 = .ok (.aload_n 0, 1) := by decide +kernel
theorem dX1_fewestAcross_56 : decode cX1_fewestAcross 56 = .ok (.getfield 59, 3) := by decide +kernel
theorem dX1_fewestAcross_59 : decode cX1_fewestAcross 59 = .ok (.invokevirtual 102, 3) := by decide +kernel
theorem dX1_fewestAcross_62 : decode cX1_fewestAcross 62 = .ok (.isub, 1) := by decide +kernel
theorem dX1_fewestAcross_63 : decode cX1_fewestAcross 63 = .ok (.istore 5, 2) := by decide +kernel
theorem dX1_fewestAcross_65 : decode cX1_fewestAcross 65 = .ok (.iload 5, 2) := by decide +kernel
theorem dX1_fewestAcross_67 : decode cX1_fewestAcross 67 = .ok (.invokestatic 133, 3) := by decide +kernel
theorem dX1_fewestAcross_70 : decode cX1_fewestAcross 70 = .ok (.iload_n 2, 1) := by decide +kernel
theorem dX1_fewestAcross_71 : decode cX1_fewestAcross 71 = .ok (.invokestatic 133, 3) := by decide +kernel
theorem dX1_fewestAcross_74 : decode cX1_fewestAcross 74 = .ok (.if_icmp .ge 6, 3) := by decide +kernel
theorem dX1_fewestAcross_77 : decode cX1_fewestAcross 77 = .ok (.iload 5, 2) := by decide +kernel
theorem dX1_fewestAcross_79 : decode cX1_fewestAcross 79 = .ok (.istore_n 2, 1) := by decide +kernel
theorem dX1_fewestAcross_80 : decode cX1_fewestAcross 80 = .ok (.iinc 3 1, 3) := by decide +kernel
theorem dX1_fewestAcross_83 : decode cX1_fewestAcross 83 = .ok (.goto (-78), 3) := by decide +kernel
theorem dX1_fewestAcross_86 : decode cX1_fewestAcross 86 = .ok (.iload_n 2, 1) := by decide +kernel
theorem dX1_fewestAcross_87 : decode cX1_fewestAcross 87 = .ok (.ireturn, 1) := by decide +kernel
set_option maxRecDepth 20000 in
theorem tkX1_fewestAcross : ∀ q ∈ tbX1_fewestAcross, xOk (Zm true yX1_fewestAcross.name) RX1 cX1_fewestAcross 6 (some .int) pT pY q :=
  fa_c (ok_p (xg_st _ _) (x_bipush dX1_fewestAcross_0 rfl)) <|
  fa_c (ok_p (xg_store _ _ _) (x_istore_n dX1_fewestAcross_2 rfl)) <|
  fa_c (ok_p (xg_st _ _) (x_iconst dX1_fewestAcross_3 rfl)) <|
  fa_c (ok_p (xg_store _ _ _) (x_istore_n dX1_fewestAcross_4 rfl)) <|
  fa_c (ok_p (xg_clr _ (xg_load _ _ _)) (x_clr _ (x_iload_n dX1_fewestAcross_5 rfl))) <|
  fa_c (ok_p (xg_load _ _ _) (x_aload_n dX1_fewestAcross_6 rfl)) <|
  fa_c (ok_p (xg_getf _ _ _) (x_getf (C := RX1) (T := TX1) (N := 10) rfl (by decide) inX1 kw106 dX1_fewestAcross_7)) <|
  fa_c (ok_p (xg_icmp _ _ _) (x_icmp_ge dX1_fewestAcross_10 (by decide))) <|
  fa_c (ok_p (xg_load _ _ _) (x_aload_n dX1_fewestAcross_13 rfl)) <|
  fa_c (ok_p (xg_load _ _ _) (x_iload_n dX1_fewestAcross_14 rfl)) <|
  fa_c (ok_c pT_31 pY_31 (x_callV (n := 1) (C := RX1) (T := TX1) (N := 10) rfl rfl kw391 kw393 kw5 kw61 kw394 (by decide +kernel) dX1_fewestAcross_15)) <|
  fa_c (ok_p (xg_load _ _ _) (x_iload_n dX1_fewestAcross_18 rfl)) <|
  fa_c (ok_p (xg_st _ _) (x_isub dX1_fewestAcross_19)) <|
  fa_c (ok_p (xg_store _ _ _) (x_istore dX1_fewestAcross_20)) <|
  fa_c (ok_p (xg_load _ _ _) (x_aload_n dX1_fewestAcross_22 rfl)) <|
  fa_c (ok_p (xg_load _ _ _) (x_iload_n dX1_fewestAcross_23 rfl)) <|
  fa_c (ok_c pT_23 pY_23 (x_callV (n := 1) (C := RX1) (T := TX1) (N := 10) rfl rfl kw419 kw292 kw293 kw61 kw294 (by decide +kernel) dX1_fewestAcross_24)) <|
  fa_c (ok_p (xg_if _ _ _) (x_if_ne dX1_fewestAcross_27 (by decide))) <|
  fa_c (ok_p (xg_load _ _ _) (x_iload dX1_fewestAcross_30)) <|
  fa_c (ok_p (xg_if _ _ _) (x_if_lt dX1_fewestAcross_32 (by decide))) <|
  fa_c (ok_p (xg_load _ _ _) (x_iload dX1_fewestAcross_35)) <|
  fa_c (ok_p (xg_load _ _ _) (x_aload_n dX1_fewestAcross_37 rfl)) <|
  fa_c (ok_p (xg_getf _ _ _) (x_getf (C := RX1) (T := TX1) (N := 10) rfl (by decide) inX1 kw106 dX1_fewestAcross_38)) <|
  fa_c (ok_p (xg_st _ _) (x_iadd dX1_fewestAcross_41)) <|
  fa_c (ok_p (xg_load _ _ _) (x_aload_n dX1_fewestAcross_42 rfl)) <|
  fa_c (ok_p (xg_getf _ _ _) (x_getf (C := RX1) (T := TX1) (N := 10) rfl (by decide) inX1 kw104 dX1_fewestAcross_43)) <|
  fa_c (ok_p (xg_icmp _ _ _) (x_icmp_le dX1_fewestAcross_46 (by decide))) <|
  fa_c (ok_p (xg_st _ _) (x_goto dX1_fewestAcross_49 (by decide))) <|
  fa_c (ok_p (xg_load _ _ _) (x_iload dX1_fewestAcross_52)) <|
  fa_c (ok_p (xg_load _ _ _) (x_aload_n dX1_fewestAcross_54 rfl)) <|
  fa_c (ok_p (xg_load _ _ _) (x_aload_n dX1_fewestAcross_55 rfl)) <|
  fa_c (ok_p (xg_getf _ _ _) (x_getf (C := RX1) (T := TX1) (N := 10) rfl (by decide) inX1 kw108 dX1_fewestAcross_56)) <|
  fa_c (ok_c pT_31 pY_31 (x_callV (n := 1) (C := RX1) (T := TX1) (N := 10) rfl rfl kw391 kw393 kw5 kw61 kw394 (by decide +kernel) dX1_fewestAcross_59)) <|
  fa_c (ok_p (xg_st _ _) (x_isub dX1_fewestAcross_62)) <|
  fa_c (ok_p (xg_store _ _ _) (x_istore dX1_fewestAcross_63)) <|
  fa_c (ok_p (xg_load _ _ _) (x_iload dX1_fewestAcross_65)) <|
  fa_c (ok_p (xg_st _ _) (x_mabs (fun _ _ _ _ _ h => h.2 rfl) kw439 kw440 kw65 kw441 dX1_fewestAcross_67)) <|
  fa_c (ok_p (xg_load _ _ _) (x_iload_n dX1_fewestAcross_70 rfl)) <|
  fa_c (ok_p (xg_st _ _) (x_mabs (fun _ _ _ _ _ h => h.2 rfl) kw439 kw440 kw65 kw441 dX1_fewestAcross_71)) <|
  fa_c (ok_p (xg_icmp _ _ _) (x_icmp_ge dX1_fewestAcross_74 (by decide))) <|
  fa_c (ok_p (xg_load _ _ _) (x_iload dX1_fewestAcross_77)) <|
  fa_c (ok_p (xg_store _ _ _) (x_istore_n dX1_fewestAcross_79 rfl)) <|
  fa_c (ok_p (xg_iinc _ _ _) (x_iinc dX1_fewestAcross_80 rfl)) <|
  fa_c (ok_p (xg_st _ _) (x_goto dX1_fewestAcross_83 (by decide))) <|
  fa_c (ok_p (xg_load _ _ _) (x_iload_n dX1_fewestAcross_86 rfl)) <|
  fa_c (ok_r ⟨rfl, dX1_fewestAcross_87⟩) <|
  fa_n
theorem dX1_ofMost_0 : decode cX1_ofMost 0 = .ok (.aload_n 0, 1) := by decide +kernel
theorem dX1_ofMost_1 : decode cX1_ofMost 1 = .ok (.iload_n 1, 1) := by decide +kernel
theorem dX1_ofMost_2 : decode cX1_ofMost 2 = .ok (.invokevirtual 136, 3) := by decide +kernel
theorem dX1_ofMost_5 : decode cX1_ofMost 5 = .ok (.istore_n 3, 1) := by decide +kernel
theorem dX1_ofMost_6 : decode cX1_ofMost 6 = .ok (.iload_n 3, 1) := by decide +kernel
theorem dX1_ofMost_7 : decode cX1_ofMost 7 = .ok (.bipush (-9), 2) := by decide +kernel
theorem dX1_ofMost_9 : decode cX1_ofMost 9 = .ok (.if_icmp .eq 8, 3) := by decide +kernel
theorem dX1_ofMost_12 : decode cX1_ofMost 12 = .ok (.iload_n 2, 1) := by decide +kernel
theorem dX1_ofMost_13 : decode cX1_ofMost 13 = .ok (.iload_n 1, 1) := by decide +kernel
theorem dX1_ofMost_14 : decode cX1_ofMost 14 = .ok (.if_icmp .lt 6, 3) := by decide +kernel
theorem dX1_ofMost_17 : decode cX1_ofMost 17 = .ok (.bipush (-9), 2) := by decide +kernel
theorem dX1_ofMost_19 : decode cX1_ofMost 19 = .ok (.ireturn, 1) := by decide +kernel
theorem dX1_ofMost_20 : decode cX1_ofMost 20 = .ok (.iload_n 2, 1) := by decide +kernel
theorem dX1_ofMost_21 : decode cX1_ofMost 21 = .ok (.ifCond .ge 12, 3) := by decide +kernel
theorem dX1_ofMost_24 : decode cX1_ofMost 24 = .ok (.aload_n 0, 1) := by decide +kernel
theorem dX1_ofMost_25 : decode cX1_ofMost 25 = .ok (.iload_n 3, 1) := by decide +kernel
theorem dX1_ofMost_26 : decode cX1_ofMost 26 = .ok (.iload_n 1, 1) := by decide +kernel
theorem dX1_ofMost_27 : decode cX1_ofMost 27 = .ok (.invokevirtual 139, 3) := by decide +kernel
theorem dX1_ofMost_30 : decode cX1_ofMost 30 = .ok (.goto 9, 3) := by decide +kernel
theorem dX1_ofMost_33 : decode cX1_ofMost 33 = .ok (.iload_n 3, 1) := by decide +kernel
theorem dX1_ofMost_34 : decode cX1_ofMost 34 = .ok (.iload_n 1, 1) := by decide +kernel
theorem dX1_ofMost_35 : decode cX1_ofMost 35 = .ok (.iload_n 2, 1) := by decide +kernel
theorem dX1_ofMost_36 : decode cX1_ofMost 36 = .ok (.invokestatic 142, 3) := by decide +kernel
theorem dX1_ofMost_39 : decode cX1_ofMost 39 = .ok (.ireturn, 1) := by decide +kernel
set_option maxRecDepth 20000 in
theorem tkX1_ofMost : ∀ q ∈ tbX1_ofMost, xOk (Zm false yX1_ofMost.name) RX1 cX1_ofMost 4 (some .int) pT pY q :=
  fa_c (ok_p (xg_load _ _ _) (x_aload_n dX1_ofMost_0 rfl)) <|
  fa_c (ok_p (xg_load _ _ _) (x_iload_n dX1_ofMost_1 rfl)) <|
  fa_c (ok_c pT_41 pY_41 (x_callV (n := 1) (C := RX1) (T := TX1) (N := 10) rfl rfl kw450 kw452 kw9 kw61 kw453 (by decide +kernel) dX1_ofMost_2)) <|
  fa_c (ok_p (xg_store _ _ _) (x_istore_n dX1_ofMost_5 rfl)) <|
  fa_c (ok_p (xg_load _ _ _) (x_iload_n dX1_ofMost_6 rfl)) <|
  fa_c (ok_p (xg_st _ _) (x_bipush dX1_ofMost_7 rfl)) <|
  fa_c (ok_p (xg_icmp _ _ _) (x_icmp_eq dX1_ofMost_9 (by decide))) <|
  fa_c (ok_p (xg_load _ _ _) (x_iload_n dX1_ofMost_12 rfl)) <|
  fa_c (ok_p (xg_load _ _ _) (x_iload_n dX1_ofMost_13 rfl)) <|
  fa_c (ok_p (xg_icmp _ _ _) (x_icmp_lt dX1_ofMost_14 (by decide))) <|
  fa_c (ok_p (xg_st _ _) (x_bipush dX1_ofMost_17 rfl)) <|
  fa_c (ok_r ⟨rfl, dX1_ofMost_19⟩) <|
  fa_c (ok_p (xg_load _ _ _) (x_iload_n dX1_ofMost_20 rfl)) <|
  fa_c (ok_p (xg_if _ _ _) (x_if_ge dX1_ofMost_21 (by decide))) <|
  fa_c (ok_p (xg_load _ _ _) (x_aload_n dX1_ofMost_24 rfl)) <|
  fa_c (ok_p (xg_load _ _ _) (x_iload_n dX1_ofMost_25 rfl)) <|
  fa_c (ok_p (xg_load _ _ _) (x_iload_n dX1_ofMost_26 rfl)) <|
  fa_c (ok_c pT_43 pY_43 (x_callV (n := 2) (C := RX1) (T := TX1) (N := 10) rfl rfl kw454 kw456 kw10 kw61 kw457 (by decide +kernel) dX1_ofMost_27)) <|
  fa_c (ok_p (xg_st _ _) (x_goto dX1_ofMost_30 (by decide))) <|
  fa_c (ok_p (xg_load _ _ _) (x_iload_n dX1_ofMost_33 rfl)) <|
  fa_c (ok_p (xg_load _ _ _) (x_iload_n dX1_ofMost_34 rfl)) <|
  fa_c (ok_p (xg_load _ _ _) (x_iload_n dX1_ofMost_35 rfl)) <|
  fa_c (ok_c pT_42 pY_42 (x_callS (n := 3) rfl kw458 kw459 kw61 kw460 (by decide +kernel) dX1_ofMost_36)) <|
  fa_c (ok_r ⟨rfl, dX1_ofMost_39⟩) <|
  fa_n
theorem dX1_bestRow_0 : decode cX1_bestRow 0 = .ok (.bipush (-9), 2) := by decide +kernel
theorem dX1_bestRow_2 : decode cX1_bestRow 2 = .ok (.istore_n 2, 1) := by decide +kernel
theorem dX1_bestRow_3 : decode cX1_bestRow 3 = .ok (.bipush (-9), 2) := by decide +kernel
theorem dX1_bestRow_5 : decode cX1_bestRow 5 = .ok (.istore_n 3, 1) := by decide +kernel
theorem dX1_bestRow_6 : decode cX1_bestRow 6 = .ok (.iconst 0, 1) := by decide +kernel
theorem dX1_bestRow_7 : decode cX1_bestRow 7 = .ok (.istore 4, 2) := by decide +kernel
theorem dX1_bestRow_9 : decode cX1_bestRow 9 = .ok (.iload 4, 2) := by decide +kernel
theorem dX1_bestRow_11 : decode cX1_bestRow 11 = .ok (.iconst 1, 1) := by decide +kernel
theorem dX1_bestRow_12 : decode cX1_bestRow 12 = .ok (.iconst 2, 1) := by decide +kernel
theorem dX1_bestRow_13 : decode cX1_bestRow 13 = .ok (.iload_n 1, 1) := by decide +kernel
theorem dX1_bestRow_14 : decode cX1_bestRow 14 = .ok (.imul, 1) := by decide +kernel
theorem dX1_bestRow_15 : decode cX1_bestRow 15 = .ok (.ishl, 1) := by decide +kernel
theorem dX1_bestRow_16 : decode cX1_bestRow 16 = .ok (.if_icmp .ge 30, 3) := by decide +kernel
theorem dX1_bestRow_19 : decode cX1_bestRow 19 = .ok (.aload_n 0, 1) := by decide +kernel
theorem dX1_bestRow_20 : decode cX1_bestRow 20 = .ok (.iload 4, 2) := by decide +kernel
theorem dX1_bestRow_22 : decode cX1_bestRow 22 = .ok (.iload_n 1, 1) := by decide +kernel
theorem dX1_bestRow_23 : decode cX1_bestRow 23 = .ok (.invokevirtual 139, 3) := by decide +kernel
theorem dX1_bestRow_26 : decode cX1_bestRow 26 = .ok (.istore 5, 2) := by decide +kernel
theorem dX1_bestRow_28 : decode cX1_bestRow 28 = .ok (.iload 5, 2) := by decide +kernel
theorem dX1_bestRow_30 : decode cX1_bestRow 30 = .ok (.iload_n 3, 1) := by decide +kernel
theorem dX1_bestRow_31 : decode cX1_bestRow 31 = .ok (.if_icmp .le 9, 3) := by decide +kernel
theorem dX1_bestRow_34 : decode cX1_bestRow 34 = .ok (.iload 4, 2) := by decide +kernel
theorem dX1_bestRow_36 : decode cX1_bestRow 36 = .ok (.istore_n 2, 1) := by decide +kernel
theorem dX1_bestRow_37 : decode cX1_bestRow 37 = .ok (.iload 5, 2) := by decide +kernel
theorem dX1_bestRow_39 : decode cX1_bestRow 39 = .ok (.istore_n 3, 1) := by decide +kernel
theorem dX1_bestRow_40 : decode cX1_bestRow 40 = .ok (.iinc 4 1, 3) := by decide +kernel
theorem dX1_bestRow_43 : decode cX1_bestRow 43 = .ok (.goto (-34), 3) := by decide +kernel
theorem dX1_bestRow_46 : decode cX1_bestRow 46 = .ok (.iload_n 2, 1) := by decide +kernel
theorem dX1_bestRow_47 : decode cX1_bestRow 47 = .ok (.ireturn, 1) := by decide +kernel
set_option maxRecDepth 20000 in
theorem tkX1_bestRow : ∀ q ∈ tbX1_bestRow, xOk (Zm false yX1_bestRow.name) RX1 cX1_bestRow 6 (some .int) pT pY q :=
  fa_c (ok_p (xg_st _ _) (x_bipush dX1_bestRow_0 rfl)) <|
  fa_c (ok_p (xg_store _ _ _) (x_istore_n dX1_bestRow_2 rfl)) <|
  fa_c (ok_p (xg_st _ _) (x_bipush dX1_bestRow_3 rfl)) <|
  fa_c (ok_p (xg_store _ _ _) (x_istore_n dX1_bestRow_5 rfl)) <|
  fa_c (ok_p (xg_st _ _) (x_iconst dX1_bestRow_6 rfl)) <|
  fa_c (ok_p (xg_store _ _ _) (x_istore dX1_bestRow_7)) <|
  fa_c (ok_p (xg_clr _ (xg_load _ _ _)) (x_clr _ (x_iload dX1_bestRow_9))) <|
  fa_c (ok_p (xg_st _ _) (x_iconst dX1_bestRow_11 rfl)) <|
  fa_c (ok_p (xg_st _ _) (x_iconst dX1_bestRow_12 rfl)) <|
  fa_c (ok_p (xg_load _ _ _) (x_iload_n dX1_bestRow_13 rfl)) <|
  fa_c (ok_p (xg_st _ _) (x_imul dX1_bestRow_14)) <|
  fa_c (ok_p (xg_st _ _) (x_ishl dX1_bestRow_15)) <|
  fa_c (ok_p (xg_icmp _ _ _) (x_icmp_ge dX1_bestRow_16 (by decide))) <|
  fa_c (ok_p (xg_load _ _ _) (x_aload_n dX1_bestRow_19 rfl)) <|
  fa_c (ok_p (xg_load _ _ _) (x_iload dX1_bestRow_20)) <|
  fa_c (ok_p (xg_load _ _ _) (x_iload_n dX1_bestRow_22 rfl)) <|
  fa_c (ok_c pT_43 pY_43 (x_callV (n := 2) (C := RX1) (T := TX1) (N := 10) rfl rfl kw454 kw456 kw10 kw61 kw457 (by decide +kernel) dX1_bestRow_23)) <|
  fa_c (ok_p (xg_store _ _ _) (x_istore dX1_bestRow_26)) <|
  fa_c (ok_p (xg_load _ _ _) (x_iload dX1_bestRow_28)) <|
  fa_c (ok_p (xg_load _ _ _) (x_iload_n dX1_bestRow_30 rfl)) <|
  fa_c (ok_p (xg_icmp _ _ _) (x_icmp_le dX1_bestRow_31 (by decide))) <|
  fa_c (ok_p (xg_load _ _ _) (x_iload dX1_bestRow_34)) <|
  fa_c (ok_p (xg_store _ _ _) (x_istore_n dX1_bestRow_36 rfl)) <|
  fa_c (ok_p (xg_load _ _ _) (x_iload dX1_bestRow_37)) <|
  fa_c (ok_p (xg_store _ _ _) (x_istore_n dX1_bestRow_39 rfl)) <|
  fa_c (ok_p (xg_iinc _ _ _) (x_iinc dX1_bestRow_40 rfl)) <|
  fa_c (ok_p (xg_st _ _) (x_goto dX1_bestRow_43 (by decide))) <|
  fa_c (ok_p (xg_load _ _ _) (x_iload_n dX1_bestRow_46 rfl)) <|
  fa_c (ok_r ⟨rfl, dX1_bestRow_47⟩) <|
  fa_n
theorem dX1_stepOfRow_0 : decode cX1_stepOfRow 0 = .ok (.iload_n 0, 1) := by decide +kernel
theorem dX1_stepOfRow_1 : decode cX1_stepOfRow 1 = .ok (.iconst 2, 1) := by decide +kernel
theorem dX1_stepOfRow_2 : decode cX1_stepOfRow 2 = .ok (.iload_n 1, 1) := by decide +kernel
theorem dX1_stepOfRow_3 : decode cX1_stepOfRow 3 = .ok (.iconst 1, 1) := by decide +kernel
theorem dX1_stepOfRow_4 : decode cX1_stepOfRow 4 = .ok (.isub, 1) := by decide +kernel
theorem dX1_stepOfRow_5 : decode cX1_stepOfRow 5 = .ok (.iload_n 2, 1) := by decide +kernel
theorem dX1_stepOfRow_6 : decode cX1_stepOfRow 6 = .ok (.isub, 1) := by decide +kernel
theorem dX1_stepOfRow_7 : decode cX1_stepOfRow 7 = .ok (.imul, 1) := by decide +kernel
theorem dX1_stepOfRow_8 : decode cX1_stepOfRow 8 = .ok (.ishr, 1) := by decide +kernel
theorem dX1_stepOfRow_9 : decode cX1_stepOfRow 9 = .ok (.iconst 3, 1) := by decide +kernel
theorem dX1_stepOfRow_10 : decode cX1_stepOfRow 10 = .ok (.iand, 1) := by decide +kernel
theorem dX1_stepOfRow_11 : decode cX1_stepOfRow 11 = .ok (.ireturn, 1) := by decide +kernel
set_option maxRecDepth 20000 in
theorem tkX1_stepOfRow : ∀ q ∈ tbX1_stepOfRow, xOk (Zm false yX1_stepOfRow.name) RX1 cX1_stepOfRow 3 (some .int) pT pY q :=
  fa_c (ok_p (xg_load _ _ _) (x_iload_n dX1_stepOfRow_0 rfl)) <|
  fa_c (ok_p (xg_st _ _) (x_iconst dX1_stepOfRow_1 rfl)) <|
  fa_c (ok_p (xg_load _ _ _) (x_iload_n dX1_stepOfRow_2 rfl)) <|
  fa_c (ok_p (xg_st _ _) (x_iconst dX1_stepOfRow_3 rfl)) <|
  fa_c (ok_p (xg_st _ _) (x_isub dX1_stepOfRow_4)) <|
  fa_c (ok_p (xg_load _ _ _) (x_iload_n dX1_stepOfRow_5 rfl)) <|
  fa_c (ok_p (xg_st _ _) (x_isub dX1_stepOfRow_6)) <|
  fa_c (ok_p (xg_st _ _) (x_imul dX1_stepOfRow_7)) <|
  fa_c (ok_p (xg_st _ _) (x_ishr dX1_stepOfRow_8)) <|
  fa_c (ok_p (xg_st _ _) (x_iconst dX1_stepOfRow_9 rfl)) <|
  fa_c (ok_p (xg_st _ _) (x_iand dX1_stepOfRow_10)) <|
  fa_c (ok_r ⟨rfl, dX1_stepOfRow_11⟩) <|
  fa_n
theorem dX1_gainOf_0 : decode cX1_gainOf 0 = .ok (.aload_n 0, 1) := by decide +kernel
theorem dX1_gainOf_1 : decode cX1_gainOf 1 = .ok (.getfield 59, 3) := by decide +kernel
theorem dX1_gainOf_4 : decode cX1_gainOf 4 = .ok (.istore_n 3, 1) := by decide +kernel
theorem dX1_gainOf_5 : decode cX1_gainOf 5 = .ok (.lconst 0, 1) := by decide +kernel
theorem dX1_gainOf_6 : decode cX1_gainOf 6 = .ok (.lstore 4, 2) := by decide +kernel
theorem dX1_gainOf_8 : decode cX1_gainOf 8 = .ok (.iconst 0, 1) := by decide +kernel
theorem dX1_gainOf_9 : decode cX1_gainOf 9 = .ok (.istore 6, 2) := by decide +kernel
theorem dX1_gainOf_11 : decode cX1_gainOf 11 = .ok (.iload 6, 2) := by decide +kernel
theorem dX1_gainOf_13 : decode cX1_gainOf 13 = .ok (.iload_n 2, 1) := by decide +kernel
theorem dX1_gainOf_14 : decode cX1_gainOf 14 = .ok (.if_icmp .ge 41, 3) := by decide +kernel
theorem dX1_gainOf_17 : decode cX1_gainOf 17 = .ok (.aload_n 0, 1) := by decide +kernel
theorem dX1_gainOf_18 : decode cX1_gainOf 18 = .ok (.iload_n 3, 1) := by decide +kernel
theorem dX1_gainOf_19 : decode cX1_gainOf 19 = .ok (.iload_n 1, 1) := by decide +kernel
theorem dX1_gainOf_20 : decode cX1_gainOf 20 = .ok (.iload_n 2, 1) := by decide +kernel
theorem dX1_gainOf_21 : decode cX1_gainOf 21 = .ok (.iload 6, 2) := by decide +kernel
theorem dX1_gainOf_23 : decode cX1_gainOf 23 = .ok (.invokestatic 142, 3) := by decide +kernel
theorem dX1_gainOf_26 : decode cX1_gainOf 26 = .ok (.invokevirtual 108, 3) := by decide +kernel
theorem dX1_gainOf_29 : decode cX1_gainOf 29 = .ok (.istore_n 3, 1) := by decide +kernel
theorem dX1_gainOf_30 : decode cX1_gainOf 30 = .ok (.iload_n 3, 1) := by decide +kernel
theorem dX1_gainOf_31 : decode cX1_gainOf 31 = .ok (.bipush (-9), 2) := by decide +kernel
theorem dX1_gainOf_33 : decode cX1_gainOf 33 = .ok (.if_icmp .ne 6, 3) := by decide +kernel
theorem dX1_gainOf_36 : decode cX1_gainOf 36 = .ok (.bipush (-9), 2) := by decide +kernel
theorem dX1_gainOf_38 : decode cX1_gainOf 38 = .ok (.ireturn, 1) := by decide +kernel
theorem dX1_gainOf_39 : decode cX1_gainOf 39 = .ok (.lload 4, 2) := by decide +kernel
theorem dX1_gainOf_41 : decode cX1_gainOf 41 = .ok (.aload_n 0, 1) := by decide +kernel
theorem dX1_gainOf_42 : decode cX1_gainOf 42 = .ok (.iload_n 3, 1) := by decide +kernel
theorem dX1_gainOf_43 : decode cX1_gainOf 43 = .ok (.invokevirtual 65, 3) := by decide +kernel
theorem dX1_gainOf_46 : decode cX1_gainOf 46 = .ok (.lor, 1) := by decide +kernel
theorem dX1_gainOf_47 : decode cX1_gainOf 47 = .ok (.lstore 4, 2) := by decide +kernel
theorem dX1_gainOf_49 : decode cX1_gainOf 49 = .ok (.iinc 6 1, 3) := by decide +kernel
theorem dX1_gainOf_52 : decode cX1_gainOf 52 = .ok (.goto (-41), 3) := by decide +kernel
theorem dX1_gainOf_55 : decode cX1_gainOf 55 = .ok (.lload 4, 2) := by decide +kernel
theorem dX1_gainOf_57 : decode cX1_gainOf 57 = .ok (.aload_n 0, 1) := by decide +kernel
theorem dX1_gainOf_58 : decode cX1_gainOf 58 = .ok (.getfield 69, 3) := by decide +kernel
theorem dX1_gainOf_61 : decode cX1_gainOf 61 = .ok (.ldc2_w 117, 3) := by decide +kernel
theorem dX1_gainOf_64 : decode cX1_gainOf 64 = .ok (.lxor, 1) := by decide +kernel
theorem dX1_gainOf_65 : decode cX1_gainOf 65 = .ok (.land, 1) := by decide +kernel
theorem dX1_gainOf_66 : decode cX1_gainOf 66 = .ok (.invokestatic 119, 3) := by decide +kernel
theorem dX1_gainOf_69 : decode cX1_gainOf 69 = .ok (.ireturn, 1) := by decide +kernel
set_option maxRecDepth 20000 in
theorem tkX1_gainOf : ∀ q ∈ tbX1_gainOf, xOk (Zm false yX1_gainOf.name) RX1 cX1_gainOf 7 (some .int) pT pY q :=
  fa_c (ok_p (xg_load _ _ _) (x_aload_n dX1_gainOf_0 rfl)) <|
  fa_c (ok_p (xg_getf _ _ _) (x_getf (C := RX1) (T := TX1) (N := 10) rfl (by decide) inX1 kw108 dX1_gainOf_1)) <|
  fa_c (ok_p (xg_store _ _ _) (x_istore_n dX1_gainOf_4 rfl)) <|
  fa_c (ok_p (xg_st _ _) (x_lconst dX1_gainOf_5 rfl)) <|
  fa_c (ok_p (xg_store _ _ _) (x_lstore dX1_gainOf_6)) <|
  fa_c (ok_p (xg_st _ _) (x_iconst dX1_gainOf_8 rfl)) <|
  fa_c (ok_p (xg_store _ _ _) (x_istore dX1_gainOf_9)) <|
  fa_c (ok_p (xg_load _ _ _) (x_iload dX1_gainOf_11)) <|
  fa_c (ok_p (xg_load _ _ _) (x_iload_n dX1_gainOf_13 rfl)) <|
  fa_c (ok_p (xg_icmp _ _ _) (x_icmp_ge dX1_gainOf_14 (by decide))) <|
  fa_c (ok_p (xg_load _ _ _) (x_aload_n dX1_gainOf_17 rfl)) <|
  fa_c (ok_p (xg_load _ _ _) (x_iload_n dX1_gainOf_18 rfl)) <|
  fa_c (ok_p (xg_load _ _ _) (x_iload_n dX1_gainOf_19 rfl)) <|
  fa_c (ok_p (xg_load _ _ _) (x_iload_n dX1_gainOf_20 rfl)) <|
  fa_c (ok_p (xg_load _ _ _) (x_iload dX1_gainOf_21)) <|
  fa_c (ok_c pT_42 pY_42 (x_callS (n := 3) rfl kw458 kw459 kw61 kw460 (by decide +kernel) dX1_gainOf_23)) <|
  fa_c (ok_c pT_34 pY_34 (x_callV (n := 2) (C := RX1) (T := TX1) (N := 10) rfl rfl kw414 kw384 kw385 kw61 kw386 (by decide +kernel) dX1_gainOf_26)) <|
  fa_c (ok_p (xg_store _ _ _) (x_istore_n dX1_gainOf_29 rfl)) <|
  fa_c (ok_p (xg_load _ _ _) (x_iload_n dX1_gainOf_30 rfl)) <|
  fa_c (ok_p (xg_st _ _) (x_bipush dX1_gainOf_31 rfl)) <|
  fa_c (ok_p (xg_icmp _ _ _) (x_icmp_ne dX1_gainOf_33 (by decide))) <|
  fa_c (ok_p (xg_st _ _) (x_bipush dX1_gainOf_36 rfl)) <|
  fa_c (ok_r ⟨rfl, dX1_gainOf_38⟩) <|
  fa_c (ok_p (xg_load _ _ _) (x_lload dX1_gainOf_39)) <|
  fa_c (ok_p (xg_load _ _ _) (x_aload_n dX1_gainOf_41 rfl)) <|
  fa_c (ok_p (xg_load _ _ _) (x_iload_n dX1_gainOf_42 rfl)) <|
  fa_c (ok_c pT_28 pY_28 (x_callV (n := 1) (C := RX1) (T := TX1) (N := 10) rfl rfl kw263 kw265 kw3 kw61 kw266 (by decide +kernel) dX1_gainOf_43)) <|
  fa_c (ok_p (xg_st _ _) (x_lor dX1_gainOf_46)) <|
  fa_c (ok_p (xg_store _ _ _) (x_lstore dX1_gainOf_47)) <|
  fa_c (ok_p (xg_iinc _ _ _) (x_iinc dX1_gainOf_49 rfl)) <|
  fa_c (ok_p (xg_st _ _) (x_goto dX1_gainOf_52 (by decide))) <|
  fa_c (ok_p (xg_load _ _ _) (x_lload dX1_gainOf_55)) <|
  fa_c (ok_p (xg_load _ _ _) (x_aload_n dX1_gainOf_57 rfl)) <|
  fa_c (ok_p (xg_getf _ _ _) (x_getf (C := RX1) (T := TX1) (N := 10) rfl (by decide) inX1 kw109 dX1_gainOf_58)) <|
  fa_c (ok_p (xg_st _ _) (x_ldc2 dX1_gainOf_61 kw425)) <|
  fa_c (ok_p (xg_st _ _) (x_lxor dX1_gainOf_64)) <|
  fa_c (ok_p (xg_st _ _) (x_land dX1_gainOf_65)) <|
  fa_c (ok_c pT_195 pY_195 (x_callS (n := 1) rfl kw426 kw396 kw67 kw397 (by decide +kernel) dX1_gainOf_66)) <|
  fa_c (ok_r ⟨rfl, dX1_gainOf_69⟩) <|
  fa_n
theorem dX1_flatWith_0 : decode cX1_flatWith 0 = .ok (.aload_n 0, 1) := by decide +kernel
theorem dX1_flatWith_1 : decode cX1_flatWith 1 = .ok (.aload_n 0, 1) := by decide +kernel
theorem dX1_flatWith_2 : decode cX1_flatWith 2 = .ok (.iload_n 1, 1) := by decide +kernel
theorem dX1_flatWith_3 : decode cX1_flatWith 3 = .ok (.invokevirtual 85, 3) := by decide +kernel
theorem dX1_flatWith_6 : decode cX1_flatWith 6 = .ok (.invokevirtual 145, 3) := by decide +kernel
theorem dX1_flatWith_9 : decode cX1_flatWith 9 = .ok (.lstore_n 2, 1) := by decide +kernel
theorem dX1_flatWith_10 : decode cX1_flatWith 10 = .ok (.lconst 1, 1) := by decide +kernel
theorem dX1_flatWith_11 : decode cX1_flatWith 11 = .ok (.iload_n 1, 1) := by decide +kernel
theorem dX1_flatWith_12 : decode cX1_flatWith 12 = .ok (.lshl, 1) := by decide +kernel
theorem dX1_flatWith_13 : decode cX1_flatWith 13 = .ok (.lstore 4, 2) := by decide +kernel
theorem dX1_flatWith_15 : decode cX1_flatWith 15 = .ok (.iconst 0, 1) := by decide +kernel
theorem dX1_flatWith_16 : decode cX1_flatWith 16 = .ok (.istore 6, 2) := by decide +kernel
theorem dX1_flatWith_18 : decode cX1_flatWith 18 = .ok (.iload 6, 2) := by decide +kernel
theorem dX1_flatWith_20 : decode cX1_flatWith 20 = .ok (.aload_n 0, 1) := by decide +kernel
theorem dX1_flatWith_21 : decode cX1_flatWith 21 = .ok (.invokevirtual 38, 3) := by decide +kernel
theorem dX1_flatWith_24 : decode cX1_flatWith 24 = .ok (.if_icmp .ge 22, 3) := by decide +kernel
theorem dX1_flatWith_27 : decode cX1_flatWith 27 = .ok (.lload 4, 2) := by decide +kernel
theorem dX1_flatWith_29 : decode cX1_flatWith 29 = .ok (.aload_n 0, 1) := by decide +kernel
theorem dX1_flatWith_30 : decode cX1_flatWith 30 = .ok (.lload 4, 2) := by decide +kernel
theorem dX1_flatWith_32 : decode cX1_flatWith 32 = .ok (.invokevirtual 148, 3) := by decide +kernel
theorem dX1_flatWith_35 : decode cX1_flatWith 35 = .ok (.lload_n 2, 1) := by decide +kernel
theorem dX1_flatWith_36 : decode cX1_flatWith 36 = .ok (.land, 1) := by decide +kernel
theorem dX1_flatWith_37 : decode cX1_flatWith 37 = .ok (.lor, 1) := by decide +kernel
theorem dX1_flatWith_38 : decode cX1_flatWith 38 = .ok (.lstore 4, 2) := by decide +kernel
theorem dX1_flatWith_40 : decode cX1_flatWith 40 = .ok (.iinc 6 1, 3) := by decide +kernel
theorem dX1_flatWith_43 : decode cX1_flatWith 43 = .ok (.goto (-25), 3) := by decide +kernel
theorem dX1_flatWith_46 : decode cX1_flatWith 46 = .ok (.lload 4, 2) := by decide +kernel
theorem dX1_flatWith_48 : decode cX1_flatWith 48 = .ok (.lreturn, 1) := by decide +kernel
set_option maxRecDepth 20000 in
theorem tkX1_flatWith : ∀ q ∈ tbX1_flatWith, xOk (Zm false yX1_flatWith.name) RX1 cX1_flatWith 7 (some .long) pT pY q :=
  fa_c (ok_p (xg_load _ _ _) (x_aload_n dX1_flatWith_0 rfl)) <|
  fa_c (ok_p (xg_load _ _ _) (x_aload_n dX1_flatWith_1 rfl)) <|
  fa_c (ok_p (xg_load _ _ _) (x_iload_n dX1_flatWith_2 rfl)) <|
  fa_c (ok_c pT_18 pY_18 (x_callV (n := 1) (C := RX1) (T := TX1) (N := 10) rfl rfl kw305 kw306 kw307 kw61 kw308 (by decide +kernel) dX1_flatWith_3)) <|
  fa_c (ok_c pT_45 pY_45 (x_callV (n := 1) (C := RX1) (T := TX1) (N := 10) rfl rfl kw469 kw471 kw11 kw61 kw472 (by decide +kernel) dX1_flatWith_6)) <|
  fa_c (ok_p (xg_store _ _ _) (x_lstore_n dX1_flatWith_9 rfl)) <|
  fa_c (ok_p (xg_st _ _) (x_lconst dX1_flatWith_10 rfl)) <|
  fa_c (ok_p (xg_load _ _ _) (x_iload_n dX1_flatWith_11 rfl)) <|
  fa_c (ok_p (xg_st _ _) (x_lshl dX1_flatWith_12)) <|
  fa_c (ok_p (xg_store _ _ _) (x_lstore dX1_flatWith_13)) <|
  fa_c (ok_p (xg_st _ _) (x_iconst dX1_flatWith_15 rfl)) <|
  fa_c (ok_p (xg_store _ _ _) (x_istore dX1_flatWith_16)) <|
  fa_c (ok_p (xg_clr _ (xg_load _ _ _)) (x_clr _ (x_iload dX1_flatWith_18))) <|
  fa_c (ok_p (xg_load _ _ _) (x_aload_n dX1_flatWith_20 rfl)) <|
  fa_c (ok_c pT_15 pY_15 (x_callV (n := 0) (C := RX1) (T := TX1) (N := 10) rfl rfl kw249 kw250 kw251 kw61 kw252 (by decide +kernel) dX1_flatWith_21)) <|
  fa_c (ok_p (xg_icmp _ _ _) (x_icmp_ge dX1_flatWith_24 (by decide))) <|
  fa_c (ok_p (xg_load _ _ _) (x_lload dX1_flatWith_27)) <|
  fa_c (ok_p (xg_load _ _ _) (x_aload_n dX1_flatWith_29 rfl)) <|
  fa_c (ok_p (xg_load _ _ _) (x_lload dX1_flatWith_30)) <|
  fa_c (ok_c pT_46 pY_46 (x_callV (n := 1) (C := RX1) (T := TX1) (N := 10) rfl rfl kw473 kw475 kw12 kw61 kw476 (by decide +kernel) dX1_flatWith_32)) <|
  fa_c (ok_p (xg_load _ _ _) (x_lload_n dX1_flatWith_35 rfl)) <|
  fa_c (ok_p (xg_st _ _) (x_land dX1_flatWith_36)) <|
  fa_c (ok_p (xg_st _ _) (x_lor dX1_flatWith_37)) <|
  fa_c (ok_p (xg_store _ _ _) (x_lstore dX1_flatWith_38)) <|
  fa_c (ok_p (xg_iinc _ _ _) (x_iinc dX1_flatWith_40 rfl)) <|
  fa_c (ok_p (xg_st _ _) (x_goto dX1_flatWith_43 (by decide))) <|
  fa_c (ok_p (xg_load _ _ _) (x_lload dX1_flatWith_46)) <|
  fa_c (ok_r ⟨rfl, dX1_flatWith_48⟩) <|
  fa_n
theorem dX1_cellsOfHeight_0 : decode cX1_cellsOfHeight 0 = .ok (.lconst 0, 1) := by decide +kernel
theorem dX1_cellsOfHeight_1 : decode cX1_cellsOfHeight 1 = .ok (.lstore_n 2, 1) := by decide +kernel
theorem dX1_cellsOfHeight_2 : decode cX1_cellsOfHeight 2 = .ok (.iconst 0, 1) := by decide +kernel
theorem dX1_cellsOfHeight_3 : decode cX1_cellsOfHeight 3 = .ok (.istore 4, 2) := by decide +kernel
theorem dX1_cellsOfHeight_5 : decode cX1_cellsOfHeight 5 = .ok (.iload 4, 2) := by decide +kernel
theorem dX1_cellsOfHeight_7 : decode cX1_cellsOfHeight 7 = .ok (.aload_n 0, 1) := by decide +kernel
theorem dX1_cellsOfHeight_8 : decode cX1_cellsOfHeight 8 = .ok (.invokevirtual 38, 3) := by decide +kernel
theorem dX1_cellsOfHeight_11 : decode cX1_cellsOfHeight 11 = .ok (.if_icmp .ge 26, 3) := by decide +kernel
theorem dX1_cellsOfHeight_14 : decode cX1_cellsOfHeight 14 = .ok (.aload_n 0, 1) := by decide +kernel
theorem dX1_cellsOfHeight_15 : decode cX1_cellsOfHeight 15 = .ok (.iload 4, 2) := by decide +kernel
theorem dX1_cellsOfHeight_17 : decode cX1_cellsOfHeight 17 = .ok (.invokevirtual 85, 3) := by decide +kernel
theorem dX1_cellsOfHeight_20 : decode cX1_cellsOfHeight 20 = .ok (.iload_n 1, 1) := by decide +kernel
theorem dX1_cellsOfHeight_21 : decode cX1_cellsOfHeight 21 = .ok (.if_icmp .ne 10, 3) := by decide +kernel
theorem dX1_cellsOfHeight_24 : decode cX1_cellsOfHeight 24 = .ok (.lload_n 2, 1) := by decide +kernel
theorem dX1_cellsOfHeight_25 : decode cX1_cellsOfHeight 25 = .ok (.lconst 1, 1) := by decide +kernel
theorem dX1_cellsOfHeight_26 : decode cX1_cellsOfHeight 26 = .ok (.iload 4, 2) := by decide +kernel
theorem dX1_cellsOfHeight_28 : decode cX1_cellsOfHeight 28 = .ok (.lshl, 1) := by decide +kernel
theorem dX1_cellsOfHeight_29 : decode cX1_cellsOfHeight 29 = .ok (.lor, 1) := by decide +kernel
theorem dX1_cellsOfHeight_30 : decode cX1_cellsOfHeight 30 = .ok (.lstore_n 2, 1) := by decide +kernel
theorem dX1_cellsOfHeight_31 : decode cX1_cellsOfHeight 31 = .ok (.iinc 4 1, 3) := by decide +kernel
theorem dX1_cellsOfHeight_34 : decode cX1_cellsOfHeight 34 = .ok (.goto (-29), 3) := by decide +kernel
theorem dX1_cellsOfHeight_37 : decode cX1_cellsOfHeight 37 = .ok (.lload_n 2, 1) := by decide +kernel
theorem dX1_cellsOfHeight_38 : decode cX1_cellsOfHeight 38 = .ok (.lreturn, 1) := by decide +kernel
set_option maxRecDepth 20000 in
theorem tkX1_cellsOfHeight : ∀ q ∈ tbX1_cellsOfHeight, xOk (Zm false yX1_cellsOfHeight.name) RX1 cX1_cellsOfHeight 5 (some .long) pT pY q :=
  fa_c (ok_p (xg_st _ _) (x_lconst dX1_cellsOfHeight_0 rfl)) <|
  fa_c (ok_p (xg_store _ _ _) (x_lstore_n dX1_cellsOfHeight_1 rfl)) <|
  fa_c (ok_p (xg_st _ _) (x_iconst dX1_cellsOfHeight_2 rfl)) <|
  fa_c (ok_p (xg_store _ _ _) (x_istore dX1_cellsOfHeight_3)) <|
  fa_c (ok_p (xg_load _ _ _) (x_iload dX1_cellsOfHeight_5)) <|
  fa_c (ok_p (xg_load _ _ _) (x_aload_n dX1_cellsOfHeight_7 rfl)) <|
  fa_c (ok_c pT_15 pY_15 (x_callV (n := 0) (C := RX1) (T := TX1) (N := 10) rfl rfl kw249 kw250 kw251 kw61 kw252 (by decide +kernel) dX1_cellsOfHeight_8)) <|
  fa_c (ok_p (xg_icmp _ _ _) (x_icmp_ge dX1_cellsOfHeight_11 (by decide))) <|
  fa_c (ok_p (xg_load _ _ _) (x_aload_n dX1_cellsOfHeight_14 rfl)) <|
  fa_c (ok_p (xg_load _ _ _) (x_iload dX1_cellsOfHeight_15)) <|
  fa_c (ok_c pT_18 pY_18 (x_callV (n := 1) (C := RX1) (T := TX1) (N := 10) rfl rfl kw305 kw306 kw307 kw61 kw308 (by decide +kernel) dX1_cellsOfHeight_17)) <|
  fa_c (ok_p (xg_load _ _ _) (x_iload_n dX1_cellsOfHeight_20 rfl)) <|
  fa_c (ok_p (xg_icmp _ _ _) (x_icmp_ne dX1_cellsOfHeight_21 (by decide))) <|
  fa_c (ok_p (xg_load _ _ _) (x_lload_n dX1_cellsOfHeight_24 rfl)) <|
  fa_c (ok_p (xg_st _ _) (x_lconst dX1_cellsOfHeight_25 rfl)) <|
  fa_c (ok_p (xg_load _ _ _) (x_iload dX1_cellsOfHeight_26)) <|
  fa_c (ok_p (xg_st _ _) (x_lshl dX1_cellsOfHeight_28)) <|
  fa_c (ok_p (xg_st _ _) (x_lor dX1_cellsOfHeight_29)) <|
  fa_c (ok_p (xg_store _ _ _) (x_lstore_n dX1_cellsOfHeight_30 rfl)) <|
  fa_c (ok_p (xg_iinc _ _ _) (x_iinc dX1_cellsOfHeight_31 rfl)) <|
  fa_c (ok_p (xg_st _ _) (x_goto dX1_cellsOfHeight_34 (by decide))) <|
  fa_c (ok_p (xg_load _ _ _) (x_lload_n dX1_cellsOfHeight_37 rfl)) <|
  fa_c (ok_r ⟨rfl, dX1_cellsOfHeight_38⟩) <|
  fa_n
theorem dX1_bordering_0 : decode cX1_bordering 0 = .ok (.lload_n 1, 1) := by decide +kernel
theorem dX1_bordering_1 : decode cX1_bordering 1 = .ok (.aload_n 0, 1) := by decide +kernel
theorem dX1_bordering_2 : decode cX1_bordering 2 = .ok (.aload_n 0, 1) := by decide +kernel
theorem dX1_bordering_3 : decode cX1_bordering 3 = .ok (.getfield 31, 3) := by decide +kernel
theorem dX1_bordering_6 : decode cX1_bordering 6 = .ok (.iconst 1, 1) := by decide +kernel
theorem dX1_bordering_7 : decode cX1_bordering 7 = .ok (.isub, 1) := by decide +kernel
theorem dX1_bordering_8 : decode cX1_bordering 8 = .ok (.invokevirtual 152, 3) := by decide +kernel
theorem dX1_bordering_11 : decode cX1_bordering 11 = .ok (.ldc2_w 117, 3) := by decide +kernel
theorem dX1_bordering_14 : decode cX1_bordering 14 = .ok (.lxor, 1) := by decide +kernel
theorem dX1_bordering_15 : decode cX1_bordering 15 = .ok (.land, 1) := by decide +kernel
theorem dX1_bordering_16 : decode cX1_bordering 16 = .ok (.lstore_n 3, 1) := by decide +kernel
theorem dX1_bordering_17 : decode cX1_bordering 17 = .ok (.lload_n 1, 1) := by decide +kernel
theorem dX1_bordering_18 : decode cX1_bordering 18 = .ok (.aload_n 0, 1) := by decide +kernel
theorem dX1_bordering_19 : decode cX1_bordering 19 = .ok (.iconst 0, 1) := by decide +kernel
theorem dX1_bordering_20 : decode cX1_bordering 20 = .ok (.invokevirtual 152, 3) := by decide +kernel
theorem dX1_bordering_23 : decode cX1_bordering 23 = .ok (.ldc2_w 117, 3) := by decide +kernel
theorem dX1_bordering_26 : decode cX1_bordering 26 = .ok (.lxor, 1) := by decide +kernel
theorem dX1_bordering_27 : decode cX1_bordering 27 = .ok (.land, 1) := by decide +kernel
theorem dX1_bordering_28 : decode cX1_bordering 28 = .ok (.lstore 5, 2) := by decide +kernel
theorem dX1_bordering_30 : decode cX1_bordering 30 = .ok (.lload_n 1, 1) := by decide +kernel
theorem dX1_bordering_31 : decode cX1_bordering 31 = .ok (.aload_n 0, 1) := by decide +kernel
theorem dX1_bordering_32 : decode cX1_bordering 32 = .ok (.getfield 31, 3) := by decide +kernel
theorem dX1_bordering_35 : decode cX1_bordering 35 = .ok (.lshl, 1) := by decide +kernel
theorem dX1_bordering_36 : decode cX1_bordering 36 = .ok (.lload_n 1, 1) := by decide +kernel
theorem dX1_bordering_37 : decode cX1_bordering 37 = .ok (.aload_n 0, 1) := by decide +kernel
theorem dX1_bordering_38 : decode cX1_bordering 38 = .ok (.getfield 31, 3) := by decide +kernel
theorem dX1_bordering_41 : decode cX1_bordering 41 = .ok (.lushr, 1) := by decide +kernel
theorem dX1_bordering_42 : decode cX1_bordering 42 = .ok (.lor, 1) := by decide +kernel
theorem dX1_bordering_43 : decode cX1_bordering 43 = .ok (.lload_n 3, 1) := by decide +kernel
theorem dX1_bordering_44 : decode cX1_bordering 44 = .ok (.iconst 1, 1) := by decide +kernel
theorem dX1_bordering_45 : decode cX1_bordering 45 = .ok (.lshl, 1) := by decide +kernel
theorem dX1_bordering_46 : decode cX1_bordering 46 = .ok (.lor, 1) := by decide +kernel
theorem dX1_bordering_47 : decode cX1_bordering 47 = .ok (.lload 5, 2) := by decide +kernel
theorem dX1_bordering_49 : decode cX1_bordering 49 = .ok (.iconst 1, 1) := by decide +kernel
theorem dX1_bordering_50 : decode cX1_bordering 50 = .ok (.lushr, 1) := by decide +kernel
theorem dX1_bordering_51 : decode cX1_bordering 51 = .ok (.lor, 1) := by decide +kernel
theorem dX1_bordering_52 : decode cX1_bordering 52 = .ok (.lreturn, 1) := by decide +kernel
set_option maxRecDepth 20000 in
theorem tkX1_bordering : ∀ q ∈ tbX1_bordering, xOk (Zm false yX1_bordering.name) RX1 cX1_bordering 7 (some .long) pT pY q :=
  fa_c (ok_p (xg_load _ _ _) (x_lload_n dX1_bordering_0 rfl)) <|
  fa_c (ok_p (xg_load _ _ _) (x_aload_n dX1_bordering_1 rfl)) <|
  fa_c (ok_p (xg_load _ _ _) (x_aload_n dX1_bordering_2 rfl)) <|
  fa_c (ok_p (xg_getf _ _ _) (x_getf (C := RX1) (T := TX1) (N := 10) rfl (by decide) inX1 kw104 dX1_bordering_3)) <|
  fa_c (ok_p (xg_st _ _) (x_iconst dX1_bordering_6 rfl)) <|
  fa_c (ok_p (xg_st _ _) (x_isub dX1_bordering_7)) <|
  fa_c (ok_c pT_47 pY_47 (x_callV (n := 1) (C := RX1) (T := TX1) (N := 10) rfl rfl kw477 kw479 kw13 kw61 kw480 (by decide +kernel) dX1_bordering_8)) <|
  fa_c (ok_p (xg_st _ _) (x_ldc2 dX1_bordering_11 kw425)) <|
  fa_c (ok_p (xg_st _ _) (x_lxor dX1_bordering_14)) <|
  fa_c (ok_p (xg_st _ _) (x_land dX1_bordering_15)) <|
  fa_c (ok_p (xg_store _ _ _) (x_lstore_n dX1_bordering_16 rfl)) <|
  fa_c (ok_p (xg_load _ _ _) (x_lload_n dX1_bordering_17 rfl)) <|
  fa_c (ok_p (xg_load _ _ _) (x_aload_n dX1_bordering_18 rfl)) <|
  fa_c (ok_p (xg_st _ _) (x_iconst dX1_bordering_19 rfl)) <|
  fa_c (ok_c pT_47 pY_47 (x_callV (n := 1) (C := RX1) (T := TX1) (N := 10) rfl rfl kw477 kw479 kw13 kw61 kw480 (by decide +kernel) dX1_bordering_20)) <|
  fa_c (ok_p (xg_st _ _) (x_ldc2 dX1_bordering_23 kw425)) <|
  fa_c (ok_p (xg_st _ _) (x_lxor dX1_bordering_26)) <|
  fa_c (ok_p (xg_st _ _) (x_land dX1_bordering_27)) <|
  fa_c (ok_p (xg_store _ _ _) (x_lstore dX1_bordering_28)) <|
  fa_c (ok_p (xg_load _ _ _) (x_lload_n dX1_bordering_30 rfl)) <|
  fa_c (ok_p (xg_load _ _ _) (x_aload_n dX1_bordering_31 rfl)) <|
  fa_c (ok_p (xg_getf _ _ _) (x_getf (C := RX1) (T := TX1) (N := 10) rfl (by decide) inX1 kw104 dX1_bordering_32)) <|
  fa_c (ok_p (xg_st _ _) (x_lshl dX1_bordering_35)) <|
  fa_c (ok_p (xg_load _ _ _) (x_lload_n dX1_bordering_36 rfl)) <|
  fa_c (ok_p (xg_load _ _ _) (x_aload_n dX1_bordering_37 rfl)) <|
  fa_c (ok_p (xg_getf _ _ _) (x_getf (C := RX1) (T := TX1) (N := 10) rfl (by decide) inX1 kw104 dX1_bordering_38)) <|
  fa_c (ok_p (xg_st _ _) (x_lushr dX1_bordering_41)) <|
  fa_c (ok_p (xg_st _ _) (x_lor dX1_bordering_42)) <|
  fa_c (ok_p (xg_load _ _ _) (x_lload_n dX1_bordering_43 rfl)) <|
  fa_c (ok_p (xg_st _ _) (x_iconst dX1_bordering_44 rfl)) <|
  fa_c (ok_p (xg_st _ _) (x_lshl dX1_bordering_45)) <|
  fa_c (ok_p (xg_st _ _) (x_lor dX1_bordering_46)) <|
  fa_c (ok_p (xg_load _ _ _) (x_lload dX1_bordering_47)) <|
  fa_c (ok_p (xg_st _ _) (x_iconst dX1_bordering_49 rfl)) <|
  fa_c (ok_p (xg_st _ _) (x_lushr dX1_bordering_50)) <|
  fa_c (ok_p (xg_st _ _) (x_lor dX1_bordering_51)) <|
  fa_c (ok_r ⟨rfl, dX1_bordering_52⟩) <|
  fa_n
theorem dX1_cellsOfColumn_0 : decode cX1_cellsOfColumn 0 = .ok (.lconst 0, 1) := by decide +kernel
theorem dX1_cellsOfColumn_1 : decode cX1_cellsOfColumn 1 = .ok (.lstore_n 2, 1) := by decide +kernel
theorem dX1_cellsOfColumn_2 : decode cX1_cellsOfColumn 2 = .ok (.iconst 0, 1) := by decide +kernel
theorem dX1_cellsOfColumn_3 : decode cX1_cellsOfColumn 3 = .ok (.istore 4, 2) := by decide +kernel
theorem dX1_cellsOfColumn_5 : decode cX1_cellsOfColumn 5 = .ok (.iload 4, 2) := by decide +kernel
theorem dX1_cellsOfColumn_7 : decode cX1_cellsOfColumn 7 = .ok (.aload_n 0, 1) := by decide +kernel
theorem dX1_cellsOfColumn_8 : decode cX1_cellsOfColumn 8 = .ok (.getfield 35, 3) := by decide +kernel
theorem dX1_cellsOfColumn_11 : decode cX1_cellsOfColumn 11 = .ok (.if_icmp .ge 23, 3) := by decide +kernel
theorem dX1_cellsOfColumn_14 : decode cX1_cellsOfColumn 14 = .ok (.lload_n 2, 1) := by decide +kernel
theorem dX1_cellsOfColumn_15 : decode cX1_cellsOfColumn 15 = .ok (.lconst 1, 1) := by decide +kernel
theorem dX1_cellsOfColumn_16 : decode cX1_cellsOfColumn 16 = .ok (.iload_n 1, 1) := by decide +kernel
theorem dX1_cellsOfColumn_17 : decode cX1_cellsOfColumn 17 = .ok (.aload_n 0, 1) := by decide +kernel
theorem dX1_cellsOfColumn_18 : decode cX1_cellsOfColumn 18 = .ok (.getfield 31, 3) := by decide +kernel
theorem dX1_cellsOfColumn_21 : decode cX1_cellsOfColumn 21 = .ok (.iload 4, 2) := by decide +kernel
theorem dX1_cellsOfColumn_23 : decode cX1_cellsOfColumn 23 = .ok (.imul, 1) := by decide +kernel
theorem dX1_cellsOfColumn_24 : decode cX1_cellsOfColumn 24 = .ok (.iadd, 1) := by decide +kernel
theorem dX1_cellsOfColumn_25 : decode cX1_cellsOfColumn 25 = .ok (.lshl, 1) := by decide +kernel
theorem dX1_cellsOfColumn_26 : decode cX1_cellsOfColumn 26 = .ok (.lor, 1) := by decide +kernel
theorem dX1_cellsOfColumn_27 : decode cX1_cellsOfColumn 27 = .ok (.lstore_n 2, 1) := by decide +kernel
theorem dX1_cellsOfColumn_28 : decode cX1_cellsOfColumn 28 = .ok (.iinc 4 1, 3) := by decide +kernel
theorem dX1_cellsOfColumn_31 : decode cX1_cellsOfColumn 31 = .ok (.goto (-26), 3) := by decide +kernel
theorem dX1_cellsOfColumn_34 : decode cX1_cellsOfColumn 34 = .ok (.lload_n 2, 1) := by decide +kernel
theorem dX1_cellsOfColumn_35 : decode cX1_cellsOfColumn 35 = .ok (.lreturn, 1) := by decide +kernel
set_option maxRecDepth 20000 in
theorem tkX1_cellsOfColumn : ∀ q ∈ tbX1_cellsOfColumn, xOk (Zm false yX1_cellsOfColumn.name) RX1 cX1_cellsOfColumn 5 (some .long) pT pY q :=
  fa_c (ok_p (xg_st _ _) (x_lconst dX1_cellsOfColumn_0 rfl)) <|
  fa_c (ok_p (xg_store _ _ _) (x_lstore_n dX1_cellsOfColumn_1 rfl)) <|
  fa_c (ok_p (xg_st _ _) (x_iconst dX1_cellsOfColumn_2 rfl)) <|
  fa_c (ok_p (xg_store _ _ _) (x_istore dX1_cellsOfColumn_3)) <|
  fa_c (ok_p (xg_load _ _ _) (x_iload dX1_cellsOfColumn_5)) <|
  fa_c (ok_p (xg_load _ _ _) (x_aload_n dX1_cellsOfColumn_7 rfl)) <|
  fa_c (ok_p (xg_getf _ _ _) (x_getf (C := RX1) (T := TX1) (N := 10) rfl (by decide) inX1 kw105 dX1_cellsOfColumn_8)) <|
  fa_c (ok_p (xg_icmp _ _ _) (x_icmp_ge dX1_cellsOfColumn_11 (by decide))) <|
  fa_c (ok_p (xg_load _ _ _) (x_lload_n dX1_cellsOfColumn_14 rfl)) <|
  fa_c (ok_p (xg_st _ _) (x_lconst dX1_cellsOfColumn_15 rfl)) <|
  fa_c (ok_p (xg_load _ _ _) (x_iload_n dX1_cellsOfColumn_16 rfl)) <|
  fa_c (ok_p (xg_load _ _ _) (x_aload_n dX1_cellsOfColumn_17 rfl)) <|
  fa_c (ok_p (xg_getf _ _ _) (x_getf (C := RX1) (T := TX1) (N := 10) rfl (by decide) inX1 kw104 dX1_cellsOfColumn_18)) <|
  fa_c (ok_p (xg_load _ _ _) (x_iload dX1_cellsOfColumn_21)) <|
  fa_c (ok_p (xg_st _ _) (x_imul dX1_cellsOfColumn_23)) <|
  fa_c (ok_p (xg_st _ _) (x_iadd dX1_cellsOfColumn_24)) <|
  fa_c (ok_p (xg_st _ _) (x_lshl dX1_cellsOfColumn_25)) <|
  fa_c (ok_p (xg_st _ _) (x_lor dX1_cellsOfColumn_26)) <|
  fa_c (ok_p (xg_store _ _ _) (x_lstore_n dX1_cellsOfColumn_27 rfl)) <|
  fa_c (ok_p (xg_iinc _ _ _) (x_iinc dX1_cellsOfColumn_28 rfl)) <|
  fa_c (ok_p (xg_st _ _) (x_goto dX1_cellsOfColumn_31 (by decide))) <|
  fa_c (ok_p (xg_load _ _ _) (x_lload_n dX1_cellsOfColumn_34 rfl)) <|
  fa_c (ok_r ⟨rfl, dX1_cellsOfColumn_35⟩) <|
  fa_n
theorem dX1_ofBegins_0 : decode cX1_ofBegins 0 = .ok (.iconst 0, 1) := by decide +kernel
theorem dX1_ofBegins_1 : decode cX1_ofBegins 1 = .ok (.istore 5, 2) := by decide +kernel
theorem dX1_ofBegins_3 : decode cX1_ofBegins 3 = .ok (.bipush (-9), 2) := by decide +kernel
theorem dX1_ofBegins_5 : decode cX1_ofBegins 5 = .ok (.istore 6, 2) := by decide +kernel
theorem dX1_ofBegins_7 : decode cX1_ofBegins 7 = .ok (.bipush (-9), 2) := by decide +kernel
theorem dX1_ofBegins_9 : decode cX1_ofBegins 9 = .ok (.istore 7, 2) := by decide +kernel
theorem dX1_ofBegins_11 : decode cX1_ofBegins 11 = .ok (.iconst 0, 1) := by decide +kernel
theorem dX1_ofBegins_12 : decode cX1_ofBegins 12 = .ok (.istore 8, 2) := by decide +kernel
theorem dX1_ofBegins_14 : decode cX1_ofBegins 14 = .ok (.iload 8, 2) := by decide +kernel
theorem dX1_ofBegins_16 : decode cX1_ofBegins 16 = .ok (.aload_n 0, 1) := by decide +kernel
theorem dX1_ofBegins_17 : decode cX1_ofBegins 17 = .ok (.invokevirtual 38, 3) := by decide +kernel
theorem dX1_ofBegins_20 : decode cX1_ofBegins 20 = .ok (.if_icmp .ge 49, 3) := by decide +kernel
theorem dX1_ofBegins_23 : decode cX1_ofBegins 23 = .ok (.aload_n 0, 1) := by decide +kernel
theorem dX1_ofBegins_24 : decode cX1_ofBegins 24 = .ok (.iload 8, 2) := by decide +kernel
theorem dX1_ofBegins_26 : decode cX1_ofBegins 26 = .ok (.invokevirtual 155, 3) := by decide +kernel
theorem dX1_ofBegins_29 : decode cX1_ofBegins 29 = .ok (.ifCond .eq 34, 3) := by decide +kernel
theorem dX1_ofBegins_32 : decode cX1_ofBegins 32 = .ok (.aload_n 0, 1) := by decide +kernel
theorem dX1_ofBegins_33 : decode cX1_ofBegins 33 = .ok (.iload 8, 2) := by decide +kernel
theorem dX1_ofBegins_35 : decode cX1_ofBegins 35 = .ok (.aload_n 1, 1) := by decide +kernel
theorem dX1_ofBegins_36 : decode cX1_ofBegins 36 = .ok (.iload_n 2, 1) := by decide +kernel
theorem dX1_ofBegins_37 : decode cX1_ofBegins 37 = .ok (.iload_n 3, 1) := by decide +kernel
theorem dX1_ofBegins_38 : decode cX1_ofBegins 38 = .ok (.invokevirtual 158, 3) := by decide +kernel
theorem dX1_ofBegins_41 : decode cX1_ofBegins 41 = .ok (.ifCond .ne 6, 3) := by decide +kernel
theorem dX1_ofBegins_44 : decode cX1_ofBegins 44 = .ok (.goto 19, 3) := by decide +kernel
theorem dX1_ofBegins_47 : decode cX1_ofBegins 47 = .ok (.iload 5, 2) := by decide +kernel
theorem dX1_ofBegins_49 : decode cX1_ofBegins 49 = .ok (.ifCond .ne 7, 3) := by decide +kernel
theorem dX1_ofBegins_52 : decode cX1_ofBegins 52 = .ok (.iload 8, 2) := by decide +kernel
theorem dX1_ofBegins_54 : decode cX1_ofBegins 54 = .ok (.istore 6, 2) := by decide +kernel
theorem dX1_ofBegins_56 : decode cX1_ofBegins 56 = .ok (.iload 8, 2) := by decide +kernel
theorem dX1_ofBegins_58 : decode cX1_ofBegins 58 = .ok (.istore 7, 2) := by decide +kernel
theorem dX1_ofBegins_60 : decode cX1_ofBegins 60 = .ok (.iinc 5 1, 3) := by decide +kernel
theorem dX1_ofBegins_63 : decode cX1_ofBegins 63 = .ok (.iinc 8 1, 3) := by decide +kernel
theorem dX1_ofBegins_66 : decode cX1_ofBegins 66 = .ok (.goto (-52), 3) := by decide +kernel
theorem dX1_ofBegins_69 : decode cX1_ofBegins 69 = .ok (.iload 4, 2) := by decide +kernel
theorem dX1_ofBegins_71 : decode cX1_ofBegins 71 = .ok (.ifCond .ne 6, 3) := by decide +kernel
theorem dX1_ofBegins_74 : decode cX1_ofBegins 74 = .ok (.iload 5, 2) := by decide +kernel
theorem dX1_ofBegins_76 : decode cX1_ofBegins 76 = .ok (.ireturn, 1) := by decide +kernel
theorem dX1_ofBegins_77 : decode cX1_ofBegins 77 = .ok (.iload 4, 2) := by decide +kernel
theorem dX1_ofBegins_79 : decode cX1_ofBegins 79 = .ok (.iconst 1, 1) := by decide +kernel
theorem dX1_ofBegins_80 : decode cX1_ofBegins 80 = .ok (.if_icmp .ne 8, 3) := by decide +kernel
theorem dX1_ofBegins_83 : decode cX1_ofBegins 83 = .ok (.iload 6, 2) := by decide +kernel
theorem dX1_ofBegins_85 : decode cX1_ofBegins 85 = .ok (.goto 5, 3) := by decide +kernel
theorem dX1_ofBegins_88 : decode cX1_ofBegins 88 = .ok (.iload 7, 2) := by decide +kernel
theorem dX1_ofBegins_90 : decode cX1_ofBegins 90 = .ok (.ireturn, 1) := by decide +kernel
set_option maxRecDepth 20000 in
theorem tkX1_ofBegins : ∀ q ∈ tbX1_ofBegins, xOk (Zm false yX1_ofBegins.name) RX1 cX1_ofBegins 9 (some .int) pT pY q :=
  fa_c (ok_p (xg_st _ _) (x_iconst dX1_ofBegins_0 rfl)) <|
  fa_c (ok_p (xg_store _ _ _) (x_istore dX1_ofBegins_1)) <|
  fa_c (ok_p (xg_st _ _) (x_bipush dX1_ofBegins_3 rfl)) <|
  fa_c (ok_p (xg_store _ _ _) (x_istore dX1_ofBegins_5)) <|
  fa_c (ok_p (xg_st _ _) (x_bipush dX1_ofBegins_7 rfl)) <|
  fa_c (ok_p (xg_store _ _ _) (x_istore dX1_ofBegins_9)) <|
  fa_c (ok_p (xg_st _ _) (x_iconst dX1_ofBegins_11 rfl)) <|
  fa_c (ok_p (xg_store _ _ _) (x_istore dX1_ofBegins_12)) <|
  fa_c (ok_p (xg_load _ _ _) (x_iload dX1_ofBegins_14)) <|
  fa_c (ok_p (xg_load _ _ _) (x_aload_n dX1_ofBegins_16 rfl)) <|
  fa_c (ok_c pT_15 pY_15 (x_callV (n := 0) (C := RX1) (T := TX1) (N := 10) rfl rfl kw249 kw250 kw251 kw61 kw252 (by decide +kernel) dX1_ofBegins_17)) <|
  fa_c (ok_p (xg_icmp _ _ _) (x_icmp_ge dX1_ofBegins_20 (by decide))) <|
  fa_c (ok_p (xg_load _ _ _) (x_aload_n dX1_ofBegins_23 rfl)) <|
  fa_c (ok_p (xg_load _ _ _) (x_iload dX1_ofBegins_24)) <|
  fa_c (ok_c pT_33 pY_33 (x_callV (n := 1) (C := RX1) (T := TX1) (N := 10) rfl rfl kw489 kw491 kw14 kw61 kw492 (by decide +kernel) dX1_ofBegins_26)) <|
  fa_c (ok_p (xg_if _ _ _) (x_if_eq dX1_ofBegins_29 (by decide))) <|
  fa_c (ok_p (xg_load _ _ _) (x_aload_n dX1_ofBegins_32 rfl)) <|
  fa_c (ok_p (xg_load _ _ _) (x_iload dX1_ofBegins_33)) <|
  fa_c (ok_p (xg_load _ _ _) (x_aload_n dX1_ofBegins_35 rfl)) <|
  fa_c (ok_p (xg_load _ _ _) (x_iload_n dX1_ofBegins_36 rfl)) <|
  fa_c (ok_p (xg_load _ _ _) (x_iload_n dX1_ofBegins_37 rfl)) <|
  fa_c (ok_c pT_49 pY_49 (x_callV (n := 4) (C := RX1) (T := TX1) (N := 10) rfl rfl kw494 kw496 kw15 kw61 kw497 (by decide +kernel) dX1_ofBegins_38)) <|
  fa_c (ok_p (xg_if _ _ _) (x_if_ne dX1_ofBegins_41 (by decide))) <|
  fa_c (ok_p (xg_st _ _) (x_goto dX1_ofBegins_44 (by decide))) <|
  fa_c (ok_p (xg_load _ _ _) (x_iload dX1_ofBegins_47)) <|
  fa_c (ok_p (xg_if _ _ _) (x_if_ne dX1_ofBegins_49 (by decide))) <|
  fa_c (ok_p (xg_load _ _ _) (x_iload dX1_ofBegins_52)) <|
  fa_c (ok_p (xg_store _ _ _) (x_istore dX1_ofBegins_54)) <|
  fa_c (ok_p (xg_load _ _ _) (x_iload dX1_ofBegins_56)) <|
  fa_c (ok_p (xg_store _ _ _) (x_istore dX1_ofBegins_58)) <|
  fa_c (ok_p (xg_iinc _ _ _) (x_iinc dX1_ofBegins_60 rfl)) <|
  fa_c (ok_p (xg_iinc _ _ _) (x_iinc dX1_ofBegins_63 rfl)) <|
  fa_c (ok_p (xg_st _ _) (x_goto dX1_ofBegins_66 (by decide))) <|
  fa_c (ok_p (xg_load _ _ _) (x_iload dX1_ofBegins_69)) <|
  fa_c (ok_p (xg_if _ _ _) (x_if_ne dX1_ofBegins_71 (by decide))) <|
  fa_c (ok_p (xg_load _ _ _) (x_iload dX1_ofBegins_74)) <|
  fa_c (ok_r ⟨rfl, dX1_ofBegins_76⟩) <|
  fa_c (ok_p (xg_load _ _ _) (x_iload dX1_ofBegins_77)) <|
  fa_c (ok_p (xg_st _ _) (x_iconst dX1_ofBegins_79 rfl)) <|
  fa_c (ok_p (xg_icmp _ _ _) (x_icmp_ne dX1_ofBegins_80 (by decide))) <|
  fa_c (ok_p (xg_load _ _ _) (x_iload dX1_ofBegins_83)) <|
  fa_c (ok_p (xg_st _ _) (x_goto dX1_ofBegins_85 (by decide))) <|
  fa_c (ok_p (xg_load _ _ _) (x_iload dX1_ofBegins_88)) <|
  fa_c (ok_r ⟨rfl, dX1_ofBegins_90⟩) <|
  fa_n
theorem dX1_isToldFrom_0 : decode cX1_isToldFrom 0 = .ok (.iload_n 1, 1) := by decide +kernel
theorem dX1_isToldFrom_1 : decode cX1_isToldFrom 1 = .ok (.istore 5, 2) := by decide +kernel
theorem dX1_isToldFrom_3 : decode cX1_isToldFrom 3 = .ok (.iconst 0, 1) := by decide +kernel
theorem dX1_isToldFrom_4 : decode cX1_isToldFrom 4 = .ok (.istore 6, 2) := by decide +kernel
theorem dX1_isToldFrom_6 : decode cX1_isToldFrom 6 = .ok (.iload 6, 2) := by decide +kernel
theorem dX1_isToldFrom_8 : decode cX1_isToldFrom 8 = .ok (.iload_n 3, 1) := by decide +kernel
theorem dX1_isToldFrom_9 : decode cX1_isToldFrom 9 = .ok (.if_icmp .ge 50, 3) := by decide +kernel
theorem dX1_isToldFrom_12 : decode cX1_isToldFrom 12 = .ok (.iload 6, 2) := by decide +kernel
theorem dX1_isToldFrom_14 : decode cX1_isToldFrom 14 = .ok (.ifCond .le 13, 3) := by decide +kernel
theorem dX1_isToldFrom_17 : decode cX1_isToldFrom 17 = .ok (.aload_n 0, 1) := by decide +kernel
theorem dX1_isToldFrom_18 : decode cX1_isToldFrom 18 = .ok (.iload 5, 2) := by decide +kernel
theorem dX1_isToldFrom_20 : decode cX1_isToldFrom 20 = .ok (.iload 4, 2) := by decide +kernel
theorem dX1_isToldFrom_22 : decode cX1_isToldFrom 22 = .ok (.invokevirtual 108, 3) := by decide +kernel
theorem dX1_isToldFrom_25 : decode cX1_isToldFrom 25 = .ok (.istore 5, 2) := by decide +kernel
theorem dX1_isToldFrom_27 : decode cX1_isToldFrom 27 = .ok (.iload 5, 2) := by decide +kernel
theorem dX1_isToldFrom_29 : decode cX1_isToldFrom 29 = .ok (.bipush (-9), 2) := by decide +kernel
theorem dX1_isToldFrom_31 : decode cX1_isToldFrom 31 = .ok (.if_icmp .eq 20, 3) := by decide +kernel
theorem dX1_isToldFrom_34 : decode cX1_isToldFrom 34 = .ok (.aload_n 0, 1) := by decide +kernel
theorem dX1_isToldFrom_35 : decode cX1_isToldFrom 35 = .ok (.iload 5, 2) := by decide +kernel
theorem dX1_isToldFrom_37 : decode cX1_isToldFrom 37 = .ok (.aload_n 2, 1) := by decide +kernel
theorem dX1_isToldFrom_38 : decode cX1_isToldFrom 38 = .ok (.iload 6, 2) := by decide +kernel
theorem dX1_isToldFrom_40 : decode cX1_isToldFrom 40 = .ok (.aload_n 0, 1) := by decide +kernel
theorem dX1_isToldFrom_41 : decode cX1_isToldFrom 41 = .ok (.getfield 46, 3) := by decide +kernel
theorem dX1_isToldFrom_44 : decode cX1_isToldFrom 44 = .ok (.imul, 1) := by decide +kernel
theorem dX1_isToldFrom_45 : decode cX1_isToldFrom 45 = .ok (.invokevirtual 162, 3) := by decide +kernel
theorem dX1_isToldFrom_48 : decode cX1_isToldFrom 48 = .ok (.ifCond .ne 5, 3) := by decide +kernel
theorem dX1_isToldFrom_51 : decode cX1_isToldFrom 51 = .ok (.iconst 0, 1) := by decide +kernel
theorem dX1_isToldFrom_52 : decode cX1_isToldFrom 52 = .ok (.ireturn, 1) := by decide +kernel
theorem dX1_isToldFrom_53 : decode cX1_isToldFrom 53 = .ok (.iinc 6 1, 3) := by decide +kernel
theorem dX1_isToldFrom_56 : decode cX1_isToldFrom 56 = .ok (.goto (-50), 3) := by decide +kernel
theorem dX1_isToldFrom_59 : decode cX1_isToldFrom 59 = .ok (.iconst 1, 1) := by decide +kernel
theorem dX1_isToldFrom_60 : decode cX1_isToldFrom 60 = .ok (.ireturn, 1) := by decide +kernel
set_option maxRecDepth 20000 in
theorem tkX1_isToldFrom : ∀ q ∈ tbX1_isToldFrom, xOk (Zm false yX1_isToldFrom.name) RX1 cX1_isToldFrom 7 (some .boolean) pT pY q :=
  fa_c (ok_p (xg_load _ _ _) (x_iload_n dX1_isToldFrom_0 rfl)) <|
  fa_c (ok_p (xg_store _ _ _) (x_istore dX1_isToldFrom_1)) <|
  fa_c (ok_p (xg_st _ _) (x_iconst dX1_isToldFrom_3 rfl)) <|
  fa_c (ok_p (xg_store _ _ _) (x_istore dX1_isToldFrom_4)) <|
  fa_c (ok_p (xg_clr _ (xg_load _ _ _)) (x_clr _ (x_iload dX1_isToldFrom_6))) <|
  fa_c (ok_p (xg_load _ _ _) (x_iload_n dX1_isToldFrom_8 rfl)) <|
  fa_c (ok_p (xg_icmp _ _ _) (x_icmp_ge dX1_isToldFrom_9 (by decide))) <|
  fa_c (ok_p (xg_load _ _ _) (x_iload dX1_isToldFrom_12)) <|
  fa_c (ok_p (xg_if _ _ _) (x_if_le dX1_isToldFrom_14 (by decide))) <|
  fa_c (ok_p (xg_load _ _ _) (x_aload_n dX1_isToldFrom_17 rfl)) <|
  fa_c (ok_p (xg_load _ _ _) (x_iload dX1_isToldFrom_18)) <|
  fa_c (ok_p (xg_load _ _ _) (x_iload dX1_isToldFrom_20)) <|
  fa_c (ok_c pT_34 pY_34 (x_callV (n := 2) (C := RX1) (T := TX1) (N := 10) rfl rfl kw414 kw384 kw385 kw61 kw386 (by decide +kernel) dX1_isToldFrom_22)) <|
  fa_c (ok_p (xg_store _ _ _) (x_istore dX1_isToldFrom_25)) <|
  fa_c (ok_p (xg_load _ _ _) (x_iload dX1_isToldFrom_27)) <|
  fa_c (ok_p (xg_st _ _) (x_bipush dX1_isToldFrom_29 rfl)) <|
  fa_c (ok_p (xg_icmp _ _ _) (x_icmp_eq dX1_isToldFrom_31 (by decide))) <|
  fa_c (ok_p (xg_load _ _ _) (x_aload_n dX1_isToldFrom_34 rfl)) <|
  fa_c (ok_p (xg_load _ _ _) (x_iload dX1_isToldFrom_35)) <|
  fa_c (ok_p (xg_load _ _ _) (x_aload_n dX1_isToldFrom_37 rfl)) <|
  fa_c (ok_p (xg_load _ _ _) (x_iload dX1_isToldFrom_38)) <|
  fa_c (ok_p (xg_load _ _ _) (x_aload_n dX1_isToldFrom_40 rfl)) <|
  fa_c (ok_p (xg_getf _ _ _) (x_getf (C := RX1) (T := TX1) (N := 10) rfl (by decide) inX1 kw106 dX1_isToldFrom_41)) <|
  fa_c (ok_p (xg_st _ _) (x_imul dX1_isToldFrom_44)) <|
  fa_c (ok_c pT_50 pY_50 (x_callV (n := 3) (C := RX1) (T := TX1) (N := 10) rfl rfl kw498 kw500 kw16 kw61 kw501 (by decide +kernel) dX1_isToldFrom_45)) <|
  fa_c (ok_p (xg_if _ _ _) (x_if_ne dX1_isToldFrom_48 (by decide))) <|
  fa_c (ok_p (xg_st _ _) (x_iconst dX1_isToldFrom_51 rfl)) <|
  fa_c (ok_r ⟨rfl, dX1_isToldFrom_52⟩) <|
  fa_c (ok_p (xg_iinc _ _ _) (x_iinc dX1_isToldFrom_53 rfl)) <|
  fa_c (ok_p (xg_st _ _) (x_goto dX1_isToldFrom_56 (by decide))) <|
  fa_c (ok_p (xg_st _ _) (x_iconst dX1_isToldFrom_59 rfl)) <|
  fa_c (ok_r ⟨rfl, dX1_isToldFrom_60⟩) <|
  fa_n
theorem dX1_isToldAt_0 : decode cX1_isToldAt 0 = .ok (.iconst 0, 1) := by decide +kernel
theorem dX1_isToldAt_1 : decode cX1_isToldAt 1 = .ok (.istore 4, 2) := by decide +kernel
theorem dX1_isToldAt_3 : decode cX1_isToldAt 3 = .ok (.iload 4, 2) := by decide +kernel
theorem dX1_isToldAt_5 : decode cX1_isToldAt 5 = .ok (.aload_n 0, 1) := by decide +kernel
theorem dX1_isToldAt_6 : decode cX1_isToldAt 6 = .ok (.getfield 46, 3) := by decide +kernel
theorem dX1_isToldAt_9 : decode cX1_isToldAt 9 = .ok (.if_icmp .ge 41, 3) := by decide +kernel
theorem dX1_isToldAt_12 : decode cX1_isToldAt 12 = .ok (.aload_n 0, 1) := by decide +kernel
theorem dX1_isToldAt_13 : decode cX1_isToldAt 13 = .ok (.iload 4, 2) := by decide +kernel
theorem dX1_isToldAt_15 : decode cX1_isToldAt 15 = .ok (.invokevirtual 124, 3) := by decide +kernel
theorem dX1_isToldAt_18 : decode cX1_isToldAt 18 = .ok (.ifCond .ne 26, 3) := by decide +kernel
theorem dX1_isToldAt_21 : decode cX1_isToldAt 21 = .ok (.aload_n 0, 1) := by decide +kernel
theorem dX1_isToldAt_22 : decode cX1_isToldAt 22 = .ok (.iload 4, 2) := by decide +kernel
theorem dX1_isToldAt_24 : decode cX1_isToldAt 24 = .ok (.iload_n 1, 1) := by decide +kernel
theorem dX1_isToldAt_25 : decode cX1_isToldAt 25 = .ok (.iload 4, 2) := by decide +kernel
theorem dX1_isToldAt_27 : decode cX1_isToldAt 27 = .ok (.iadd, 1) := by decide +kernel
theorem dX1_isToldAt_28 : decode cX1_isToldAt 28 = .ok (.invokevirtual 127, 3) := by decide +kernel
theorem dX1_isToldAt_31 : decode cX1_isToldAt 31 = .ok (.aload_n 2, 1) := by decide +kernel
theorem dX1_isToldAt_32 : decode cX1_isToldAt 32 = .ok (.iload_n 3, 1) := by decide +kernel
theorem dX1_isToldAt_33 : decode cX1_isToldAt 33 = .ok (.iload 4, 2) := by decide +kernel
theorem dX1_isToldAt_35 : decode cX1_isToldAt 35 = .ok (.iadd, 1) := by decide +kernel
theorem dX1_isToldAt_36 : decode cX1_isToldAt 36 = .ok (.invokestatic 23, 3) := by decide +kernel
theorem dX1_isToldAt_39 : decode cX1_isToldAt 39 = .ok (.if_icmp .eq 5, 3) := by decide +kernel
theorem dX1_isToldAt_42 : decode cX1_isToldAt 42 = .ok (.iconst 0, 1) := by decide +kernel
theorem dX1_isToldAt_43 : decode cX1_isToldAt 43 = .ok (.ireturn, 1) := by decide +kernel
theorem dX1_isToldAt_44 : decode cX1_isToldAt 44 = .ok (.iinc 4 1, 3) := by decide +kernel
theorem dX1_isToldAt_47 : decode cX1_isToldAt 47 = .ok (.goto (-44), 3) := by decide +kernel
theorem dX1_isToldAt_50 : decode cX1_isToldAt 50 = .ok (.iconst 1, 1) := by decide +kernel
theorem dX1_isToldAt_51 : decode cX1_isToldAt 51 = .ok (.ireturn, 1) := by decide +kernel
set_option maxRecDepth 20000 in
theorem tkX1_isToldAt : ∀ q ∈ tbX1_isToldAt, xOk (Zm false yX1_isToldAt.name) RX1 cX1_isToldAt 5 (some .boolean) pT pY q :=
  fa_c (ok_p (xg_st _ _) (x_iconst dX1_isToldAt_0 rfl)) <|
  fa_c (ok_p (xg_store _ _ _) (x_istore dX1_isToldAt_1)) <|
  fa_c (ok_p (xg_load _ _ _) (x_iload dX1_isToldAt_3)) <|
  fa_c (ok_p (xg_load _ _ _) (x_aload_n dX1_isToldAt_5 rfl)) <|
  fa_c (ok_p (xg_getf _ _ _) (x_getf (C := RX1) (T := TX1) (N := 10) rfl (by decide) inX1 kw106 dX1_isToldAt_6)) <|
  fa_c (ok_p (xg_icmp _ _ _) (x_icmp_ge dX1_isToldAt_9 (by decide))) <|
  fa_c (ok_p (xg_load _ _ _) (x_aload_n dX1_isToldAt_12 rfl)) <|
  fa_c (ok_p (xg_load _ _ _) (x_iload dX1_isToldAt_13)) <|
  fa_c (ok_c pT_23 pY_23 (x_callV (n := 1) (C := RX1) (T := TX1) (N := 10) rfl rfl kw419 kw292 kw293 kw61 kw294 (by decide +kernel) dX1_isToldAt_15)) <|
  fa_c (ok_p (xg_if _ _ _) (x_if_ne dX1_isToldAt_18 (by decide))) <|
  fa_c (ok_p (xg_load _ _ _) (x_aload_n dX1_isToldAt_21 rfl)) <|
  fa_c (ok_p (xg_load _ _ _) (x_iload dX1_isToldAt_22)) <|
  fa_c (ok_p (xg_load _ _ _) (x_iload_n dX1_isToldAt_24 rfl)) <|
  fa_c (ok_p (xg_load _ _ _) (x_iload dX1_isToldAt_25)) <|
  fa_c (ok_p (xg_st _ _) (x_iadd dX1_isToldAt_27)) <|
  fa_c (ok_c pT_29 pY_29 (x_callV (n := 2) (C := RX1) (T := TX1) (N := 10) rfl rfl kw420 kw300 kw301 kw61 kw302 (by decide +kernel) dX1_isToldAt_28)) <|
  fa_c (ok_p (xg_load _ _ _) (x_aload_n dX1_isToldAt_31 rfl)) <|
  fa_c (ok_p (xg_load _ _ _) (x_iload_n dX1_isToldAt_32 rfl)) <|
  fa_c (ok_p (xg_load _ _ _) (x_iload dX1_isToldAt_33)) <|
  fa_c (ok_p (xg_st _ _) (x_iadd dX1_isToldAt_35)) <|
  fa_c (ok_c pT_119 pY_119 (x_callSN (n := 2) (host := "HullCharts") rfl (by decide +kernel) kw208 kw59 kw209 (by decide +kernel) dX1_isToldAt_36)) <|
  fa_c (ok_p (xg_icmp _ _ _) (x_icmp_eq dX1_isToldAt_39 (by decide))) <|
  fa_c (ok_p (xg_st _ _) (x_iconst dX1_isToldAt_42 rfl)) <|
  fa_c (ok_r ⟨rfl, dX1_isToldAt_43⟩) <|
  fa_c (ok_p (xg_iinc _ _ _) (x_iinc dX1_isToldAt_44 rfl)) <|
  fa_c (ok_p (xg_st _ _) (x_goto dX1_isToldAt_47 (by decide))) <|
  fa_c (ok_p (xg_st _ _) (x_iconst dX1_isToldAt_50 rfl)) <|
  fa_c (ok_r ⟨rfl, dX1_isToldAt_51⟩) <|
  fa_n
theorem dX1_places_0 : decode cX1_places 0 = .ok (.aload_n 0, 1) := by decide +kernel
theorem dX1_places_1 : decode cX1_places 1 = .ok (.getfield 31, 3) := by decide +kernel
theorem dX1_places_4 : decode cX1_places 4 = .ok (.aload_n 0, 1) := by decide +kernel
theorem dX1_places_5 : decode cX1_places 5 = .ok (.getfield 46, 3) := by decide +kernel
theorem dX1_places_8 : decode cX1_places 8 = .ok (.isub, 1) := by decide +kernel
theorem dX1_places_9 : decode cX1_places 9 = .ok (.iconst 1, 1) := by decide +kernel
theorem dX1_places_10 : decode cX1_places 10 = .ok (.iadd, 1) := by decide +kernel
theorem dX1_places_11 : decode cX1_places 11 = .ok (.aload_n 0, 1) := by decide +kernel
theorem dX1_places_12 : decode cX1_places 12 = .ok (.getfield 35, 3) := by decide +kernel
theorem dX1_places_15 : decode cX1_places 15 = .ok (.imul, 1) := by decide +kernel
theorem dX1_places_16 : decode cX1_places 16 = .ok (.ireturn, 1) := by decide +kernel
set_option maxRecDepth 20000 in
theorem tkX1_places : ∀ q ∈ tbX1_places, xOk (Zm false yX1_places.name) RX1 cX1_places 1 (some .int) pT pY q :=
  fa_c (ok_p (xg_load _ _ _) (x_aload_n dX1_places_0 rfl)) <|
  fa_c (ok_p (xg_getf _ _ _) (x_getf (C := RX1) (T := TX1) (N := 10) rfl (by decide) inX1 kw104 dX1_places_1)) <|
  fa_c (ok_p (xg_load _ _ _) (x_aload_n dX1_places_4 rfl)) <|
  fa_c (ok_p (xg_getf _ _ _) (x_getf (C := RX1) (T := TX1) (N := 10) rfl (by decide) inX1 kw106 dX1_places_5)) <|
  fa_c (ok_p (xg_st _ _) (x_isub dX1_places_8)) <|
  fa_c (ok_p (xg_st _ _) (x_iconst dX1_places_9 rfl)) <|
  fa_c (ok_p (xg_st _ _) (x_iadd dX1_places_10)) <|
  fa_c (ok_p (xg_load _ _ _) (x_aload_n dX1_places_11 rfl)) <|
  fa_c (ok_p (xg_getf _ _ _) (x_getf (C := RX1) (T := TX1) (N := 10) rfl (by decide) inX1 kw105 dX1_places_12)) <|
  fa_c (ok_p (xg_st _ _) (x_imul dX1_places_15)) <|
  fa_c (ok_r ⟨rfl, dX1_places_16⟩) <|
  fa_n
theorem dX1_placesWhereTold_0 : decode cX1_placesWhereTold 0 = .ok (.iconst 0, 1) := by decide +kernel
theorem dX1_placesWhereTold_1 : decode cX1_placesWhereTold 1 = .ok (.istore_n 3, 1) := by decide +kernel
theorem dX1_placesWhereTold_2 : decode cX1_placesWhereTold 2 = .ok (.iconst 0, 1) := by decide +kernel
theorem dX1_placesWhereTold_3 : decode cX1_placesWhereTold 3 = .ok (.istore 4, 2) := by decide +kernel
theorem dX1_placesWhereTold_5 : decode cX1_placesWhereTold 5 = .ok (.iload 4, 2) := by decide +kernel
theorem dX1_placesWhereTold_7 : decode cX1_placesWhereTold 7 = .ok (.aload_n 0, 1) := by decide +kernel
theorem dX1_placesWhereTold_8 : decode cX1_placesWhereTold 8 = .ok (.invokevirtual 38, 3) := by decide +kernel
theorem dX1_placesWhereTold_11 : decode cX1_placesWhereTold 11 = .ok (.if_icmp .ge 34, 3) := by decide +kernel
theorem dX1_placesWhereTold_14 : decode cX1_placesWhereTold 14 = .ok (.aload_n 0, 1) := by decide +kernel
theorem dX1_placesWhereTold_15 : decode cX1_placesWhereTold 15 = .ok (.iload 4, 2) := by decide +kernel
theorem dX1_placesWhereTold_17 : decode cX1_placesWhereTold 17 = .ok (.invokevirtual 155, 3) := by decide +kernel
theorem dX1_placesWhereTold_20 : decode cX1_placesWhereTold 20 = .ok (.ifCond .eq 19, 3) := by decide +kernel
theorem dX1_placesWhereTold_23 : decode cX1_placesWhereTold 23 = .ok (.aload_n 0, 1) := by decide +kernel
theorem dX1_placesWhereTold_24 : decode cX1_placesWhereTold 24 = .ok (.iload_n 1, 1) := by decide +kernel
theorem dX1_placesWhereTold_25 : decode cX1_placesWhereTold 25 = .ok (.iload 4, 2) := by decide +kernel
theorem dX1_placesWhereTold_27 : decode cX1_placesWhereTold 27 = .ok (.iload_n 1, 1) := by decide +kernel
theorem dX1_placesWhereTold_28 : decode cX1_placesWhereTold 28 = .ok (.iadd, 1) := by decide +kernel
theorem dX1_placesWhereTold_29 : decode cX1_placesWhereTold 29 = .ok (.invokevirtual 127, 3) := by decide +kernel
theorem dX1_placesWhereTold_32 : decode cX1_placesWhereTold 32 = .ok (.iload_n 2, 1) := by decide +kernel
theorem dX1_placesWhereTold_33 : decode cX1_placesWhereTold 33 = .ok (.if_icmp .lt 6, 3) := by decide +kernel
theorem dX1_placesWhereTold_36 : decode cX1_placesWhereTold 36 = .ok (.iinc 3 1, 3) := by decide +kernel
theorem dX1_placesWhereTold_39 : decode cX1_placesWhereTold 39 = .ok (.iinc 4 1, 3) := by decide +kernel
theorem dX1_placesWhereTold_42 : decode cX1_placesWhereTold 42 = .ok (.goto (-37), 3) := by decide +kernel
theorem dX1_placesWhereTold_45 : decode cX1_placesWhereTold 45 = .ok (.iload_n 3, 1) := by decide +kernel
theorem dX1_placesWhereTold_46 : decode cX1_placesWhereTold 46 = .ok (.ireturn, 1) := by decide +kernel
set_option maxRecDepth 20000 in
theorem tkX1_placesWhereTold : ∀ q ∈ tbX1_placesWhereTold, xOk (Zm false yX1_placesWhereTold.name) RX1 cX1_placesWhereTold 5 (some .int) pT pY q :=
  fa_c (ok_p (xg_st _ _) (x_iconst dX1_placesWhereTold_0 rfl)) <|
  fa_c (ok_p (xg_store _ _ _) (x_istore_n dX1_placesWhereTold_1 rfl)) <|
  fa_c (ok_p (xg_st _ _) (x_iconst dX1_placesWhereTold_2 rfl)) <|
  fa_c (ok_p (xg_store _ _ _) (x_istore dX1_placesWhereTold_3)) <|
  fa_c (ok_p (xg_load _ _ _) (x_iload dX1_placesWhereTold_5)) <|
  fa_c (ok_p (xg_load _ _ _) (x_aload_n dX1_placesWhereTold_7 rfl)) <|
  fa_c (ok_c pT_15 pY_15 (x_callV (n := 0) (C := RX1) (T := TX1) (N := 10) rfl rfl kw249 kw250 kw251 kw61 kw252 (by decide +kernel) dX1_placesWhereTold_8)) <|
  fa_c (ok_p (xg_icmp _ _ _) (x_icmp_ge dX1_placesWhereTold_11 (by decide))) <|
  fa_c (ok_p (xg_load _ _ _) (x_aload_n dX1_placesWhereTold_14 rfl)) <|
  fa_c (ok_p (xg_load _ _ _) (x_iload dX1_placesWhereTold_15)) <|
  fa_c (ok_c pT_33 pY_33 (x_callV (n := 1) (C := RX1) (T := TX1) (N := 10) rfl rfl kw489 kw491 kw14 kw61 kw492 (by decide +kernel) dX1_placesWhereTold_17)) <|
  fa_c (ok_p (xg_if _ _ _) (x_if_eq dX1_placesWhereTold_20 (by decide))) <|
  fa_c (ok_p (xg_load _ _ _) (x_aload_n dX1_placesWhereTold_23 rfl)) <|
  fa_c (ok_p (xg_load _ _ _) (x_iload_n dX1_placesWhereTold_24 rfl)) <|
  fa_c (ok_p (xg_load _ _ _) (x_iload dX1_placesWhereTold_25)) <|
  fa_c (ok_p (xg_load _ _ _) (x_iload_n dX1_placesWhereTold_27 rfl)) <|
  fa_c (ok_p (xg_st _ _) (x_iadd dX1_placesWhereTold_28)) <|
  fa_c (ok_c pT_29 pY_29 (x_callV (n := 2) (C := RX1) (T := TX1) (N := 10) rfl rfl kw420 kw300 kw301 kw61 kw302 (by decide +kernel) dX1_placesWhereTold_29)) <|
  fa_c (ok_p (xg_load _ _ _) (x_iload_n dX1_placesWhereTold_32 rfl)) <|
  fa_c (ok_p (xg_icmp _ _ _) (x_icmp_lt dX1_placesWhereTold_33 (by decide))) <|
  fa_c (ok_p (xg_iinc _ _ _) (x_iinc dX1_placesWhereTold_36 rfl)) <|
  fa_c (ok_p (xg_iinc _ _ _) (x_iinc dX1_placesWhereTold_39 rfl)) <|
  fa_c (ok_p (xg_st _ _) (x_goto dX1_placesWhereTold_42 (by decide))) <|
  fa_c (ok_p (xg_load _ _ _) (x_iload_n dX1_placesWhereTold_45 rfl)) <|
  fa_c (ok_r ⟨rfl, dX1_placesWhereTold_46⟩) <|
  fa_n
