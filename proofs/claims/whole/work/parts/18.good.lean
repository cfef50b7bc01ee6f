/-! all of them -/
def xGd (j : Nat) : Prop := ∀ M : Nat × Bool × pM, pT j = some M → plainName (pY j).1.cls = true ∧ ∀ q ∈ M.2.2, xOk (Zm M.2.1 (pY j).1.name) (pY j).1.cls (pY j).2.1 M.1 (pY j).2.2 pT pY q
theorem gd_0 : xGd 0 := fun M h => by
  cases (pT_0.symm.trans h)
  exact ⟨by decide +kernel, tkX0_init⟩
theorem gd_1 : xGd 1 := fun M h => by
  cases (pT_1.symm.trans h)
  exact ⟨by decide +kernel, tkX0_count⟩
theorem gd_2 : xGd 2 := fun M h => by
  cases (pT_2.symm.trans h)
  exact ⟨by decide +kernel, tkX0_areFull⟩
theorem gd_3 : xGd 3 := fun M h => by
  cases (pT_3.symm.trans h)
  exact ⟨by decide +kernel, tkX0_add⟩
theorem gd_4 : xGd 4 := fun M h => by
  cases (pT_4.symm.trans h)
  exact ⟨by decide +kernel, tkX0_keep⟩
theorem gd_5 : xGd 5 := fun M h => by
  cases (pT_5.symm.trans h)
  exact ⟨by decide +kernel, tkX0_areSo⟩
theorem gd_6 : xGd 6 := fun M h => by
  cases (pT_6.symm.trans h)
  exact ⟨by decide +kernel, tkX1_init⟩
theorem gd_7 : xGd 7 := fun M h => by
  cases (pT_7.symm.trans h)
  exact ⟨by decide +kernel, tkX1_beginBy⟩
theorem gd_8 : xGd 8 := fun M h => by
  cases (pT_8.symm.trans h)
  exact ⟨by decide +kernel, tkX1_exists⟩
theorem gd_9 : xGd 9 := fun M h => by
  cases (pT_9.symm.trans h)
  exact ⟨by decide +kernel, tkX1_columns⟩
theorem gd_10 : xGd 10 := fun M h => by
  cases (pT_10.symm.trans h)
  exact ⟨by decide +kernel, tkX1_rows⟩
theorem gd_11 : xGd 11 := fun M h => by
  cases (pT_11.symm.trans h)
  exact ⟨by decide +kernel, tkX1_lookers⟩
theorem gd_12 : xGd 12 := fun M h => by
  cases (pT_12.symm.trans h)
  exact ⟨by decide +kernel, tkX1_place⟩
theorem gd_13 : xGd 13 := fun M h => by
  cases (pT_13.symm.trans h)
  exact ⟨by decide +kernel, tkX1_seenCells⟩
theorem gd_14 : xGd 14 := fun M h => by
  cases (pT_14.symm.trans h)
  exact ⟨by decide +kernel, tkX1_stepsDone⟩
theorem gd_15 : xGd 15 := fun M h => by
  cases (pT_15.symm.trans h)
  exact ⟨by decide +kernel, tkX1_cells⟩
theorem gd_16 : xGd 16 := fun M h => by
  cases (pT_16.symm.trans h)
  exact ⟨by decide +kernel, tkX1_isCell⟩
theorem gd_17 : xGd 17 := fun M h => by
  cases (pT_17.symm.trans h)
  exact ⟨by decide +kernel, tkX1_isLooker⟩
theorem gd_18 : xGd 18 := fun M h => by
  cases (pT_18.symm.trans h)
  exact ⟨by decide +kernel, tkX1_heightOf⟩
theorem gd_19 : xGd 19 := fun M h => by
  cases (pT_19.symm.trans h)
  exact ⟨by decide +kernel, tkX1_makeHeight⟩
theorem gd_20 : xGd 20 := fun M h => by
  cases (pT_20.symm.trans h)
  exact ⟨by decide +kernel, tkX1_kindOf⟩
theorem gd_21 : xGd 21 := fun M h => by
  cases (pT_21.symm.trans h)
  exact ⟨by decide +kernel, tkX1_shortOf⟩
theorem gd_22 : xGd 22 := fun M h => by
  cases (pT_22.symm.trans h)
  exact ⟨by decide +kernel, tkX1_makeShort⟩
theorem gd_23 : xGd 23 := fun M h => by
  cases (pT_23.symm.trans h)
  exact ⟨by decide +kernel, tkX1_isGone⟩
theorem gd_24 : xGd 24 := fun M h => by
  cases (pT_24.symm.trans h)
  exact ⟨by decide +kernel, tkX1_lookersLeft⟩
theorem gd_25 : xGd 25 := fun M h => by
  cases (pT_25.symm.trans h)
  exact ⟨by decide +kernel, tkX1_takeOff⟩
theorem gd_26 : xGd 26 := fun M h => by
  cases (pT_26.symm.trans h)
  exact ⟨by decide +kernel, tkX1_bringBack⟩
theorem gd_27 : xGd 27 := fun M h => by
  cases (pT_27.symm.trans h)
  exact ⟨by decide +kernel, tkX1_moveTo⟩
theorem gd_28 : xGd 28 := fun M h => by
  cases (pT_28.symm.trans h)
  exact ⟨by decide +kernel, tkX1_seenFrom⟩
theorem gd_29 : xGd 29 := fun M h => by
  cases (pT_29.symm.trans h)
  exact ⟨by decide +kernel, tkX1_toldOf⟩
theorem gd_30 : xGd 30 := fun M h => by
  cases (pT_30.symm.trans h)
  exact ⟨by decide +kernel, tkX1_told⟩
theorem gd_31 : xGd 31 := fun M h => by
  cases (pT_31.symm.trans h)
  exact ⟨by decide +kernel, tkX1_columnOf⟩
theorem gd_32 : xGd 32 := fun M h => by
  cases (pT_32.symm.trans h)
  exact ⟨by decide +kernel, tkX1_rowOf⟩
theorem gd_33 : xGd 33 := fun M h => by
  cases (pT_33.symm.trans h)
  exact ⟨by decide +kernel, tkX1_isPlace⟩
theorem gd_34 : xGd 34 := fun M h => by
  cases (pT_34.symm.trans h)
  exact ⟨by decide +kernel, tkX1_nextPlace⟩
theorem gd_35 : xGd 35 := fun M h => by
  cases (pT_35.symm.trans h)
  exact ⟨by decide +kernel, tkX1_ofVoyage⟩
theorem gd_36 : xGd 36 := fun M h => by
  cases (pT_36.symm.trans h)
  exact ⟨by decide +kernel, tkX1_toldTogether⟩
theorem gd_37 : xGd 37 := fun M h => by
  cases (pT_37.symm.trans h)
  exact ⟨by decide +kernel, tkX1_mostTold⟩
theorem gd_38 : xGd 38 := fun M h => by
  cases (pT_38.symm.trans h)
  exact ⟨by decide +kernel, tkX1_ofWay⟩
theorem gd_39 : xGd 39 := fun M h => by
  cases (pT_39.symm.trans h)
  exact ⟨by decide +kernel, tkX1_fewestAcross⟩
theorem gd_40 : xGd 40 := fun M h => by
  cases (pT_40.symm.trans h)
  exact ⟨by decide +kernel, tkX1_ofMost⟩
theorem gd_41 : xGd 41 := fun M h => by
  cases (pT_41.symm.trans h)
  exact ⟨by decide +kernel, tkX1_bestRow⟩
theorem gd_42 : xGd 42 := fun M h => by
  cases (pT_42.symm.trans h)
  exact ⟨by decide +kernel, tkX1_stepOfRow⟩
theorem gd_43 : xGd 43 := fun M h => by
  cases (pT_43.symm.trans h)
  exact ⟨by decide +kernel, tkX1_gainOf⟩
theorem gd_44 : xGd 44 := fun M h => by
  cases (pT_44.symm.trans h)
  exact ⟨by decide +kernel, tkX1_flatWith⟩
theorem gd_45 : xGd 45 := fun M h => by
  cases (pT_45.symm.trans h)
  exact ⟨by decide +kernel, tkX1_cellsOfHeight⟩
theorem gd_46 : xGd 46 := fun M h => by
  cases (pT_46.symm.trans h)
  exact ⟨by decide +kernel, tkX1_bordering⟩
theorem gd_47 : xGd 47 := fun M h => by
  cases (pT_47.symm.trans h)
  exact ⟨by decide +kernel, tkX1_cellsOfColumn⟩
theorem gd_48 : xGd 48 := fun M h => by
  cases (pT_48.symm.trans h)
  exact ⟨by decide +kernel, tkX1_ofBegins⟩
theorem gd_49 : xGd 49 := fun M h => by
  cases (pT_49.symm.trans h)
  exact ⟨by decide +kernel, tkX1_isToldFrom⟩
theorem gd_50 : xGd 50 := fun M h => by
  cases (pT_50.symm.trans h)
  exact ⟨by decide +kernel, tkX1_isToldAt⟩
theorem gd_51 : xGd 51 := fun M h => by
  cases (pT_51.symm.trans h)
  exact ⟨by decide +kernel, tkX1_places⟩
theorem gd_52 : xGd 52 := fun M h => by
  cases (pT_52.symm.trans h)
  exact ⟨by decide +kernel, tkX1_placesWhereTold⟩
theorem gd_53 : xGd 53 := fun M h => by
  cases (pT_53.symm.trans h)
  exact ⟨by decide +kernel, tkX2_firstFault⟩
theorem gd_54 : xGd 54 := fun M h => by
  cases (pT_54.symm.trans h)
  exact ⟨by decide +kernel, tkX2_faultInLookers⟩
theorem gd_55 : xGd 55 := fun M h => by
  cases (pT_55.symm.trans h)
  exact ⟨by decide +kernel, tkX2_faultInTail⟩
theorem gd_56 : xGd 56 := fun M h => by
  cases (pT_56.symm.trans h)
  exact ⟨by decide +kernel, tkX2_codeAt⟩
theorem gd_57 : xGd 57 := fun M h => by
  cases (pT_57.symm.trans h)
  exact ⟨by decide +kernel, tkX2_isEdge⟩
theorem gd_58 : xGd 58 := fun M h => by
  cases (pT_58.symm.trans h)
  exact ⟨by decide +kernel, tkX2_digitOf⟩
theorem gd_59 : xGd 59 := fun M h => by
  cases (pT_59.symm.trans h)
  exact ⟨by decide +kernel, tkX2_kindOf⟩
theorem gd_60 : xGd 60 := fun M h => by
  cases (pT_60.symm.trans h)
  exact ⟨by decide +kernel, tkX3_init⟩
theorem gd_61 : xGd 61 := fun M h => by
  cases (pT_61.symm.trans h)
  exact ⟨by decide +kernel, tkX3_hasNothing⟩
theorem gd_62 : xGd 62 := fun M h => by
  cases (pT_62.symm.trans h)
  exact ⟨by decide +kernel, tkX3_lane⟩
theorem gd_63 : xGd 63 := fun M h => by
  cases (pT_63.symm.trans h)
  exact ⟨by decide +kernel, tkX3_hasCells⟩
theorem gd_64 : xGd 64 := fun M h => by
  cases (pT_64.symm.trans h)
  exact ⟨by decide +kernel, tkX3_faultInTaking⟩
theorem gd_65 : xGd 65 := fun M h => by
  cases (pT_65.symm.trans h)
  exact ⟨by decide +kernel, tkX3_renew⟩
theorem gd_66 : xGd 66 := fun M h => by
  cases (pT_66.symm.trans h)
  exact ⟨by decide +kernel, tkX3_clear⟩
theorem gd_67 : xGd 67 := fun M h => by
  cases (pT_67.symm.trans h)
  exact ⟨by decide +kernel, tkX3_read⟩
theorem gd_68 : xGd 68 := fun M h => by
  cases (pT_68.symm.trans h)
  exact ⟨by decide +kernel, tkX3_write⟩
theorem gd_69 : xGd 69 := fun M h => by
  cases (pT_69.symm.trans h)
  exact ⟨by decide +kernel, tkX3_cutToLane⟩
theorem gd_70 : xGd 70 := fun M h => by
  cases (pT_70.symm.trans h)
  exact ⟨by decide +kernel, tkX4_init⟩
theorem gd_71 : xGd 71 := fun M h => by
  cases (pT_71.symm.trans h)
  exact ⟨by decide +kernel, tkX4_sea⟩
theorem gd_72 : xGd 72 := fun M h => by
  cases (pT_72.symm.trans h)
  exact ⟨by decide +kernel, tkX4_ofLooker⟩
theorem gd_73 : xGd 73 := fun M h => by
  cases (pT_73.symm.trans h)
  exact ⟨by decide +kernel, tkX4_height⟩
theorem gd_74 : xGd 74 := fun M h => by
  cases (pT_74.symm.trans h)
  exact ⟨by decide +kernel, tkX4_heap⟩
theorem gd_75 : xGd 75 := fun M h => by
  cases (pT_75.symm.trans h)
  exact ⟨by decide +kernel, tkX4_dim⟩
theorem gd_76 : xGd 76 := fun M h => by
  cases (pT_76.symm.trans h)
  exact ⟨by decide +kernel, tkX4_scrape⟩
theorem gd_77 : xGd 77 := fun M h => by
  cases (pT_77.symm.trans h)
  exact ⟨by decide +kernel, tkX4_grow⟩
theorem gd_78 : xGd 78 := fun M h => by
  cases (pT_78.symm.trans h)
  exact ⟨by decide +kernel, tkX4_seen⟩
theorem gd_79 : xGd 79 := fun M h => by
  cases (pT_79.symm.trans h)
  exact ⟨by decide +kernel, tkX4_step⟩
theorem gd_80 : xGd 80 := fun M h => by
  cases (pT_80.symm.trans h)
  exact ⟨by decide +kernel, tkX4_voyage⟩
theorem gd_81 : xGd 81 := fun M h => by
  cases (pT_81.symm.trans h)
  exact ⟨by decide +kernel, tkX4_way⟩
theorem gd_82 : xGd 82 := fun M h => by
  cases (pT_82.symm.trans h)
  exact ⟨by decide +kernel, tkX4_most⟩
theorem gd_83 : xGd 83 := fun M h => by
  cases (pT_83.symm.trans h)
  exact ⟨by decide +kernel, tkX4_flat⟩
theorem gd_84 : xGd 84 := fun M h => by
  cases (pT_84.symm.trans h)
  exact ⟨by decide +kernel, tkX4_begun⟩
theorem gd_85 : xGd 85 := fun M h => by
  cases (pT_85.symm.trans h)
  exact ⟨by decide +kernel, tkX4_run⟩
theorem gd_86 : xGd 86 := fun M h => by
  cases (pT_86.symm.trans h)
  exact ⟨by decide +kernel, tkX4_reading⟩
theorem gd_87 : xGd 87 := fun M h => by
  cases (pT_87.symm.trans h)
  exact ⟨by decide +kernel, tkX4_back⟩
theorem gd_88 : xGd 88 := fun M h => by
  cases (pT_88.symm.trans h)
  exact ⟨by decide +kernel, tkX4_shorts⟩
theorem gd_89 : xGd 89 := fun M h => by
  cases (pT_89.symm.trans h)
  exact ⟨by decide +kernel, tkX4_kinds⟩
theorem gd_90 : xGd 90 := fun M h => by
  cases (pT_90.symm.trans h)
  exact ⟨by decide +kernel, tkX4_odds⟩
theorem gd_91 : xGd 91 := fun M h => by
  cases (pT_91.symm.trans h)
  exact ⟨by decide +kernel, tkX4_sheet⟩
theorem gd_92 : xGd 92 := fun M h => by
  cases (pT_92.symm.trans h)
  exact ⟨by decide +kernel, tkX4_lose⟩
theorem gd_93 : xGd 93 := fun M h => by
  cases (pT_93.symm.trans h)
  exact ⟨by decide +kernel, tkX4_put⟩
theorem gd_94 : xGd 94 := fun M h => by
  cases (pT_94.symm.trans h)
  exact ⟨by decide +kernel, tkX4_cell⟩
theorem gd_95 : xGd 95 := fun M h => by
  cases (pT_95.symm.trans h)
  exact ⟨by decide +kernel, tkX4_copy⟩
theorem gd_96 : xGd 96 := fun M h => by
  cases (pT_96.symm.trans h)
  exact ⟨by decide +kernel, tkX4_tell⟩
theorem gd_97 : xGd 97 := fun M h => by
  cases (pT_97.symm.trans h)
  exact ⟨by decide +kernel, tkX4_greet⟩
theorem gd_98 : xGd 98 := fun M h => by
  cases (pT_98.symm.trans h)
  exact ⟨by decide +kernel, tkX4_as⟩
theorem gd_99 : xGd 99 := fun M h => by
  cases (pT_99.symm.trans h)
  exact ⟨by decide +kernel, tkX4_trace⟩
theorem gd_100 : xGd 100 := fun M h => by
  cases (pT_100.symm.trans h)
  exact ⟨by decide +kernel, tkX4_fault⟩
theorem gd_101 : xGd 101 := fun M h => by
  cases (pT_101.symm.trans h)
  exact ⟨by decide +kernel, tkX4_many⟩
theorem gd_102 : xGd 102 := fun M h => by
  cases (pT_102.symm.trans h)
  exact ⟨by decide +kernel, tkX4_sheetOf⟩
theorem gd_103 : xGd 103 := fun M h => by
  cases (pT_103.symm.trans h)
  exact ⟨by decide +kernel, tkX4_faulted⟩
theorem gd_104 : xGd 104 := fun M h => by
  cases (pT_104.symm.trans h)
  exact ⟨by decide +kernel, tkX4_take⟩
theorem gd_105 : xGd 105 := fun M h => by
  cases (pT_105.symm.trans h)
  exact ⟨by decide +kernel, tkX4_readInto⟩
theorem gd_106 : xGd 106 := fun M h => by
  cases (pT_106.symm.trans h)
  exact ⟨by decide +kernel, tkX4_leastLengthToldAgain⟩
theorem gd_107 : xGd 107 := fun M h => by
  cases (pT_107.symm.trans h)
  exact ⟨by decide +kernel, tkX4_isToldAgain⟩
theorem gd_108 : xGd 108 := fun M h => by
  cases (pT_108.symm.trans h)
  exact ⟨by decide +kernel, tkX4_leaveInTrace⟩
theorem gd_109 : xGd 109 := fun M h => by
  cases (pT_109.symm.trans h)
  exact ⟨by decide +kernel, tkX4_plainBody⟩
theorem gd_110 : xGd 110 := fun M h => by
  cases (pT_110.symm.trans h)
  exact ⟨by decide +kernel, tkX4_deepBody⟩
theorem gd_111 : xGd 111 := fun M h => by
  cases (pT_111.symm.trans h)
  exact ⟨by decide +kernel, tkX4_grandBody⟩
theorem gd_112 : xGd 112 := fun M h => by
  cases (pT_112.symm.trans h)
  exact ⟨by decide +kernel, tkX4_lentGreetingBody⟩
theorem gd_113 : xGd 113 := fun M h => by
  cases (pT_113.symm.trans h)
  exact ⟨by decide +kernel, tkX4_ownGreetingBody⟩
theorem gd_114 : xGd 114 := fun M h => by
  cases (pT_114.symm.trans h)
  exact ⟨by decide +kernel, tkX4_within⟩
theorem gd_115 : xGd 115 := fun M h => by
  cases (pT_115.symm.trans h)
  exact ⟨by decide +kernel, tkX4_isLane⟩
theorem gd_116 : xGd 116 := fun M h => by
  cases (pT_116.symm.trans h)
  exact ⟨by decide +kernel, tkX4_isStep⟩
theorem gd_117 : xGd 117 := fun M h => by
  cases (pT_117.symm.trans h)
  exact ⟨by decide +kernel, tkX4_isDigit⟩
theorem gd_118 : xGd 118 := fun M h => by
  cases (pT_118.symm.trans h)
  exact ⟨by decide +kernel, tkX4_greatestDivisor⟩
theorem gd_119 : xGd 119 := fun M h => by
  cases (pT_119.symm.trans h)
  exact ⟨by decide +kernel, tkX4_numberAt⟩
theorem gd_120 : xGd 120 := fun M h => by
  cases (pT_120.symm.trans h)
  exact ⟨by decide +kernel, tkX4_setNumber⟩
theorem gd_121 : xGd 121 := fun M h => by
  cases (pT_121.symm.trans h)
  exact ⟨by decide +kernel, tkX5_init⟩
theorem gd_122 : xGd 122 := fun M h => by
  cases (pT_122.symm.trans h)
  exact ⟨by decide +kernel, tkX5_in⟩
theorem gd_123 : xGd 123 := fun M h => by
  cases (pT_123.symm.trans h)
  exact ⟨by decide +kernel, tkX5_lost⟩
theorem gd_124 : xGd 124 := fun M h => by
  cases (pT_124.symm.trans h)
  exact ⟨by decide +kernel, tkX5_isIn⟩
theorem gd_125 : xGd 125 := fun M h => by
  cases (pT_125.symm.trans h)
  exact ⟨by decide +kernel, tkX5_bits⟩
theorem gd_126 : xGd 126 := fun M h => by
  cases (pT_126.symm.trans h)
  exact ⟨by decide +kernel, tkX5_share⟩
theorem gd_127 : xGd 127 := fun M h => by
  cases (pT_127.symm.trans h)
  exact ⟨by decide +kernel, tkX5_refused⟩
theorem gd_128 : xGd 128 := fun M h => by
  cases (pT_128.symm.trans h)
  exact ⟨by decide +kernel, tkX5_failed⟩
theorem gd_129 : xGd 129 := fun M h => by
  cases (pT_129.symm.trans h)
  exact ⟨by decide +kernel, tkX5_failedLong⟩
theorem gd_130 : xGd 130 := fun M h => by
  cases (pT_130.symm.trans h)
  exact ⟨by decide +kernel, tkX5_noLooker⟩
theorem gd_131 : xGd 131 := fun M h => by
  cases (pT_131.symm.trans h)
  exact ⟨by decide +kernel, tkX5_noPlace⟩
theorem gd_132 : xGd 132 := fun M h => by
  cases (pT_132.symm.trans h)
  exact ⟨by decide +kernel, tkX5_codeAt⟩
theorem gd_133 : xGd 133 := fun M h => by
  cases (pT_133.symm.trans h)
  exact ⟨by decide +kernel, tkX5_figure⟩
theorem gd_134 : xGd 134 := fun M h => by
  cases (pT_134.symm.trans h)
  exact ⟨by decide +kernel, tkX5_readsFloor⟩
theorem gd_135 : xGd 135 := fun M h => by
  cases (pT_135.symm.trans h)
  exact ⟨by decide +kernel, tkX5_readsLooker⟩
theorem gd_136 : xGd 136 := fun M h => by
  cases (pT_136.symm.trans h)
  exact ⟨by decide +kernel, tkX5_readsSea⟩
theorem gd_137 : xGd 137 := fun M h => by
  cases (pT_137.symm.trans h)
  exact ⟨by decide +kernel, tkX5_cellsBarred⟩
theorem gd_138 : xGd 138 := fun M h => by
  cases (pT_138.symm.trans h)
  exact ⟨by decide +kernel, tkX5_sea⟩
theorem gd_139 : xGd 139 := fun M h => by
  cases (pT_139.symm.trans h)
  exact ⟨by decide +kernel, tkX5_placeOf⟩
theorem gd_140 : xGd 140 := fun M h => by
  cases (pT_140.symm.trans h)
  exact ⟨by decide +kernel, tkX5_tells⟩
theorem gd_141 : xGd 141 := fun M h => by
  cases (pT_141.symm.trans h)
  exact ⟨by decide +kernel, tkX5_over⟩
theorem gd_142 : xGd 142 := fun M h => by
  cases (pT_142.symm.trans h)
  exact ⟨by decide +kernel, tkX5_ofLooker⟩
theorem gd_143 : xGd 143 := fun M h => by
  cases (pT_143.symm.trans h)
  exact ⟨by decide +kernel, tkX5_height⟩
theorem gd_144 : xGd 144 := fun M h => by
  cases (pT_144.symm.trans h)
  exact ⟨by decide +kernel, tkX5_heap⟩
theorem gd_145 : xGd 145 := fun M h => by
  cases (pT_145.symm.trans h)
  exact ⟨by decide +kernel, tkX5_dim⟩
theorem gd_146 : xGd 146 := fun M h => by
  cases (pT_146.symm.trans h)
  exact ⟨by decide +kernel, tkX5_scrape⟩
theorem gd_147 : xGd 147 := fun M h => by
  cases (pT_147.symm.trans h)
  exact ⟨by decide +kernel, tkX5_grow⟩
theorem gd_148 : xGd 148 := fun M h => by
  cases (pT_148.symm.trans h)
  exact ⟨by decide +kernel, tkX5_seen⟩
theorem gd_149 : xGd 149 := fun M h => by
  cases (pT_149.symm.trans h)
  exact ⟨by decide +kernel, tkX5_isPlace⟩
theorem gd_150 : xGd 150 := fun M h => by
  cases (pT_150.symm.trans h)
  exact ⟨by decide +kernel, tkX5_columnBy⟩
theorem gd_151 : xGd 151 := fun M h => by
  cases (pT_151.symm.trans h)
  exact ⟨by decide +kernel, tkX5_rowBy⟩
theorem gd_152 : xGd 152 := fun M h => by
  cases (pT_152.symm.trans h)
  exact ⟨by decide +kernel, tkX5_steps⟩
theorem gd_153 : xGd 153 := fun M h => by
  cases (pT_153.symm.trans h)
  exact ⟨by decide +kernel, tkX5_step⟩
theorem gd_154 : xGd 154 := fun M h => by
  cases (pT_154.symm.trans h)
  exact ⟨by decide +kernel, tkX5_keepAll⟩
theorem gd_155 : xGd 155 := fun M h => by
  cases (pT_155.symm.trans h)
  exact ⟨by decide +kernel, tkX5_bringBack⟩
theorem gd_156 : xGd 156 := fun M h => by
  cases (pT_156.symm.trans h)
  exact ⟨by decide +kernel, tkX5_voyageBy⟩
theorem gd_157 : xGd 157 := fun M h => by
  cases (pT_157.symm.trans h)
  exact ⟨by decide +kernel, tkX5_voyage⟩
theorem gd_158 : xGd 158 := fun M h => by
  cases (pT_158.symm.trans h)
  exact ⟨by decide +kernel, tkX5_isOver⟩
theorem gd_159 : xGd 159 := fun M h => by
  cases (pT_159.symm.trans h)
  exact ⟨by decide +kernel, tkX5_farAt⟩
theorem gd_160 : xGd 160 := fun M h => by
  cases (pT_160.symm.trans h)
  exact ⟨by decide +kernel, tkX5_isBeside⟩
theorem gd_161 : xGd 161 := fun M h => by
  cases (pT_161.symm.trans h)
  exact ⟨by decide +kernel, tkX5_measures⟩
theorem gd_162 : xGd 162 := fun M h => by
  cases (pT_162.symm.trans h)
  exact ⟨by decide +kernel, tkX5_wayStep⟩
theorem gd_163 : xGd 163 := fun M h => by
  cases (pT_163.symm.trans h)
  exact ⟨by decide +kernel, tkX5_way⟩
theorem gd_164 : xGd 164 := fun M h => by
  cases (pT_164.symm.trans h)
  exact ⟨by decide +kernel, tkX5_seenBy⟩
theorem gd_165 : xGd 165 := fun M h => by
  cases (pT_165.symm.trans h)
  exact ⟨by decide +kernel, tkX5_most⟩
theorem gd_166 : xGd 166 := fun M h => by
  cases (pT_166.symm.trans h)
  exact ⟨by decide +kernel, tkX5_areBeside⟩
theorem gd_167 : xGd 167 := fun M h => by
  cases (pT_167.symm.trans h)
  exact ⟨by decide +kernel, tkX5_flat⟩
theorem gd_168 : xGd 168 := fun M h => by
  cases (pT_168.symm.trans h)
  exact ⟨by decide +kernel, tkX5_begins⟩
theorem gd_169 : xGd 169 := fun M h => by
  cases (pT_169.symm.trans h)
  exact ⟨by decide +kernel, tkX5_begunBy⟩
theorem gd_170 : xGd 170 := fun M h => by
  cases (pT_170.symm.trans h)
  exact ⟨by decide +kernel, tkX5_begun⟩
theorem gd_171 : xGd 171 := fun M h => by
  cases (pT_171.symm.trans h)
  exact ⟨by decide +kernel, tkX5_goesOn⟩
theorem gd_172 : xGd 172 := fun M h => by
  cases (pT_172.symm.trans h)
  exact ⟨by decide +kernel, tkX5_run⟩
theorem gd_173 : xGd 173 := fun M h => by
  cases (pT_173.symm.trans h)
  exact ⟨by decide +kernel, tkX5_reading⟩
theorem gd_174 : xGd 174 := fun M h => by
  cases (pT_174.symm.trans h)
  exact ⟨by decide +kernel, tkX5_back⟩
theorem gd_175 : xGd 175 := fun M h => by
  cases (pT_175.symm.trans h)
  exact ⟨by decide +kernel, tkX5_areSo⟩
theorem gd_176 : xGd 176 := fun M h => by
  cases (pT_176.symm.trans h)
  exact ⟨by decide +kernel, tkX5_shorts⟩
theorem gd_177 : xGd 177 := fun M h => by
  cases (pT_177.symm.trans h)
  exact ⟨by decide +kernel, tkX5_kinds⟩
theorem gd_178 : xGd 178 := fun M h => by
  cases (pT_178.symm.trans h)
  exact ⟨by decide +kernel, tkX5_odds⟩
theorem gd_179 : xGd 179 := fun M h => by
  cases (pT_179.symm.trans h)
  exact ⟨by decide +kernel, tkX5_noSheet⟩
theorem gd_180 : xGd 180 := fun M h => by
  cases (pT_180.symm.trans h)
  exact ⟨by decide +kernel, tkX5_sheet⟩
theorem gd_181 : xGd 181 := fun M h => by
  cases (pT_181.symm.trans h)
  exact ⟨by decide +kernel, tkX5_lose⟩
theorem gd_182 : xGd 182 := fun M h => by
  cases (pT_182.symm.trans h)
  exact ⟨by decide +kernel, tkX5_noCell⟩
theorem gd_183 : xGd 183 := fun M h => by
  cases (pT_183.symm.trans h)
  exact ⟨by decide +kernel, tkX5_put⟩
theorem gd_184 : xGd 184 := fun M h => by
  cases (pT_184.symm.trans h)
  exact ⟨by decide +kernel, tkX5_cell⟩
theorem gd_185 : xGd 185 := fun M h => by
  cases (pT_185.symm.trans h)
  exact ⟨by decide +kernel, tkX5_isBeyond⟩
theorem gd_186 : xGd 186 := fun M h => by
  cases (pT_186.symm.trans h)
  exact ⟨by decide +kernel, tkX5_copy⟩
theorem gd_187 : xGd 187 := fun M h => by
  cases (pT_187.symm.trans h)
  exact ⟨by decide +kernel, tkX5_traced⟩
theorem gd_188 : xGd 188 := fun M h => by
  cases (pT_188.symm.trans h)
  exact ⟨by decide +kernel, tkX5_tell⟩
theorem gd_189 : xGd 189 := fun M h => by
  cases (pT_189.symm.trans h)
  exact ⟨by decide +kernel, tkX5_greet⟩
theorem gd_190 : xGd 190 := fun M h => by
  cases (pT_190.symm.trans h)
  exact ⟨by decide +kernel, tkX5_as⟩
theorem gd_191 : xGd 191 := fun M h => by
  cases (pT_191.symm.trans h)
  exact ⟨by decide +kernel, tkX5_trace⟩
theorem gd_192 : xGd 192 := fun M h => by
  cases (pT_192.symm.trans h)
  exact ⟨by decide +kernel, tkX5_fault⟩
theorem gd_193 : xGd 193 := fun M h => by
  cases (pT_193.symm.trans h)
  exact ⟨by decide +kernel, tkX5_many⟩
theorem gd_194 : xGd 194 := fun M h => by
  cases (pT_194.symm.trans h)
  exact ⟨by decide +kernel, tkJ6_bitCount_0f7a4⟩
theorem gd_195 : xGd 195 := fun M h => by
  cases (pT_195.symm.trans h)
  exact ⟨by decide +kernel, tkJ13_bitCount_95d88⟩
theorem gd_196 : xGd 196 := fun M h => by
  cases (pT_196.symm.trans h)
  exact ⟨by decide +kernel, tkJ7_fill_53178⟩
theorem gdb_0 (j : Nat) (h1 : 0 ≤ j) (h2 : j < 20) : xGd j := by
  rcases (show j = 0 ∨ j = 1 ∨ j = 2 ∨ j = 3 ∨ j = 4 ∨ j = 5 ∨ j = 6 ∨ j = 7 ∨ j = 8 ∨ j = 9 ∨ j = 10 ∨ j = 11 ∨ j = 12 ∨ j = 13 ∨ j = 14 ∨ j = 15 ∨ j = 16 ∨ j = 17 ∨ j = 18 ∨ j = 19 by omega) with rfl | rfl | rfl | rfl | rfl | rfl | rfl | rfl | rfl | rfl | rfl | rfl | rfl | rfl | rfl | rfl | rfl | rfl | rfl | rfl
  · exact gd_0
  · exact gd_1
  · exact gd_2
  · exact gd_3
  · exact gd_4
  · exact gd_5
  · exact gd_6
  · exact gd_7
  · exact gd_8
  · exact gd_9
  · exact gd_10
  · exact gd_11
  · exact gd_12
  · exact gd_13
  · exact gd_14
  · exact gd_15
  · exact gd_16
  · exact gd_17
  · exact gd_18
  · exact gd_19
theorem gdb_20 (j : Nat) (h1 : 20 ≤ j) (h2 : j < 40) : xGd j := by
  rcases (show j = 20 ∨ j = 21 ∨ j = 22 ∨ j = 23 ∨ j = 24 ∨ j = 25 ∨ j = 26 ∨ j = 27 ∨ j = 28 ∨ j = 29 ∨ j = 30 ∨ j = 31 ∨ j = 32 ∨ j = 33 ∨ j = 34 ∨ j = 35 ∨ j = 36 ∨ j = 37 ∨ j = 38 ∨ j = 39 by omega) with rfl | rfl | rfl | rfl | rfl | rfl | rfl | rfl | rfl | rfl | rfl | rfl | rfl | rfl | rfl | rfl | rfl | rfl | rfl | rfl
  · exact gd_20
  · exact gd_21
  · exact gd_22
  · exact gd_23
  · exact gd_24
  · exact gd_25
  · exact gd_26
  · exact gd_27
  · exact gd_28
  · exact gd_29
  · exact gd_30
  · exact gd_31
  · exact gd_32
  · exact gd_33
  · exact gd_34
  · exact gd_35
  · exact gd_36
  · exact gd_37
  · exact gd_38
  · exact gd_39
theorem gdb_40 (j : Nat) (h1 : 40 ≤ j) (h2 : j < 60) : xGd j := by
  rcases (show j = 40 ∨ j = 41 ∨ j = 42 ∨ j = 43 ∨ j = 44 ∨ j = 45 ∨ j = 46 ∨ j = 47 ∨ j = 48 ∨ j = 49 ∨ j = 50 ∨ j = 51 ∨ j = 52 ∨ j = 53 ∨ j = 54 ∨ j = 55 ∨ j = 56 ∨ j = 57 ∨ j = 58 ∨ j = 59 by omega) with rfl | rfl | rfl | rfl | rfl | rfl | rfl | rfl | rfl | rfl | rfl | rfl | rfl | rfl | rfl | rfl | rfl | rfl | rfl | rfl
  · exact gd_40
  · exact gd_41
  · exact gd_42
  · exact gd_43
  · exact gd_44
  · exact gd_45
  · exact gd_46
  · exact gd_47
  · exact gd_48
  · exact gd_49
  · exact gd_50
  · exact gd_51
  · exact gd_52
  · exact gd_53
  · exact gd_54
  · exact gd_55
  · exact gd_56
  · exact gd_57
  · exact gd_58
  · exact gd_59
theorem gdb_60 (j : Nat) (h1 : 60 ≤ j) (h2 : j < 80) : xGd j := by
  rcases (show j = 60 ∨ j = 61 ∨ j = 62 ∨ j = 63 ∨ j = 64 ∨ j = 65 ∨ j = 66 ∨ j = 67 ∨ j = 68 ∨ j = 69 ∨ j = 70 ∨ j = 71 ∨ j = 72 ∨ j = 73 ∨ j = 74 ∨ j = 75 ∨ j = 76 ∨ j = 77 ∨ j = 78 ∨ j = 79 by omega) with rfl | rfl | rfl | rfl | rfl | rfl | rfl | rfl | rfl | rfl | rfl | rfl | rfl | rfl | rfl | rfl | rfl | rfl | rfl | rfl
  · exact gd_60
  · exact gd_61
  · exact gd_62
  · exact gd_63
  · exact gd_64
  · exact gd_65
  · exact gd_66
  · exact gd_67
  · exact gd_68
  · exact gd_69
  · exact gd_70
  · exact gd_71
  · exact gd_72
  · exact gd_73
  · exact gd_74
  · exact gd_75
  · exact gd_76
  · exact gd_77
  · exact gd_78
  · exact gd_79
theorem gdb_80 (j : Nat) (h1 : 80 ≤ j) (h2 : j < 100) : xGd j := by
  rcases (show j = 80 ∨ j = 81 ∨ j = 82 ∨ j = 83 ∨ j = 84 ∨ j = 85 ∨ j = 86 ∨ j = 87 ∨ j = 88 ∨ j = 89 ∨ j = 90 ∨ j = 91 ∨ j = 92 ∨ j = 93 ∨ j = 94 ∨ j = 95 ∨ j = 96 ∨ j = 97 ∨ j = 98 ∨ j = 99 by omega) with rfl | rfl | rfl | rfl | rfl | rfl | rfl | rfl | rfl | rfl | rfl | rfl | rfl | rfl | rfl | rfl | rfl | rfl | rfl | rfl
  · exact gd_80
  · exact gd_81
  · exact gd_82
  · exact gd_83
  · exact gd_84
  · exact gd_85
  · exact gd_86
  · exact gd_87
  · exact gd_88
  · exact gd_89
  · exact gd_90
  · exact gd_91
  · exact gd_92
  · exact gd_93
  · exact gd_94
  · exact gd_95
  · exact gd_96
  · exact gd_97
  · exact gd_98
  · exact gd_99
theorem gdb_100 (j : Nat) (h1 : 100 ≤ j) (h2 : j < 120) : xGd j := by
  rcases (show j = 100 ∨ j = 101 ∨ j = 102 ∨ j = 103 ∨ j = 104 ∨ j = 105 ∨ j = 106 ∨ j = 107 ∨ j = 108 ∨ j = 109 ∨ j = 110 ∨ j = 111 ∨ j = 112 ∨ j = 113 ∨ j = 114 ∨ j = 115 ∨ j = 116 ∨ j = 117 ∨ j = 118 ∨ j = 119 by omega) with rfl | rfl | rfl | rfl | rfl | rfl | rfl | rfl | rfl | rfl | rfl | rfl | rfl | rfl | rfl | rfl | rfl | rfl | rfl | rfl
  · exact gd_100
  · exact gd_101
  · exact gd_102
  · exact gd_103
  · exact gd_104
  · exact gd_105
  · exact gd_106
  · exact gd_107
  · exact gd_108
  · exact gd_109
  · exact gd_110
  · exact gd_111
  · exact gd_112
  · exact gd_113
  · exact gd_114
  · exact gd_115
  · exact gd_116
  · exact gd_117
  · exact gd_118
  · exact gd_119
theorem gdb_120 (j : Nat) (h1 : 120 ≤ j) (h2 : j < 140) : xGd j := by
  rcases (show j = 120 ∨ j = 121 ∨ j = 122 ∨ j = 123 ∨ j = 124 ∨ j = 125 ∨ j = 126 ∨ j = 127 ∨ j = 128 ∨ j = 129 ∨ j = 130 ∨ j = 131 ∨ j = 132 ∨ j = 133 ∨ j = 134 ∨ j = 135 ∨ j = 136 ∨ j = 137 ∨ j = 138 ∨ j = 139 by omega) with rfl | rfl | rfl | rfl | rfl | rfl | rfl | rfl | rfl | rfl | rfl | rfl | rfl | rfl | rfl | rfl | rfl | rfl | rfl | rfl
  · exact gd_120
  · exact gd_121
  · exact gd_122
  · exact gd_123
  · exact gd_124
  · exact gd_125
  · exact gd_126
  · exact gd_127
  · exact gd_128
  · exact gd_129
  · exact gd_130
  · exact gd_131
  · exact gd_132
  · exact gd_133
  · exact gd_134
  · exact gd_135
  · exact gd_136
  · exact gd_137
  · exact gd_138
  · exact gd_139
theorem gdb_140 (j : Nat) (h1 : 140 ≤ j) (h2 : j < 160) : xGd j := by
  rcases (show j = 140 ∨ j = 141 ∨ j = 142 ∨ j = 143 ∨ j = 144 ∨ j = 145 ∨ j = 146 ∨ j = 147 ∨ j = 148 ∨ j = 149 ∨ j = 150 ∨ j = 151 ∨ j = 152 ∨ j = 153 ∨ j = 154 ∨ j = 155 ∨ j = 156 ∨ j = 157 ∨ j = 158 ∨ j = 159 by omega) with rfl | rfl | rfl | rfl | rfl | rfl | rfl | rfl | rfl | rfl | rfl | rfl | rfl | rfl | rfl | rfl | rfl | rfl | rfl | rfl
  · exact gd_140
  · exact gd_141
  · exact gd_142
  · exact gd_143
  · exact gd_144
  · exact gd_145
  · exact gd_146
  · exact gd_147
  · exact gd_148
  · exact gd_149
  · exact gd_150
  · exact gd_151
  · exact gd_152
  · exact gd_153
  · exact gd_154
  · exact gd_155
  · exact gd_156
  · exact gd_157
  · exact gd_158
  · exact gd_159
theorem gdb_160 (j : Nat) (h1 : 160 ≤ j) (h2 : j < 180) : xGd j := by
  rcases (show j = 160 ∨ j = 161 ∨ j = 162 ∨ j = 163 ∨ j = 164 ∨ j = 165 ∨ j = 166 ∨ j = 167 ∨ j = 168 ∨ j = 169 ∨ j = 170 ∨ j = 171 ∨ j = 172 ∨ j = 173 ∨ j = 174 ∨ j = 175 ∨ j = 176 ∨ j = 177 ∨ j = 178 ∨ j = 179 by omega) with rfl | rfl | rfl | rfl | rfl | rfl | rfl | rfl | rfl | rfl | rfl | rfl | rfl | rfl | rfl | rfl | rfl | rfl | rfl | rfl
  · exact gd_160
  · exact gd_161
  · exact gd_162
  · exact gd_163
  · exact gd_164
  · exact gd_165
  · exact gd_166
  · exact gd_167
  · exact gd_168
  · exact gd_169
  · exact gd_170
  · exact gd_171
  · exact gd_172
  · exact gd_173
  · exact gd_174
  · exact gd_175
  · exact gd_176
  · exact gd_177
  · exact gd_178
  · exact gd_179
theorem gdb_180 (j : Nat) (h1 : 180 ≤ j) (h2 : j < 197) : xGd j := by
  rcases (show j = 180 ∨ j = 181 ∨ j = 182 ∨ j = 183 ∨ j = 184 ∨ j = 185 ∨ j = 186 ∨ j = 187 ∨ j = 188 ∨ j = 189 ∨ j = 190 ∨ j = 191 ∨ j = 192 ∨ j = 193 ∨ j = 194 ∨ j = 195 ∨ j = 196 by omega) with rfl | rfl | rfl | rfl | rfl | rfl | rfl | rfl | rfl | rfl | rfl | rfl | rfl | rfl | rfl | rfl | rfl
  · exact gd_180
  · exact gd_181
  · exact gd_182
  · exact gd_183
  · exact gd_184
  · exact gd_185
  · exact gd_186
  · exact gd_187
  · exact gd_188
  · exact gd_189
  · exact gd_190
  · exact gd_191
  · exact gd_192
  · exact gd_193
  · exact gd_194
  · exact gd_195
  · exact gd_196
theorem pGood : xGood pT pY := by
  intro j M h
  have hj : j < 197 := (List.getElem?_eq_some_iff.mp (show pTl[j]? = some M from h)).1
  have hg : xGd j := by
    by_cases q0 : j < 20
    · exact gdb_0 j (by omega) q0
    by_cases q20 : j < 40
    · exact gdb_20 j (by omega) q20
    by_cases q40 : j < 60
    · exact gdb_40 j (by omega) q40
    by_cases q60 : j < 80
    · exact gdb_60 j (by omega) q60
    by_cases q80 : j < 100
    · exact gdb_80 j (by omega) q80
    by_cases q100 : j < 120
    · exact gdb_100 j (by omega) q100
    by_cases q120 : j < 140
    · exact gdb_120 j (by omega) q120
    by_cases q140 : j < 160
    · exact gdb_140 j (by omega) q140
    by_cases q160 : j < 180
    · exact gdb_160 j (by omega) q160
    by_cases q180 : j < 197
    · exact gdb_180 j (by omega) q180
    exact absurd hj (by omega)
  exact hg M h
