/-! the words that the tables stand on, by their places -/
set_option maxRecDepth 20000 in
theorem kw0 : Cond.selects "HullCharts" ⟨"HullCharts", "sheetOf", "(I)LHullCharts$Sheet;"⟩ ⟨"HullCharts", "sheetOf", "(I)LHullCharts$Sheet;"⟩ ∈ wtG := wtG_of 0 (by rfl) rfl
set_option maxRecDepth 20000 in
theorem kw1 : Cond.selects "HullCharts" ⟨"HullCharts", "take", "(LHullCharts$Sheet;III)I"⟩ ⟨"HullCharts", "take", "(LHullCharts$Sheet;III)I"⟩ ∈ wtG := wtG_of 1 (by rfl) rfl
set_option maxRecDepth 20000 in
theorem kw2 : Cond.selects "HullCharts" ⟨"HullCharts", "faulted", "(I)I"⟩ ⟨"HullCharts", "faulted", "(I)I"⟩ ∈ wtG := wtG_of 2 (by rfl) rfl
set_option maxRecDepth 20000 in
theorem kw3 : Cond.selects "HullCharts$Sea" ⟨"HullCharts$Sea", "seenFrom", "(I)J"⟩ ⟨"HullCharts$Sea", "seenFrom", "(I)J"⟩ ∈ wtG := wtG_of 3 (by rfl) rfl
set_option maxRecDepth 20000 in
theorem kw4 : Cond.selects "HullCharts$Sea" ⟨"HullCharts$Sea", "rowOf", "(I)I"⟩ ⟨"HullCharts$Sea", "rowOf", "(I)I"⟩ ∈ wtG := wtG_of 4 (by rfl) rfl
set_option maxRecDepth 20000 in
theorem kw5 : Cond.selects "HullCharts$Sea" ⟨"HullCharts$Sea", "columnOf", "(I)I"⟩ ⟨"HullCharts$Sea", "columnOf", "(I)I"⟩ ∈ wtG := wtG_of 5 (by rfl) rfl
set_option maxRecDepth 20000 in
theorem kw6 : Cond.selects "HullCharts$Sea" ⟨"HullCharts$Sea", "toldTogether", "(I)I"⟩ ⟨"HullCharts$Sea", "toldTogether", "(I)I"⟩ ∈ wtG := wtG_of 6 (by rfl) rfl
set_option maxRecDepth 20000 in
theorem kw7 : Cond.selects "HullCharts$Sea" ⟨"HullCharts$Sea", "mostTold", "(I)I"⟩ ⟨"HullCharts$Sea", "mostTold", "(I)I"⟩ ∈ wtG := wtG_of 7 (by rfl) rfl
set_option maxRecDepth 20000 in
theorem kw8 : Cond.selects "HullCharts$Sea" ⟨"HullCharts$Sea", "fewestAcross", "(I)I"⟩ ⟨"HullCharts$Sea", "fewestAcross", "(I)I"⟩ ∈ wtG := wtG_of 8 (by rfl) rfl
set_option maxRecDepth 20000 in
theorem kw9 : Cond.selects "HullCharts$Sea" ⟨"HullCharts$Sea", "bestRow", "(I)I"⟩ ⟨"HullCharts$Sea", "bestRow", "(I)I"⟩ ∈ wtG := wtG_of 9 (by rfl) rfl
set_option maxRecDepth 20000 in
theorem kw10 : Cond.selects "HullCharts$Sea" ⟨"HullCharts$Sea", "gainOf", "(II)I"⟩ ⟨"HullCharts$Sea", "gainOf", "(II)I"⟩ ∈ wtG := wtG_of 10 (by rfl) rfl
set_option maxRecDepth 20000 in
theorem kw11 : Cond.selects "HullCharts$Sea" ⟨"HullCharts$Sea", "cellsOfHeight", "(I)J"⟩ ⟨"HullCharts$Sea", "cellsOfHeight", "(I)J"⟩ ∈ wtG := wtG_of 11 (by rfl) rfl
set_option maxRecDepth 20000 in
theorem kw12 : Cond.selects "HullCharts$Sea" ⟨"HullCharts$Sea", "bordering", "(J)J"⟩ ⟨"HullCharts$Sea", "bordering", "(J)J"⟩ ∈ wtG := wtG_of 12 (by rfl) rfl
set_option maxRecDepth 20000 in
theorem kw13 : Cond.selects "HullCharts$Sea" ⟨"HullCharts$Sea", "cellsOfColumn", "(I)J"⟩ ⟨"HullCharts$Sea", "cellsOfColumn", "(I)J"⟩ ∈ wtG := wtG_of 13 (by rfl) rfl
set_option maxRecDepth 20000 in
theorem kw14 : Cond.selects "HullCharts$Sea" ⟨"HullCharts$Sea", "isPlace", "(I)Z"⟩ ⟨"HullCharts$Sea", "isPlace", "(I)Z"⟩ ∈ wtG := wtG_of 14 (by rfl) rfl
set_option maxRecDepth 20000 in
theorem kw15 : Cond.selects "HullCharts$Sea" ⟨"HullCharts$Sea", "isToldFrom", "(I[III)Z"⟩ ⟨"HullCharts$Sea", "isToldFrom", "(I[III)Z"⟩ ∈ wtG := wtG_of 15 (by rfl) rfl
set_option maxRecDepth 20000 in
theorem kw16 : Cond.selects "HullCharts$Sea" ⟨"HullCharts$Sea", "isToldAt", "(I[II)Z"⟩ ⟨"HullCharts$Sea", "isToldAt", "(I[II)Z"⟩ ∈ wtG := wtG_of 16 (by rfl) rfl
set_option maxRecDepth 20000 in
theorem kw17 : Cond.selects "HullCharts" ⟨"HullCharts", "leastLengthToldAgain", "(I)I"⟩ ⟨"HullCharts", "leastLengthToldAgain", "(I)I"⟩ ∈ wtG := wtG_of 17 (by rfl) rfl
set_option maxRecDepth 20000 in
theorem kw18 : Cond.selects "HullCharts" ⟨"HullCharts", "isToldAgain", "(II)Z"⟩ ⟨"HullCharts", "isToldAgain", "(II)Z"⟩ ∈ wtG := wtG_of 18 (by rfl) rfl
set_option maxRecDepth 20000 in
theorem kw19 : Cond.selects "HullCharts$Sheet" ⟨"HullCharts$Sheet", "cutToLane", "(I)I"⟩ ⟨"HullCharts$Sheet", "cutToLane", "(I)I"⟩ ∈ wtG := wtG_of 19 (by rfl) rfl
set_option maxRecDepth 20000 in
theorem kw20 : Cond.selects "HullCharts" ⟨"HullCharts", "grandBody", "(I)I"⟩ ⟨"HullCharts", "grandBody", "(I)I"⟩ ∈ wtG := wtG_of 20 (by rfl) rfl
set_option maxRecDepth 20000 in
theorem kw21 : Cond.selects "HullCharts" ⟨"HullCharts", "leaveInTrace", "(I)V"⟩ ⟨"HullCharts", "leaveInTrace", "(I)V"⟩ ∈ wtG := wtG_of 21 (by rfl) rfl
set_option maxRecDepth 20000 in
theorem kw22 : Cond.selects "HullCharts" ⟨"HullCharts", "deepBody", "(I)I"⟩ ⟨"HullCharts", "deepBody", "(I)I"⟩ ∈ wtG := wtG_of 22 (by rfl) rfl
set_option maxRecDepth 20000 in
theorem kw23 : Cond.selects "HullCharts" ⟨"HullCharts", "plainBody", "(I)I"⟩ ⟨"HullCharts", "plainBody", "(I)I"⟩ ∈ wtG := wtG_of 23 (by rfl) rfl
set_option maxRecDepth 20000 in
theorem kw24 : Cond.selects "HullCharts" ⟨"HullCharts", "ownGreetingBody", "()I"⟩ ⟨"HullCharts", "ownGreetingBody", "()I"⟩ ∈ wtG := wtG_of 24 (by rfl) rfl
set_option maxRecDepth 20000 in
theorem kw25 : Cond.selects "HullCharts" ⟨"HullCharts", "lentGreetingBody", "(I)I"⟩ ⟨"HullCharts", "lentGreetingBody", "(I)I"⟩ ∈ wtG := wtG_of 25 (by rfl) rfl
set_option maxRecDepth 20000 in
theorem kw26 : Cond.selects "HullChartsModel" ⟨"HullChartsModel", "refused", "(I)I"⟩ ⟨"HullChartsModel", "refused", "(I)I"⟩ ∈ wtG := wtG_of 26 (by rfl) rfl
set_option maxRecDepth 20000 in
theorem kw27 : Cond.selects "HullChartsModel" ⟨"HullChartsModel", "cellsBarred", "(IIIJ)I"⟩ ⟨"HullChartsModel", "cellsBarred", "(IIIJ)I"⟩ ∈ wtG := wtG_of 27 (by rfl) rfl
set_option maxRecDepth 20000 in
theorem kw28 : Cond.selects "HullChartsModel" ⟨"HullChartsModel", "failed", "(I)I"⟩ ⟨"HullChartsModel", "failed", "(I)I"⟩ ∈ wtG := wtG_of 28 (by rfl) rfl
set_option maxRecDepth 20000 in
theorem kw29 : Cond.selects "HullChartsModel" ⟨"HullChartsModel", "readsSea", "(II)Z"⟩ ⟨"HullChartsModel", "readsSea", "(II)Z"⟩ ∈ wtG := wtG_of 29 (by rfl) rfl
set_option maxRecDepth 20000 in
theorem kw30 : Cond.selects "HullChartsModel" ⟨"HullChartsModel", "codeAt", "(II)I"⟩ ⟨"HullChartsModel", "codeAt", "(II)I"⟩ ∈ wtG := wtG_of 30 (by rfl) rfl
set_option maxRecDepth 20000 in
theorem kw31 : Cond.selects "HullChartsModel" ⟨"HullChartsModel", "readsFloor", "(II)Z"⟩ ⟨"HullChartsModel", "readsFloor", "(II)Z"⟩ ∈ wtG := wtG_of 31 (by rfl) rfl
set_option maxRecDepth 20000 in
theorem kw32 : Cond.selects "HullChartsModel" ⟨"HullChartsModel", "figure", "(IIIII)I"⟩ ⟨"HullChartsModel", "figure", "(IIIII)I"⟩ ∈ wtG := wtG_of 32 (by rfl) rfl
set_option maxRecDepth 20000 in
theorem kw33 : Cond.selects "HullChartsModel" ⟨"HullChartsModel", "readsLooker", "(II)Z"⟩ ⟨"HullChartsModel", "readsLooker", "(II)Z"⟩ ∈ wtG := wtG_of 33 (by rfl) rfl
set_option maxRecDepth 20000 in
theorem kw34 : Cond.selects "HullChartsModel" ⟨"HullChartsModel", "over", "()J"⟩ ⟨"HullChartsModel", "over", "()J"⟩ ∈ wtG := wtG_of 34 (by rfl) rfl
set_option maxRecDepth 20000 in
theorem kw35 : Cond.selects "HullChartsModel" ⟨"HullChartsModel", "placeOf", "(I)I"⟩ ⟨"HullChartsModel", "placeOf", "(I)I"⟩ ∈ wtG := wtG_of 35 (by rfl) rfl
set_option maxRecDepth 20000 in
theorem kw36 : Cond.selects "HullChartsModel" ⟨"HullChartsModel", "noLooker", "(I)Z"⟩ ⟨"HullChartsModel", "noLooker", "(I)Z"⟩ ∈ wtG := wtG_of 36 (by rfl) rfl
set_option maxRecDepth 20000 in
theorem kw37 : Cond.selects "HullChartsModel" ⟨"HullChartsModel", "tells", "(II)I"⟩ ⟨"HullChartsModel", "tells", "(II)I"⟩ ∈ wtG := wtG_of 37 (by rfl) rfl
set_option maxRecDepth 20000 in
theorem kw38 : Cond.selects "HullChartsModel" ⟨"HullChartsModel", "noPlace", "(I)Z"⟩ ⟨"HullChartsModel", "noPlace", "(I)Z"⟩ ∈ wtG := wtG_of 38 (by rfl) rfl
set_option maxRecDepth 20000 in
theorem kw39 : Cond.selects "HullChartsModel" ⟨"HullChartsModel", "steps", "(I)Z"⟩ ⟨"HullChartsModel", "steps", "(I)Z"⟩ ∈ wtG := wtG_of 39 (by rfl) rfl
set_option maxRecDepth 20000 in
theorem kw40 : Cond.selects "HullChartsModel" ⟨"HullChartsModel", "isPlace", "(II)Z"⟩ ⟨"HullChartsModel", "isPlace", "(II)Z"⟩ ∈ wtG := wtG_of 40 (by rfl) rfl
set_option maxRecDepth 20000 in
theorem kw41 : Cond.selects "HullChartsModel" ⟨"HullChartsModel", "keepAll", "()V"⟩ ⟨"HullChartsModel", "keepAll", "()V"⟩ ∈ wtG := wtG_of 41 (by rfl) rfl
set_option maxRecDepth 20000 in
theorem kw42 : Cond.selects "HullChartsModel" ⟨"HullChartsModel", "voyageBy", "(III)I"⟩ ⟨"HullChartsModel", "voyageBy", "(III)I"⟩ ∈ wtG := wtG_of 42 (by rfl) rfl
set_option maxRecDepth 20000 in
theorem kw43 : Cond.selects "HullChartsModel" ⟨"HullChartsModel", "bringBack", "()V"⟩ ⟨"HullChartsModel", "bringBack", "()V"⟩ ∈ wtG := wtG_of 43 (by rfl) rfl
set_option maxRecDepth 20000 in
theorem kw44 : Cond.selects "HullChartsModel" ⟨"HullChartsModel", "measures", "(I)V"⟩ ⟨"HullChartsModel", "measures", "(I)V"⟩ ∈ wtG := wtG_of 44 (by rfl) rfl
set_option maxRecDepth 20000 in
theorem kw45 : Cond.selects "HullChartsModel" ⟨"HullChartsModel", "isOver", "(III)Z"⟩ ⟨"HullChartsModel", "isOver", "(III)Z"⟩ ∈ wtG := wtG_of 45 (by rfl) rfl
set_option maxRecDepth 20000 in
theorem kw46 : Cond.selects "HullChartsModel" ⟨"HullChartsModel", "isBeside", "(III)Z"⟩ ⟨"HullChartsModel", "isBeside", "(III)Z"⟩ ∈ wtG := wtG_of 46 (by rfl) rfl
set_option maxRecDepth 20000 in
theorem kw47 : Cond.selects "HullChartsModel" ⟨"HullChartsModel", "farAt", "(II)I"⟩ ⟨"HullChartsModel", "farAt", "(II)I"⟩ ∈ wtG := wtG_of 47 (by rfl) rfl
set_option maxRecDepth 20000 in
theorem kw48 : Cond.selects "HullChartsModel" ⟨"HullChartsModel", "wayStep", "(I)I"⟩ ⟨"HullChartsModel", "wayStep", "(I)I"⟩ ∈ wtG := wtG_of 48 (by rfl) rfl
set_option maxRecDepth 20000 in
theorem kw49 : Cond.selects "HullChartsModel" ⟨"HullChartsModel", "seenBy", "(II)I"⟩ ⟨"HullChartsModel", "seenBy", "(II)I"⟩ ∈ wtG := wtG_of 49 (by rfl) rfl
set_option maxRecDepth 20000 in
theorem kw50 : Cond.selects "HullChartsModel" ⟨"HullChartsModel", "areBeside", "(II)Z"⟩ ⟨"HullChartsModel", "areBeside", "(II)Z"⟩ ∈ wtG := wtG_of 50 (by rfl) rfl
set_option maxRecDepth 20000 in
theorem kw51 : Cond.selects "HullChartsModel" ⟨"HullChartsModel", "begunBy", "(IIII)I"⟩ ⟨"HullChartsModel", "begunBy", "(IIII)I"⟩ ∈ wtG := wtG_of 51 (by rfl) rfl
set_option maxRecDepth 20000 in
theorem kw52 : Cond.selects "HullChartsModel" ⟨"HullChartsModel", "begins", "(IIIII)Z"⟩ ⟨"HullChartsModel", "begins", "(IIIII)Z"⟩ ∈ wtG := wtG_of 52 (by rfl) rfl
set_option maxRecDepth 20000 in
theorem kw53 : Cond.selects "HullChartsModel" ⟨"HullChartsModel", "goesOn", "(III)Z"⟩ ⟨"HullChartsModel", "goesOn", "(III)Z"⟩ ∈ wtG := wtG_of 53 (by rfl) rfl
set_option maxRecDepth 20000 in
theorem kw54 : Cond.selects "HullChartsModel" ⟨"HullChartsModel", "areSo", "()Z"⟩ ⟨"HullChartsModel", "areSo", "()Z"⟩ ∈ wtG := wtG_of 54 (by rfl) rfl
set_option maxRecDepth 20000 in
theorem kw55 : Cond.selects "HullChartsModel" ⟨"HullChartsModel", "noCell", "(II)I"⟩ ⟨"HullChartsModel", "noCell", "(II)I"⟩ ∈ wtG := wtG_of 55 (by rfl) rfl
set_option maxRecDepth 20000 in
theorem kw56 : Cond.selects "HullChartsModel" ⟨"HullChartsModel", "failedLong", "(I)J"⟩ ⟨"HullChartsModel", "failedLong", "(I)J"⟩ ∈ wtG := wtG_of 56 (by rfl) rfl
set_option maxRecDepth 20000 in
theorem kw57 : Cond.selects "HullChartsModel" ⟨"HullChartsModel", "traced", "(I)V"⟩ ⟨"HullChartsModel", "traced", "(I)V"⟩ ∈ wtG := wtG_of 57 (by rfl) rfl
set_option maxRecDepth 20000 in
theorem kw59 : Cond.initialized "HullCharts" ∈ wtG := wtG_of 59 (by rfl) rfl
set_option maxRecDepth 20000 in
theorem kw60 : Cond.initialized "HullCharts$Sheet" ∈ wtG := wtG_of 60 (by rfl) rfl
set_option maxRecDepth 20000 in
theorem kw61 : Cond.initialized "HullCharts$Sea" ∈ wtG := wtG_of 61 (by rfl) rfl
set_option maxRecDepth 20000 in
theorem kw62 : Cond.initialized "HullCharts$Readings" ∈ wtG := wtG_of 62 (by rfl) rfl
set_option maxRecDepth 20000 in
theorem kw63 : Cond.initialized "HullChartsModel" ∈ wtG := wtG_of 63 (by rfl) rfl
set_option maxRecDepth 20000 in
theorem kw64 : Cond.initialized "HullCharts$SeaText" ∈ wtG := wtG_of 64 (by rfl) rfl
set_option maxRecDepth 20000 in
theorem kw65 : Cond.initialized "java/lang/Math" ∈ wtG := wtG_of 65 (by rfl) rfl
set_option maxRecDepth 20000 in
theorem kw66 : Cond.initialized "java/lang/Integer" ∈ wtG := wtG_of 66 (by rfl) rfl
set_option maxRecDepth 20000 in
theorem kw67 : Cond.initialized "java/lang/Long" ∈ wtG := wtG_of 67 (by rfl) rfl
set_option maxRecDepth 20000 in
theorem kw68 : Cond.initialized "java/util/Arrays" ∈ wtG := wtG_of 68 (by rfl) rfl
set_option maxRecDepth 20000 in
theorem kw69 : Cond.classLink "HullChartsLaw" 7 "HullCharts" ∈ wtG := wtG_of 69 (by rfl) rfl
set_option maxRecDepth 20000 in
theorem kw70 : Cond.instantiable "HullCharts" 6 ∈ wtG := wtG_of 70 (by rfl) rfl
set_option maxRecDepth 20000 in
theorem kw71 : Cond.methodLink "HullChartsLaw" 9 ⟨"HullCharts", "<init>", "()V"⟩ ∈ wtG := wtG_of 71 (by rfl) rfl
set_option maxRecDepth 20000 in
theorem kw72 : Cond.instanceMethod ⟨"HullCharts", "<init>", "()V"⟩ ∈ wtG := wtG_of 72 (by rfl) rfl
set_option maxRecDepth 20000 in
theorem kw73 : Cond.code ⟨"HullCharts", "<init>", "()V"⟩ prog_1_method_1_code 1 (none) ∈ wtG := wtG_of 73 (by rfl) rfl
set_option maxRecDepth 20000 in
theorem kw74 : Cond.methodLink "HullCharts" 3 ⟨"java/lang/Object", "<init>", "()V"⟩ ∈ wtG := wtG_of 74 (by rfl) rfl
set_option maxRecDepth 20000 in
theorem kw75 : Cond.instanceMethod ⟨"java/lang/Object", "<init>", "()V"⟩ ∈ wtG := wtG_of 75 (by rfl) rfl
set_option maxRecDepth 20000 in
theorem kw76 : Cond.code ⟨"java/lang/Object", "<init>", "()V"⟩ object_method_1_code 1 (none) ∈ wtG := wtG_of 76 (by rfl) rfl
set_option maxRecDepth 20000 in
theorem kw77 : Cond.classLink "HullCharts" 9 "HullCharts$Sheet" ∈ wtG := wtG_of 77 (by rfl) rfl
set_option maxRecDepth 20000 in
theorem kw79 : Cond.instantiable "HullCharts$Sheet" 3 ∈ wtG := wtG_of 79 (by rfl) rfl
set_option maxRecDepth 20000 in
theorem kw81 : Cond.instanceMethod ⟨"HullCharts$Sheet", "<init>", "()V"⟩ ∈ wtG := wtG_of 81 (by rfl) rfl
set_option maxRecDepth 20000 in
theorem kw82 : Cond.code ⟨"HullCharts$Sheet", "<init>", "()V"⟩ prog_5_method_1_code 1 (none) ∈ wtG := wtG_of 82 (by rfl) rfl
set_option maxRecDepth 20000 in
theorem kw83 : Cond.methodLink "HullCharts$Sheet" 3 ⟨"java/lang/Object", "<init>", "()V"⟩ ∈ wtG := wtG_of 83 (by rfl) rfl
set_option maxRecDepth 20000 in
theorem kw84 : Cond.fieldLink "HullCharts$Sheet" 9 "HullCharts$Sheet" "numbers" "[I" ∈ wtG := wtG_of 84 (by rfl) rfl
set_option maxRecDepth 20000 in
theorem kw85 : Cond.fieldLink "HullCharts$Sheet" 15 "HullCharts$Sheet" "length" "I" ∈ wtG := wtG_of 85 (by rfl) rfl
set_option maxRecDepth 20000 in
theorem kw86 : Cond.fieldLink "HullCharts$Sheet" 19 "HullCharts$Sheet" "lane" "I" ∈ wtG := wtG_of 86 (by rfl) rfl
set_option maxRecDepth 20000 in
theorem kw87 : Cond.laysFinal "HullCharts$Sheet" "HullCharts$Sheet" "numbers" "[I" ∈ wtG := wtG_of 87 (by rfl) rfl
set_option maxRecDepth 20000 in
theorem kw89 : Cond.lays "HullCharts$Sheet" "HullCharts$Sheet" "length" "I" ∈ wtG := wtG_of 89 (by rfl) rfl
set_option maxRecDepth 20000 in
theorem kw91 : Cond.lays "HullCharts$Sheet" "HullCharts$Sheet" "lane" "I" ∈ wtG := wtG_of 91 (by rfl) rfl
set_option maxRecDepth 20000 in
theorem kw94 : Cond.arrayClass .int ∈ wtG := wtG_of 94 (by rfl) rfl
set_option maxRecDepth 20000 in
theorem kw95 : Cond.classLink "HullCharts" 18 "HullCharts$Sea" ∈ wtG := wtG_of 95 (by rfl) rfl
set_option maxRecDepth 20000 in
theorem kw96 : Cond.instantiable "HullCharts$Sea" 10 ∈ wtG := wtG_of 96 (by rfl) rfl
set_option maxRecDepth 20000 in
theorem kw98 : Cond.instanceMethod ⟨"HullCharts$Sea", "<init>", "()V"⟩ ∈ wtG := wtG_of 98 (by rfl) rfl
set_option maxRecDepth 20000 in
theorem kw99 : Cond.code ⟨"HullCharts$Sea", "<init>", "()V"⟩ prog_3_method_1_code 1 (none) ∈ wtG := wtG_of 99 (by rfl) rfl
set_option maxRecDepth 20000 in
theorem kw100 : Cond.methodLink "HullCharts$Sea" 3 ⟨"java/lang/Object", "<init>", "()V"⟩ ∈ wtG := wtG_of 100 (by rfl) rfl
set_option maxRecDepth 20000 in
theorem kw101 : Cond.fieldLink "HullCharts$Sea" 11 "HullCharts$Sea" "heights" "[I" ∈ wtG := wtG_of 101 (by rfl) rfl
set_option maxRecDepth 20000 in
theorem kw102 : Cond.fieldLink "HullCharts$Sea" 17 "HullCharts$Sea" "lookerKinds" "[I" ∈ wtG := wtG_of 102 (by rfl) rfl
set_option maxRecDepth 20000 in
theorem kw103 : Cond.fieldLink "HullCharts$Sea" 20 "HullCharts$Sea" "lookerShorts" "[I" ∈ wtG := wtG_of 103 (by rfl) rfl
set_option maxRecDepth 20000 in
theorem kw104 : Cond.fieldLink "HullCharts$Sea" 31 "HullCharts$Sea" "columns" "I" ∈ wtG := wtG_of 104 (by rfl) rfl
set_option maxRecDepth 20000 in
theorem kw105 : Cond.fieldLink "HullCharts$Sea" 35 "HullCharts$Sea" "rows" "I" ∈ wtG := wtG_of 105 (by rfl) rfl
set_option maxRecDepth 20000 in
theorem kw106 : Cond.fieldLink "HullCharts$Sea" 46 "HullCharts$Sea" "lookers" "I" ∈ wtG := wtG_of 106 (by rfl) rfl
set_option maxRecDepth 20000 in
theorem kw107 : Cond.fieldLink "HullCharts$Sea" 62 "HullCharts$Sea" "onHull" "I" ∈ wtG := wtG_of 107 (by rfl) rfl
set_option maxRecDepth 20000 in
theorem kw108 : Cond.fieldLink "HullCharts$Sea" 59 "HullCharts$Sea" "place" "I" ∈ wtG := wtG_of 108 (by rfl) rfl
set_option maxRecDepth 20000 in
theorem kw109 : Cond.fieldLink "HullCharts$Sea" 69 "HullCharts$Sea" "seenCells" "J" ∈ wtG := wtG_of 109 (by rfl) rfl
set_option maxRecDepth 20000 in
theorem kw110 : Cond.fieldLink "HullCharts$Sea" 73 "HullCharts$Sea" "stepsDone" "I" ∈ wtG := wtG_of 110 (by rfl) rfl
set_option maxRecDepth 20000 in
theorem kw111 : Cond.laysFinal "HullCharts$Sea" "HullCharts$Sea" "heights" "[I" ∈ wtG := wtG_of 111 (by rfl) rfl
set_option maxRecDepth 20000 in
theorem kw113 : Cond.laysFinal "HullCharts$Sea" "HullCharts$Sea" "lookerKinds" "[I" ∈ wtG := wtG_of 113 (by rfl) rfl
set_option maxRecDepth 20000 in
theorem kw115 : Cond.laysFinal "HullCharts$Sea" "HullCharts$Sea" "lookerShorts" "[I" ∈ wtG := wtG_of 115 (by rfl) rfl
set_option maxRecDepth 20000 in
theorem kw117 : Cond.lays "HullCharts$Sea" "HullCharts$Sea" "columns" "I" ∈ wtG := wtG_of 117 (by rfl) rfl
set_option maxRecDepth 20000 in
theorem kw119 : Cond.lays "HullCharts$Sea" "HullCharts$Sea" "rows" "I" ∈ wtG := wtG_of 119 (by rfl) rfl
set_option maxRecDepth 20000 in
theorem kw121 : Cond.lays "HullCharts$Sea" "HullCharts$Sea" "lookers" "I" ∈ wtG := wtG_of 121 (by rfl) rfl
set_option maxRecDepth 20000 in
theorem kw123 : Cond.lays "HullCharts$Sea" "HullCharts$Sea" "onHull" "I" ∈ wtG := wtG_of 123 (by rfl) rfl
set_option maxRecDepth 20000 in
theorem kw125 : Cond.lays "HullCharts$Sea" "HullCharts$Sea" "place" "I" ∈ wtG := wtG_of 125 (by rfl) rfl
set_option maxRecDepth 20000 in
theorem kw127 : Cond.lays "HullCharts$Sea" "HullCharts$Sea" "seenCells" "J" ∈ wtG := wtG_of 127 (by rfl) rfl
set_option maxRecDepth 20000 in
theorem kw129 : Cond.lays "HullCharts$Sea" "HullCharts$Sea" "stepsDone" "I" ∈ wtG := wtG_of 129 (by rfl) rfl
set_option maxRecDepth 20000 in
theorem kw132 : Cond.classLink "HullCharts" 25 "HullCharts$Readings" ∈ wtG := wtG_of 132 (by rfl) rfl
set_option maxRecDepth 20000 in
theorem kw133 : Cond.instantiable "HullCharts$Readings" 4 ∈ wtG := wtG_of 133 (by rfl) rfl
set_option maxRecDepth 20000 in
theorem kw135 : Cond.instanceMethod ⟨"HullCharts$Readings", "<init>", "()V"⟩ ∈ wtG := wtG_of 135 (by rfl) rfl
set_option maxRecDepth 20000 in
theorem kw136 : Cond.code ⟨"HullCharts$Readings", "<init>", "()V"⟩ prog_2_method_1_code 1 (none) ∈ wtG := wtG_of 136 (by rfl) rfl
set_option maxRecDepth 20000 in
theorem kw137 : Cond.methodLink "HullCharts$Readings" 1 ⟨"java/lang/Object", "<init>", "()V"⟩ ∈ wtG := wtG_of 137 (by rfl) rfl
set_option maxRecDepth 20000 in
theorem kw138 : Cond.fieldLink "HullCharts$Readings" 9 "HullCharts$Readings" "lookers" "[I" ∈ wtG := wtG_of 138 (by rfl) rfl
set_option maxRecDepth 20000 in
theorem kw139 : Cond.fieldLink "HullCharts$Readings" 13 "HullCharts$Readings" "heights" "[I" ∈ wtG := wtG_of 139 (by rfl) rfl
set_option maxRecDepth 20000 in
theorem kw140 : Cond.fieldLink "HullCharts$Readings" 16 "HullCharts$Readings" "numbers" "[I" ∈ wtG := wtG_of 140 (by rfl) rfl
set_option maxRecDepth 20000 in
theorem kw141 : Cond.fieldLink "HullCharts$Readings" 19 "HullCharts$Readings" "count" "I" ∈ wtG := wtG_of 141 (by rfl) rfl
set_option maxRecDepth 20000 in
theorem kw142 : Cond.laysFinal "HullCharts$Readings" "HullCharts$Readings" "lookers" "[I" ∈ wtG := wtG_of 142 (by rfl) rfl
set_option maxRecDepth 20000 in
theorem kw144 : Cond.laysFinal "HullCharts$Readings" "HullCharts$Readings" "heights" "[I" ∈ wtG := wtG_of 144 (by rfl) rfl
set_option maxRecDepth 20000 in
theorem kw146 : Cond.laysFinal "HullCharts$Readings" "HullCharts$Readings" "numbers" "[I" ∈ wtG := wtG_of 146 (by rfl) rfl
set_option maxRecDepth 20000 in
theorem kw148 : Cond.lays "HullCharts$Readings" "HullCharts$Readings" "count" "I" ∈ wtG := wtG_of 148 (by rfl) rfl
set_option maxRecDepth 20000 in
theorem kw151 : Cond.fieldLink "HullCharts" 12 "HullCharts" "sheets" "[LHullCharts$Sheet;" ∈ wtG := wtG_of 151 (by rfl) rfl
set_option maxRecDepth 20000 in
theorem kw152 : Cond.fieldLink "HullCharts" 21 "HullCharts" "chart" "LHullCharts$Sea;" ∈ wtG := wtG_of 152 (by rfl) rfl
set_option maxRecDepth 20000 in
theorem kw153 : Cond.fieldLink "HullCharts" 28 "HullCharts" "readings" "LHullCharts$Readings;" ∈ wtG := wtG_of 153 (by rfl) rfl
set_option maxRecDepth 20000 in
theorem kw154 : Cond.fieldLink "HullCharts" 32 "HullCharts" "taken" "[I" ∈ wtG := wtG_of 154 (by rfl) rfl
set_option maxRecDepth 20000 in
theorem kw155 : Cond.fieldLink "HullCharts" 236 "HullCharts" "traced" "I" ∈ wtG := wtG_of 155 (by rfl) rfl
set_option maxRecDepth 20000 in
theorem kw156 : Cond.fieldLink "HullCharts" 36 "HullCharts" "latestFault" "I" ∈ wtG := wtG_of 156 (by rfl) rfl
set_option maxRecDepth 20000 in
theorem kw157 : Cond.laysFinal "HullCharts" "HullCharts" "sheets" "[LHullCharts$Sheet;" ∈ wtG := wtG_of 157 (by rfl) rfl
set_option maxRecDepth 20000 in
theorem kw159 : Cond.laysFinal "HullCharts" "HullCharts" "chart" "LHullCharts$Sea;" ∈ wtG := wtG_of 159 (by rfl) rfl
set_option maxRecDepth 20000 in
theorem kw161 : Cond.laysFinal "HullCharts" "HullCharts" "readings" "LHullCharts$Readings;" ∈ wtG := wtG_of 161 (by rfl) rfl
set_option maxRecDepth 20000 in
theorem kw163 : Cond.laysFinal "HullCharts" "HullCharts" "taken" "[I" ∈ wtG := wtG_of 163 (by rfl) rfl
set_option maxRecDepth 20000 in
theorem kw165 : Cond.lays "HullCharts" "HullCharts" "traced" "I" ∈ wtG := wtG_of 165 (by rfl) rfl
set_option maxRecDepth 20000 in
theorem kw167 : Cond.lays "HullCharts" "HullCharts" "latestFault" "I" ∈ wtG := wtG_of 167 (by rfl) rfl
set_option maxRecDepth 20000 in
theorem kw170 : Cond.methodLink "HullChartsLaw" 13 ⟨"HullCharts", "sea", "(IIII)I"⟩ ∈ wtG := wtG_of 170 (by rfl) rfl
set_option maxRecDepth 20000 in
theorem kw171 : Cond.instanceMethod ⟨"HullCharts", "sea", "(IIII)I"⟩ ∈ wtG := wtG_of 171 (by rfl) rfl
set_option maxRecDepth 20000 in
theorem kw172 : Cond.selects "HullCharts" ⟨"HullCharts", "sea", "(IIII)I"⟩ ⟨"HullCharts", "sea", "(IIII)I"⟩ ∈ wtG := wtG_of 172 (by rfl) rfl
set_option maxRecDepth 20000 in
theorem kw173 : Cond.code ⟨"HullCharts", "sea", "(IIII)I"⟩ prog_1_method_2_code 8 (some .int) ∈ wtG := wtG_of 173 (by rfl) rfl
set_option maxRecDepth 20000 in
theorem kw174 : Cond.methodLink "HullCharts" 40 ⟨"HullCharts", "sheetOf", "(I)LHullCharts$Sheet;"⟩ ∈ wtG := wtG_of 174 (by rfl) rfl
set_option maxRecDepth 20000 in
theorem kw176 : Cond.instanceMethod ⟨"HullCharts", "sheetOf", "(I)LHullCharts$Sheet;"⟩ ∈ wtG := wtG_of 176 (by rfl) rfl
set_option maxRecDepth 20000 in
theorem kw177 : Cond.code ⟨"HullCharts", "sheetOf", "(I)LHullCharts$Sheet;"⟩ prog_1_method_33_code 2 (some (.object "HullCharts$Sheet")) ∈ wtG := wtG_of 177 (by rfl) rfl
set_option maxRecDepth 20000 in
theorem kw178 : Cond.methodLink "HullCharts" 44 ⟨"HullCharts", "isLane", "(I)Z"⟩ ∈ wtG := wtG_of 178 (by rfl) rfl
set_option maxRecDepth 20000 in
theorem kw179 : Cond.static ⟨"HullCharts", "isLane", "(I)Z"⟩ ∈ wtG := wtG_of 179 (by rfl) rfl
set_option maxRecDepth 20000 in
theorem kw180 : Cond.code ⟨"HullCharts", "isLane", "(I)Z"⟩ prog_1_method_46_code 1 (some .boolean) ∈ wtG := wtG_of 180 (by rfl) rfl
set_option maxRecDepth 20000 in
theorem kw181 : Cond.methodLink "HullCharts" 141 ⟨"HullCharts", "within", "(III)Z"⟩ ∈ wtG := wtG_of 181 (by rfl) rfl
set_option maxRecDepth 20000 in
theorem kw182 : Cond.static ⟨"HullCharts", "within", "(III)Z"⟩ ∈ wtG := wtG_of 182 (by rfl) rfl
set_option maxRecDepth 20000 in
theorem kw183 : Cond.code ⟨"HullCharts", "within", "(III)Z"⟩ prog_1_method_45_code 3 (some .boolean) ∈ wtG := wtG_of 183 (by rfl) rfl
set_option maxRecDepth 20000 in
theorem kw184 : Cond.methodLink "HullCharts" 48 ⟨"HullCharts", "take", "(LHullCharts$Sheet;III)I"⟩ ∈ wtG := wtG_of 184 (by rfl) rfl
set_option maxRecDepth 20000 in
theorem kw186 : Cond.instanceMethod ⟨"HullCharts", "take", "(LHullCharts$Sheet;III)I"⟩ ∈ wtG := wtG_of 186 (by rfl) rfl
set_option maxRecDepth 20000 in
theorem kw187 : Cond.code ⟨"HullCharts", "take", "(LHullCharts$Sheet;III)I"⟩ prog_1_method_35_code 6 (some .int) ∈ wtG := wtG_of 187 (by rfl) rfl
set_option maxRecDepth 20000 in
theorem kw188 : Cond.methodLink "HullCharts" 208 ⟨"HullCharts$Sheet", "faultInTaking", "(III)I"⟩ ∈ wtG := wtG_of 188 (by rfl) rfl
set_option maxRecDepth 20000 in
theorem kw189 : Cond.instanceMethod ⟨"HullCharts$Sheet", "faultInTaking", "(III)I"⟩ ∈ wtG := wtG_of 189 (by rfl) rfl
set_option maxRecDepth 20000 in
theorem kw190 : Cond.selects "HullCharts$Sheet" ⟨"HullCharts$Sheet", "faultInTaking", "(III)I"⟩ ⟨"HullCharts$Sheet", "faultInTaking", "(III)I"⟩ ∈ wtG := wtG_of 190 (by rfl) rfl
set_option maxRecDepth 20000 in
theorem kw191 : Cond.code ⟨"HullCharts$Sheet", "faultInTaking", "(III)I"⟩ prog_5_method_5_code 4 (some .int) ∈ wtG := wtG_of 191 (by rfl) rfl
set_option maxRecDepth 20000 in
theorem kw192 : Cond.methodLink "HullCharts$Sheet" 22 ⟨"HullCharts$Sheet", "hasNothing", "()Z"⟩ ∈ wtG := wtG_of 192 (by rfl) rfl
set_option maxRecDepth 20000 in
theorem kw193 : Cond.instanceMethod ⟨"HullCharts$Sheet", "hasNothing", "()Z"⟩ ∈ wtG := wtG_of 193 (by rfl) rfl
set_option maxRecDepth 20000 in
theorem kw194 : Cond.selects "HullCharts$Sheet" ⟨"HullCharts$Sheet", "hasNothing", "()Z"⟩ ⟨"HullCharts$Sheet", "hasNothing", "()Z"⟩ ∈ wtG := wtG_of 194 (by rfl) rfl
set_option maxRecDepth 20000 in
theorem kw195 : Cond.code ⟨"HullCharts$Sheet", "hasNothing", "()Z"⟩ prog_5_method_2_code 1 (some .boolean) ∈ wtG := wtG_of 195 (by rfl) rfl
set_option maxRecDepth 20000 in
theorem kw196 : Cond.methodLink "HullCharts$Sheet" 26 ⟨"HullCharts$Sheet", "hasCells", "(II)Z"⟩ ∈ wtG := wtG_of 196 (by rfl) rfl
set_option maxRecDepth 20000 in
theorem kw197 : Cond.instanceMethod ⟨"HullCharts$Sheet", "hasCells", "(II)Z"⟩ ∈ wtG := wtG_of 197 (by rfl) rfl
set_option maxRecDepth 20000 in
theorem kw198 : Cond.selects "HullCharts$Sheet" ⟨"HullCharts$Sheet", "hasCells", "(II)Z"⟩ ⟨"HullCharts$Sheet", "hasCells", "(II)Z"⟩ ∈ wtG := wtG_of 198 (by rfl) rfl
set_option maxRecDepth 20000 in
theorem kw199 : Cond.code ⟨"HullCharts$Sheet", "hasCells", "(II)Z"⟩ prog_5_method_4_code 3 (some .boolean) ∈ wtG := wtG_of 199 (by rfl) rfl
set_option maxRecDepth 20000 in
theorem kw200 : Cond.methodLink "HullCharts" 217 ⟨"HullCharts", "readInto", "([ILHullCharts$Sheet;II)V"⟩ ∈ wtG := wtG_of 200 (by rfl) rfl
set_option maxRecDepth 20000 in
theorem kw201 : Cond.static ⟨"HullCharts", "readInto", "([ILHullCharts$Sheet;II)V"⟩ ∈ wtG := wtG_of 201 (by rfl) rfl
set_option maxRecDepth 20000 in
theorem kw202 : Cond.code ⟨"HullCharts", "readInto", "([ILHullCharts$Sheet;II)V"⟩ prog_1_method_36_code 5 (none) ∈ wtG := wtG_of 202 (by rfl) rfl
set_option maxRecDepth 20000 in
theorem kw203 : Cond.methodLink "HullCharts" 211 ⟨"HullCharts$Sheet", "read", "(I)I"⟩ ∈ wtG := wtG_of 203 (by rfl) rfl
set_option maxRecDepth 20000 in
theorem kw204 : Cond.instanceMethod ⟨"HullCharts$Sheet", "read", "(I)I"⟩ ∈ wtG := wtG_of 204 (by rfl) rfl
set_option maxRecDepth 20000 in
theorem kw205 : Cond.selects "HullCharts$Sheet" ⟨"HullCharts$Sheet", "read", "(I)I"⟩ ⟨"HullCharts$Sheet", "read", "(I)I"⟩ ∈ wtG := wtG_of 205 (by rfl) rfl
set_option maxRecDepth 20000 in
theorem kw206 : Cond.code ⟨"HullCharts$Sheet", "read", "(I)I"⟩ prog_5_method_8_code 2 (some .int) ∈ wtG := wtG_of 206 (by rfl) rfl
set_option maxRecDepth 20000 in
theorem kw208 : Cond.static ⟨"HullCharts", "numberAt", "([II)I"⟩ ∈ wtG := wtG_of 208 (by rfl) rfl
set_option maxRecDepth 20000 in
theorem kw209 : Cond.code ⟨"HullCharts", "numberAt", "([II)I"⟩ prog_1_method_50_code 2 (some .int) ∈ wtG := wtG_of 209 (by rfl) rfl
set_option maxRecDepth 20000 in
theorem kw210 : Cond.methodLink "HullCharts" 248 ⟨"HullCharts", "setNumber", "([III)V"⟩ ∈ wtG := wtG_of 210 (by rfl) rfl
set_option maxRecDepth 20000 in
theorem kw211 : Cond.static ⟨"HullCharts", "setNumber", "([III)V"⟩ ∈ wtG := wtG_of 211 (by rfl) rfl
set_option maxRecDepth 20000 in
theorem kw212 : Cond.code ⟨"HullCharts", "setNumber", "([III)V"⟩ prog_1_method_51_code 3 (none) ∈ wtG := wtG_of 212 (by rfl) rfl
set_option maxRecDepth 20000 in
theorem kw213 : Cond.methodLink "HullCharts" 52 ⟨"HullCharts", "faulted", "(I)I"⟩ ∈ wtG := wtG_of 213 (by rfl) rfl
set_option maxRecDepth 20000 in
theorem kw215 : Cond.instanceMethod ⟨"HullCharts", "faulted", "(I)I"⟩ ∈ wtG := wtG_of 215 (by rfl) rfl
set_option maxRecDepth 20000 in
theorem kw216 : Cond.code ⟨"HullCharts", "faulted", "(I)I"⟩ prog_1_method_34_code 2 (some .int) ∈ wtG := wtG_of 216 (by rfl) rfl
set_option maxRecDepth 20000 in
theorem kw217 : Cond.methodLink "HullCharts" 56 ⟨"HullCharts$SeaText", "firstFault", "([II)I"⟩ ∈ wtG := wtG_of 217 (by rfl) rfl
set_option maxRecDepth 20000 in
theorem kw218 : Cond.static ⟨"HullCharts$SeaText", "firstFault", "([II)I"⟩ ∈ wtG := wtG_of 218 (by rfl) rfl
set_option maxRecDepth 20000 in
theorem kw219 : Cond.code ⟨"HullCharts$SeaText", "firstFault", "([II)I"⟩ prog_4_method_2_code 6 (some .int) ∈ wtG := wtG_of 219 (by rfl) rfl
set_option maxRecDepth 20000 in
theorem kw220 : Cond.methodLink "HullCharts$SeaText" 9 ⟨"HullCharts$SeaText", "codeAt", "([III)I"⟩ ∈ wtG := wtG_of 220 (by rfl) rfl
set_option maxRecDepth 20000 in
theorem kw221 : Cond.static ⟨"HullCharts$SeaText", "codeAt", "([III)I"⟩ ∈ wtG := wtG_of 221 (by rfl) rfl
set_option maxRecDepth 20000 in
theorem kw222 : Cond.code ⟨"HullCharts$SeaText", "codeAt", "([III)I"⟩ prog_4_method_5_code 3 (some .int) ∈ wtG := wtG_of 222 (by rfl) rfl
set_option maxRecDepth 20000 in
theorem kw224 : Cond.methodLink "HullCharts$SeaText" 15 ⟨"HullCharts$SeaText", "digitOf", "(I)I"⟩ ∈ wtG := wtG_of 224 (by rfl) rfl
set_option maxRecDepth 20000 in
theorem kw225 : Cond.static ⟨"HullCharts$SeaText", "digitOf", "(I)I"⟩ ∈ wtG := wtG_of 225 (by rfl) rfl
set_option maxRecDepth 20000 in
theorem kw226 : Cond.code ⟨"HullCharts$SeaText", "digitOf", "(I)I"⟩ prog_4_method_7_code 1 (some .int) ∈ wtG := wtG_of 226 (by rfl) rfl
set_option maxRecDepth 20000 in
theorem kw228 : Cond.methodLink "HullCharts$SeaText" 19 ⟨"HullCharts$SeaText", "isEdge", "(I)Z"⟩ ∈ wtG := wtG_of 228 (by rfl) rfl
set_option maxRecDepth 20000 in
theorem kw229 : Cond.static ⟨"HullCharts$SeaText", "isEdge", "(I)Z"⟩ ∈ wtG := wtG_of 229 (by rfl) rfl
set_option maxRecDepth 20000 in
theorem kw230 : Cond.code ⟨"HullCharts$SeaText", "isEdge", "(I)Z"⟩ prog_4_method_6_code 1 (some .boolean) ∈ wtG := wtG_of 230 (by rfl) rfl
set_option maxRecDepth 20000 in
theorem kw231 : Cond.methodLink "HullCharts$SeaText" 23 ⟨"HullCharts$SeaText", "faultInLookers", "([III)I"⟩ ∈ wtG := wtG_of 231 (by rfl) rfl
set_option maxRecDepth 20000 in
theorem kw232 : Cond.static ⟨"HullCharts$SeaText", "faultInLookers", "([III)I"⟩ ∈ wtG := wtG_of 232 (by rfl) rfl
set_option maxRecDepth 20000 in
theorem kw233 : Cond.code ⟨"HullCharts$SeaText", "faultInLookers", "([III)I"⟩ prog_4_method_3_code 7 (some .int) ∈ wtG := wtG_of 233 (by rfl) rfl
set_option maxRecDepth 20000 in
theorem kw234 : Cond.methodLink "HullCharts$SeaText" 30 ⟨"java/lang/Math", "min", "(II)I"⟩ ∈ wtG := wtG_of 234 (by rfl) rfl
set_option maxRecDepth 20000 in
theorem kw235 : Cond.static ⟨"java/lang/Math", "min", "(II)I"⟩ ∈ wtG := wtG_of 235 (by rfl) rfl
set_option maxRecDepth 20000 in
theorem kw236 : Cond.code ⟨"java/lang/Math", "min", "(II)I"⟩ prog_10_method_69_code 2 (some .int) ∈ wtG := wtG_of 236 (by rfl) rfl
set_option maxRecDepth 20000 in
theorem kw237 : Cond.methodLink "HullCharts$SeaText" 36 ⟨"HullCharts$SeaText", "faultInTail", "([IIII)I"⟩ ∈ wtG := wtG_of 237 (by rfl) rfl
set_option maxRecDepth 20000 in
theorem kw238 : Cond.static ⟨"HullCharts$SeaText", "faultInTail", "([IIII)I"⟩ ∈ wtG := wtG_of 238 (by rfl) rfl
set_option maxRecDepth 20000 in
theorem kw239 : Cond.code ⟨"HullCharts$SeaText", "faultInTail", "([IIII)I"⟩ prog_4_method_4_code 6 (some .int) ∈ wtG := wtG_of 239 (by rfl) rfl
set_option maxRecDepth 20000 in
theorem kw240 : Cond.methodLink "HullCharts$SeaText" 40 ⟨"HullCharts$SeaText", "kindOf", "(I)I"⟩ ∈ wtG := wtG_of 240 (by rfl) rfl
set_option maxRecDepth 20000 in
theorem kw241 : Cond.static ⟨"HullCharts$SeaText", "kindOf", "(I)I"⟩ ∈ wtG := wtG_of 241 (by rfl) rfl
set_option maxRecDepth 20000 in
theorem kw242 : Cond.code ⟨"HullCharts$SeaText", "kindOf", "(I)I"⟩ prog_4_method_8_code 1 (some .int) ∈ wtG := wtG_of 242 (by rfl) rfl
set_option maxRecDepth 20000 in
theorem kw243 : Cond.methodLink "HullCharts" 62 ⟨"HullCharts$Sea", "beginBy", "([II)V"⟩ ∈ wtG := wtG_of 243 (by rfl) rfl
set_option maxRecDepth 20000 in
theorem kw244 : Cond.instanceMethod ⟨"HullCharts$Sea", "beginBy", "([II)V"⟩ ∈ wtG := wtG_of 244 (by rfl) rfl
set_option maxRecDepth 20000 in
theorem kw245 : Cond.selects "HullCharts$Sea" ⟨"HullCharts$Sea", "beginBy", "([II)V"⟩ ⟨"HullCharts$Sea", "beginBy", "([II)V"⟩ ∈ wtG := wtG_of 245 (by rfl) rfl
set_option maxRecDepth 20000 in
theorem kw246 : Cond.code ⟨"HullCharts$Sea", "beginBy", "([II)V"⟩ prog_3_method_2_code 6 (none) ∈ wtG := wtG_of 246 (by rfl) rfl
set_option maxRecDepth 20000 in
theorem kw248 : Cond.methodLink "HullCharts$Sea" 27 ⟨"HullCharts$SeaText", "digitOf", "(I)I"⟩ ∈ wtG := wtG_of 248 (by rfl) rfl
set_option maxRecDepth 20000 in
theorem kw249 : Cond.methodLink "HullCharts$Sea" 38 ⟨"HullCharts$Sea", "cells", "()I"⟩ ∈ wtG := wtG_of 249 (by rfl) rfl
set_option maxRecDepth 20000 in
theorem kw250 : Cond.instanceMethod ⟨"HullCharts$Sea", "cells", "()I"⟩ ∈ wtG := wtG_of 250 (by rfl) rfl
set_option maxRecDepth 20000 in
theorem kw251 : Cond.selects "HullCharts$Sea" ⟨"HullCharts$Sea", "cells", "()I"⟩ ⟨"HullCharts$Sea", "cells", "()I"⟩ ∈ wtG := wtG_of 251 (by rfl) rfl
set_option maxRecDepth 20000 in
theorem kw252 : Cond.code ⟨"HullCharts$Sea", "cells", "()I"⟩ prog_3_method_10_code 1 (some .int) ∈ wtG := wtG_of 252 (by rfl) rfl
set_option maxRecDepth 20000 in
theorem kw253 : Cond.methodLink "HullCharts$Sea" 42 ⟨"HullCharts$Sea", "makeHeight", "(II)V"⟩ ∈ wtG := wtG_of 253 (by rfl) rfl
set_option maxRecDepth 20000 in
theorem kw254 : Cond.instanceMethod ⟨"HullCharts$Sea", "makeHeight", "(II)V"⟩ ∈ wtG := wtG_of 254 (by rfl) rfl
set_option maxRecDepth 20000 in
theorem kw255 : Cond.selects "HullCharts$Sea" ⟨"HullCharts$Sea", "makeHeight", "(II)V"⟩ ⟨"HullCharts$Sea", "makeHeight", "(II)V"⟩ ∈ wtG := wtG_of 255 (by rfl) rfl
set_option maxRecDepth 20000 in
theorem kw256 : Cond.code ⟨"HullCharts$Sea", "makeHeight", "(II)V"⟩ prog_3_method_14_code 3 (none) ∈ wtG := wtG_of 256 (by rfl) rfl
set_option maxRecDepth 20000 in
theorem kw258 : Cond.methodLink "HullCharts$Sea" 49 ⟨"HullCharts$SeaText", "kindOf", "(I)I"⟩ ∈ wtG := wtG_of 258 (by rfl) rfl
set_option maxRecDepth 20000 in
theorem kw259 : Cond.methodLink "HullCharts$Sea" 56 ⟨"HullCharts$Sea", "makeShort", "(II)V"⟩ ∈ wtG := wtG_of 259 (by rfl) rfl
set_option maxRecDepth 20000 in
theorem kw260 : Cond.instanceMethod ⟨"HullCharts$Sea", "makeShort", "(II)V"⟩ ∈ wtG := wtG_of 260 (by rfl) rfl
set_option maxRecDepth 20000 in
theorem kw261 : Cond.selects "HullCharts$Sea" ⟨"HullCharts$Sea", "makeShort", "(II)V"⟩ ⟨"HullCharts$Sea", "makeShort", "(II)V"⟩ ∈ wtG := wtG_of 261 (by rfl) rfl
set_option maxRecDepth 20000 in
theorem kw262 : Cond.code ⟨"HullCharts$Sea", "makeShort", "(II)V"⟩ prog_3_method_17_code 3 (none) ∈ wtG := wtG_of 262 (by rfl) rfl
set_option maxRecDepth 20000 in
theorem kw263 : Cond.methodLink "HullCharts$Sea" 65 ⟨"HullCharts$Sea", "seenFrom", "(I)J"⟩ ∈ wtG := wtG_of 263 (by rfl) rfl
set_option maxRecDepth 20000 in
theorem kw265 : Cond.instanceMethod ⟨"HullCharts$Sea", "seenFrom", "(I)J"⟩ ∈ wtG := wtG_of 265 (by rfl) rfl
set_option maxRecDepth 20000 in
theorem kw266 : Cond.code ⟨"HullCharts$Sea", "seenFrom", "(I)J"⟩ prog_3_method_23_code 2 (some .long) ∈ wtG := wtG_of 266 (by rfl) rfl
set_option maxRecDepth 20000 in
theorem kw267 : Cond.methodLink "HullCharts" 66 ⟨"HullCharts$Readings", "keep", "(I)V"⟩ ∈ wtG := wtG_of 267 (by rfl) rfl
set_option maxRecDepth 20000 in
theorem kw268 : Cond.instanceMethod ⟨"HullCharts$Readings", "keep", "(I)V"⟩ ∈ wtG := wtG_of 268 (by rfl) rfl
set_option maxRecDepth 20000 in
theorem kw269 : Cond.selects "HullCharts$Readings" ⟨"HullCharts$Readings", "keep", "(I)V"⟩ ⟨"HullCharts$Readings", "keep", "(I)V"⟩ ∈ wtG := wtG_of 269 (by rfl) rfl
set_option maxRecDepth 20000 in
theorem kw270 : Cond.code ⟨"HullCharts$Readings", "keep", "(I)V"⟩ prog_2_method_5_code 2 (none) ∈ wtG := wtG_of 270 (by rfl) rfl
set_option maxRecDepth 20000 in
theorem kw271 : Cond.methodLink "HullCharts" 70 ⟨"HullCharts$Sea", "lookers", "()I"⟩ ∈ wtG := wtG_of 271 (by rfl) rfl
set_option maxRecDepth 20000 in
theorem kw272 : Cond.instanceMethod ⟨"HullCharts$Sea", "lookers", "()I"⟩ ∈ wtG := wtG_of 272 (by rfl) rfl
set_option maxRecDepth 20000 in
theorem kw273 : Cond.selects "HullCharts$Sea" ⟨"HullCharts$Sea", "lookers", "()I"⟩ ⟨"HullCharts$Sea", "lookers", "()I"⟩ ∈ wtG := wtG_of 273 (by rfl) rfl
set_option maxRecDepth 20000 in
theorem kw274 : Cond.code ⟨"HullCharts$Sea", "lookers", "()I"⟩ prog_3_method_6_code 1 (some .int) ∈ wtG := wtG_of 274 (by rfl) rfl
set_option maxRecDepth 20000 in
theorem kw275 : Cond.methodLink "HullChartsLaw" 18 ⟨"HullCharts", "ofLooker", "(II)I"⟩ ∈ wtG := wtG_of 275 (by rfl) rfl
set_option maxRecDepth 20000 in
theorem kw276 : Cond.instanceMethod ⟨"HullCharts", "ofLooker", "(II)I"⟩ ∈ wtG := wtG_of 276 (by rfl) rfl
set_option maxRecDepth 20000 in
theorem kw277 : Cond.selects "HullCharts" ⟨"HullCharts", "ofLooker", "(II)I"⟩ ⟨"HullCharts", "ofLooker", "(II)I"⟩ ∈ wtG := wtG_of 277 (by rfl) rfl
set_option maxRecDepth 20000 in
theorem kw278 : Cond.code ⟨"HullCharts", "ofLooker", "(II)I"⟩ prog_1_method_3_code 3 (some .int) ∈ wtG := wtG_of 278 (by rfl) rfl
set_option maxRecDepth 20000 in
theorem kw279 : Cond.methodLink "HullCharts" 74 ⟨"HullCharts$Sea", "isLooker", "(I)Z"⟩ ∈ wtG := wtG_of 279 (by rfl) rfl
set_option maxRecDepth 20000 in
theorem kw280 : Cond.instanceMethod ⟨"HullCharts$Sea", "isLooker", "(I)Z"⟩ ∈ wtG := wtG_of 280 (by rfl) rfl
set_option maxRecDepth 20000 in
theorem kw281 : Cond.selects "HullCharts$Sea" ⟨"HullCharts$Sea", "isLooker", "(I)Z"⟩ ⟨"HullCharts$Sea", "isLooker", "(I)Z"⟩ ∈ wtG := wtG_of 281 (by rfl) rfl
set_option maxRecDepth 20000 in
theorem kw282 : Cond.code ⟨"HullCharts$Sea", "isLooker", "(I)Z"⟩ prog_3_method_12_code 2 (some .boolean) ∈ wtG := wtG_of 282 (by rfl) rfl
set_option maxRecDepth 20000 in
theorem kw283 : Cond.methodLink "HullCharts" 77 ⟨"HullCharts$Sea", "kindOf", "(I)I"⟩ ∈ wtG := wtG_of 283 (by rfl) rfl
set_option maxRecDepth 20000 in
theorem kw284 : Cond.instanceMethod ⟨"HullCharts$Sea", "kindOf", "(I)I"⟩ ∈ wtG := wtG_of 284 (by rfl) rfl
set_option maxRecDepth 20000 in
theorem kw285 : Cond.selects "HullCharts$Sea" ⟨"HullCharts$Sea", "kindOf", "(I)I"⟩ ⟨"HullCharts$Sea", "kindOf", "(I)I"⟩ ∈ wtG := wtG_of 285 (by rfl) rfl
set_option maxRecDepth 20000 in
theorem kw286 : Cond.code ⟨"HullCharts$Sea", "kindOf", "(I)I"⟩ prog_3_method_15_code 2 (some .int) ∈ wtG := wtG_of 286 (by rfl) rfl
set_option maxRecDepth 20000 in
theorem kw287 : Cond.methodLink "HullCharts" 80 ⟨"HullCharts$Sea", "shortOf", "(I)I"⟩ ∈ wtG := wtG_of 287 (by rfl) rfl
set_option maxRecDepth 20000 in
theorem kw288 : Cond.instanceMethod ⟨"HullCharts$Sea", "shortOf", "(I)I"⟩ ∈ wtG := wtG_of 288 (by rfl) rfl
set_option maxRecDepth 20000 in
theorem kw289 : Cond.selects "HullCharts$Sea" ⟨"HullCharts$Sea", "shortOf", "(I)I"⟩ ⟨"HullCharts$Sea", "shortOf", "(I)I"⟩ ∈ wtG := wtG_of 289 (by rfl) rfl
set_option maxRecDepth 20000 in
theorem kw290 : Cond.code ⟨"HullCharts$Sea", "shortOf", "(I)I"⟩ prog_3_method_16_code 2 (some .int) ∈ wtG := wtG_of 290 (by rfl) rfl
set_option maxRecDepth 20000 in
theorem kw291 : Cond.methodLink "HullCharts" 83 ⟨"HullCharts$Sea", "isGone", "(I)Z"⟩ ∈ wtG := wtG_of 291 (by rfl) rfl
set_option maxRecDepth 20000 in
theorem kw292 : Cond.instanceMethod ⟨"HullCharts$Sea", "isGone", "(I)Z"⟩ ∈ wtG := wtG_of 292 (by rfl) rfl
set_option maxRecDepth 20000 in
theorem kw293 : Cond.selects "HullCharts$Sea" ⟨"HullCharts$Sea", "isGone", "(I)Z"⟩ ⟨"HullCharts$Sea", "isGone", "(I)Z"⟩ ∈ wtG := wtG_of 293 (by rfl) rfl
set_option maxRecDepth 20000 in
theorem kw294 : Cond.code ⟨"HullCharts$Sea", "isGone", "(I)Z"⟩ prog_3_method_18_code 2 (some .boolean) ∈ wtG := wtG_of 294 (by rfl) rfl
set_option maxRecDepth 20000 in
theorem kw295 : Cond.methodLink "HullCharts" 86 ⟨"HullCharts$Sea", "place", "()I"⟩ ∈ wtG := wtG_of 295 (by rfl) rfl
set_option maxRecDepth 20000 in
theorem kw296 : Cond.instanceMethod ⟨"HullCharts$Sea", "place", "()I"⟩ ∈ wtG := wtG_of 296 (by rfl) rfl
set_option maxRecDepth 20000 in
theorem kw297 : Cond.selects "HullCharts$Sea" ⟨"HullCharts$Sea", "place", "()I"⟩ ⟨"HullCharts$Sea", "place", "()I"⟩ ∈ wtG := wtG_of 297 (by rfl) rfl
set_option maxRecDepth 20000 in
theorem kw298 : Cond.code ⟨"HullCharts$Sea", "place", "()I"⟩ prog_3_method_7_code 1 (some .int) ∈ wtG := wtG_of 298 (by rfl) rfl
set_option maxRecDepth 20000 in
theorem kw299 : Cond.methodLink "HullCharts" 89 ⟨"HullCharts$Sea", "toldOf", "(II)I"⟩ ∈ wtG := wtG_of 299 (by rfl) rfl
set_option maxRecDepth 20000 in
theorem kw300 : Cond.instanceMethod ⟨"HullCharts$Sea", "toldOf", "(II)I"⟩ ∈ wtG := wtG_of 300 (by rfl) rfl
set_option maxRecDepth 20000 in
theorem kw301 : Cond.selects "HullCharts$Sea" ⟨"HullCharts$Sea", "toldOf", "(II)I"⟩ ⟨"HullCharts$Sea", "toldOf", "(II)I"⟩ ∈ wtG := wtG_of 301 (by rfl) rfl
set_option maxRecDepth 20000 in
theorem kw302 : Cond.code ⟨"HullCharts$Sea", "toldOf", "(II)I"⟩ prog_3_method_24_code 3 (some .int) ∈ wtG := wtG_of 302 (by rfl) rfl
set_option maxRecDepth 20000 in
theorem kw303 : Cond.methodLink "HullCharts$Sea" 81 ⟨"HullCharts$Sea", "kindOf", "(I)I"⟩ ∈ wtG := wtG_of 303 (by rfl) rfl
set_option maxRecDepth 20000 in
theorem kw304 : Cond.methodLink "HullCharts$Sea" 82 ⟨"HullCharts$Sea", "shortOf", "(I)I"⟩ ∈ wtG := wtG_of 304 (by rfl) rfl
set_option maxRecDepth 20000 in
theorem kw305 : Cond.methodLink "HullCharts$Sea" 85 ⟨"HullCharts$Sea", "heightOf", "(I)I"⟩ ∈ wtG := wtG_of 305 (by rfl) rfl
set_option maxRecDepth 20000 in
theorem kw306 : Cond.instanceMethod ⟨"HullCharts$Sea", "heightOf", "(I)I"⟩ ∈ wtG := wtG_of 306 (by rfl) rfl
set_option maxRecDepth 20000 in
theorem kw307 : Cond.selects "HullCharts$Sea" ⟨"HullCharts$Sea", "heightOf", "(I)I"⟩ ⟨"HullCharts$Sea", "heightOf", "(I)I"⟩ ∈ wtG := wtG_of 307 (by rfl) rfl
set_option maxRecDepth 20000 in
theorem kw308 : Cond.code ⟨"HullCharts$Sea", "heightOf", "(I)I"⟩ prog_3_method_13_code 2 (some .int) ∈ wtG := wtG_of 308 (by rfl) rfl
set_option maxRecDepth 20000 in
theorem kw309 : Cond.methodLink "HullCharts$Sea" 88 ⟨"HullCharts$Sea", "told", "(III)I"⟩ ∈ wtG := wtG_of 309 (by rfl) rfl
set_option maxRecDepth 20000 in
theorem kw310 : Cond.static ⟨"HullCharts$Sea", "told", "(III)I"⟩ ∈ wtG := wtG_of 310 (by rfl) rfl
set_option maxRecDepth 20000 in
theorem kw311 : Cond.code ⟨"HullCharts$Sea", "told", "(III)I"⟩ prog_3_method_25_code 4 (some .int) ∈ wtG := wtG_of 311 (by rfl) rfl
set_option maxRecDepth 20000 in
theorem kw312 : Cond.methodLink "HullCharts$Sea" 92 ⟨"java/lang/Math", "max", "(II)I"⟩ ∈ wtG := wtG_of 312 (by rfl) rfl
set_option maxRecDepth 20000 in
theorem kw313 : Cond.static ⟨"java/lang/Math", "max", "(II)I"⟩ ∈ wtG := wtG_of 313 (by rfl) rfl
set_option maxRecDepth 20000 in
theorem kw314 : Cond.code ⟨"java/lang/Math", "max", "(II)I"⟩ prog_10_method_65_code 2 (some .int) ∈ wtG := wtG_of 314 (by rfl) rfl
set_option maxRecDepth 20000 in
theorem kw315 : Cond.methodLink "HullChartsLaw" 23 ⟨"HullCharts", "height", "(I)I"⟩ ∈ wtG := wtG_of 315 (by rfl) rfl
set_option maxRecDepth 20000 in
theorem kw316 : Cond.instanceMethod ⟨"HullCharts", "height", "(I)I"⟩ ∈ wtG := wtG_of 316 (by rfl) rfl
set_option maxRecDepth 20000 in
theorem kw317 : Cond.selects "HullCharts" ⟨"HullCharts", "height", "(I)I"⟩ ⟨"HullCharts", "height", "(I)I"⟩ ∈ wtG := wtG_of 317 (by rfl) rfl
set_option maxRecDepth 20000 in
theorem kw318 : Cond.code ⟨"HullCharts", "height", "(I)I"⟩ prog_1_method_4_code 2 (some .int) ∈ wtG := wtG_of 318 (by rfl) rfl
set_option maxRecDepth 20000 in
theorem kw319 : Cond.methodLink "HullCharts" 93 ⟨"HullCharts$Sea", "isCell", "(I)Z"⟩ ∈ wtG := wtG_of 319 (by rfl) rfl
set_option maxRecDepth 20000 in
theorem kw320 : Cond.instanceMethod ⟨"HullCharts$Sea", "isCell", "(I)Z"⟩ ∈ wtG := wtG_of 320 (by rfl) rfl
set_option maxRecDepth 20000 in
theorem kw321 : Cond.selects "HullCharts$Sea" ⟨"HullCharts$Sea", "isCell", "(I)Z"⟩ ⟨"HullCharts$Sea", "isCell", "(I)Z"⟩ ∈ wtG := wtG_of 321 (by rfl) rfl
set_option maxRecDepth 20000 in
theorem kw322 : Cond.code ⟨"HullCharts$Sea", "isCell", "(I)Z"⟩ prog_3_method_11_code 2 (some .boolean) ∈ wtG := wtG_of 322 (by rfl) rfl
set_option maxRecDepth 20000 in
theorem kw323 : Cond.methodLink "HullCharts" 96 ⟨"HullCharts$Sea", "heightOf", "(I)I"⟩ ∈ wtG := wtG_of 323 (by rfl) rfl
set_option maxRecDepth 20000 in
theorem kw324 : Cond.methodLink "HullChartsLaw" 28 ⟨"HullCharts", "heap", "(II)I"⟩ ∈ wtG := wtG_of 324 (by rfl) rfl
set_option maxRecDepth 20000 in
theorem kw325 : Cond.instanceMethod ⟨"HullCharts", "heap", "(II)I"⟩ ∈ wtG := wtG_of 325 (by rfl) rfl
set_option maxRecDepth 20000 in
theorem kw326 : Cond.selects "HullCharts" ⟨"HullCharts", "heap", "(II)I"⟩ ⟨"HullCharts", "heap", "(II)I"⟩ ∈ wtG := wtG_of 326 (by rfl) rfl
set_option maxRecDepth 20000 in
theorem kw327 : Cond.code ⟨"HullCharts", "heap", "(II)I"⟩ prog_1_method_5_code 4 (some .int) ∈ wtG := wtG_of 327 (by rfl) rfl
set_option maxRecDepth 20000 in
theorem kw328 : Cond.methodLink "HullCharts" 99 ⟨"HullCharts", "isDigit", "(I)Z"⟩ ∈ wtG := wtG_of 328 (by rfl) rfl
set_option maxRecDepth 20000 in
theorem kw329 : Cond.static ⟨"HullCharts", "isDigit", "(I)Z"⟩ ∈ wtG := wtG_of 329 (by rfl) rfl
set_option maxRecDepth 20000 in
theorem kw330 : Cond.code ⟨"HullCharts", "isDigit", "(I)Z"⟩ prog_1_method_48_code 1 (some .boolean) ∈ wtG := wtG_of 330 (by rfl) rfl
set_option maxRecDepth 20000 in
theorem kw331 : Cond.methodLink "HullCharts" 102 ⟨"HullCharts$Sea", "makeHeight", "(II)V"⟩ ∈ wtG := wtG_of 331 (by rfl) rfl
set_option maxRecDepth 20000 in
theorem kw332 : Cond.methodLink "HullChartsLaw" 32 ⟨"HullCharts", "dim", "(II)I"⟩ ∈ wtG := wtG_of 332 (by rfl) rfl
set_option maxRecDepth 20000 in
theorem kw333 : Cond.instanceMethod ⟨"HullCharts", "dim", "(II)I"⟩ ∈ wtG := wtG_of 333 (by rfl) rfl
set_option maxRecDepth 20000 in
theorem kw334 : Cond.selects "HullCharts" ⟨"HullCharts", "dim", "(II)I"⟩ ⟨"HullCharts", "dim", "(II)I"⟩ ∈ wtG := wtG_of 334 (by rfl) rfl
set_option maxRecDepth 20000 in
theorem kw335 : Cond.code ⟨"HullCharts", "dim", "(II)I"⟩ prog_1_method_6_code 4 (some .int) ∈ wtG := wtG_of 335 (by rfl) rfl
set_option maxRecDepth 20000 in
theorem kw336 : Cond.methodLink "HullCharts" 106 ⟨"HullCharts$Sea", "makeShort", "(II)V"⟩ ∈ wtG := wtG_of 336 (by rfl) rfl
set_option maxRecDepth 20000 in
theorem kw337 : Cond.methodLink "HullChartsLaw" 36 ⟨"HullCharts", "scrape", "(I)I"⟩ ∈ wtG := wtG_of 337 (by rfl) rfl
set_option maxRecDepth 20000 in
theorem kw338 : Cond.instanceMethod ⟨"HullCharts", "scrape", "(I)I"⟩ ∈ wtG := wtG_of 338 (by rfl) rfl
set_option maxRecDepth 20000 in
theorem kw339 : Cond.selects "HullCharts" ⟨"HullCharts", "scrape", "(I)I"⟩ ⟨"HullCharts", "scrape", "(I)I"⟩ ∈ wtG := wtG_of 339 (by rfl) rfl
set_option maxRecDepth 20000 in
theorem kw340 : Cond.code ⟨"HullCharts", "scrape", "(I)I"⟩ prog_1_method_7_code 2 (some .int) ∈ wtG := wtG_of 340 (by rfl) rfl
set_option maxRecDepth 20000 in
theorem kw341 : Cond.methodLink "HullCharts" 109 ⟨"HullCharts$Sea", "takeOff", "(I)V"⟩ ∈ wtG := wtG_of 341 (by rfl) rfl
set_option maxRecDepth 20000 in
theorem kw342 : Cond.instanceMethod ⟨"HullCharts$Sea", "takeOff", "(I)V"⟩ ∈ wtG := wtG_of 342 (by rfl) rfl
set_option maxRecDepth 20000 in
theorem kw343 : Cond.selects "HullCharts$Sea" ⟨"HullCharts$Sea", "takeOff", "(I)V"⟩ ⟨"HullCharts$Sea", "takeOff", "(I)V"⟩ ∈ wtG := wtG_of 343 (by rfl) rfl
set_option maxRecDepth 20000 in
theorem kw344 : Cond.code ⟨"HullCharts$Sea", "takeOff", "(I)V"⟩ prog_3_method_20_code 2 (none) ∈ wtG := wtG_of 344 (by rfl) rfl
set_option maxRecDepth 20000 in
theorem kw345 : Cond.methodLink "HullCharts" 112 ⟨"HullCharts$Sea", "lookersLeft", "()I"⟩ ∈ wtG := wtG_of 345 (by rfl) rfl
set_option maxRecDepth 20000 in
theorem kw346 : Cond.instanceMethod ⟨"HullCharts$Sea", "lookersLeft", "()I"⟩ ∈ wtG := wtG_of 346 (by rfl) rfl
set_option maxRecDepth 20000 in
theorem kw347 : Cond.selects "HullCharts$Sea" ⟨"HullCharts$Sea", "lookersLeft", "()I"⟩ ⟨"HullCharts$Sea", "lookersLeft", "()I"⟩ ∈ wtG := wtG_of 347 (by rfl) rfl
set_option maxRecDepth 20000 in
theorem kw348 : Cond.code ⟨"HullCharts$Sea", "lookersLeft", "()I"⟩ prog_3_method_19_code 1 (some .int) ∈ wtG := wtG_of 348 (by rfl) rfl
set_option maxRecDepth 20000 in
theorem kw349 : Cond.methodLink "HullCharts$Sea" 76 ⟨"java/lang/Integer", "bitCount", "(I)I"⟩ ∈ wtG := wtG_of 349 (by rfl) rfl
set_option maxRecDepth 20000 in
theorem kw350 : Cond.static ⟨"java/lang/Integer", "bitCount", "(I)I"⟩ ∈ wtG := wtG_of 350 (by rfl) rfl
set_option maxRecDepth 20000 in
theorem kw351 : Cond.code ⟨"java/lang/Integer", "bitCount", "(I)I"⟩ prog_8_method_49_code 1 (some .int) ∈ wtG := wtG_of 351 (by rfl) rfl
set_option maxRecDepth 20000 in
theorem kw352 : Cond.constant "java/lang/Integer" 265 (1431655765) ∈ wtG := wtG_of 352 (by rfl) rfl
set_option maxRecDepth 20000 in
theorem kw353 : Cond.constant "java/lang/Integer" 266 (858993459) ∈ wtG := wtG_of 353 (by rfl) rfl
set_option maxRecDepth 20000 in
theorem kw354 : Cond.constant "java/lang/Integer" 267 (252645135) ∈ wtG := wtG_of 354 (by rfl) rfl
set_option maxRecDepth 20000 in
theorem kw355 : Cond.methodLink "HullChartsLaw" 40 ⟨"HullCharts", "grow", "(I)I"⟩ ∈ wtG := wtG_of 355 (by rfl) rfl
set_option maxRecDepth 20000 in
theorem kw356 : Cond.instanceMethod ⟨"HullCharts", "grow", "(I)I"⟩ ∈ wtG := wtG_of 356 (by rfl) rfl
set_option maxRecDepth 20000 in
theorem kw357 : Cond.selects "HullCharts" ⟨"HullCharts", "grow", "(I)I"⟩ ⟨"HullCharts", "grow", "(I)I"⟩ ∈ wtG := wtG_of 357 (by rfl) rfl
set_option maxRecDepth 20000 in
theorem kw358 : Cond.code ⟨"HullCharts", "grow", "(I)I"⟩ prog_1_method_8_code 2 (some .int) ∈ wtG := wtG_of 358 (by rfl) rfl
set_option maxRecDepth 20000 in
theorem kw359 : Cond.methodLink "HullCharts" 115 ⟨"HullCharts$Sea", "bringBack", "(I)V"⟩ ∈ wtG := wtG_of 359 (by rfl) rfl
set_option maxRecDepth 20000 in
theorem kw360 : Cond.instanceMethod ⟨"HullCharts$Sea", "bringBack", "(I)V"⟩ ∈ wtG := wtG_of 360 (by rfl) rfl
set_option maxRecDepth 20000 in
theorem kw361 : Cond.selects "HullCharts$Sea" ⟨"HullCharts$Sea", "bringBack", "(I)V"⟩ ⟨"HullCharts$Sea", "bringBack", "(I)V"⟩ ∈ wtG := wtG_of 361 (by rfl) rfl
set_option maxRecDepth 20000 in
theorem kw362 : Cond.code ⟨"HullCharts$Sea", "bringBack", "(I)V"⟩ prog_3_method_21_code 2 (none) ∈ wtG := wtG_of 362 (by rfl) rfl
set_option maxRecDepth 20000 in
theorem kw363 : Cond.methodLink "HullChartsLaw" 44 ⟨"HullCharts", "seen", "()J"⟩ ∈ wtG := wtG_of 363 (by rfl) rfl
set_option maxRecDepth 20000 in
theorem kw364 : Cond.instanceMethod ⟨"HullCharts", "seen", "()J"⟩ ∈ wtG := wtG_of 364 (by rfl) rfl
set_option maxRecDepth 20000 in
theorem kw365 : Cond.selects "HullCharts" ⟨"HullCharts", "seen", "()J"⟩ ⟨"HullCharts", "seen", "()J"⟩ ∈ wtG := wtG_of 365 (by rfl) rfl
set_option maxRecDepth 20000 in
theorem kw366 : Cond.code ⟨"HullCharts", "seen", "()J"⟩ prog_1_method_9_code 1 (some .long) ∈ wtG := wtG_of 366 (by rfl) rfl
set_option maxRecDepth 20000 in
theorem kw367 : Cond.methodLink "HullCharts" 118 ⟨"HullCharts$Sea", "exists", "()Z"⟩ ∈ wtG := wtG_of 367 (by rfl) rfl
set_option maxRecDepth 20000 in
theorem kw368 : Cond.instanceMethod ⟨"HullCharts$Sea", "exists", "()Z"⟩ ∈ wtG := wtG_of 368 (by rfl) rfl
set_option maxRecDepth 20000 in
theorem kw369 : Cond.selects "HullCharts$Sea" ⟨"HullCharts$Sea", "exists", "()Z"⟩ ⟨"HullCharts$Sea", "exists", "()Z"⟩ ∈ wtG := wtG_of 369 (by rfl) rfl
set_option maxRecDepth 20000 in
theorem kw370 : Cond.code ⟨"HullCharts$Sea", "exists", "()Z"⟩ prog_3_method_3_code 1 (some .boolean) ∈ wtG := wtG_of 370 (by rfl) rfl
set_option maxRecDepth 20000 in
theorem kw371 : Cond.methodLink "HullCharts" 122 ⟨"HullCharts$Sea", "seenCells", "()J"⟩ ∈ wtG := wtG_of 371 (by rfl) rfl
set_option maxRecDepth 20000 in
theorem kw372 : Cond.instanceMethod ⟨"HullCharts$Sea", "seenCells", "()J"⟩ ∈ wtG := wtG_of 372 (by rfl) rfl
set_option maxRecDepth 20000 in
theorem kw373 : Cond.selects "HullCharts$Sea" ⟨"HullCharts$Sea", "seenCells", "()J"⟩ ⟨"HullCharts$Sea", "seenCells", "()J"⟩ ∈ wtG := wtG_of 373 (by rfl) rfl
set_option maxRecDepth 20000 in
theorem kw374 : Cond.code ⟨"HullCharts$Sea", "seenCells", "()J"⟩ prog_3_method_8_code 1 (some .long) ∈ wtG := wtG_of 374 (by rfl) rfl
set_option maxRecDepth 20000 in
theorem kw375 : Cond.constantLong "HullCharts" 126 (-9223372036854775808) ∈ wtG := wtG_of 375 (by rfl) rfl
set_option maxRecDepth 20000 in
theorem kw376 : Cond.methodLink "HullChartsLaw" 49 ⟨"HullCharts", "step", "(I)I"⟩ ∈ wtG := wtG_of 376 (by rfl) rfl
set_option maxRecDepth 20000 in
theorem kw377 : Cond.instanceMethod ⟨"HullCharts", "step", "(I)I"⟩ ∈ wtG := wtG_of 377 (by rfl) rfl
set_option maxRecDepth 20000 in
theorem kw378 : Cond.selects "HullCharts" ⟨"HullCharts", "step", "(I)I"⟩ ⟨"HullCharts", "step", "(I)I"⟩ ∈ wtG := wtG_of 378 (by rfl) rfl
set_option maxRecDepth 20000 in
theorem kw379 : Cond.code ⟨"HullCharts", "step", "(I)I"⟩ prog_1_method_10_code 4 (some .int) ∈ wtG := wtG_of 379 (by rfl) rfl
set_option maxRecDepth 20000 in
theorem kw380 : Cond.methodLink "HullCharts" 128 ⟨"HullCharts", "isStep", "(I)Z"⟩ ∈ wtG := wtG_of 380 (by rfl) rfl
set_option maxRecDepth 20000 in
theorem kw381 : Cond.static ⟨"HullCharts", "isStep", "(I)Z"⟩ ∈ wtG := wtG_of 381 (by rfl) rfl
set_option maxRecDepth 20000 in
theorem kw382 : Cond.code ⟨"HullCharts", "isStep", "(I)Z"⟩ prog_1_method_47_code 1 (some .boolean) ∈ wtG := wtG_of 382 (by rfl) rfl
set_option maxRecDepth 20000 in
theorem kw383 : Cond.methodLink "HullCharts" 131 ⟨"HullCharts$Sea", "nextPlace", "(II)I"⟩ ∈ wtG := wtG_of 383 (by rfl) rfl
set_option maxRecDepth 20000 in
theorem kw384 : Cond.instanceMethod ⟨"HullCharts$Sea", "nextPlace", "(II)I"⟩ ∈ wtG := wtG_of 384 (by rfl) rfl
set_option maxRecDepth 20000 in
theorem kw385 : Cond.selects "HullCharts$Sea" ⟨"HullCharts$Sea", "nextPlace", "(II)I"⟩ ⟨"HullCharts$Sea", "nextPlace", "(II)I"⟩ ∈ wtG := wtG_of 385 (by rfl) rfl
set_option maxRecDepth 20000 in
theorem kw386 : Cond.code ⟨"HullCharts$Sea", "nextPlace", "(II)I"⟩ prog_3_method_29_code 3 (some .int) ∈ wtG := wtG_of 386 (by rfl) rfl
set_option maxRecDepth 20000 in
theorem kw387 : Cond.methodLink "HullCharts$Sea" 105 ⟨"HullCharts$Sea", "rowOf", "(I)I"⟩ ∈ wtG := wtG_of 387 (by rfl) rfl
set_option maxRecDepth 20000 in
theorem kw389 : Cond.instanceMethod ⟨"HullCharts$Sea", "rowOf", "(I)I"⟩ ∈ wtG := wtG_of 389 (by rfl) rfl
set_option maxRecDepth 20000 in
theorem kw390 : Cond.code ⟨"HullCharts$Sea", "rowOf", "(I)I"⟩ prog_3_method_27_code 2 (some .int) ∈ wtG := wtG_of 390 (by rfl) rfl
set_option maxRecDepth 20000 in
theorem kw391 : Cond.methodLink "HullCharts$Sea" 102 ⟨"HullCharts$Sea", "columnOf", "(I)I"⟩ ∈ wtG := wtG_of 391 (by rfl) rfl
set_option maxRecDepth 20000 in
theorem kw393 : Cond.instanceMethod ⟨"HullCharts$Sea", "columnOf", "(I)I"⟩ ∈ wtG := wtG_of 393 (by rfl) rfl
set_option maxRecDepth 20000 in
theorem kw394 : Cond.code ⟨"HullCharts$Sea", "columnOf", "(I)I"⟩ prog_3_method_26_code 2 (some .int) ∈ wtG := wtG_of 394 (by rfl) rfl
set_option maxRecDepth 20000 in
theorem kw395 : Cond.methodLink "HullCharts" 134 ⟨"java/lang/Long", "bitCount", "(J)I"⟩ ∈ wtG := wtG_of 395 (by rfl) rfl
set_option maxRecDepth 20000 in
theorem kw396 : Cond.static ⟨"java/lang/Long", "bitCount", "(J)I"⟩ ∈ wtG := wtG_of 396 (by rfl) rfl
set_option maxRecDepth 20000 in
theorem kw397 : Cond.code ⟨"java/lang/Long", "bitCount", "(J)I"⟩ prog_9_method_50_code 2 (some .int) ∈ wtG := wtG_of 397 (by rfl) rfl
set_option maxRecDepth 20000 in
theorem kw398 : Cond.constantLong "java/lang/Long" 314 (6148914691236517205) ∈ wtG := wtG_of 398 (by rfl) rfl
set_option maxRecDepth 20000 in
theorem kw399 : Cond.constantLong "java/lang/Long" 316 (3689348814741910323) ∈ wtG := wtG_of 399 (by rfl) rfl
set_option maxRecDepth 20000 in
theorem kw400 : Cond.constantLong "java/lang/Long" 318 (1085102592571150095) ∈ wtG := wtG_of 400 (by rfl) rfl
set_option maxRecDepth 20000 in
theorem kw401 : Cond.methodLink "HullCharts" 138 ⟨"HullCharts$Sea", "moveTo", "(I)V"⟩ ∈ wtG := wtG_of 401 (by rfl) rfl
set_option maxRecDepth 20000 in
theorem kw402 : Cond.instanceMethod ⟨"HullCharts$Sea", "moveTo", "(I)V"⟩ ∈ wtG := wtG_of 402 (by rfl) rfl
set_option maxRecDepth 20000 in
theorem kw403 : Cond.selects "HullCharts$Sea" ⟨"HullCharts$Sea", "moveTo", "(I)V"⟩ ⟨"HullCharts$Sea", "moveTo", "(I)V"⟩ ∈ wtG := wtG_of 403 (by rfl) rfl
set_option maxRecDepth 20000 in
theorem kw404 : Cond.code ⟨"HullCharts$Sea", "moveTo", "(I)V"⟩ prog_3_method_22_code 2 (none) ∈ wtG := wtG_of 404 (by rfl) rfl
set_option maxRecDepth 20000 in
theorem kw405 : Cond.methodLink "HullChartsLaw" 53 ⟨"HullCharts", "voyage", "(IIIII)I"⟩ ∈ wtG := wtG_of 405 (by rfl) rfl
set_option maxRecDepth 20000 in
theorem kw406 : Cond.instanceMethod ⟨"HullCharts", "voyage", "(IIIII)I"⟩ ∈ wtG := wtG_of 406 (by rfl) rfl
set_option maxRecDepth 20000 in
theorem kw407 : Cond.selects "HullCharts" ⟨"HullCharts", "voyage", "(IIIII)I"⟩ ⟨"HullCharts", "voyage", "(IIIII)I"⟩ ∈ wtG := wtG_of 407 (by rfl) rfl
set_option maxRecDepth 20000 in
theorem kw408 : Cond.code ⟨"HullCharts", "voyage", "(IIIII)I"⟩ prog_1_method_11_code 9 (some .int) ∈ wtG := wtG_of 408 (by rfl) rfl
set_option maxRecDepth 20000 in
theorem kw409 : Cond.methodLink "HullCharts" 145 ⟨"HullCharts", "numberAt", "([II)I"⟩ ∈ wtG := wtG_of 409 (by rfl) rfl
set_option maxRecDepth 20000 in
theorem kw410 : Cond.methodLink "HullCharts" 148 ⟨"HullCharts$Sea", "ofVoyage", "([III)I"⟩ ∈ wtG := wtG_of 410 (by rfl) rfl
set_option maxRecDepth 20000 in
theorem kw411 : Cond.instanceMethod ⟨"HullCharts$Sea", "ofVoyage", "([III)I"⟩ ∈ wtG := wtG_of 411 (by rfl) rfl
set_option maxRecDepth 20000 in
theorem kw412 : Cond.selects "HullCharts$Sea" ⟨"HullCharts$Sea", "ofVoyage", "([III)I"⟩ ⟨"HullCharts$Sea", "ofVoyage", "([III)I"⟩ ∈ wtG := wtG_of 412 (by rfl) rfl
set_option maxRecDepth 20000 in
theorem kw413 : Cond.code ⟨"HullCharts$Sea", "ofVoyage", "([III)I"⟩ prog_3_method_30_code 10 (some .int) ∈ wtG := wtG_of 413 (by rfl) rfl
set_option maxRecDepth 20000 in
theorem kw414 : Cond.methodLink "HullCharts$Sea" 108 ⟨"HullCharts$Sea", "nextPlace", "(II)I"⟩ ∈ wtG := wtG_of 414 (by rfl) rfl
set_option maxRecDepth 20000 in
theorem kw415 : Cond.methodLink "HullCharts$Sea" 111 ⟨"HullCharts$Sea", "toldTogether", "(I)I"⟩ ∈ wtG := wtG_of 415 (by rfl) rfl
set_option maxRecDepth 20000 in
theorem kw417 : Cond.instanceMethod ⟨"HullCharts$Sea", "toldTogether", "(I)I"⟩ ∈ wtG := wtG_of 417 (by rfl) rfl
set_option maxRecDepth 20000 in
theorem kw418 : Cond.code ⟨"HullCharts$Sea", "toldTogether", "(I)I"⟩ prog_3_method_31_code 4 (some .int) ∈ wtG := wtG_of 418 (by rfl) rfl
set_option maxRecDepth 20000 in
theorem kw419 : Cond.methodLink "HullCharts$Sea" 124 ⟨"HullCharts$Sea", "isGone", "(I)Z"⟩ ∈ wtG := wtG_of 419 (by rfl) rfl
set_option maxRecDepth 20000 in
theorem kw420 : Cond.methodLink "HullCharts$Sea" 127 ⟨"HullCharts$Sea", "toldOf", "(II)I"⟩ ∈ wtG := wtG_of 420 (by rfl) rfl
set_option maxRecDepth 20000 in
theorem kw421 : Cond.methodLink "HullCharts$Sea" 114 ⟨"HullCharts$Sea", "mostTold", "(I)I"⟩ ∈ wtG := wtG_of 421 (by rfl) rfl
set_option maxRecDepth 20000 in
theorem kw423 : Cond.instanceMethod ⟨"HullCharts$Sea", "mostTold", "(I)I"⟩ ∈ wtG := wtG_of 423 (by rfl) rfl
set_option maxRecDepth 20000 in
theorem kw424 : Cond.code ⟨"HullCharts$Sea", "mostTold", "(I)I"⟩ prog_3_method_32_code 4 (some .int) ∈ wtG := wtG_of 424 (by rfl) rfl
set_option maxRecDepth 20000 in
theorem kw425 : Cond.constantLong "HullCharts$Sea" 117 (-1) ∈ wtG := wtG_of 425 (by rfl) rfl
set_option maxRecDepth 20000 in
theorem kw426 : Cond.methodLink "HullCharts$Sea" 119 ⟨"java/lang/Long", "bitCount", "(J)I"⟩ ∈ wtG := wtG_of 426 (by rfl) rfl
set_option maxRecDepth 20000 in
theorem kw427 : Cond.methodLink "HullChartsLaw" 58 ⟨"HullCharts", "way", "(II)I"⟩ ∈ wtG := wtG_of 427 (by rfl) rfl
set_option maxRecDepth 20000 in
theorem kw428 : Cond.instanceMethod ⟨"HullCharts", "way", "(II)I"⟩ ∈ wtG := wtG_of 428 (by rfl) rfl
set_option maxRecDepth 20000 in
theorem kw429 : Cond.selects "HullCharts" ⟨"HullCharts", "way", "(II)I"⟩ ⟨"HullCharts", "way", "(II)I"⟩ ∈ wtG := wtG_of 429 (by rfl) rfl
set_option maxRecDepth 20000 in
theorem kw430 : Cond.code ⟨"HullCharts", "way", "(II)I"⟩ prog_1_method_12_code 3 (some .int) ∈ wtG := wtG_of 430 (by rfl) rfl
set_option maxRecDepth 20000 in
theorem kw431 : Cond.methodLink "HullCharts" 152 ⟨"HullCharts$Sea", "ofWay", "(II)I"⟩ ∈ wtG := wtG_of 431 (by rfl) rfl
set_option maxRecDepth 20000 in
theorem kw432 : Cond.instanceMethod ⟨"HullCharts$Sea", "ofWay", "(II)I"⟩ ∈ wtG := wtG_of 432 (by rfl) rfl
set_option maxRecDepth 20000 in
theorem kw433 : Cond.selects "HullCharts$Sea" ⟨"HullCharts$Sea", "ofWay", "(II)I"⟩ ⟨"HullCharts$Sea", "ofWay", "(II)I"⟩ ∈ wtG := wtG_of 433 (by rfl) rfl
set_option maxRecDepth 20000 in
theorem kw434 : Cond.code ⟨"HullCharts$Sea", "ofWay", "(II)I"⟩ prog_3_method_33_code 9 (some .int) ∈ wtG := wtG_of 434 (by rfl) rfl
set_option maxRecDepth 20000 in
theorem kw435 : Cond.methodLink "HullCharts$Sea" 130 ⟨"HullCharts$Sea", "fewestAcross", "(I)I"⟩ ∈ wtG := wtG_of 435 (by rfl) rfl
set_option maxRecDepth 20000 in
theorem kw437 : Cond.instanceMethod ⟨"HullCharts$Sea", "fewestAcross", "(I)I"⟩ ∈ wtG := wtG_of 437 (by rfl) rfl
set_option maxRecDepth 20000 in
theorem kw438 : Cond.code ⟨"HullCharts$Sea", "fewestAcross", "(I)I"⟩ prog_3_method_34_code 6 (some .int) ∈ wtG := wtG_of 438 (by rfl) rfl
set_option maxRecDepth 20000 in
theorem kw439 : Cond.methodLink "HullCharts$Sea" 133 ⟨"java/lang/Math", "abs", "(I)I"⟩ ∈ wtG := wtG_of 439 (by rfl) rfl
set_option maxRecDepth 20000 in
theorem kw440 : Cond.static ⟨"java/lang/Math", "abs", "(I)I"⟩ ∈ wtG := wtG_of 440 (by rfl) rfl
set_option maxRecDepth 20000 in
theorem kw441 : Cond.code ⟨"java/lang/Math", "abs", "(I)I"⟩ prog_10_method_59_code 1 (some .int) ∈ wtG := wtG_of 441 (by rfl) rfl
set_option maxRecDepth 20000 in
theorem kw442 : Cond.methodLink "HullChartsLaw" 62 ⟨"HullCharts", "most", "(II)I"⟩ ∈ wtG := wtG_of 442 (by rfl) rfl
set_option maxRecDepth 20000 in
theorem kw443 : Cond.instanceMethod ⟨"HullCharts", "most", "(II)I"⟩ ∈ wtG := wtG_of 443 (by rfl) rfl
set_option maxRecDepth 20000 in
theorem kw444 : Cond.selects "HullCharts" ⟨"HullCharts", "most", "(II)I"⟩ ⟨"HullCharts", "most", "(II)I"⟩ ∈ wtG := wtG_of 444 (by rfl) rfl
set_option maxRecDepth 20000 in
theorem kw445 : Cond.code ⟨"HullCharts", "most", "(II)I"⟩ prog_1_method_13_code 3 (some .int) ∈ wtG := wtG_of 445 (by rfl) rfl
set_option maxRecDepth 20000 in
theorem kw446 : Cond.methodLink "HullCharts" 155 ⟨"HullCharts$Sea", "ofMost", "(II)I"⟩ ∈ wtG := wtG_of 446 (by rfl) rfl
set_option maxRecDepth 20000 in
theorem kw447 : Cond.instanceMethod ⟨"HullCharts$Sea", "ofMost", "(II)I"⟩ ∈ wtG := wtG_of 447 (by rfl) rfl
set_option maxRecDepth 20000 in
theorem kw448 : Cond.selects "HullCharts$Sea" ⟨"HullCharts$Sea", "ofMost", "(II)I"⟩ ⟨"HullCharts$Sea", "ofMost", "(II)I"⟩ ∈ wtG := wtG_of 448 (by rfl) rfl
set_option maxRecDepth 20000 in
theorem kw449 : Cond.code ⟨"HullCharts$Sea", "ofMost", "(II)I"⟩ prog_3_method_35_code 4 (some .int) ∈ wtG := wtG_of 449 (by rfl) rfl
set_option maxRecDepth 20000 in
theorem kw450 : Cond.methodLink "HullCharts$Sea" 136 ⟨"HullCharts$Sea", "bestRow", "(I)I"⟩ ∈ wtG := wtG_of 450 (by rfl) rfl
set_option maxRecDepth 20000 in
theorem kw452 : Cond.instanceMethod ⟨"HullCharts$Sea", "bestRow", "(I)I"⟩ ∈ wtG := wtG_of 452 (by rfl) rfl
set_option maxRecDepth 20000 in
theorem kw453 : Cond.code ⟨"HullCharts$Sea", "bestRow", "(I)I"⟩ prog_3_method_36_code 6 (some .int) ∈ wtG := wtG_of 453 (by rfl) rfl
set_option maxRecDepth 20000 in
theorem kw454 : Cond.methodLink "HullCharts$Sea" 139 ⟨"HullCharts$Sea", "gainOf", "(II)I"⟩ ∈ wtG := wtG_of 454 (by rfl) rfl
set_option maxRecDepth 20000 in
theorem kw456 : Cond.instanceMethod ⟨"HullCharts$Sea", "gainOf", "(II)I"⟩ ∈ wtG := wtG_of 456 (by rfl) rfl
set_option maxRecDepth 20000 in
theorem kw457 : Cond.code ⟨"HullCharts$Sea", "gainOf", "(II)I"⟩ prog_3_method_38_code 7 (some .int) ∈ wtG := wtG_of 457 (by rfl) rfl
set_option maxRecDepth 20000 in
theorem kw458 : Cond.methodLink "HullCharts$Sea" 142 ⟨"HullCharts$Sea", "stepOfRow", "(III)I"⟩ ∈ wtG := wtG_of 458 (by rfl) rfl
set_option maxRecDepth 20000 in
theorem kw459 : Cond.static ⟨"HullCharts$Sea", "stepOfRow", "(III)I"⟩ ∈ wtG := wtG_of 459 (by rfl) rfl
set_option maxRecDepth 20000 in
theorem kw460 : Cond.code ⟨"HullCharts$Sea", "stepOfRow", "(III)I"⟩ prog_3_method_37_code 3 (some .int) ∈ wtG := wtG_of 460 (by rfl) rfl
set_option maxRecDepth 20000 in
theorem kw461 : Cond.methodLink "HullChartsLaw" 66 ⟨"HullCharts", "flat", "(I)I"⟩ ∈ wtG := wtG_of 461 (by rfl) rfl
set_option maxRecDepth 20000 in
theorem kw462 : Cond.instanceMethod ⟨"HullCharts", "flat", "(I)I"⟩ ∈ wtG := wtG_of 462 (by rfl) rfl
set_option maxRecDepth 20000 in
theorem kw463 : Cond.selects "HullCharts" ⟨"HullCharts", "flat", "(I)I"⟩ ⟨"HullCharts", "flat", "(I)I"⟩ ∈ wtG := wtG_of 463 (by rfl) rfl
set_option maxRecDepth 20000 in
theorem kw464 : Cond.code ⟨"HullCharts", "flat", "(I)I"⟩ prog_1_method_14_code 2 (some .int) ∈ wtG := wtG_of 464 (by rfl) rfl
set_option maxRecDepth 20000 in
theorem kw465 : Cond.methodLink "HullCharts" 158 ⟨"HullCharts$Sea", "flatWith", "(I)J"⟩ ∈ wtG := wtG_of 465 (by rfl) rfl
set_option maxRecDepth 20000 in
theorem kw466 : Cond.instanceMethod ⟨"HullCharts$Sea", "flatWith", "(I)J"⟩ ∈ wtG := wtG_of 466 (by rfl) rfl
set_option maxRecDepth 20000 in
theorem kw467 : Cond.selects "HullCharts$Sea" ⟨"HullCharts$Sea", "flatWith", "(I)J"⟩ ⟨"HullCharts$Sea", "flatWith", "(I)J"⟩ ∈ wtG := wtG_of 467 (by rfl) rfl
set_option maxRecDepth 20000 in
theorem kw468 : Cond.code ⟨"HullCharts$Sea", "flatWith", "(I)J"⟩ prog_3_method_39_code 7 (some .long) ∈ wtG := wtG_of 468 (by rfl) rfl
set_option maxRecDepth 20000 in
theorem kw469 : Cond.methodLink "HullCharts$Sea" 145 ⟨"HullCharts$Sea", "cellsOfHeight", "(I)J"⟩ ∈ wtG := wtG_of 469 (by rfl) rfl
set_option maxRecDepth 20000 in
theorem kw471 : Cond.instanceMethod ⟨"HullCharts$Sea", "cellsOfHeight", "(I)J"⟩ ∈ wtG := wtG_of 471 (by rfl) rfl
set_option maxRecDepth 20000 in
theorem kw472 : Cond.code ⟨"HullCharts$Sea", "cellsOfHeight", "(I)J"⟩ prog_3_method_40_code 5 (some .long) ∈ wtG := wtG_of 472 (by rfl) rfl
set_option maxRecDepth 20000 in
theorem kw473 : Cond.methodLink "HullCharts$Sea" 148 ⟨"HullCharts$Sea", "bordering", "(J)J"⟩ ∈ wtG := wtG_of 473 (by rfl) rfl
set_option maxRecDepth 20000 in
theorem kw475 : Cond.instanceMethod ⟨"HullCharts$Sea", "bordering", "(J)J"⟩ ∈ wtG := wtG_of 475 (by rfl) rfl
set_option maxRecDepth 20000 in
theorem kw476 : Cond.code ⟨"HullCharts$Sea", "bordering", "(J)J"⟩ prog_3_method_41_code 7 (some .long) ∈ wtG := wtG_of 476 (by rfl) rfl
set_option maxRecDepth 20000 in
theorem kw477 : Cond.methodLink "HullCharts$Sea" 152 ⟨"HullCharts$Sea", "cellsOfColumn", "(I)J"⟩ ∈ wtG := wtG_of 477 (by rfl) rfl
set_option maxRecDepth 20000 in
theorem kw479 : Cond.instanceMethod ⟨"HullCharts$Sea", "cellsOfColumn", "(I)J"⟩ ∈ wtG := wtG_of 479 (by rfl) rfl
set_option maxRecDepth 20000 in
theorem kw480 : Cond.code ⟨"HullCharts$Sea", "cellsOfColumn", "(I)J"⟩ prog_3_method_42_code 5 (some .long) ∈ wtG := wtG_of 480 (by rfl) rfl
set_option maxRecDepth 20000 in
theorem kw481 : Cond.methodLink "HullChartsLaw" 70 ⟨"HullCharts", "begun", "(IIIIII)I"⟩ ∈ wtG := wtG_of 481 (by rfl) rfl
set_option maxRecDepth 20000 in
theorem kw482 : Cond.instanceMethod ⟨"HullCharts", "begun", "(IIIIII)I"⟩ ∈ wtG := wtG_of 482 (by rfl) rfl
set_option maxRecDepth 20000 in
theorem kw483 : Cond.selects "HullCharts" ⟨"HullCharts", "begun", "(IIIIII)I"⟩ ⟨"HullCharts", "begun", "(IIIIII)I"⟩ ∈ wtG := wtG_of 483 (by rfl) rfl
set_option maxRecDepth 20000 in
theorem kw484 : Cond.code ⟨"HullCharts", "begun", "(IIIIII)I"⟩ prog_1_method_15_code 9 (some .int) ∈ wtG := wtG_of 484 (by rfl) rfl
set_option maxRecDepth 20000 in
theorem kw485 : Cond.methodLink "HullCharts" 162 ⟨"HullCharts$Sea", "ofBegins", "([IIII)I"⟩ ∈ wtG := wtG_of 485 (by rfl) rfl
set_option maxRecDepth 20000 in
theorem kw486 : Cond.instanceMethod ⟨"HullCharts$Sea", "ofBegins", "([IIII)I"⟩ ∈ wtG := wtG_of 486 (by rfl) rfl
set_option maxRecDepth 20000 in
theorem kw487 : Cond.selects "HullCharts$Sea" ⟨"HullCharts$Sea", "ofBegins", "([IIII)I"⟩ ⟨"HullCharts$Sea", "ofBegins", "([IIII)I"⟩ ∈ wtG := wtG_of 487 (by rfl) rfl
set_option maxRecDepth 20000 in
theorem kw488 : Cond.code ⟨"HullCharts$Sea", "ofBegins", "([IIII)I"⟩ prog_3_method_43_code 9 (some .int) ∈ wtG := wtG_of 488 (by rfl) rfl
set_option maxRecDepth 20000 in
theorem kw489 : Cond.methodLink "HullCharts$Sea" 155 ⟨"HullCharts$Sea", "isPlace", "(I)Z"⟩ ∈ wtG := wtG_of 489 (by rfl) rfl
set_option maxRecDepth 20000 in
theorem kw491 : Cond.instanceMethod ⟨"HullCharts$Sea", "isPlace", "(I)Z"⟩ ∈ wtG := wtG_of 491 (by rfl) rfl
set_option maxRecDepth 20000 in
theorem kw492 : Cond.code ⟨"HullCharts$Sea", "isPlace", "(I)Z"⟩ prog_3_method_28_code 2 (some .boolean) ∈ wtG := wtG_of 492 (by rfl) rfl
set_option maxRecDepth 20000 in
theorem kw493 : Cond.methodLink "HullCharts$Sea" 98 ⟨"HullCharts$Sea", "isCell", "(I)Z"⟩ ∈ wtG := wtG_of 493 (by rfl) rfl
set_option maxRecDepth 20000 in
theorem kw494 : Cond.methodLink "HullCharts$Sea" 158 ⟨"HullCharts$Sea", "isToldFrom", "(I[III)Z"⟩ ∈ wtG := wtG_of 494 (by rfl) rfl
set_option maxRecDepth 20000 in
theorem kw496 : Cond.instanceMethod ⟨"HullCharts$Sea", "isToldFrom", "(I[III)Z"⟩ ∈ wtG := wtG_of 496 (by rfl) rfl
set_option maxRecDepth 20000 in
theorem kw497 : Cond.code ⟨"HullCharts$Sea", "isToldFrom", "(I[III)Z"⟩ prog_3_method_44_code 7 (some .boolean) ∈ wtG := wtG_of 497 (by rfl) rfl
set_option maxRecDepth 20000 in
theorem kw498 : Cond.methodLink "HullCharts$Sea" 162 ⟨"HullCharts$Sea", "isToldAt", "(I[II)Z"⟩ ∈ wtG := wtG_of 498 (by rfl) rfl
set_option maxRecDepth 20000 in
theorem kw500 : Cond.instanceMethod ⟨"HullCharts$Sea", "isToldAt", "(I[II)Z"⟩ ∈ wtG := wtG_of 500 (by rfl) rfl
set_option maxRecDepth 20000 in
theorem kw501 : Cond.code ⟨"HullCharts$Sea", "isToldAt", "(I[II)Z"⟩ prog_3_method_45_code 5 (some .boolean) ∈ wtG := wtG_of 501 (by rfl) rfl
set_option maxRecDepth 20000 in
theorem kw502 : Cond.methodLink "HullChartsLaw" 75 ⟨"HullCharts", "run", "(IIIII)I"⟩ ∈ wtG := wtG_of 502 (by rfl) rfl
set_option maxRecDepth 20000 in
theorem kw503 : Cond.instanceMethod ⟨"HullCharts", "run", "(IIIII)I"⟩ ∈ wtG := wtG_of 503 (by rfl) rfl
set_option maxRecDepth 20000 in
theorem kw504 : Cond.selects "HullCharts" ⟨"HullCharts", "run", "(IIIII)I"⟩ ⟨"HullCharts", "run", "(IIIII)I"⟩ ∈ wtG := wtG_of 504 (by rfl) rfl
set_option maxRecDepth 20000 in
theorem kw505 : Cond.code ⟨"HullCharts", "run", "(IIIII)I"⟩ prog_1_method_16_code 9 (some .int) ∈ wtG := wtG_of 505 (by rfl) rfl
set_option maxRecDepth 20000 in
theorem kw506 : Cond.methodLink "HullCharts" 166 ⟨"HullCharts", "leastLengthToldAgain", "(I)I"⟩ ∈ wtG := wtG_of 506 (by rfl) rfl
set_option maxRecDepth 20000 in
theorem kw508 : Cond.instanceMethod ⟨"HullCharts", "leastLengthToldAgain", "(I)I"⟩ ∈ wtG := wtG_of 508 (by rfl) rfl
set_option maxRecDepth 20000 in
theorem kw509 : Cond.code ⟨"HullCharts", "leastLengthToldAgain", "(I)I"⟩ prog_1_method_37_code 3 (some .int) ∈ wtG := wtG_of 509 (by rfl) rfl
set_option maxRecDepth 20000 in
theorem kw510 : Cond.methodLink "HullCharts" 252 ⟨"HullCharts", "isToldAgain", "(II)Z"⟩ ∈ wtG := wtG_of 510 (by rfl) rfl
set_option maxRecDepth 20000 in
theorem kw512 : Cond.instanceMethod ⟨"HullCharts", "isToldAgain", "(II)Z"⟩ ∈ wtG := wtG_of 512 (by rfl) rfl
set_option maxRecDepth 20000 in
theorem kw513 : Cond.code ⟨"HullCharts", "isToldAgain", "(II)Z"⟩ prog_1_method_38_code 4 (some .boolean) ∈ wtG := wtG_of 513 (by rfl) rfl
set_option maxRecDepth 20000 in
theorem kw514 : Cond.methodLink "HullChartsLaw" 79 ⟨"HullCharts", "reading", "(III)I"⟩ ∈ wtG := wtG_of 514 (by rfl) rfl
set_option maxRecDepth 20000 in
theorem kw515 : Cond.instanceMethod ⟨"HullCharts", "reading", "(III)I"⟩ ∈ wtG := wtG_of 515 (by rfl) rfl
set_option maxRecDepth 20000 in
theorem kw516 : Cond.selects "HullCharts" ⟨"HullCharts", "reading", "(III)I"⟩ ⟨"HullCharts", "reading", "(III)I"⟩ ∈ wtG := wtG_of 516 (by rfl) rfl
set_option maxRecDepth 20000 in
theorem kw517 : Cond.code ⟨"HullCharts", "reading", "(III)I"⟩ prog_1_method_17_code 4 (some .int) ∈ wtG := wtG_of 517 (by rfl) rfl
set_option maxRecDepth 20000 in
theorem kw518 : Cond.methodLink "HullCharts" 169 ⟨"HullCharts$Readings", "areFull", "()Z"⟩ ∈ wtG := wtG_of 518 (by rfl) rfl
set_option maxRecDepth 20000 in
theorem kw519 : Cond.instanceMethod ⟨"HullCharts$Readings", "areFull", "()Z"⟩ ∈ wtG := wtG_of 519 (by rfl) rfl
set_option maxRecDepth 20000 in
theorem kw520 : Cond.selects "HullCharts$Readings" ⟨"HullCharts$Readings", "areFull", "()Z"⟩ ⟨"HullCharts$Readings", "areFull", "()Z"⟩ ∈ wtG := wtG_of 520 (by rfl) rfl
set_option maxRecDepth 20000 in
theorem kw521 : Cond.code ⟨"HullCharts$Readings", "areFull", "()Z"⟩ prog_2_method_3_code 1 (some .boolean) ∈ wtG := wtG_of 521 (by rfl) rfl
set_option maxRecDepth 20000 in
theorem kw522 : Cond.methodLink "HullCharts" 172 ⟨"HullCharts$Readings", "add", "(III)I"⟩ ∈ wtG := wtG_of 522 (by rfl) rfl
set_option maxRecDepth 20000 in
theorem kw523 : Cond.instanceMethod ⟨"HullCharts$Readings", "add", "(III)I"⟩ ∈ wtG := wtG_of 523 (by rfl) rfl
set_option maxRecDepth 20000 in
theorem kw524 : Cond.selects "HullCharts$Readings" ⟨"HullCharts$Readings", "add", "(III)I"⟩ ⟨"HullCharts$Readings", "add", "(III)I"⟩ ∈ wtG := wtG_of 524 (by rfl) rfl
set_option maxRecDepth 20000 in
theorem kw525 : Cond.code ⟨"HullCharts$Readings", "add", "(III)I"⟩ prog_2_method_4_code 4 (some .int) ∈ wtG := wtG_of 525 (by rfl) rfl
set_option maxRecDepth 20000 in
theorem kw527 : Cond.methodLink "HullChartsLaw" 84 ⟨"HullCharts", "back", "(I)I"⟩ ∈ wtG := wtG_of 527 (by rfl) rfl
set_option maxRecDepth 20000 in
theorem kw528 : Cond.instanceMethod ⟨"HullCharts", "back", "(I)I"⟩ ∈ wtG := wtG_of 528 (by rfl) rfl
set_option maxRecDepth 20000 in
theorem kw529 : Cond.selects "HullCharts" ⟨"HullCharts", "back", "(I)I"⟩ ⟨"HullCharts", "back", "(I)I"⟩ ∈ wtG := wtG_of 529 (by rfl) rfl
set_option maxRecDepth 20000 in
theorem kw530 : Cond.code ⟨"HullCharts", "back", "(I)I"⟩ prog_1_method_18_code 2 (some .int) ∈ wtG := wtG_of 530 (by rfl) rfl
set_option maxRecDepth 20000 in
theorem kw531 : Cond.methodLink "HullCharts" 176 ⟨"HullCharts$Readings", "count", "()I"⟩ ∈ wtG := wtG_of 531 (by rfl) rfl
set_option maxRecDepth 20000 in
theorem kw532 : Cond.instanceMethod ⟨"HullCharts$Readings", "count", "()I"⟩ ∈ wtG := wtG_of 532 (by rfl) rfl
set_option maxRecDepth 20000 in
theorem kw533 : Cond.selects "HullCharts$Readings" ⟨"HullCharts$Readings", "count", "()I"⟩ ⟨"HullCharts$Readings", "count", "()I"⟩ ∈ wtG := wtG_of 533 (by rfl) rfl
set_option maxRecDepth 20000 in
theorem kw534 : Cond.code ⟨"HullCharts$Readings", "count", "()I"⟩ prog_2_method_2_code 1 (some .int) ∈ wtG := wtG_of 534 (by rfl) rfl
set_option maxRecDepth 20000 in
theorem kw535 : Cond.methodLink "HullChartsLaw" 88 ⟨"HullCharts", "shorts", "(I)I"⟩ ∈ wtG := wtG_of 535 (by rfl) rfl
set_option maxRecDepth 20000 in
theorem kw536 : Cond.instanceMethod ⟨"HullCharts", "shorts", "(I)I"⟩ ∈ wtG := wtG_of 536 (by rfl) rfl
set_option maxRecDepth 20000 in
theorem kw537 : Cond.selects "HullCharts" ⟨"HullCharts", "shorts", "(I)I"⟩ ⟨"HullCharts", "shorts", "(I)I"⟩ ∈ wtG := wtG_of 537 (by rfl) rfl
set_option maxRecDepth 20000 in
theorem kw538 : Cond.code ⟨"HullCharts", "shorts", "(I)I"⟩ prog_1_method_19_code 4 (some .int) ∈ wtG := wtG_of 538 (by rfl) rfl
set_option maxRecDepth 20000 in
theorem kw539 : Cond.methodLink "HullCharts" 179 ⟨"HullCharts$Readings", "areSo", "(LHullCharts$Sea;III)Z"⟩ ∈ wtG := wtG_of 539 (by rfl) rfl
set_option maxRecDepth 20000 in
theorem kw540 : Cond.instanceMethod ⟨"HullCharts$Readings", "areSo", "(LHullCharts$Sea;III)Z"⟩ ∈ wtG := wtG_of 540 (by rfl) rfl
set_option maxRecDepth 20000 in
theorem kw541 : Cond.selects "HullCharts$Readings" ⟨"HullCharts$Readings", "areSo", "(LHullCharts$Sea;III)Z"⟩ ⟨"HullCharts$Readings", "areSo", "(LHullCharts$Sea;III)Z"⟩ ∈ wtG := wtG_of 541 (by rfl) rfl
set_option maxRecDepth 20000 in
theorem kw542 : Cond.code ⟨"HullCharts$Readings", "areSo", "(LHullCharts$Sea;III)Z"⟩ prog_2_method_6_code 9 (some .boolean) ∈ wtG := wtG_of 542 (by rfl) rfl
set_option maxRecDepth 20000 in
theorem kw544 : Cond.methodLink "HullCharts$Readings" 33 ⟨"HullCharts$Sea", "kindOf", "(I)I"⟩ ∈ wtG := wtG_of 544 (by rfl) rfl
set_option maxRecDepth 20000 in
theorem kw545 : Cond.methodLink "HullCharts$Readings" 39 ⟨"HullCharts$Sea", "shortOf", "(I)I"⟩ ∈ wtG := wtG_of 545 (by rfl) rfl
set_option maxRecDepth 20000 in
theorem kw546 : Cond.methodLink "HullCharts$Readings" 42 ⟨"HullCharts$Sea", "told", "(III)I"⟩ ∈ wtG := wtG_of 546 (by rfl) rfl
set_option maxRecDepth 20000 in
theorem kw547 : Cond.methodLink "HullChartsLaw" 92 ⟨"HullCharts", "kinds", "(I)I"⟩ ∈ wtG := wtG_of 547 (by rfl) rfl
set_option maxRecDepth 20000 in
theorem kw548 : Cond.instanceMethod ⟨"HullCharts", "kinds", "(I)I"⟩ ∈ wtG := wtG_of 548 (by rfl) rfl
set_option maxRecDepth 20000 in
theorem kw549 : Cond.selects "HullCharts" ⟨"HullCharts", "kinds", "(I)I"⟩ ⟨"HullCharts", "kinds", "(I)I"⟩ ∈ wtG := wtG_of 549 (by rfl) rfl
set_option maxRecDepth 20000 in
theorem kw550 : Cond.code ⟨"HullCharts", "kinds", "(I)I"⟩ prog_1_method_20_code 4 (some .int) ∈ wtG := wtG_of 550 (by rfl) rfl
set_option maxRecDepth 20000 in
theorem kw551 : Cond.methodLink "HullChartsLaw" 96 ⟨"HullCharts", "odds", "(III)J"⟩ ∈ wtG := wtG_of 551 (by rfl) rfl
set_option maxRecDepth 20000 in
theorem kw552 : Cond.instanceMethod ⟨"HullCharts", "odds", "(III)J"⟩ ∈ wtG := wtG_of 552 (by rfl) rfl
set_option maxRecDepth 20000 in
theorem kw553 : Cond.selects "HullCharts" ⟨"HullCharts", "odds", "(III)J"⟩ ⟨"HullCharts", "odds", "(III)J"⟩ ∈ wtG := wtG_of 553 (by rfl) rfl
set_option maxRecDepth 20000 in
theorem kw554 : Cond.code ⟨"HullCharts", "odds", "(III)J"⟩ prog_1_method_21_code 7 (some .long) ∈ wtG := wtG_of 554 (by rfl) rfl
set_option maxRecDepth 20000 in
theorem kw555 : Cond.methodLink "HullCharts" 183 ⟨"HullCharts$Sea", "placesWhereTold", "(II)I"⟩ ∈ wtG := wtG_of 555 (by rfl) rfl
set_option maxRecDepth 20000 in
theorem kw556 : Cond.instanceMethod ⟨"HullCharts$Sea", "placesWhereTold", "(II)I"⟩ ∈ wtG := wtG_of 556 (by rfl) rfl
set_option maxRecDepth 20000 in
theorem kw557 : Cond.selects "HullCharts$Sea" ⟨"HullCharts$Sea", "placesWhereTold", "(II)I"⟩ ⟨"HullCharts$Sea", "placesWhereTold", "(II)I"⟩ ∈ wtG := wtG_of 557 (by rfl) rfl
set_option maxRecDepth 20000 in
theorem kw558 : Cond.code ⟨"HullCharts$Sea", "placesWhereTold", "(II)I"⟩ prog_3_method_47_code 5 (some .int) ∈ wtG := wtG_of 558 (by rfl) rfl
set_option maxRecDepth 20000 in
theorem kw559 : Cond.methodLink "HullCharts" 186 ⟨"HullCharts$Sea", "places", "()I"⟩ ∈ wtG := wtG_of 559 (by rfl) rfl
set_option maxRecDepth 20000 in
theorem kw560 : Cond.instanceMethod ⟨"HullCharts$Sea", "places", "()I"⟩ ∈ wtG := wtG_of 560 (by rfl) rfl
set_option maxRecDepth 20000 in
theorem kw561 : Cond.selects "HullCharts$Sea" ⟨"HullCharts$Sea", "places", "()I"⟩ ⟨"HullCharts$Sea", "places", "()I"⟩ ∈ wtG := wtG_of 561 (by rfl) rfl
set_option maxRecDepth 20000 in
theorem kw562 : Cond.code ⟨"HullCharts$Sea", "places", "()I"⟩ prog_3_method_46_code 1 (some .int) ∈ wtG := wtG_of 562 (by rfl) rfl
set_option maxRecDepth 20000 in
theorem kw563 : Cond.methodLink "HullCharts" 189 ⟨"HullCharts", "greatestDivisor", "(II)I"⟩ ∈ wtG := wtG_of 563 (by rfl) rfl
set_option maxRecDepth 20000 in
theorem kw564 : Cond.static ⟨"HullCharts", "greatestDivisor", "(II)I"⟩ ∈ wtG := wtG_of 564 (by rfl) rfl
set_option maxRecDepth 20000 in
theorem kw565 : Cond.code ⟨"HullCharts", "greatestDivisor", "(II)I"⟩ prog_1_method_49_code 3 (some .int) ∈ wtG := wtG_of 565 (by rfl) rfl
set_option maxRecDepth 20000 in
theorem kw566 : Cond.methodLink "HullChartsLaw" 101 ⟨"HullCharts", "sheet", "(III)I"⟩ ∈ wtG := wtG_of 566 (by rfl) rfl
set_option maxRecDepth 20000 in
theorem kw567 : Cond.instanceMethod ⟨"HullCharts", "sheet", "(III)I"⟩ ∈ wtG := wtG_of 567 (by rfl) rfl
set_option maxRecDepth 20000 in
theorem kw568 : Cond.selects "HullCharts" ⟨"HullCharts", "sheet", "(III)I"⟩ ⟨"HullCharts", "sheet", "(III)I"⟩ ∈ wtG := wtG_of 568 (by rfl) rfl
set_option maxRecDepth 20000 in
theorem kw569 : Cond.code ⟨"HullCharts", "sheet", "(III)I"⟩ prog_1_method_22_code 5 (some .int) ∈ wtG := wtG_of 569 (by rfl) rfl
set_option maxRecDepth 20000 in
theorem kw570 : Cond.methodLink "HullCharts" 192 ⟨"HullCharts$Sheet", "renew", "(II)V"⟩ ∈ wtG := wtG_of 570 (by rfl) rfl
set_option maxRecDepth 20000 in
theorem kw571 : Cond.instanceMethod ⟨"HullCharts$Sheet", "renew", "(II)V"⟩ ∈ wtG := wtG_of 571 (by rfl) rfl
set_option maxRecDepth 20000 in
theorem kw572 : Cond.selects "HullCharts$Sheet" ⟨"HullCharts$Sheet", "renew", "(II)V"⟩ ⟨"HullCharts$Sheet", "renew", "(II)V"⟩ ∈ wtG := wtG_of 572 (by rfl) rfl
set_option maxRecDepth 20000 in
theorem kw573 : Cond.code ⟨"HullCharts$Sheet", "renew", "(II)V"⟩ prog_5_method_6_code 3 (none) ∈ wtG := wtG_of 573 (by rfl) rfl
set_option maxRecDepth 20000 in
theorem kw574 : Cond.methodLink "HullCharts$Sheet" 30 ⟨"java/util/Arrays", "fill", "([II)V"⟩ ∈ wtG := wtG_of 574 (by rfl) rfl
set_option maxRecDepth 20000 in
theorem kw575 : Cond.static ⟨"java/util/Arrays", "fill", "([II)V"⟩ ∈ wtG := wtG_of 575 (by rfl) rfl
set_option maxRecDepth 20000 in
theorem kw576 : Cond.code ⟨"java/util/Arrays", "fill", "([II)V"⟩ prog_11_method_103_code 4 (none) ∈ wtG := wtG_of 576 (by rfl) rfl
set_option maxRecDepth 20000 in
theorem kw577 : Cond.methodLink "HullChartsLaw" 105 ⟨"HullCharts", "lose", "(I)I"⟩ ∈ wtG := wtG_of 577 (by rfl) rfl
set_option maxRecDepth 20000 in
theorem kw578 : Cond.instanceMethod ⟨"HullCharts", "lose", "(I)I"⟩ ∈ wtG := wtG_of 578 (by rfl) rfl
set_option maxRecDepth 20000 in
theorem kw579 : Cond.selects "HullCharts" ⟨"HullCharts", "lose", "(I)I"⟩ ⟨"HullCharts", "lose", "(I)I"⟩ ∈ wtG := wtG_of 579 (by rfl) rfl
set_option maxRecDepth 20000 in
theorem kw580 : Cond.code ⟨"HullCharts", "lose", "(I)I"⟩ prog_1_method_23_code 3 (some .int) ∈ wtG := wtG_of 580 (by rfl) rfl
set_option maxRecDepth 20000 in
theorem kw581 : Cond.methodLink "HullCharts" 195 ⟨"HullCharts$Sheet", "hasNothing", "()Z"⟩ ∈ wtG := wtG_of 581 (by rfl) rfl
set_option maxRecDepth 20000 in
theorem kw582 : Cond.methodLink "HullCharts" 198 ⟨"HullCharts$Sheet", "clear", "()V"⟩ ∈ wtG := wtG_of 582 (by rfl) rfl
set_option maxRecDepth 20000 in
theorem kw583 : Cond.instanceMethod ⟨"HullCharts$Sheet", "clear", "()V"⟩ ∈ wtG := wtG_of 583 (by rfl) rfl
set_option maxRecDepth 20000 in
theorem kw584 : Cond.selects "HullCharts$Sheet" ⟨"HullCharts$Sheet", "clear", "()V"⟩ ⟨"HullCharts$Sheet", "clear", "()V"⟩ ∈ wtG := wtG_of 584 (by rfl) rfl
set_option maxRecDepth 20000 in
theorem kw585 : Cond.code ⟨"HullCharts$Sheet", "clear", "()V"⟩ prog_5_method_7_code 1 (none) ∈ wtG := wtG_of 585 (by rfl) rfl
set_option maxRecDepth 20000 in
theorem kw586 : Cond.methodLink "HullChartsLaw" 109 ⟨"HullCharts", "put", "(III)I"⟩ ∈ wtG := wtG_of 586 (by rfl) rfl
set_option maxRecDepth 20000 in
theorem kw587 : Cond.instanceMethod ⟨"HullCharts", "put", "(III)I"⟩ ∈ wtG := wtG_of 587 (by rfl) rfl
set_option maxRecDepth 20000 in
theorem kw588 : Cond.selects "HullCharts" ⟨"HullCharts", "put", "(III)I"⟩ ⟨"HullCharts", "put", "(III)I"⟩ ∈ wtG := wtG_of 588 (by rfl) rfl
set_option maxRecDepth 20000 in
theorem kw589 : Cond.code ⟨"HullCharts", "put", "(III)I"⟩ prog_1_method_24_code 5 (some .int) ∈ wtG := wtG_of 589 (by rfl) rfl
set_option maxRecDepth 20000 in
theorem kw590 : Cond.methodLink "HullCharts" 201 ⟨"HullCharts$Sheet", "hasCells", "(II)Z"⟩ ∈ wtG := wtG_of 590 (by rfl) rfl
set_option maxRecDepth 20000 in
theorem kw591 : Cond.methodLink "HullCharts" 205 ⟨"HullCharts$Sheet", "write", "(II)V"⟩ ∈ wtG := wtG_of 591 (by rfl) rfl
set_option maxRecDepth 20000 in
theorem kw592 : Cond.instanceMethod ⟨"HullCharts$Sheet", "write", "(II)V"⟩ ∈ wtG := wtG_of 592 (by rfl) rfl
set_option maxRecDepth 20000 in
theorem kw593 : Cond.selects "HullCharts$Sheet" ⟨"HullCharts$Sheet", "write", "(II)V"⟩ ⟨"HullCharts$Sheet", "write", "(II)V"⟩ ∈ wtG := wtG_of 593 (by rfl) rfl
set_option maxRecDepth 20000 in
theorem kw594 : Cond.code ⟨"HullCharts$Sheet", "write", "(II)V"⟩ prog_5_method_9_code 3 (none) ∈ wtG := wtG_of 594 (by rfl) rfl
set_option maxRecDepth 20000 in
theorem kw595 : Cond.methodLink "HullCharts$Sheet" 40 ⟨"HullCharts$Sheet", "cutToLane", "(I)I"⟩ ∈ wtG := wtG_of 595 (by rfl) rfl
set_option maxRecDepth 20000 in
theorem kw597 : Cond.instanceMethod ⟨"HullCharts$Sheet", "cutToLane", "(I)I"⟩ ∈ wtG := wtG_of 597 (by rfl) rfl
set_option maxRecDepth 20000 in
theorem kw598 : Cond.code ⟨"HullCharts$Sheet", "cutToLane", "(I)I"⟩ prog_5_method_10_code 2 (some .int) ∈ wtG := wtG_of 598 (by rfl) rfl
set_option maxRecDepth 20000 in
theorem kw600 : Cond.methodLink "HullChartsLaw" 113 ⟨"HullCharts", "cell", "(III)J"⟩ ∈ wtG := wtG_of 600 (by rfl) rfl
set_option maxRecDepth 20000 in
theorem kw601 : Cond.instanceMethod ⟨"HullCharts", "cell", "(III)J"⟩ ∈ wtG := wtG_of 601 (by rfl) rfl
set_option maxRecDepth 20000 in
theorem kw602 : Cond.selects "HullCharts" ⟨"HullCharts", "cell", "(III)J"⟩ ⟨"HullCharts", "cell", "(III)J"⟩ ∈ wtG := wtG_of 602 (by rfl) rfl
set_option maxRecDepth 20000 in
theorem kw603 : Cond.code ⟨"HullCharts", "cell", "(III)J"⟩ prog_1_method_25_code 5 (some .long) ∈ wtG := wtG_of 603 (by rfl) rfl
set_option maxRecDepth 20000 in
theorem kw604 : Cond.methodLink "HullChartsLaw" 117 ⟨"HullCharts", "copy", "(IIIII)I"⟩ ∈ wtG := wtG_of 604 (by rfl) rfl
set_option maxRecDepth 20000 in
theorem kw605 : Cond.instanceMethod ⟨"HullCharts", "copy", "(IIIII)I"⟩ ∈ wtG := wtG_of 605 (by rfl) rfl
set_option maxRecDepth 20000 in
theorem kw606 : Cond.selects "HullCharts" ⟨"HullCharts", "copy", "(IIIII)I"⟩ ⟨"HullCharts", "copy", "(IIIII)I"⟩ ∈ wtG := wtG_of 606 (by rfl) rfl
set_option maxRecDepth 20000 in
theorem kw607 : Cond.code ⟨"HullCharts", "copy", "(IIIII)I"⟩ prog_1_method_26_code 9 (some .int) ∈ wtG := wtG_of 607 (by rfl) rfl
set_option maxRecDepth 20000 in
theorem kw608 : Cond.methodLink "HullCharts" 214 ⟨"HullCharts$Sheet", "lane", "()I"⟩ ∈ wtG := wtG_of 608 (by rfl) rfl
set_option maxRecDepth 20000 in
theorem kw609 : Cond.instanceMethod ⟨"HullCharts$Sheet", "lane", "()I"⟩ ∈ wtG := wtG_of 609 (by rfl) rfl
set_option maxRecDepth 20000 in
theorem kw610 : Cond.selects "HullCharts$Sheet" ⟨"HullCharts$Sheet", "lane", "()I"⟩ ⟨"HullCharts$Sheet", "lane", "()I"⟩ ∈ wtG := wtG_of 610 (by rfl) rfl
set_option maxRecDepth 20000 in
theorem kw611 : Cond.code ⟨"HullCharts$Sheet", "lane", "()I"⟩ prog_5_method_3_code 1 (some .int) ∈ wtG := wtG_of 611 (by rfl) rfl
set_option maxRecDepth 20000 in
theorem kw612 : Cond.methodLink "HullChartsLaw" 121 ⟨"HullCharts", "tell", "(I)I"⟩ ∈ wtG := wtG_of 612 (by rfl) rfl
set_option maxRecDepth 20000 in
theorem kw613 : Cond.instanceMethod ⟨"HullCharts", "tell", "(I)I"⟩ ∈ wtG := wtG_of 613 (by rfl) rfl
set_option maxRecDepth 20000 in
theorem kw614 : Cond.selects "HullCharts" ⟨"HullCharts", "tell", "(I)I"⟩ ⟨"HullCharts", "tell", "(I)I"⟩ ∈ wtG := wtG_of 614 (by rfl) rfl
set_option maxRecDepth 20000 in
theorem kw615 : Cond.code ⟨"HullCharts", "tell", "(I)I"⟩ prog_1_method_27_code 2 (some .int) ∈ wtG := wtG_of 615 (by rfl) rfl
set_option maxRecDepth 20000 in
theorem kw616 : Cond.methodLink "HullCharts" 221 ⟨"HullCharts", "grandBody", "(I)I"⟩ ∈ wtG := wtG_of 616 (by rfl) rfl
set_option maxRecDepth 20000 in
theorem kw618 : Cond.instanceMethod ⟨"HullCharts", "grandBody", "(I)I"⟩ ∈ wtG := wtG_of 618 (by rfl) rfl
set_option maxRecDepth 20000 in
theorem kw619 : Cond.code ⟨"HullCharts", "grandBody", "(I)I"⟩ prog_1_method_42_code 3 (some .int) ∈ wtG := wtG_of 619 (by rfl) rfl
set_option maxRecDepth 20000 in
theorem kw620 : Cond.methodLink "HullCharts" 255 ⟨"HullCharts", "leaveInTrace", "(I)V"⟩ ∈ wtG := wtG_of 620 (by rfl) rfl
set_option maxRecDepth 20000 in
theorem kw622 : Cond.instanceMethod ⟨"HullCharts", "leaveInTrace", "(I)V"⟩ ∈ wtG := wtG_of 622 (by rfl) rfl
set_option maxRecDepth 20000 in
theorem kw623 : Cond.code ⟨"HullCharts", "leaveInTrace", "(I)V"⟩ prog_1_method_39_code 2 (none) ∈ wtG := wtG_of 623 (by rfl) rfl
set_option maxRecDepth 20000 in
theorem kw624 : Cond.methodLink "HullCharts" 224 ⟨"HullCharts", "deepBody", "(I)I"⟩ ∈ wtG := wtG_of 624 (by rfl) rfl
set_option maxRecDepth 20000 in
theorem kw626 : Cond.instanceMethod ⟨"HullCharts", "deepBody", "(I)I"⟩ ∈ wtG := wtG_of 626 (by rfl) rfl
set_option maxRecDepth 20000 in
theorem kw627 : Cond.code ⟨"HullCharts", "deepBody", "(I)I"⟩ prog_1_method_41_code 2 (some .int) ∈ wtG := wtG_of 627 (by rfl) rfl
set_option maxRecDepth 20000 in
theorem kw628 : Cond.methodLink "HullCharts" 227 ⟨"HullCharts", "plainBody", "(I)I"⟩ ∈ wtG := wtG_of 628 (by rfl) rfl
set_option maxRecDepth 20000 in
theorem kw630 : Cond.instanceMethod ⟨"HullCharts", "plainBody", "(I)I"⟩ ∈ wtG := wtG_of 630 (by rfl) rfl
set_option maxRecDepth 20000 in
theorem kw631 : Cond.code ⟨"HullCharts", "plainBody", "(I)I"⟩ prog_1_method_40_code 2 (some .int) ∈ wtG := wtG_of 631 (by rfl) rfl
set_option maxRecDepth 20000 in
theorem kw632 : Cond.methodLink "HullChartsLaw" 125 ⟨"HullCharts", "greet", "(I)I"⟩ ∈ wtG := wtG_of 632 (by rfl) rfl
set_option maxRecDepth 20000 in
theorem kw633 : Cond.instanceMethod ⟨"HullCharts", "greet", "(I)I"⟩ ∈ wtG := wtG_of 633 (by rfl) rfl
set_option maxRecDepth 20000 in
theorem kw634 : Cond.selects "HullCharts" ⟨"HullCharts", "greet", "(I)I"⟩ ⟨"HullCharts", "greet", "(I)I"⟩ ∈ wtG := wtG_of 634 (by rfl) rfl
set_option maxRecDepth 20000 in
theorem kw635 : Cond.code ⟨"HullCharts", "greet", "(I)I"⟩ prog_1_method_28_code 2 (some .int) ∈ wtG := wtG_of 635 (by rfl) rfl
set_option maxRecDepth 20000 in
theorem kw636 : Cond.methodLink "HullCharts" 230 ⟨"HullCharts", "ownGreetingBody", "()I"⟩ ∈ wtG := wtG_of 636 (by rfl) rfl
set_option maxRecDepth 20000 in
theorem kw638 : Cond.instanceMethod ⟨"HullCharts", "ownGreetingBody", "()I"⟩ ∈ wtG := wtG_of 638 (by rfl) rfl
set_option maxRecDepth 20000 in
theorem kw639 : Cond.code ⟨"HullCharts", "ownGreetingBody", "()I"⟩ prog_1_method_44_code 1 (some .int) ∈ wtG := wtG_of 639 (by rfl) rfl
set_option maxRecDepth 20000 in
theorem kw640 : Cond.methodLink "HullCharts" 233 ⟨"HullCharts", "lentGreetingBody", "(I)I"⟩ ∈ wtG := wtG_of 640 (by rfl) rfl
set_option maxRecDepth 20000 in
theorem kw642 : Cond.instanceMethod ⟨"HullCharts", "lentGreetingBody", "(I)I"⟩ ∈ wtG := wtG_of 642 (by rfl) rfl
set_option maxRecDepth 20000 in
theorem kw643 : Cond.code ⟨"HullCharts", "lentGreetingBody", "(I)I"⟩ prog_1_method_43_code 2 (some .int) ∈ wtG := wtG_of 643 (by rfl) rfl
set_option maxRecDepth 20000 in
theorem kw644 : Cond.methodLink "HullChartsLaw" 129 ⟨"HullCharts", "as", "(II)I"⟩ ∈ wtG := wtG_of 644 (by rfl) rfl
set_option maxRecDepth 20000 in
theorem kw645 : Cond.instanceMethod ⟨"HullCharts", "as", "(II)I"⟩ ∈ wtG := wtG_of 645 (by rfl) rfl
set_option maxRecDepth 20000 in
theorem kw646 : Cond.selects "HullCharts" ⟨"HullCharts", "as", "(II)I"⟩ ⟨"HullCharts", "as", "(II)I"⟩ ∈ wtG := wtG_of 646 (by rfl) rfl
set_option maxRecDepth 20000 in
theorem kw647 : Cond.code ⟨"HullCharts", "as", "(II)I"⟩ prog_1_method_29_code 3 (some .int) ∈ wtG := wtG_of 647 (by rfl) rfl
set_option maxRecDepth 20000 in
theorem kw648 : Cond.methodLink "HullChartsLaw" 133 ⟨"HullCharts", "trace", "()I"⟩ ∈ wtG := wtG_of 648 (by rfl) rfl
set_option maxRecDepth 20000 in
theorem kw649 : Cond.instanceMethod ⟨"HullCharts", "trace", "()I"⟩ ∈ wtG := wtG_of 649 (by rfl) rfl
set_option maxRecDepth 20000 in
theorem kw650 : Cond.selects "HullCharts" ⟨"HullCharts", "trace", "()I"⟩ ⟨"HullCharts", "trace", "()I"⟩ ∈ wtG := wtG_of 650 (by rfl) rfl
set_option maxRecDepth 20000 in
theorem kw651 : Cond.code ⟨"HullCharts", "trace", "()I"⟩ prog_1_method_30_code 1 (some .int) ∈ wtG := wtG_of 651 (by rfl) rfl
set_option maxRecDepth 20000 in
theorem kw652 : Cond.methodLink "HullChartsLaw" 138 ⟨"HullCharts", "fault", "()I"⟩ ∈ wtG := wtG_of 652 (by rfl) rfl
set_option maxRecDepth 20000 in
theorem kw653 : Cond.instanceMethod ⟨"HullCharts", "fault", "()I"⟩ ∈ wtG := wtG_of 653 (by rfl) rfl
set_option maxRecDepth 20000 in
theorem kw654 : Cond.selects "HullCharts" ⟨"HullCharts", "fault", "()I"⟩ ⟨"HullCharts", "fault", "()I"⟩ ∈ wtG := wtG_of 654 (by rfl) rfl
set_option maxRecDepth 20000 in
theorem kw655 : Cond.code ⟨"HullCharts", "fault", "()I"⟩ prog_1_method_31_code 1 (some .int) ∈ wtG := wtG_of 655 (by rfl) rfl
set_option maxRecDepth 20000 in
theorem kw656 : Cond.methodLink "HullChartsLaw" 142 ⟨"HullCharts", "many", "(I)I"⟩ ∈ wtG := wtG_of 656 (by rfl) rfl
set_option maxRecDepth 20000 in
theorem kw657 : Cond.instanceMethod ⟨"HullCharts", "many", "(I)I"⟩ ∈ wtG := wtG_of 657 (by rfl) rfl
set_option maxRecDepth 20000 in
theorem kw658 : Cond.selects "HullCharts" ⟨"HullCharts", "many", "(I)I"⟩ ⟨"HullCharts", "many", "(I)I"⟩ ∈ wtG := wtG_of 658 (by rfl) rfl
set_option maxRecDepth 20000 in
theorem kw659 : Cond.code ⟨"HullCharts", "many", "(I)I"⟩ prog_1_method_32_code 2 (some .int) ∈ wtG := wtG_of 659 (by rfl) rfl
set_option maxRecDepth 20000 in
theorem kw660 : Cond.methodLink "HullCharts" 239 ⟨"HullCharts$Sea", "columns", "()I"⟩ ∈ wtG := wtG_of 660 (by rfl) rfl
set_option maxRecDepth 20000 in
theorem kw661 : Cond.instanceMethod ⟨"HullCharts$Sea", "columns", "()I"⟩ ∈ wtG := wtG_of 661 (by rfl) rfl
set_option maxRecDepth 20000 in
theorem kw662 : Cond.selects "HullCharts$Sea" ⟨"HullCharts$Sea", "columns", "()I"⟩ ⟨"HullCharts$Sea", "columns", "()I"⟩ ∈ wtG := wtG_of 662 (by rfl) rfl
set_option maxRecDepth 20000 in
theorem kw663 : Cond.code ⟨"HullCharts$Sea", "columns", "()I"⟩ prog_3_method_4_code 1 (some .int) ∈ wtG := wtG_of 663 (by rfl) rfl
set_option maxRecDepth 20000 in
theorem kw664 : Cond.methodLink "HullCharts" 242 ⟨"HullCharts$Sea", "rows", "()I"⟩ ∈ wtG := wtG_of 664 (by rfl) rfl
set_option maxRecDepth 20000 in
theorem kw665 : Cond.instanceMethod ⟨"HullCharts$Sea", "rows", "()I"⟩ ∈ wtG := wtG_of 665 (by rfl) rfl
set_option maxRecDepth 20000 in
theorem kw666 : Cond.selects "HullCharts$Sea" ⟨"HullCharts$Sea", "rows", "()I"⟩ ⟨"HullCharts$Sea", "rows", "()I"⟩ ∈ wtG := wtG_of 666 (by rfl) rfl
set_option maxRecDepth 20000 in
theorem kw667 : Cond.code ⟨"HullCharts$Sea", "rows", "()I"⟩ prog_3_method_5_code 1 (some .int) ∈ wtG := wtG_of 667 (by rfl) rfl
set_option maxRecDepth 20000 in
theorem kw668 : Cond.methodLink "HullCharts" 245 ⟨"HullCharts$Sea", "stepsDone", "()I"⟩ ∈ wtG := wtG_of 668 (by rfl) rfl
set_option maxRecDepth 20000 in
theorem kw669 : Cond.instanceMethod ⟨"HullCharts$Sea", "stepsDone", "()I"⟩ ∈ wtG := wtG_of 669 (by rfl) rfl
set_option maxRecDepth 20000 in
theorem kw670 : Cond.selects "HullCharts$Sea" ⟨"HullCharts$Sea", "stepsDone", "()I"⟩ ⟨"HullCharts$Sea", "stepsDone", "()I"⟩ ∈ wtG := wtG_of 670 (by rfl) rfl
set_option maxRecDepth 20000 in
theorem kw671 : Cond.code ⟨"HullCharts$Sea", "stepsDone", "()I"⟩ prog_3_method_9_code 1 (some .int) ∈ wtG := wtG_of 671 (by rfl) rfl
set_option maxRecDepth 20000 in
theorem kw672 : Cond.classLink "HullChartsLaw" 10 "HullChartsModel" ∈ wtG := wtG_of 672 (by rfl) rfl
set_option maxRecDepth 20000 in
theorem kw673 : Cond.instantiable "HullChartsModel" 34 ∈ wtG := wtG_of 673 (by rfl) rfl
set_option maxRecDepth 20000 in
theorem kw674 : Cond.methodLink "HullChartsLaw" 12 ⟨"HullChartsModel", "<init>", "()V"⟩ ∈ wtG := wtG_of 674 (by rfl) rfl
set_option maxRecDepth 20000 in
theorem kw675 : Cond.instanceMethod ⟨"HullChartsModel", "<init>", "()V"⟩ ∈ wtG := wtG_of 675 (by rfl) rfl
set_option maxRecDepth 20000 in
theorem kw676 : Cond.code ⟨"HullChartsModel", "<init>", "()V"⟩ prog_7_method_1_code 2 (none) ∈ wtG := wtG_of 676 (by rfl) rfl
set_option maxRecDepth 20000 in
theorem kw677 : Cond.methodLink "HullChartsModel" 1 ⟨"java/lang/Object", "<init>", "()V"⟩ ∈ wtG := wtG_of 677 (by rfl) rfl
set_option maxRecDepth 20000 in
theorem kw678 : Cond.fieldLink "HullChartsModel" 54 "HullChartsModel" "fault" "I" ∈ wtG := wtG_of 678 (by rfl) rfl
set_option maxRecDepth 20000 in
theorem kw679 : Cond.fieldLink "HullChartsModel" 69 "HullChartsModel" "wide" "I" ∈ wtG := wtG_of 679 (by rfl) rfl
set_option maxRecDepth 20000 in
theorem kw680 : Cond.fieldLink "HullChartsModel" 72 "HullChartsModel" "tall" "I" ∈ wtG := wtG_of 680 (by rfl) rfl
set_option maxRecDepth 20000 in
theorem kw681 : Cond.fieldLink "HullChartsModel" 62 "HullChartsModel" "lookers" "I" ∈ wtG := wtG_of 681 (by rfl) rfl
set_option maxRecDepth 20000 in
theorem kw682 : Cond.fieldLink "HullChartsModel" 132 "HullChartsModel" "columnNow" "I" ∈ wtG := wtG_of 682 (by rfl) rfl
set_option maxRecDepth 20000 in
theorem kw683 : Cond.fieldLink "HullChartsModel" 135 "HullChartsModel" "rowNow" "I" ∈ wtG := wtG_of 683 (by rfl) rfl
set_option maxRecDepth 20000 in
theorem kw684 : Cond.fieldLink "HullChartsModel" 138 "HullChartsModel" "stepsDone" "I" ∈ wtG := wtG_of 684 (by rfl) rfl
set_option maxRecDepth 20000 in
theorem kw685 : Cond.fieldLink "HullChartsModel" 141 "HullChartsModel" "gone" "I" ∈ wtG := wtG_of 685 (by rfl) rfl
set_option maxRecDepth 20000 in
theorem kw686 : Cond.fieldLink "HullChartsModel" 147 "HullChartsModel" "seenNow" "J" ∈ wtG := wtG_of 686 (by rfl) rfl
set_option maxRecDepth 20000 in
theorem kw687 : Cond.fieldLink "HullChartsModel" 7 "HullChartsModel" "heightOf" "[I" ∈ wtG := wtG_of 687 (by rfl) rfl
set_option maxRecDepth 20000 in
theorem kw688 : Cond.fieldLink "HullChartsModel" 13 "HullChartsModel" "kindOf" "[I" ∈ wtG := wtG_of 688 (by rfl) rfl
set_option maxRecDepth 20000 in
theorem kw689 : Cond.fieldLink "HullChartsModel" 16 "HullChartsModel" "shortOf" "[I" ∈ wtG := wtG_of 689 (by rfl) rfl
set_option maxRecDepth 20000 in
theorem kw690 : Cond.fieldLink "HullChartsModel" 75 "HullChartsModel" "readAt" "I" ∈ wtG := wtG_of 690 (by rfl) rfl
set_option maxRecDepth 20000 in
theorem kw691 : Cond.fieldLink "HullChartsModel" 86 "HullChartsModel" "readWide" "I" ∈ wtG := wtG_of 691 (by rfl) rfl
set_option maxRecDepth 20000 in
theorem kw692 : Cond.fieldLink "HullChartsModel" 89 "HullChartsModel" "readTall" "I" ∈ wtG := wtG_of 692 (by rfl) rfl
set_option maxRecDepth 20000 in
theorem kw693 : Cond.fieldLink "HullChartsModel" 92 "HullChartsModel" "readLookers" "I" ∈ wtG := wtG_of 693 (by rfl) rfl
set_option maxRecDepth 20000 in
theorem kw694 : Cond.fieldLink "HullChartsModel" 102 "HullChartsModel" "readColumn" "I" ∈ wtG := wtG_of 694 (by rfl) rfl
set_option maxRecDepth 20000 in
theorem kw695 : Cond.fieldLink "HullChartsModel" 105 "HullChartsModel" "readRow" "I" ∈ wtG := wtG_of 695 (by rfl) rfl
set_option maxRecDepth 20000 in
theorem kw696 : Cond.fieldLink "HullChartsModel" 19 "HullChartsModel" "readHeight" "[I" ∈ wtG := wtG_of 696 (by rfl) rfl
set_option maxRecDepth 20000 in
theorem kw697 : Cond.fieldLink "HullChartsModel" 22 "HullChartsModel" "readKind" "[I" ∈ wtG := wtG_of 697 (by rfl) rfl
set_option maxRecDepth 20000 in
theorem kw698 : Cond.fieldLink "HullChartsModel" 25 "HullChartsModel" "readShort" "[I" ∈ wtG := wtG_of 698 (by rfl) rfl
set_option maxRecDepth 20000 in
theorem kw699 : Cond.fieldLink "HullChartsModel" 189 "HullChartsModel" "columnKept" "I" ∈ wtG := wtG_of 699 (by rfl) rfl
set_option maxRecDepth 20000 in
theorem kw700 : Cond.fieldLink "HullChartsModel" 192 "HullChartsModel" "rowKept" "I" ∈ wtG := wtG_of 700 (by rfl) rfl
set_option maxRecDepth 20000 in
theorem kw701 : Cond.fieldLink "HullChartsModel" 195 "HullChartsModel" "seenKept" "J" ∈ wtG := wtG_of 701 (by rfl) rfl
set_option maxRecDepth 20000 in
theorem kw702 : Cond.fieldLink "HullChartsModel" 28 "HullChartsModel" "farFrom" "[I" ∈ wtG := wtG_of 702 (by rfl) rfl
set_option maxRecDepth 20000 in
theorem kw703 : Cond.fieldLink "HullChartsModel" 151 "HullChartsModel" "readings" "I" ∈ wtG := wtG_of 703 (by rfl) rfl
set_option maxRecDepth 20000 in
theorem kw704 : Cond.fieldLink "HullChartsModel" 31 "HullChartsModel" "readingOf" "[I" ∈ wtG := wtG_of 704 (by rfl) rfl
set_option maxRecDepth 20000 in
theorem kw705 : Cond.fieldLink "HullChartsModel" 34 "HullChartsModel" "readingAt" "[I" ∈ wtG := wtG_of 705 (by rfl) rfl
set_option maxRecDepth 20000 in
theorem kw706 : Cond.fieldLink "HullChartsModel" 37 "HullChartsModel" "readingWas" "[I" ∈ wtG := wtG_of 706 (by rfl) rfl
set_option maxRecDepth 20000 in
theorem kw707 : Cond.fieldLink "HullChartsModel" 40 "HullChartsModel" "sheetSize" "[I" ∈ wtG := wtG_of 707 (by rfl) rfl
set_option maxRecDepth 20000 in
theorem kw708 : Cond.fieldLink "HullChartsModel" 43 "HullChartsModel" "sheetLane" "[I" ∈ wtG := wtG_of 708 (by rfl) rfl
set_option maxRecDepth 20000 in
theorem kw709 : Cond.fieldLink "HullChartsModel" 46 "HullChartsModel" "sheet" "[I" ∈ wtG := wtG_of 709 (by rfl) rfl
set_option maxRecDepth 20000 in
theorem kw710 : Cond.fieldLink "HullChartsModel" 49 "HullChartsModel" "hands" "[I" ∈ wtG := wtG_of 710 (by rfl) rfl
set_option maxRecDepth 20000 in
theorem kw711 : Cond.fieldLink "HullChartsModel" 269 "HullChartsModel" "traceNow" "I" ∈ wtG := wtG_of 711 (by rfl) rfl
set_option maxRecDepth 20000 in
theorem kw712 : Cond.lays "HullChartsModel" "HullChartsModel" "fault" "I" ∈ wtG := wtG_of 712 (by rfl) rfl
set_option maxRecDepth 20000 in
theorem kw714 : Cond.lays "HullChartsModel" "HullChartsModel" "wide" "I" ∈ wtG := wtG_of 714 (by rfl) rfl
set_option maxRecDepth 20000 in
theorem kw716 : Cond.lays "HullChartsModel" "HullChartsModel" "tall" "I" ∈ wtG := wtG_of 716 (by rfl) rfl
set_option maxRecDepth 20000 in
theorem kw718 : Cond.lays "HullChartsModel" "HullChartsModel" "lookers" "I" ∈ wtG := wtG_of 718 (by rfl) rfl
set_option maxRecDepth 20000 in
theorem kw720 : Cond.lays "HullChartsModel" "HullChartsModel" "columnNow" "I" ∈ wtG := wtG_of 720 (by rfl) rfl
set_option maxRecDepth 20000 in
theorem kw722 : Cond.lays "HullChartsModel" "HullChartsModel" "rowNow" "I" ∈ wtG := wtG_of 722 (by rfl) rfl
set_option maxRecDepth 20000 in
theorem kw724 : Cond.lays "HullChartsModel" "HullChartsModel" "stepsDone" "I" ∈ wtG := wtG_of 724 (by rfl) rfl
set_option maxRecDepth 20000 in
theorem kw726 : Cond.lays "HullChartsModel" "HullChartsModel" "gone" "I" ∈ wtG := wtG_of 726 (by rfl) rfl
set_option maxRecDepth 20000 in
theorem kw728 : Cond.lays "HullChartsModel" "HullChartsModel" "seenNow" "J" ∈ wtG := wtG_of 728 (by rfl) rfl
set_option maxRecDepth 20000 in
theorem kw730 : Cond.laysFinal "HullChartsModel" "HullChartsModel" "heightOf" "[I" ∈ wtG := wtG_of 730 (by rfl) rfl
set_option maxRecDepth 20000 in
theorem kw732 : Cond.laysFinal "HullChartsModel" "HullChartsModel" "kindOf" "[I" ∈ wtG := wtG_of 732 (by rfl) rfl
set_option maxRecDepth 20000 in
theorem kw734 : Cond.laysFinal "HullChartsModel" "HullChartsModel" "shortOf" "[I" ∈ wtG := wtG_of 734 (by rfl) rfl
set_option maxRecDepth 20000 in
theorem kw736 : Cond.lays "HullChartsModel" "HullChartsModel" "readAt" "I" ∈ wtG := wtG_of 736 (by rfl) rfl
set_option maxRecDepth 20000 in
theorem kw738 : Cond.lays "HullChartsModel" "HullChartsModel" "readWide" "I" ∈ wtG := wtG_of 738 (by rfl) rfl
set_option maxRecDepth 20000 in
theorem kw740 : Cond.lays "HullChartsModel" "HullChartsModel" "readTall" "I" ∈ wtG := wtG_of 740 (by rfl) rfl
set_option maxRecDepth 20000 in
theorem kw742 : Cond.lays "HullChartsModel" "HullChartsModel" "readLookers" "I" ∈ wtG := wtG_of 742 (by rfl) rfl
set_option maxRecDepth 20000 in
theorem kw744 : Cond.lays "HullChartsModel" "HullChartsModel" "readColumn" "I" ∈ wtG := wtG_of 744 (by rfl) rfl
set_option maxRecDepth 20000 in
theorem kw746 : Cond.lays "HullChartsModel" "HullChartsModel" "readRow" "I" ∈ wtG := wtG_of 746 (by rfl) rfl
set_option maxRecDepth 20000 in
theorem kw748 : Cond.laysFinal "HullChartsModel" "HullChartsModel" "readHeight" "[I" ∈ wtG := wtG_of 748 (by rfl) rfl
set_option maxRecDepth 20000 in
theorem kw750 : Cond.laysFinal "HullChartsModel" "HullChartsModel" "readKind" "[I" ∈ wtG := wtG_of 750 (by rfl) rfl
set_option maxRecDepth 20000 in
theorem kw752 : Cond.laysFinal "HullChartsModel" "HullChartsModel" "readShort" "[I" ∈ wtG := wtG_of 752 (by rfl) rfl
set_option maxRecDepth 20000 in
theorem kw754 : Cond.lays "HullChartsModel" "HullChartsModel" "columnKept" "I" ∈ wtG := wtG_of 754 (by rfl) rfl
set_option maxRecDepth 20000 in
theorem kw756 : Cond.lays "HullChartsModel" "HullChartsModel" "rowKept" "I" ∈ wtG := wtG_of 756 (by rfl) rfl
set_option maxRecDepth 20000 in
theorem kw758 : Cond.lays "HullChartsModel" "HullChartsModel" "seenKept" "J" ∈ wtG := wtG_of 758 (by rfl) rfl
set_option maxRecDepth 20000 in
theorem kw760 : Cond.laysFinal "HullChartsModel" "HullChartsModel" "farFrom" "[I" ∈ wtG := wtG_of 760 (by rfl) rfl
set_option maxRecDepth 20000 in
theorem kw762 : Cond.lays "HullChartsModel" "HullChartsModel" "readings" "I" ∈ wtG := wtG_of 762 (by rfl) rfl
set_option maxRecDepth 20000 in
theorem kw764 : Cond.laysFinal "HullChartsModel" "HullChartsModel" "readingOf" "[I" ∈ wtG := wtG_of 764 (by rfl) rfl
set_option maxRecDepth 20000 in
theorem kw766 : Cond.laysFinal "HullChartsModel" "HullChartsModel" "readingAt" "[I" ∈ wtG := wtG_of 766 (by rfl) rfl
set_option maxRecDepth 20000 in
theorem kw768 : Cond.laysFinal "HullChartsModel" "HullChartsModel" "readingWas" "[I" ∈ wtG := wtG_of 768 (by rfl) rfl
set_option maxRecDepth 20000 in
theorem kw770 : Cond.laysFinal "HullChartsModel" "HullChartsModel" "sheetSize" "[I" ∈ wtG := wtG_of 770 (by rfl) rfl
set_option maxRecDepth 20000 in
theorem kw772 : Cond.laysFinal "HullChartsModel" "HullChartsModel" "sheetLane" "[I" ∈ wtG := wtG_of 772 (by rfl) rfl
set_option maxRecDepth 20000 in
theorem kw774 : Cond.laysFinal "HullChartsModel" "HullChartsModel" "sheet" "[I" ∈ wtG := wtG_of 774 (by rfl) rfl
set_option maxRecDepth 20000 in
theorem kw776 : Cond.laysFinal "HullChartsModel" "HullChartsModel" "hands" "[I" ∈ wtG := wtG_of 776 (by rfl) rfl
set_option maxRecDepth 20000 in
theorem kw778 : Cond.lays "HullChartsModel" "HullChartsModel" "traceNow" "I" ∈ wtG := wtG_of 778 (by rfl) rfl
set_option maxRecDepth 20000 in
theorem kw781 : Cond.methodLink "HullChartsLaw" 17 ⟨"HullChartsModel", "sea", "(IIII)I"⟩ ∈ wtG := wtG_of 781 (by rfl) rfl
set_option maxRecDepth 20000 in
theorem kw782 : Cond.instanceMethod ⟨"HullChartsModel", "sea", "(IIII)I"⟩ ∈ wtG := wtG_of 782 (by rfl) rfl
set_option maxRecDepth 20000 in
theorem kw783 : Cond.selects "HullChartsModel" ⟨"HullChartsModel", "sea", "(IIII)I"⟩ ⟨"HullChartsModel", "sea", "(IIII)I"⟩ ∈ wtG := wtG_of 783 (by rfl) rfl
set_option maxRecDepth 20000 in
theorem kw784 : Cond.code ⟨"HullChartsModel", "sea", "(IIII)I"⟩ prog_7_method_18_code 7 (some .int) ∈ wtG := wtG_of 784 (by rfl) rfl
set_option maxRecDepth 20000 in
theorem kw785 : Cond.methodLink "HullChartsModel" 116 ⟨"HullChartsModel", "noSheet", "(I)Z"⟩ ∈ wtG := wtG_of 785 (by rfl) rfl
set_option maxRecDepth 20000 in
theorem kw786 : Cond.static ⟨"HullChartsModel", "noSheet", "(I)Z"⟩ ∈ wtG := wtG_of 786 (by rfl) rfl
set_option maxRecDepth 20000 in
theorem kw787 : Cond.code ⟨"HullChartsModel", "noSheet", "(I)Z"⟩ prog_7_method_59_code 1 (some .boolean) ∈ wtG := wtG_of 787 (by rfl) rfl
set_option maxRecDepth 20000 in
theorem kw788 : Cond.constantLong "HullChartsModel" 184 (3) ∈ wtG := wtG_of 788 (by rfl) rfl
set_option maxRecDepth 20000 in
theorem kw789 : Cond.methodLink "HullChartsModel" 65 ⟨"HullChartsModel", "in", "(JJJ)Z"⟩ ∈ wtG := wtG_of 789 (by rfl) rfl
set_option maxRecDepth 20000 in
theorem kw790 : Cond.static ⟨"HullChartsModel", "in", "(JJJ)Z"⟩ ∈ wtG := wtG_of 790 (by rfl) rfl
set_option maxRecDepth 20000 in
theorem kw791 : Cond.code ⟨"HullChartsModel", "in", "(JJJ)Z"⟩ prog_7_method_2_code 6 (some .boolean) ∈ wtG := wtG_of 791 (by rfl) rfl
set_option maxRecDepth 20000 in
theorem kw792 : Cond.methodLink "HullChartsModel" 120 ⟨"HullChartsModel", "refused", "(I)I"⟩ ∈ wtG := wtG_of 792 (by rfl) rfl
set_option maxRecDepth 20000 in
theorem kw794 : Cond.instanceMethod ⟨"HullChartsModel", "refused", "(I)I"⟩ ∈ wtG := wtG_of 794 (by rfl) rfl
set_option maxRecDepth 20000 in
theorem kw795 : Cond.code ⟨"HullChartsModel", "refused", "(I)I"⟩ prog_7_method_7_code 2 (some .int) ∈ wtG := wtG_of 795 (by rfl) rfl
set_option maxRecDepth 20000 in
theorem kw796 : Cond.constantLong "HullChartsModel" 123 (2) ∈ wtG := wtG_of 796 (by rfl) rfl
set_option maxRecDepth 20000 in
theorem kw797 : Cond.methodLink "HullChartsModel" 125 ⟨"HullChartsModel", "cellsBarred", "(IIIJ)I"⟩ ∈ wtG := wtG_of 797 (by rfl) rfl
set_option maxRecDepth 20000 in
theorem kw799 : Cond.instanceMethod ⟨"HullChartsModel", "cellsBarred", "(IIIJ)I"⟩ ∈ wtG := wtG_of 799 (by rfl) rfl
set_option maxRecDepth 20000 in
theorem kw800 : Cond.code ⟨"HullChartsModel", "cellsBarred", "(IIIJ)I"⟩ prog_7_method_17_code 6 (some .int) ∈ wtG := wtG_of 800 (by rfl) rfl
set_option maxRecDepth 20000 in
theorem kw801 : Cond.methodLink "HullChartsModel" 108 ⟨"HullChartsModel", "failed", "(I)I"⟩ ∈ wtG := wtG_of 801 (by rfl) rfl
set_option maxRecDepth 20000 in
theorem kw803 : Cond.instanceMethod ⟨"HullChartsModel", "failed", "(I)I"⟩ ∈ wtG := wtG_of 803 (by rfl) rfl
set_option maxRecDepth 20000 in
theorem kw804 : Cond.code ⟨"HullChartsModel", "failed", "(I)I"⟩ prog_7_method_8_code 2 (some .int) ∈ wtG := wtG_of 804 (by rfl) rfl
set_option maxRecDepth 20000 in
theorem kw805 : Cond.methodLink "HullChartsModel" 112 ⟨"HullChartsModel", "isBeyond", "(IJI)Z"⟩ ∈ wtG := wtG_of 805 (by rfl) rfl
set_option maxRecDepth 20000 in
theorem kw806 : Cond.static ⟨"HullChartsModel", "isBeyond", "(IJI)Z"⟩ ∈ wtG := wtG_of 806 (by rfl) rfl
set_option maxRecDepth 20000 in
theorem kw807 : Cond.code ⟨"HullChartsModel", "isBeyond", "(IJI)Z"⟩ prog_7_method_65_code 4 (some .boolean) ∈ wtG := wtG_of 807 (by rfl) rfl
set_option maxRecDepth 20000 in
theorem kw808 : Cond.methodLink "HullChartsModel" 129 ⟨"HullChartsModel", "readsSea", "(II)Z"⟩ ∈ wtG := wtG_of 808 (by rfl) rfl
set_option maxRecDepth 20000 in
theorem kw810 : Cond.instanceMethod ⟨"HullChartsModel", "readsSea", "(II)Z"⟩ ∈ wtG := wtG_of 810 (by rfl) rfl
set_option maxRecDepth 20000 in
theorem kw811 : Cond.code ⟨"HullChartsModel", "readsSea", "(II)Z"⟩ prog_7_method_16_code 4 (some .boolean) ∈ wtG := wtG_of 811 (by rfl) rfl
set_option maxRecDepth 20000 in
theorem kw812 : Cond.methodLink "HullChartsModel" 78 ⟨"HullChartsModel", "codeAt", "(II)I"⟩ ∈ wtG := wtG_of 812 (by rfl) rfl
set_option maxRecDepth 20000 in
theorem kw814 : Cond.instanceMethod ⟨"HullChartsModel", "codeAt", "(II)I"⟩ ∈ wtG := wtG_of 814 (by rfl) rfl
set_option maxRecDepth 20000 in
theorem kw815 : Cond.code ⟨"HullChartsModel", "codeAt", "(II)I"⟩ prog_7_method_12_code 3 (some .int) ∈ wtG := wtG_of 815 (by rfl) rfl
set_option maxRecDepth 20000 in
theorem kw816 : Cond.methodLink "HullChartsModel" 95 ⟨"HullChartsModel", "readsFloor", "(II)Z"⟩ ∈ wtG := wtG_of 816 (by rfl) rfl
set_option maxRecDepth 20000 in
theorem kw818 : Cond.instanceMethod ⟨"HullChartsModel", "readsFloor", "(II)Z"⟩ ∈ wtG := wtG_of 818 (by rfl) rfl
set_option maxRecDepth 20000 in
theorem kw819 : Cond.code ⟨"HullChartsModel", "readsFloor", "(II)Z"⟩ prog_7_method_14_code 5 (some .boolean) ∈ wtG := wtG_of 819 (by rfl) rfl
set_option maxRecDepth 20000 in
theorem kw820 : Cond.methodLink "HullChartsModel" 82 ⟨"HullChartsModel", "figure", "(IIIII)I"⟩ ∈ wtG := wtG_of 820 (by rfl) rfl
set_option maxRecDepth 20000 in
theorem kw822 : Cond.instanceMethod ⟨"HullChartsModel", "figure", "(IIIII)I"⟩ ∈ wtG := wtG_of 822 (by rfl) rfl
set_option maxRecDepth 20000 in
theorem kw823 : Cond.code ⟨"HullChartsModel", "figure", "(IIIII)I"⟩ prog_7_method_13_code 8 (some .int) ∈ wtG := wtG_of 823 (by rfl) rfl
set_option maxRecDepth 20000 in
theorem kw824 : Cond.methodLink "HullChartsModel" 99 ⟨"HullChartsModel", "readsLooker", "(II)Z"⟩ ∈ wtG := wtG_of 824 (by rfl) rfl
set_option maxRecDepth 20000 in
theorem kw826 : Cond.instanceMethod ⟨"HullChartsModel", "readsLooker", "(II)Z"⟩ ∈ wtG := wtG_of 826 (by rfl) rfl
set_option maxRecDepth 20000 in
theorem kw827 : Cond.code ⟨"HullChartsModel", "readsLooker", "(II)Z"⟩ prog_7_method_15_code 4 (some .boolean) ∈ wtG := wtG_of 827 (by rfl) rfl
set_option maxRecDepth 20000 in
theorem kw828 : Cond.methodLink "HullChartsModel" 144 ⟨"HullChartsModel", "over", "()J"⟩ ∈ wtG := wtG_of 828 (by rfl) rfl
set_option maxRecDepth 20000 in
theorem kw830 : Cond.instanceMethod ⟨"HullChartsModel", "over", "()J"⟩ ∈ wtG := wtG_of 830 (by rfl) rfl
set_option maxRecDepth 20000 in
theorem kw831 : Cond.code ⟨"HullChartsModel", "over", "()J"⟩ prog_7_method_21_code 4 (some .long) ∈ wtG := wtG_of 831 (by rfl) rfl
set_option maxRecDepth 20000 in
theorem kw832 : Cond.methodLink "HullChartsModel" 154 ⟨"HullChartsModel", "isIn", "(II)Z"⟩ ∈ wtG := wtG_of 832 (by rfl) rfl
set_option maxRecDepth 20000 in
theorem kw833 : Cond.static ⟨"HullChartsModel", "isIn", "(II)Z"⟩ ∈ wtG := wtG_of 833 (by rfl) rfl
set_option maxRecDepth 20000 in
theorem kw834 : Cond.code ⟨"HullChartsModel", "isIn", "(II)Z"⟩ prog_7_method_4_code 2 (some .boolean) ∈ wtG := wtG_of 834 (by rfl) rfl
set_option maxRecDepth 20000 in
theorem kw835 : Cond.methodLink "HullChartsModel" 157 ⟨"HullChartsModel", "placeOf", "(I)I"⟩ ∈ wtG := wtG_of 835 (by rfl) rfl
set_option maxRecDepth 20000 in
theorem kw837 : Cond.instanceMethod ⟨"HullChartsModel", "placeOf", "(I)I"⟩ ∈ wtG := wtG_of 837 (by rfl) rfl
set_option maxRecDepth 20000 in
theorem kw838 : Cond.code ⟨"HullChartsModel", "placeOf", "(I)I"⟩ prog_7_method_19_code 2 (some .int) ∈ wtG := wtG_of 838 (by rfl) rfl
set_option maxRecDepth 20000 in
theorem kw839 : Cond.methodLink "HullChartsLaw" 22 ⟨"HullChartsModel", "ofLooker", "(II)I"⟩ ∈ wtG := wtG_of 839 (by rfl) rfl
set_option maxRecDepth 20000 in
theorem kw840 : Cond.instanceMethod ⟨"HullChartsModel", "ofLooker", "(II)I"⟩ ∈ wtG := wtG_of 840 (by rfl) rfl
set_option maxRecDepth 20000 in
theorem kw841 : Cond.selects "HullChartsModel" ⟨"HullChartsModel", "ofLooker", "(II)I"⟩ ⟨"HullChartsModel", "ofLooker", "(II)I"⟩ ∈ wtG := wtG_of 841 (by rfl) rfl
set_option maxRecDepth 20000 in
theorem kw842 : Cond.code ⟨"HullChartsModel", "ofLooker", "(II)I"⟩ prog_7_method_22_code 3 (some .int) ∈ wtG := wtG_of 842 (by rfl) rfl
set_option maxRecDepth 20000 in
theorem kw843 : Cond.methodLink "HullChartsModel" 160 ⟨"HullChartsModel", "noLooker", "(I)Z"⟩ ∈ wtG := wtG_of 843 (by rfl) rfl
set_option maxRecDepth 20000 in
theorem kw845 : Cond.instanceMethod ⟨"HullChartsModel", "noLooker", "(I)Z"⟩ ∈ wtG := wtG_of 845 (by rfl) rfl
set_option maxRecDepth 20000 in
theorem kw846 : Cond.code ⟨"HullChartsModel", "noLooker", "(I)Z"⟩ prog_7_method_10_code 2 (some .boolean) ∈ wtG := wtG_of 846 (by rfl) rfl
set_option maxRecDepth 20000 in
theorem kw847 : Cond.methodLink "HullChartsModel" 163 ⟨"HullChartsModel", "tells", "(II)I"⟩ ∈ wtG := wtG_of 847 (by rfl) rfl
set_option maxRecDepth 20000 in
theorem kw849 : Cond.instanceMethod ⟨"HullChartsModel", "tells", "(II)I"⟩ ∈ wtG := wtG_of 849 (by rfl) rfl
set_option maxRecDepth 20000 in
theorem kw850 : Cond.code ⟨"HullChartsModel", "tells", "(II)I"⟩ prog_7_method_20_code 4 (some .int) ∈ wtG := wtG_of 850 (by rfl) rfl
set_option maxRecDepth 20000 in
theorem kw851 : Cond.methodLink "HullChartsLaw" 27 ⟨"HullChartsModel", "height", "(I)I"⟩ ∈ wtG := wtG_of 851 (by rfl) rfl
set_option maxRecDepth 20000 in
theorem kw852 : Cond.instanceMethod ⟨"HullChartsModel", "height", "(I)I"⟩ ∈ wtG := wtG_of 852 (by rfl) rfl
set_option maxRecDepth 20000 in
theorem kw853 : Cond.selects "HullChartsModel" ⟨"HullChartsModel", "height", "(I)I"⟩ ⟨"HullChartsModel", "height", "(I)I"⟩ ∈ wtG := wtG_of 853 (by rfl) rfl
set_option maxRecDepth 20000 in
theorem kw854 : Cond.code ⟨"HullChartsModel", "height", "(I)I"⟩ prog_7_method_23_code 2 (some .int) ∈ wtG := wtG_of 854 (by rfl) rfl
set_option maxRecDepth 20000 in
theorem kw855 : Cond.methodLink "HullChartsModel" 166 ⟨"HullChartsModel", "noPlace", "(I)Z"⟩ ∈ wtG := wtG_of 855 (by rfl) rfl
set_option maxRecDepth 20000 in
theorem kw857 : Cond.instanceMethod ⟨"HullChartsModel", "noPlace", "(I)Z"⟩ ∈ wtG := wtG_of 857 (by rfl) rfl
set_option maxRecDepth 20000 in
theorem kw858 : Cond.code ⟨"HullChartsModel", "noPlace", "(I)Z"⟩ prog_7_method_11_code 2 (some .boolean) ∈ wtG := wtG_of 858 (by rfl) rfl
set_option maxRecDepth 20000 in
theorem kw859 : Cond.methodLink "HullChartsLaw" 31 ⟨"HullChartsModel", "heap", "(II)I"⟩ ∈ wtG := wtG_of 859 (by rfl) rfl
set_option maxRecDepth 20000 in
theorem kw860 : Cond.instanceMethod ⟨"HullChartsModel", "heap", "(II)I"⟩ ∈ wtG := wtG_of 860 (by rfl) rfl
set_option maxRecDepth 20000 in
theorem kw861 : Cond.selects "HullChartsModel" ⟨"HullChartsModel", "heap", "(II)I"⟩ ⟨"HullChartsModel", "heap", "(II)I"⟩ ∈ wtG := wtG_of 861 (by rfl) rfl
set_option maxRecDepth 20000 in
theorem kw862 : Cond.code ⟨"HullChartsModel", "heap", "(II)I"⟩ prog_7_method_24_code 4 (some .int) ∈ wtG := wtG_of 862 (by rfl) rfl
set_option maxRecDepth 20000 in
theorem kw863 : Cond.constantLong "HullChartsModel" 169 (9) ∈ wtG := wtG_of 863 (by rfl) rfl
set_option maxRecDepth 20000 in
theorem kw864 : Cond.methodLink "HullChartsLaw" 35 ⟨"HullChartsModel", "dim", "(II)I"⟩ ∈ wtG := wtG_of 864 (by rfl) rfl
set_option maxRecDepth 20000 in
theorem kw865 : Cond.instanceMethod ⟨"HullChartsModel", "dim", "(II)I"⟩ ∈ wtG := wtG_of 865 (by rfl) rfl
set_option maxRecDepth 20000 in
theorem kw866 : Cond.selects "HullChartsModel" ⟨"HullChartsModel", "dim", "(II)I"⟩ ⟨"HullChartsModel", "dim", "(II)I"⟩ ∈ wtG := wtG_of 866 (by rfl) rfl
set_option maxRecDepth 20000 in
theorem kw867 : Cond.code ⟨"HullChartsModel", "dim", "(II)I"⟩ prog_7_method_25_code 4 (some .int) ∈ wtG := wtG_of 867 (by rfl) rfl
set_option maxRecDepth 20000 in
theorem kw868 : Cond.methodLink "HullChartsLaw" 39 ⟨"HullChartsModel", "scrape", "(I)I"⟩ ∈ wtG := wtG_of 868 (by rfl) rfl
set_option maxRecDepth 20000 in
theorem kw869 : Cond.instanceMethod ⟨"HullChartsModel", "scrape", "(I)I"⟩ ∈ wtG := wtG_of 869 (by rfl) rfl
set_option maxRecDepth 20000 in
theorem kw870 : Cond.selects "HullChartsModel" ⟨"HullChartsModel", "scrape", "(I)I"⟩ ⟨"HullChartsModel", "scrape", "(I)I"⟩ ∈ wtG := wtG_of 870 (by rfl) rfl
set_option maxRecDepth 20000 in
theorem kw871 : Cond.code ⟨"HullChartsModel", "scrape", "(I)I"⟩ prog_7_method_26_code 2 (some .int) ∈ wtG := wtG_of 871 (by rfl) rfl
set_option maxRecDepth 20000 in
theorem kw872 : Cond.methodLink "HullChartsModel" 171 ⟨"HullChartsModel", "bits", "(J)I"⟩ ∈ wtG := wtG_of 872 (by rfl) rfl
set_option maxRecDepth 20000 in
theorem kw873 : Cond.static ⟨"HullChartsModel", "bits", "(J)I"⟩ ∈ wtG := wtG_of 873 (by rfl) rfl
set_option maxRecDepth 20000 in
theorem kw874 : Cond.code ⟨"HullChartsModel", "bits", "(J)I"⟩ prog_7_method_5_code 5 (some .int) ∈ wtG := wtG_of 874 (by rfl) rfl
set_option maxRecDepth 20000 in
theorem kw875 : Cond.methodLink "HullChartsLaw" 43 ⟨"HullChartsModel", "grow", "(I)I"⟩ ∈ wtG := wtG_of 875 (by rfl) rfl
set_option maxRecDepth 20000 in
theorem kw876 : Cond.instanceMethod ⟨"HullChartsModel", "grow", "(I)I"⟩ ∈ wtG := wtG_of 876 (by rfl) rfl
set_option maxRecDepth 20000 in
theorem kw877 : Cond.selects "HullChartsModel" ⟨"HullChartsModel", "grow", "(I)I"⟩ ⟨"HullChartsModel", "grow", "(I)I"⟩ ∈ wtG := wtG_of 877 (by rfl) rfl
set_option maxRecDepth 20000 in
theorem kw878 : Cond.code ⟨"HullChartsModel", "grow", "(I)I"⟩ prog_7_method_27_code 2 (some .int) ∈ wtG := wtG_of 878 (by rfl) rfl
set_option maxRecDepth 20000 in
theorem kw879 : Cond.methodLink "HullChartsLaw" 48 ⟨"HullChartsModel", "seen", "()J"⟩ ∈ wtG := wtG_of 879 (by rfl) rfl
set_option maxRecDepth 20000 in
theorem kw880 : Cond.instanceMethod ⟨"HullChartsModel", "seen", "()J"⟩ ∈ wtG := wtG_of 880 (by rfl) rfl
set_option maxRecDepth 20000 in
theorem kw881 : Cond.selects "HullChartsModel" ⟨"HullChartsModel", "seen", "()J"⟩ ⟨"HullChartsModel", "seen", "()J"⟩ ∈ wtG := wtG_of 881 (by rfl) rfl
set_option maxRecDepth 20000 in
theorem kw882 : Cond.code ⟨"HullChartsModel", "seen", "()J"⟩ prog_7_method_28_code 1 (some .long) ∈ wtG := wtG_of 882 (by rfl) rfl
set_option maxRecDepth 20000 in
theorem kw883 : Cond.methodLink "HullChartsModel" 58 ⟨"HullChartsModel", "lost", "()J"⟩ ∈ wtG := wtG_of 883 (by rfl) rfl
set_option maxRecDepth 20000 in
theorem kw884 : Cond.static ⟨"HullChartsModel", "lost", "()J"⟩ ∈ wtG := wtG_of 884 (by rfl) rfl
set_option maxRecDepth 20000 in
theorem kw885 : Cond.code ⟨"HullChartsModel", "lost", "()J"⟩ prog_7_method_3_code 0 (some .long) ∈ wtG := wtG_of 885 (by rfl) rfl
set_option maxRecDepth 20000 in
theorem kw886 : Cond.constantLong "HullChartsModel" 52 (-9223372036854775808) ∈ wtG := wtG_of 886 (by rfl) rfl
set_option maxRecDepth 20000 in
theorem kw887 : Cond.methodLink "HullChartsLaw" 52 ⟨"HullChartsModel", "step", "(I)I"⟩ ∈ wtG := wtG_of 887 (by rfl) rfl
set_option maxRecDepth 20000 in
theorem kw888 : Cond.instanceMethod ⟨"HullChartsModel", "step", "(I)I"⟩ ∈ wtG := wtG_of 888 (by rfl) rfl
set_option maxRecDepth 20000 in
theorem kw889 : Cond.selects "HullChartsModel" ⟨"HullChartsModel", "step", "(I)I"⟩ ⟨"HullChartsModel", "step", "(I)I"⟩ ∈ wtG := wtG_of 889 (by rfl) rfl
set_option maxRecDepth 20000 in
theorem kw890 : Cond.code ⟨"HullChartsModel", "step", "(I)I"⟩ prog_7_method_33_code 3 (some .int) ∈ wtG := wtG_of 890 (by rfl) rfl
set_option maxRecDepth 20000 in
theorem kw891 : Cond.methodLink "HullChartsModel" 186 ⟨"HullChartsModel", "steps", "(I)Z"⟩ ∈ wtG := wtG_of 891 (by rfl) rfl
set_option maxRecDepth 20000 in
theorem kw893 : Cond.instanceMethod ⟨"HullChartsModel", "steps", "(I)Z"⟩ ∈ wtG := wtG_of 893 (by rfl) rfl
set_option maxRecDepth 20000 in
theorem kw894 : Cond.code ⟨"HullChartsModel", "steps", "(I)Z"⟩ prog_7_method_32_code 4 (some .boolean) ∈ wtG := wtG_of 894 (by rfl) rfl
set_option maxRecDepth 20000 in
theorem kw895 : Cond.methodLink "HullChartsModel" 175 ⟨"HullChartsModel", "columnBy", "(I)I"⟩ ∈ wtG := wtG_of 895 (by rfl) rfl
set_option maxRecDepth 20000 in
theorem kw896 : Cond.static ⟨"HullChartsModel", "columnBy", "(I)I"⟩ ∈ wtG := wtG_of 896 (by rfl) rfl
set_option maxRecDepth 20000 in
theorem kw897 : Cond.code ⟨"HullChartsModel", "columnBy", "(I)I"⟩ prog_7_method_30_code 1 (some .int) ∈ wtG := wtG_of 897 (by rfl) rfl
set_option maxRecDepth 20000 in
theorem kw898 : Cond.methodLink "HullChartsModel" 178 ⟨"HullChartsModel", "rowBy", "(I)I"⟩ ∈ wtG := wtG_of 898 (by rfl) rfl
set_option maxRecDepth 20000 in
theorem kw899 : Cond.static ⟨"HullChartsModel", "rowBy", "(I)I"⟩ ∈ wtG := wtG_of 899 (by rfl) rfl
set_option maxRecDepth 20000 in
theorem kw900 : Cond.code ⟨"HullChartsModel", "rowBy", "(I)I"⟩ prog_7_method_31_code 1 (some .int) ∈ wtG := wtG_of 900 (by rfl) rfl
set_option maxRecDepth 20000 in
theorem kw901 : Cond.methodLink "HullChartsModel" 181 ⟨"HullChartsModel", "isPlace", "(II)Z"⟩ ∈ wtG := wtG_of 901 (by rfl) rfl
set_option maxRecDepth 20000 in
theorem kw903 : Cond.instanceMethod ⟨"HullChartsModel", "isPlace", "(II)Z"⟩ ∈ wtG := wtG_of 903 (by rfl) rfl
set_option maxRecDepth 20000 in
theorem kw904 : Cond.code ⟨"HullChartsModel", "isPlace", "(II)Z"⟩ prog_7_method_29_code 3 (some .boolean) ∈ wtG := wtG_of 904 (by rfl) rfl
set_option maxRecDepth 20000 in
theorem kw905 : Cond.methodLink "HullChartsLaw" 57 ⟨"HullChartsModel", "voyage", "(IIIII)I"⟩ ∈ wtG := wtG_of 905 (by rfl) rfl
set_option maxRecDepth 20000 in
theorem kw906 : Cond.instanceMethod ⟨"HullChartsModel", "voyage", "(IIIII)I"⟩ ∈ wtG := wtG_of 906 (by rfl) rfl
set_option maxRecDepth 20000 in
theorem kw907 : Cond.selects "HullChartsModel" ⟨"HullChartsModel", "voyage", "(IIIII)I"⟩ ⟨"HullChartsModel", "voyage", "(IIIII)I"⟩ ∈ wtG := wtG_of 907 (by rfl) rfl
set_option maxRecDepth 20000 in
theorem kw908 : Cond.code ⟨"HullChartsModel", "voyage", "(IIIII)I"⟩ prog_7_method_37_code 8 (some .int) ∈ wtG := wtG_of 908 (by rfl) rfl
set_option maxRecDepth 20000 in
theorem kw909 : Cond.constantLong "HullChartsModel" 198 (40) ∈ wtG := wtG_of 909 (by rfl) rfl
set_option maxRecDepth 20000 in
theorem kw910 : Cond.constantLong "HullChartsModel" 200 (4) ∈ wtG := wtG_of 910 (by rfl) rfl
set_option maxRecDepth 20000 in
theorem kw911 : Cond.methodLink "HullChartsModel" 202 ⟨"HullChartsModel", "keepAll", "()V"⟩ ∈ wtG := wtG_of 911 (by rfl) rfl
set_option maxRecDepth 20000 in
theorem kw913 : Cond.instanceMethod ⟨"HullChartsModel", "keepAll", "()V"⟩ ∈ wtG := wtG_of 913 (by rfl) rfl
set_option maxRecDepth 20000 in
theorem kw914 : Cond.code ⟨"HullChartsModel", "keepAll", "()V"⟩ prog_7_method_34_code 1 (none) ∈ wtG := wtG_of 914 (by rfl) rfl
set_option maxRecDepth 20000 in
theorem kw915 : Cond.methodLink "HullChartsModel" 205 ⟨"HullChartsModel", "voyageBy", "(III)I"⟩ ∈ wtG := wtG_of 915 (by rfl) rfl
set_option maxRecDepth 20000 in
theorem kw917 : Cond.instanceMethod ⟨"HullChartsModel", "voyageBy", "(III)I"⟩ ∈ wtG := wtG_of 917 (by rfl) rfl
set_option maxRecDepth 20000 in
theorem kw918 : Cond.code ⟨"HullChartsModel", "voyageBy", "(III)I"⟩ prog_7_method_36_code 10 (some .int) ∈ wtG := wtG_of 918 (by rfl) rfl
set_option maxRecDepth 20000 in
theorem kw919 : Cond.methodLink "HullChartsModel" 209 ⟨"HullChartsModel", "bringBack", "()V"⟩ ∈ wtG := wtG_of 919 (by rfl) rfl
set_option maxRecDepth 20000 in
theorem kw921 : Cond.instanceMethod ⟨"HullChartsModel", "bringBack", "()V"⟩ ∈ wtG := wtG_of 921 (by rfl) rfl
set_option maxRecDepth 20000 in
theorem kw922 : Cond.code ⟨"HullChartsModel", "bringBack", "()V"⟩ prog_7_method_35_code 1 (none) ∈ wtG := wtG_of 922 (by rfl) rfl
set_option maxRecDepth 20000 in
theorem kw923 : Cond.methodLink "HullChartsLaw" 61 ⟨"HullChartsModel", "way", "(II)I"⟩ ∈ wtG := wtG_of 923 (by rfl) rfl
set_option maxRecDepth 20000 in
theorem kw924 : Cond.instanceMethod ⟨"HullChartsModel", "way", "(II)I"⟩ ∈ wtG := wtG_of 924 (by rfl) rfl
set_option maxRecDepth 20000 in
theorem kw925 : Cond.selects "HullChartsModel" ⟨"HullChartsModel", "way", "(II)I"⟩ ⟨"HullChartsModel", "way", "(II)I"⟩ ∈ wtG := wtG_of 925 (by rfl) rfl
set_option maxRecDepth 20000 in
theorem kw926 : Cond.code ⟨"HullChartsModel", "way", "(II)I"⟩ prog_7_method_43_code 4 (some .int) ∈ wtG := wtG_of 926 (by rfl) rfl
set_option maxRecDepth 20000 in
theorem kw927 : Cond.constantLong "HullChartsModel" 222 (-1) ∈ wtG := wtG_of 927 (by rfl) rfl
set_option maxRecDepth 20000 in
theorem kw928 : Cond.methodLink "HullChartsModel" 224 ⟨"HullChartsModel", "measures", "(I)V"⟩ ∈ wtG := wtG_of 928 (by rfl) rfl
set_option maxRecDepth 20000 in
theorem kw930 : Cond.instanceMethod ⟨"HullChartsModel", "measures", "(I)V"⟩ ∈ wtG := wtG_of 930 (by rfl) rfl
set_option maxRecDepth 20000 in
theorem kw931 : Cond.code ⟨"HullChartsModel", "measures", "(I)V"⟩ prog_7_method_41_code 6 (none) ∈ wtG := wtG_of 931 (by rfl) rfl
set_option maxRecDepth 20000 in
theorem kw932 : Cond.methodLink "HullChartsModel" 215 ⟨"HullChartsModel", "isOver", "(III)Z"⟩ ∈ wtG := wtG_of 932 (by rfl) rfl
set_option maxRecDepth 20000 in
theorem kw934 : Cond.instanceMethod ⟨"HullChartsModel", "isOver", "(III)Z"⟩ ∈ wtG := wtG_of 934 (by rfl) rfl
set_option maxRecDepth 20000 in
theorem kw935 : Cond.code ⟨"HullChartsModel", "isOver", "(III)Z"⟩ prog_7_method_38_code 6 (some .boolean) ∈ wtG := wtG_of 935 (by rfl) rfl
set_option maxRecDepth 20000 in
theorem kw936 : Cond.methodLink "HullChartsModel" 219 ⟨"HullChartsModel", "isBeside", "(III)Z"⟩ ∈ wtG := wtG_of 936 (by rfl) rfl
set_option maxRecDepth 20000 in
theorem kw938 : Cond.instanceMethod ⟨"HullChartsModel", "isBeside", "(III)Z"⟩ ∈ wtG := wtG_of 938 (by rfl) rfl
set_option maxRecDepth 20000 in
theorem kw939 : Cond.code ⟨"HullChartsModel", "isBeside", "(III)Z"⟩ prog_7_method_40_code 6 (some .boolean) ∈ wtG := wtG_of 939 (by rfl) rfl
set_option maxRecDepth 20000 in
theorem kw940 : Cond.methodLink "HullChartsModel" 212 ⟨"HullChartsModel", "farAt", "(II)I"⟩ ∈ wtG := wtG_of 940 (by rfl) rfl
set_option maxRecDepth 20000 in
theorem kw942 : Cond.instanceMethod ⟨"HullChartsModel", "farAt", "(II)I"⟩ ∈ wtG := wtG_of 942 (by rfl) rfl
set_option maxRecDepth 20000 in
theorem kw943 : Cond.code ⟨"HullChartsModel", "farAt", "(II)I"⟩ prog_7_method_39_code 3 (some .int) ∈ wtG := wtG_of 943 (by rfl) rfl
set_option maxRecDepth 20000 in
theorem kw944 : Cond.methodLink "HullChartsModel" 228 ⟨"HullChartsModel", "wayStep", "(I)I"⟩ ∈ wtG := wtG_of 944 (by rfl) rfl
set_option maxRecDepth 20000 in
theorem kw946 : Cond.instanceMethod ⟨"HullChartsModel", "wayStep", "(I)I"⟩ ∈ wtG := wtG_of 946 (by rfl) rfl
set_option maxRecDepth 20000 in
theorem kw947 : Cond.code ⟨"HullChartsModel", "wayStep", "(I)I"⟩ prog_7_method_42_code 8 (some .int) ∈ wtG := wtG_of 947 (by rfl) rfl
set_option maxRecDepth 20000 in
theorem kw948 : Cond.methodLink "HullChartsLaw" 65 ⟨"HullChartsModel", "most", "(II)I"⟩ ∈ wtG := wtG_of 948 (by rfl) rfl
set_option maxRecDepth 20000 in
theorem kw949 : Cond.instanceMethod ⟨"HullChartsModel", "most", "(II)I"⟩ ∈ wtG := wtG_of 949 (by rfl) rfl
set_option maxRecDepth 20000 in
theorem kw950 : Cond.selects "HullChartsModel" ⟨"HullChartsModel", "most", "(II)I"⟩ ⟨"HullChartsModel", "most", "(II)I"⟩ ∈ wtG := wtG_of 950 (by rfl) rfl
set_option maxRecDepth 20000 in
theorem kw951 : Cond.code ⟨"HullChartsModel", "most", "(II)I"⟩ prog_7_method_45_code 7 (some .int) ∈ wtG := wtG_of 951 (by rfl) rfl
set_option maxRecDepth 20000 in
theorem kw952 : Cond.constantLong "HullChartsModel" 231 (5) ∈ wtG := wtG_of 952 (by rfl) rfl
set_option maxRecDepth 20000 in
theorem kw953 : Cond.methodLink "HullChartsModel" 233 ⟨"HullChartsModel", "seenBy", "(II)I"⟩ ∈ wtG := wtG_of 953 (by rfl) rfl
set_option maxRecDepth 20000 in
theorem kw955 : Cond.instanceMethod ⟨"HullChartsModel", "seenBy", "(II)I"⟩ ∈ wtG := wtG_of 955 (by rfl) rfl
set_option maxRecDepth 20000 in
theorem kw956 : Cond.code ⟨"HullChartsModel", "seenBy", "(II)I"⟩ prog_7_method_44_code 5 (some .int) ∈ wtG := wtG_of 956 (by rfl) rfl
set_option maxRecDepth 20000 in
theorem kw957 : Cond.methodLink "HullChartsLaw" 69 ⟨"HullChartsModel", "flat", "(I)I"⟩ ∈ wtG := wtG_of 957 (by rfl) rfl
set_option maxRecDepth 20000 in
theorem kw958 : Cond.instanceMethod ⟨"HullChartsModel", "flat", "(I)I"⟩ ∈ wtG := wtG_of 958 (by rfl) rfl
set_option maxRecDepth 20000 in
theorem kw959 : Cond.selects "HullChartsModel" ⟨"HullChartsModel", "flat", "(I)I"⟩ ⟨"HullChartsModel", "flat", "(I)I"⟩ ∈ wtG := wtG_of 959 (by rfl) rfl
set_option maxRecDepth 20000 in
theorem kw960 : Cond.code ⟨"HullChartsModel", "flat", "(I)I"⟩ prog_7_method_47_code 8 (some .int) ∈ wtG := wtG_of 960 (by rfl) rfl
set_option maxRecDepth 20000 in
theorem kw961 : Cond.methodLink "HullChartsModel" 236 ⟨"HullChartsModel", "areBeside", "(II)Z"⟩ ∈ wtG := wtG_of 961 (by rfl) rfl
set_option maxRecDepth 20000 in
theorem kw963 : Cond.instanceMethod ⟨"HullChartsModel", "areBeside", "(II)Z"⟩ ∈ wtG := wtG_of 963 (by rfl) rfl
set_option maxRecDepth 20000 in
theorem kw964 : Cond.code ⟨"HullChartsModel", "areBeside", "(II)Z"⟩ prog_7_method_46_code 5 (some .boolean) ∈ wtG := wtG_of 964 (by rfl) rfl
set_option maxRecDepth 20000 in
theorem kw965 : Cond.methodLink "HullChartsLaw" 74 ⟨"HullChartsModel", "begun", "(IIIIII)I"⟩ ∈ wtG := wtG_of 965 (by rfl) rfl
set_option maxRecDepth 20000 in
theorem kw966 : Cond.instanceMethod ⟨"HullChartsModel", "begun", "(IIIIII)I"⟩ ∈ wtG := wtG_of 966 (by rfl) rfl
set_option maxRecDepth 20000 in
theorem kw967 : Cond.selects "HullChartsModel" ⟨"HullChartsModel", "begun", "(IIIIII)I"⟩ ⟨"HullChartsModel", "begun", "(IIIIII)I"⟩ ∈ wtG := wtG_of 967 (by rfl) rfl
set_option maxRecDepth 20000 in
theorem kw968 : Cond.code ⟨"HullChartsModel", "begun", "(IIIIII)I"⟩ prog_7_method_50_code 8 (some .int) ∈ wtG := wtG_of 968 (by rfl) rfl
set_option maxRecDepth 20000 in
theorem kw969 : Cond.constantLong "HullChartsModel" 243 (6) ∈ wtG := wtG_of 969 (by rfl) rfl
set_option maxRecDepth 20000 in
theorem kw970 : Cond.methodLink "HullChartsModel" 245 ⟨"HullChartsModel", "begunBy", "(IIII)I"⟩ ∈ wtG := wtG_of 970 (by rfl) rfl
set_option maxRecDepth 20000 in
theorem kw972 : Cond.instanceMethod ⟨"HullChartsModel", "begunBy", "(IIII)I"⟩ ∈ wtG := wtG_of 972 (by rfl) rfl
set_option maxRecDepth 20000 in
theorem kw973 : Cond.code ⟨"HullChartsModel", "begunBy", "(IIII)I"⟩ prog_7_method_49_code 10 (some .int) ∈ wtG := wtG_of 973 (by rfl) rfl
set_option maxRecDepth 20000 in
theorem kw974 : Cond.methodLink "HullChartsModel" 239 ⟨"HullChartsModel", "begins", "(IIIII)Z"⟩ ∈ wtG := wtG_of 974 (by rfl) rfl
set_option maxRecDepth 20000 in
theorem kw976 : Cond.instanceMethod ⟨"HullChartsModel", "begins", "(IIIII)Z"⟩ ∈ wtG := wtG_of 976 (by rfl) rfl
set_option maxRecDepth 20000 in
theorem kw977 : Cond.code ⟨"HullChartsModel", "begins", "(IIIII)Z"⟩ prog_7_method_48_code 11 (some .boolean) ∈ wtG := wtG_of 977 (by rfl) rfl
set_option maxRecDepth 20000 in
theorem kw978 : Cond.methodLink "HullChartsLaw" 78 ⟨"HullChartsModel", "run", "(IIIII)I"⟩ ∈ wtG := wtG_of 978 (by rfl) rfl
set_option maxRecDepth 20000 in
theorem kw979 : Cond.instanceMethod ⟨"HullChartsModel", "run", "(IIIII)I"⟩ ∈ wtG := wtG_of 979 (by rfl) rfl
set_option maxRecDepth 20000 in
theorem kw980 : Cond.selects "HullChartsModel" ⟨"HullChartsModel", "run", "(IIIII)I"⟩ ⟨"HullChartsModel", "run", "(IIIII)I"⟩ ∈ wtG := wtG_of 980 (by rfl) rfl
set_option maxRecDepth 20000 in
theorem kw981 : Cond.code ⟨"HullChartsModel", "run", "(IIIII)I"⟩ prog_7_method_52_code 8 (some .int) ∈ wtG := wtG_of 981 (by rfl) rfl
set_option maxRecDepth 20000 in
theorem kw982 : Cond.methodLink "HullChartsModel" 249 ⟨"HullChartsModel", "goesOn", "(III)Z"⟩ ∈ wtG := wtG_of 982 (by rfl) rfl
set_option maxRecDepth 20000 in
theorem kw984 : Cond.instanceMethod ⟨"HullChartsModel", "goesOn", "(III)Z"⟩ ∈ wtG := wtG_of 984 (by rfl) rfl
set_option maxRecDepth 20000 in
theorem kw985 : Cond.code ⟨"HullChartsModel", "goesOn", "(III)Z"⟩ prog_7_method_51_code 6 (some .boolean) ∈ wtG := wtG_of 985 (by rfl) rfl
set_option maxRecDepth 20000 in
theorem kw986 : Cond.methodLink "HullChartsLaw" 83 ⟨"HullChartsModel", "reading", "(III)I"⟩ ∈ wtG := wtG_of 986 (by rfl) rfl
set_option maxRecDepth 20000 in
theorem kw987 : Cond.instanceMethod ⟨"HullChartsModel", "reading", "(III)I"⟩ ∈ wtG := wtG_of 987 (by rfl) rfl
set_option maxRecDepth 20000 in
theorem kw988 : Cond.selects "HullChartsModel" ⟨"HullChartsModel", "reading", "(III)I"⟩ ⟨"HullChartsModel", "reading", "(III)I"⟩ ∈ wtG := wtG_of 988 (by rfl) rfl
set_option maxRecDepth 20000 in
theorem kw989 : Cond.code ⟨"HullChartsModel", "reading", "(III)I"⟩ prog_7_method_53_code 4 (some .int) ∈ wtG := wtG_of 989 (by rfl) rfl
set_option maxRecDepth 20000 in
theorem kw990 : Cond.constantLong "HullChartsModel" 252 (20) ∈ wtG := wtG_of 990 (by rfl) rfl
set_option maxRecDepth 20000 in
theorem kw991 : Cond.methodLink "HullChartsLaw" 87 ⟨"HullChartsModel", "back", "(I)I"⟩ ∈ wtG := wtG_of 991 (by rfl) rfl
set_option maxRecDepth 20000 in
theorem kw992 : Cond.instanceMethod ⟨"HullChartsModel", "back", "(I)I"⟩ ∈ wtG := wtG_of 992 (by rfl) rfl
set_option maxRecDepth 20000 in
theorem kw993 : Cond.selects "HullChartsModel" ⟨"HullChartsModel", "back", "(I)I"⟩ ⟨"HullChartsModel", "back", "(I)I"⟩ ∈ wtG := wtG_of 993 (by rfl) rfl
set_option maxRecDepth 20000 in
theorem kw994 : Cond.code ⟨"HullChartsModel", "back", "(I)I"⟩ prog_7_method_54_code 2 (some .int) ∈ wtG := wtG_of 994 (by rfl) rfl
set_option maxRecDepth 20000 in
theorem kw995 : Cond.methodLink "HullChartsLaw" 91 ⟨"HullChartsModel", "shorts", "(I)I"⟩ ∈ wtG := wtG_of 995 (by rfl) rfl
set_option maxRecDepth 20000 in
theorem kw996 : Cond.instanceMethod ⟨"HullChartsModel", "shorts", "(I)I"⟩ ∈ wtG := wtG_of 996 (by rfl) rfl
set_option maxRecDepth 20000 in
theorem kw997 : Cond.selects "HullChartsModel" ⟨"HullChartsModel", "shorts", "(I)I"⟩ ⟨"HullChartsModel", "shorts", "(I)I"⟩ ∈ wtG := wtG_of 997 (by rfl) rfl
set_option maxRecDepth 20000 in
theorem kw998 : Cond.code ⟨"HullChartsModel", "shorts", "(I)I"⟩ prog_7_method_56_code 5 (some .int) ∈ wtG := wtG_of 998 (by rfl) rfl
set_option maxRecDepth 20000 in
theorem kw999 : Cond.methodLink "HullChartsModel" 254 ⟨"HullChartsModel", "areSo", "()Z"⟩ ∈ wtG := wtG_of 999 (by rfl) rfl
set_option maxRecDepth 20000 in
theorem kw1001 : Cond.instanceMethod ⟨"HullChartsModel", "areSo", "()Z"⟩ ∈ wtG := wtG_of 1001 (by rfl) rfl
set_option maxRecDepth 20000 in
theorem kw1002 : Cond.code ⟨"HullChartsModel", "areSo", "()Z"⟩ prog_7_method_55_code 3 (some .boolean) ∈ wtG := wtG_of 1002 (by rfl) rfl
set_option maxRecDepth 20000 in
theorem kw1003 : Cond.methodLink "HullChartsLaw" 95 ⟨"HullChartsModel", "kinds", "(I)I"⟩ ∈ wtG := wtG_of 1003 (by rfl) rfl
set_option maxRecDepth 20000 in
theorem kw1004 : Cond.instanceMethod ⟨"HullChartsModel", "kinds", "(I)I"⟩ ∈ wtG := wtG_of 1004 (by rfl) rfl
set_option maxRecDepth 20000 in
theorem kw1005 : Cond.selects "HullChartsModel" ⟨"HullChartsModel", "kinds", "(I)I"⟩ ⟨"HullChartsModel", "kinds", "(I)I"⟩ ∈ wtG := wtG_of 1005 (by rfl) rfl
set_option maxRecDepth 20000 in
theorem kw1006 : Cond.code ⟨"HullChartsModel", "kinds", "(I)I"⟩ prog_7_method_57_code 5 (some .int) ∈ wtG := wtG_of 1006 (by rfl) rfl
set_option maxRecDepth 20000 in
theorem kw1007 : Cond.methodLink "HullChartsLaw" 100 ⟨"HullChartsModel", "odds", "(III)J"⟩ ∈ wtG := wtG_of 1007 (by rfl) rfl
set_option maxRecDepth 20000 in
theorem kw1008 : Cond.instanceMethod ⟨"HullChartsModel", "odds", "(III)J"⟩ ∈ wtG := wtG_of 1008 (by rfl) rfl
set_option maxRecDepth 20000 in
theorem kw1009 : Cond.selects "HullChartsModel" ⟨"HullChartsModel", "odds", "(III)J"⟩ ⟨"HullChartsModel", "odds", "(III)J"⟩ ∈ wtG := wtG_of 1009 (by rfl) rfl
set_option maxRecDepth 20000 in
theorem kw1010 : Cond.code ⟨"HullChartsModel", "odds", "(III)J"⟩ prog_7_method_58_code 8 (some .long) ∈ wtG := wtG_of 1010 (by rfl) rfl
set_option maxRecDepth 20000 in
theorem kw1011 : Cond.methodLink "HullChartsModel" 258 ⟨"HullChartsModel", "share", "(JJI)J"⟩ ∈ wtG := wtG_of 1011 (by rfl) rfl
set_option maxRecDepth 20000 in
theorem kw1012 : Cond.static ⟨"HullChartsModel", "share", "(JJI)J"⟩ ∈ wtG := wtG_of 1012 (by rfl) rfl
set_option maxRecDepth 20000 in
theorem kw1013 : Cond.code ⟨"HullChartsModel", "share", "(JJI)J"⟩ prog_7_method_6_code 11 (some .long) ∈ wtG := wtG_of 1013 (by rfl) rfl
set_option maxRecDepth 20000 in
theorem kw1014 : Cond.methodLink "HullChartsLaw" 104 ⟨"HullChartsModel", "sheet", "(III)I"⟩ ∈ wtG := wtG_of 1014 (by rfl) rfl
set_option maxRecDepth 20000 in
theorem kw1015 : Cond.instanceMethod ⟨"HullChartsModel", "sheet", "(III)I"⟩ ∈ wtG := wtG_of 1015 (by rfl) rfl
set_option maxRecDepth 20000 in
theorem kw1016 : Cond.selects "HullChartsModel" ⟨"HullChartsModel", "sheet", "(III)I"⟩ ⟨"HullChartsModel", "sheet", "(III)I"⟩ ∈ wtG := wtG_of 1016 (by rfl) rfl
set_option maxRecDepth 20000 in
theorem kw1017 : Cond.code ⟨"HullChartsModel", "sheet", "(III)I"⟩ prog_7_method_60_code 5 (some .int) ∈ wtG := wtG_of 1017 (by rfl) rfl
set_option maxRecDepth 20000 in
theorem kw1018 : Cond.methodLink "HullChartsLaw" 108 ⟨"HullChartsModel", "lose", "(I)I"⟩ ∈ wtG := wtG_of 1018 (by rfl) rfl
set_option maxRecDepth 20000 in
theorem kw1019 : Cond.instanceMethod ⟨"HullChartsModel", "lose", "(I)I"⟩ ∈ wtG := wtG_of 1019 (by rfl) rfl
set_option maxRecDepth 20000 in
theorem kw1020 : Cond.selects "HullChartsModel" ⟨"HullChartsModel", "lose", "(I)I"⟩ ⟨"HullChartsModel", "lose", "(I)I"⟩ ∈ wtG := wtG_of 1020 (by rfl) rfl
set_option maxRecDepth 20000 in
theorem kw1021 : Cond.code ⟨"HullChartsModel", "lose", "(I)I"⟩ prog_7_method_61_code 3 (some .int) ∈ wtG := wtG_of 1021 (by rfl) rfl
set_option maxRecDepth 20000 in
theorem kw1022 : Cond.methodLink "HullChartsLaw" 112 ⟨"HullChartsModel", "put", "(III)I"⟩ ∈ wtG := wtG_of 1022 (by rfl) rfl
set_option maxRecDepth 20000 in
theorem kw1023 : Cond.instanceMethod ⟨"HullChartsModel", "put", "(III)I"⟩ ∈ wtG := wtG_of 1023 (by rfl) rfl
set_option maxRecDepth 20000 in
theorem kw1024 : Cond.selects "HullChartsModel" ⟨"HullChartsModel", "put", "(III)I"⟩ ⟨"HullChartsModel", "put", "(III)I"⟩ ∈ wtG := wtG_of 1024 (by rfl) rfl
set_option maxRecDepth 20000 in
theorem kw1025 : Cond.code ⟨"HullChartsModel", "put", "(III)I"⟩ prog_7_method_63_code 4 (some .int) ∈ wtG := wtG_of 1025 (by rfl) rfl
set_option maxRecDepth 20000 in
theorem kw1026 : Cond.methodLink "HullChartsModel" 262 ⟨"HullChartsModel", "noCell", "(II)I"⟩ ∈ wtG := wtG_of 1026 (by rfl) rfl
set_option maxRecDepth 20000 in
theorem kw1028 : Cond.instanceMethod ⟨"HullChartsModel", "noCell", "(II)I"⟩ ∈ wtG := wtG_of 1028 (by rfl) rfl
set_option maxRecDepth 20000 in
theorem kw1029 : Cond.code ⟨"HullChartsModel", "noCell", "(II)I"⟩ prog_7_method_62_code 3 (some .int) ∈ wtG := wtG_of 1029 (by rfl) rfl
set_option maxRecDepth 20000 in
theorem kw1030 : Cond.methodLink "HullChartsLaw" 116 ⟨"HullChartsModel", "cell", "(III)J"⟩ ∈ wtG := wtG_of 1030 (by rfl) rfl
set_option maxRecDepth 20000 in
theorem kw1031 : Cond.instanceMethod ⟨"HullChartsModel", "cell", "(III)J"⟩ ∈ wtG := wtG_of 1031 (by rfl) rfl
set_option maxRecDepth 20000 in
theorem kw1032 : Cond.selects "HullChartsModel" ⟨"HullChartsModel", "cell", "(III)J"⟩ ⟨"HullChartsModel", "cell", "(III)J"⟩ ∈ wtG := wtG_of 1032 (by rfl) rfl
set_option maxRecDepth 20000 in
theorem kw1033 : Cond.code ⟨"HullChartsModel", "cell", "(III)J"⟩ prog_7_method_64_code 4 (some .long) ∈ wtG := wtG_of 1033 (by rfl) rfl
set_option maxRecDepth 20000 in
theorem kw1034 : Cond.methodLink "HullChartsModel" 265 ⟨"HullChartsModel", "failedLong", "(I)J"⟩ ∈ wtG := wtG_of 1034 (by rfl) rfl
set_option maxRecDepth 20000 in
theorem kw1036 : Cond.instanceMethod ⟨"HullChartsModel", "failedLong", "(I)J"⟩ ∈ wtG := wtG_of 1036 (by rfl) rfl
set_option maxRecDepth 20000 in
theorem kw1037 : Cond.code ⟨"HullChartsModel", "failedLong", "(I)J"⟩ prog_7_method_9_code 2 (some .long) ∈ wtG := wtG_of 1037 (by rfl) rfl
set_option maxRecDepth 20000 in
theorem kw1038 : Cond.methodLink "HullChartsLaw" 120 ⟨"HullChartsModel", "copy", "(IIIII)I"⟩ ∈ wtG := wtG_of 1038 (by rfl) rfl
set_option maxRecDepth 20000 in
theorem kw1039 : Cond.instanceMethod ⟨"HullChartsModel", "copy", "(IIIII)I"⟩ ∈ wtG := wtG_of 1039 (by rfl) rfl
set_option maxRecDepth 20000 in
theorem kw1040 : Cond.selects "HullChartsModel" ⟨"HullChartsModel", "copy", "(IIIII)I"⟩ ⟨"HullChartsModel", "copy", "(IIIII)I"⟩ ∈ wtG := wtG_of 1040 (by rfl) rfl
set_option maxRecDepth 20000 in
theorem kw1041 : Cond.code ⟨"HullChartsModel", "copy", "(IIIII)I"⟩ prog_7_method_66_code 7 (some .int) ∈ wtG := wtG_of 1041 (by rfl) rfl
set_option maxRecDepth 20000 in
theorem kw1042 : Cond.methodLink "HullChartsLaw" 124 ⟨"HullChartsModel", "tell", "(I)I"⟩ ∈ wtG := wtG_of 1042 (by rfl) rfl
set_option maxRecDepth 20000 in
theorem kw1043 : Cond.instanceMethod ⟨"HullChartsModel", "tell", "(I)I"⟩ ∈ wtG := wtG_of 1043 (by rfl) rfl
set_option maxRecDepth 20000 in
theorem kw1044 : Cond.selects "HullChartsModel" ⟨"HullChartsModel", "tell", "(I)I"⟩ ⟨"HullChartsModel", "tell", "(I)I"⟩ ∈ wtG := wtG_of 1044 (by rfl) rfl
set_option maxRecDepth 20000 in
theorem kw1045 : Cond.code ⟨"HullChartsModel", "tell", "(I)I"⟩ prog_7_method_68_code 4 (some .int) ∈ wtG := wtG_of 1045 (by rfl) rfl
set_option maxRecDepth 20000 in
theorem kw1046 : Cond.methodLink "HullChartsModel" 272 ⟨"HullChartsModel", "traced", "(I)V"⟩ ∈ wtG := wtG_of 1046 (by rfl) rfl
set_option maxRecDepth 20000 in
theorem kw1048 : Cond.instanceMethod ⟨"HullChartsModel", "traced", "(I)V"⟩ ∈ wtG := wtG_of 1048 (by rfl) rfl
set_option maxRecDepth 20000 in
theorem kw1049 : Cond.code ⟨"HullChartsModel", "traced", "(I)V"⟩ prog_7_method_67_code 2 (none) ∈ wtG := wtG_of 1049 (by rfl) rfl
set_option maxRecDepth 20000 in
theorem kw1050 : Cond.methodLink "HullChartsLaw" 128 ⟨"HullChartsModel", "greet", "(I)I"⟩ ∈ wtG := wtG_of 1050 (by rfl) rfl
set_option maxRecDepth 20000 in
theorem kw1051 : Cond.instanceMethod ⟨"HullChartsModel", "greet", "(I)I"⟩ ∈ wtG := wtG_of 1051 (by rfl) rfl
set_option maxRecDepth 20000 in
theorem kw1052 : Cond.selects "HullChartsModel" ⟨"HullChartsModel", "greet", "(I)I"⟩ ⟨"HullChartsModel", "greet", "(I)I"⟩ ∈ wtG := wtG_of 1052 (by rfl) rfl
set_option maxRecDepth 20000 in
theorem kw1053 : Cond.code ⟨"HullChartsModel", "greet", "(I)I"⟩ prog_7_method_69_code 2 (some .int) ∈ wtG := wtG_of 1053 (by rfl) rfl
set_option maxRecDepth 20000 in
theorem kw1054 : Cond.methodLink "HullChartsLaw" 132 ⟨"HullChartsModel", "as", "(II)I"⟩ ∈ wtG := wtG_of 1054 (by rfl) rfl
set_option maxRecDepth 20000 in
theorem kw1055 : Cond.instanceMethod ⟨"HullChartsModel", "as", "(II)I"⟩ ∈ wtG := wtG_of 1055 (by rfl) rfl
set_option maxRecDepth 20000 in
theorem kw1056 : Cond.selects "HullChartsModel" ⟨"HullChartsModel", "as", "(II)I"⟩ ⟨"HullChartsModel", "as", "(II)I"⟩ ∈ wtG := wtG_of 1056 (by rfl) rfl
set_option maxRecDepth 20000 in
theorem kw1057 : Cond.code ⟨"HullChartsModel", "as", "(II)I"⟩ prog_7_method_70_code 3 (some .int) ∈ wtG := wtG_of 1057 (by rfl) rfl
set_option maxRecDepth 20000 in
theorem kw1058 : Cond.methodLink "HullChartsLaw" 137 ⟨"HullChartsModel", "trace", "()I"⟩ ∈ wtG := wtG_of 1058 (by rfl) rfl
set_option maxRecDepth 20000 in
theorem kw1059 : Cond.instanceMethod ⟨"HullChartsModel", "trace", "()I"⟩ ∈ wtG := wtG_of 1059 (by rfl) rfl
set_option maxRecDepth 20000 in
theorem kw1060 : Cond.selects "HullChartsModel" ⟨"HullChartsModel", "trace", "()I"⟩ ⟨"HullChartsModel", "trace", "()I"⟩ ∈ wtG := wtG_of 1060 (by rfl) rfl
set_option maxRecDepth 20000 in
theorem kw1061 : Cond.code ⟨"HullChartsModel", "trace", "()I"⟩ prog_7_method_71_code 1 (some .int) ∈ wtG := wtG_of 1061 (by rfl) rfl
set_option maxRecDepth 20000 in
theorem kw1062 : Cond.methodLink "HullChartsLaw" 141 ⟨"HullChartsModel", "fault", "()I"⟩ ∈ wtG := wtG_of 1062 (by rfl) rfl
set_option maxRecDepth 20000 in
theorem kw1063 : Cond.instanceMethod ⟨"HullChartsModel", "fault", "()I"⟩ ∈ wtG := wtG_of 1063 (by rfl) rfl
set_option maxRecDepth 20000 in
theorem kw1064 : Cond.selects "HullChartsModel" ⟨"HullChartsModel", "fault", "()I"⟩ ⟨"HullChartsModel", "fault", "()I"⟩ ∈ wtG := wtG_of 1064 (by rfl) rfl
set_option maxRecDepth 20000 in
theorem kw1065 : Cond.code ⟨"HullChartsModel", "fault", "()I"⟩ prog_7_method_72_code 1 (some .int) ∈ wtG := wtG_of 1065 (by rfl) rfl
set_option maxRecDepth 20000 in
theorem kw1066 : Cond.methodLink "HullChartsLaw" 145 ⟨"HullChartsModel", "many", "(I)I"⟩ ∈ wtG := wtG_of 1066 (by rfl) rfl
set_option maxRecDepth 20000 in
theorem kw1067 : Cond.instanceMethod ⟨"HullChartsModel", "many", "(I)I"⟩ ∈ wtG := wtG_of 1067 (by rfl) rfl
set_option maxRecDepth 20000 in
theorem kw1068 : Cond.selects "HullChartsModel" ⟨"HullChartsModel", "many", "(I)I"⟩ ⟨"HullChartsModel", "many", "(I)I"⟩ ∈ wtG := wtG_of 1068 (by rfl) rfl
set_option maxRecDepth 20000 in
theorem kw1069 : Cond.code ⟨"HullChartsModel", "many", "(I)I"⟩ prog_7_method_73_code 2 (some .int) ∈ wtG := wtG_of 1069 (by rfl) rfl
theorem inX0 : ∀ w ∈ u_ws RX0 TX0 4, w ∈ wtG := List.forall_mem_cons.mpr ⟨kw142, List.forall_mem_cons.mpr ⟨kw144, List.forall_mem_cons.mpr ⟨kw146, List.forall_mem_cons.mpr ⟨kw148, (fun _ h => absurd h List.not_mem_nil)⟩⟩⟩⟩
theorem inX1 : ∀ w ∈ u_ws RX1 TX1 10, w ∈ wtG := List.forall_mem_cons.mpr ⟨kw111, List.forall_mem_cons.mpr ⟨kw113, List.forall_mem_cons.mpr ⟨kw115, List.forall_mem_cons.mpr ⟨kw117, List.forall_mem_cons.mpr ⟨kw119, List.forall_mem_cons.mpr ⟨kw121, List.forall_mem_cons.mpr ⟨kw123, List.forall_mem_cons.mpr ⟨kw125, List.forall_mem_cons.mpr ⟨kw127, List.forall_mem_cons.mpr ⟨kw129, (fun _ h => absurd h List.not_mem_nil)⟩⟩⟩⟩⟩⟩⟩⟩⟩⟩
theorem inX3 : ∀ w ∈ u_ws RX3 TX3 3, w ∈ wtG := List.forall_mem_cons.mpr ⟨kw87, List.forall_mem_cons.mpr ⟨kw89, List.forall_mem_cons.mpr ⟨kw91, (fun _ h => absurd h List.not_mem_nil)⟩⟩⟩
theorem inX4 : ∀ w ∈ u_ws RX4 TX4 6, w ∈ wtG := List.forall_mem_cons.mpr ⟨kw157, List.forall_mem_cons.mpr ⟨kw159, List.forall_mem_cons.mpr ⟨kw161, List.forall_mem_cons.mpr ⟨kw163, List.forall_mem_cons.mpr ⟨kw165, List.forall_mem_cons.mpr ⟨kw167, (fun _ h => absurd h List.not_mem_nil)⟩⟩⟩⟩⟩⟩
theorem inX5 : ∀ w ∈ u_ws RX5 TX5 34, w ∈ wtG := List.forall_mem_cons.mpr ⟨kw712, List.forall_mem_cons.mpr ⟨kw714, List.forall_mem_cons.mpr ⟨kw716, List.forall_mem_cons.mpr ⟨kw718, List.forall_mem_cons.mpr ⟨kw720, List.forall_mem_cons.mpr ⟨kw722, List.forall_mem_cons.mpr ⟨kw724, List.forall_mem_cons.mpr ⟨kw726, List.forall_mem_cons.mpr ⟨kw728, List.forall_mem_cons.mpr ⟨kw730, List.forall_mem_cons.mpr ⟨kw732, List.forall_mem_cons.mpr ⟨kw734, List.forall_mem_cons.mpr ⟨kw736, List.forall_mem_cons.mpr ⟨kw738, List.forall_mem_cons.mpr ⟨kw740, List.forall_mem_cons.mpr ⟨kw742, List.forall_mem_cons.mpr ⟨kw744, List.forall_mem_cons.mpr ⟨kw746, List.forall_mem_cons.mpr ⟨kw748, List.forall_mem_cons.mpr ⟨kw750, List.forall_mem_cons.mpr ⟨kw752, List.forall_mem_cons.mpr ⟨kw754, List.forall_mem_cons.mpr ⟨kw756, List.forall_mem_cons.mpr ⟨kw758, List.forall_mem_cons.mpr ⟨kw760, List.forall_mem_cons.mpr ⟨kw762, List.forall_mem_cons.mpr ⟨kw764, List.forall_mem_cons.mpr ⟨kw766, List.forall_mem_cons.mpr ⟨kw768, List.forall_mem_cons.mpr ⟨kw770, List.forall_mem_cons.mpr ⟨kw772, List.forall_mem_cons.mpr ⟨kw774, List.forall_mem_cons.mpr ⟨kw776, List.forall_mem_cons.mpr ⟨kw778, (fun _ h => absurd h List.not_mem_nil)⟩⟩⟩⟩⟩⟩⟩⟩⟩⟩⟩⟩⟩⟩⟩⟩⟩⟩⟩⟩⟩⟩⟩⟩⟩⟩⟩⟩⟩⟩⟩⟩⟩⟩
section OK
variable {Z : Room → Nat → Nat → State → String → Prop} {own : String} {cc : ByteArray} {nL : Nat} {ret : Option FieldType} {T : pTab} {Y : Nat → MethodName × ByteArray × Option FieldType} {pc : Nat}
theorem ok_p {f : pC → Option pC} (h1 : xGr pc f) (h2 : xSnd Z own cc nL pc f) : xOk Z own cc nL ret T Y (pc, .inl f) := ⟨h1, h2⟩
theorem ok_c {j n maxL : Nat} {kd : Option Nat} {y : MethodName} {bytes : ByteArray} {rt : Option FieldType} {fl : Bool} {tb : pM} (hT : T j = some (maxL, fl, tb)) (hY : Y j = (y, bytes, rt)) (hs : xSndC Z own cc nL pc (j, n, kd) y bytes maxL rt) : xOk Z own cc nL ret T Y (pc, .inr (.inl (j, n, kd))) := ⟨_, hT, by
  show xSndC Z own cc nL pc (j, n, kd) (Y j).1 (Y j).2.1 maxL (Y j).2.2
  rw [hY]
  exact hs⟩
theorem ok_r {ty : Option FieldType} (h : xRok cc pc ty ret) : xOk Z own cc nL ret T Y (pc, .inr (.inr ty)) := h
theorem fa_c {α : Type} {P : α → Prop} {a : α} {l : List α} (h : P a) (t : ∀ q ∈ l, P q) : ∀ q ∈ a :: l, P q := fun q hq => (List.mem_cons.mp hq).elim (fun e => e ▸ h) (t q)
theorem fa_n {α : Type} {P : α → Prop} : ∀ q ∈ ([] : List α), P q := fun _ h => by cases h
theorem x_lsw_all (tb : List (Int32 × Nat)) (ps : List (Int × Int)) (d : Nat) {pc : Nat} {df : Int} (h : ps = tb.map (fun q => (q.1.toInt, (q.2 : Int) - pc))) (hd : (pc : Int) + df = d) : ∀ x : Int32, (pc : Int) + Op.lookupswitch.offset ps df x.toInt = (ptab tb d x : Int) := by
  intro x
  subst h
  induction tb with
  | nil => exact hd
  | cons q r ih =>
    obtain ⟨k, t⟩ := q
    simp only [List.map_cons, ptab]
    by_cases hx : x = k
    · subst hx
      rw [decide_eq_true rfl]
      simp [Op.lookupswitch.offset]
      omega
    · rw [decide_eq_false hx, lv_osw hx rfl]
      exact ih
end OK
