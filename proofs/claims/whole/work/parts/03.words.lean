/-- the words that every contract here may use: those of the tables that a call keeps -/
def gT : List Cond := lw_tbl.filter goodWord
theorem gT_of {w : Cond} (h : w ∈ lw_tbl) (g : goodWord w = true) : w ∈ gT := List.mem_filter.mpr ⟨h, g⟩
theorem gT_tb {w : Cond} (h : w ∈ tables_1) (g : goodWord w = true) : w ∈ gT := gT_of (List.mem_append_right _ h) g
theorem gT_good {w : Cond} (h : w ∈ gT) : goodWord w = true := (List.mem_filter.mp h).2
theorem gT_in {w : Cond} (h : w ∈ gT) : w ∈ lw_tbl := (List.mem_filter.mp h).1
theorem gT_goodIn {y : Cond} {b : List Cond} (hb : ∀ w ∈ gT, w ∈ b) (hy : y ∈ gT) : GoodIn b (y :: gT) := fun w h => by
  have h1 : w ∈ gT := (List.mem_cons.mp h).elim (fun e => e ▸ hy) id
  exact ⟨hb w h1, good_of_word (gT_good h1)⟩
theorem tb1 {w : Cond} (h : w ∈ tables_1_1) : w ∈ tables_1 := List.mem_append_left _ (h)
theorem tb2 {w : Cond} (h : w ∈ tables_1_2) : w ∈ tables_1 := List.mem_append_right _ (List.mem_append_left _ (h))
theorem tb3 {w : Cond} (h : w ∈ tables_1_3) : w ∈ tables_1 := List.mem_append_right _ (List.mem_append_right _ (List.mem_append_left _ (h)))
theorem tb4 {w : Cond} (h : w ∈ tables_1_4) : w ∈ tables_1 := List.mem_append_right _ (List.mem_append_right _ (List.mem_append_right _ (List.mem_append_left _ (h))))
theorem tb5 {w : Cond} (h : w ∈ tables_1_5) : w ∈ tables_1 := List.mem_append_right _ (List.mem_append_right _ (List.mem_append_right _ (List.mem_append_right _ (List.mem_append_left _ (h)))))
theorem tb6 {w : Cond} (h : w ∈ tables_1_6) : w ∈ tables_1 := List.mem_append_right _ (List.mem_append_right _ (List.mem_append_right _ (List.mem_append_right _ (List.mem_append_right _ ((h))))))
set_option maxRecDepth 8000 in
theorem k_0 : Cond.initialized "BackBayLaw" ∈ gT := gT_tb (tb1 (List.mem_of_getElem? (i := 0) rfl)) rfl
set_option maxRecDepth 8000 in
theorem k_1 : Cond.initialized "BackBay" ∈ gT := gT_tb (tb1 (List.mem_of_getElem? (i := 1) rfl)) rfl
set_option maxRecDepth 8000 in
theorem k_2 : Cond.initialized "BackBay$Tape" ∈ gT := gT_tb (tb1 (List.mem_of_getElem? (i := 2) rfl)) rfl
set_option maxRecDepth 8000 in
theorem k_3 : Cond.initialized "BackBay$Stencils" ∈ gT := gT_tb (tb1 (List.mem_of_getElem? (i := 3) rfl)) rfl
set_option maxRecDepth 8000 in
theorem k_4 : Cond.initialized "BackBay$Bay" ∈ gT := gT_tb (tb1 (List.mem_of_getElem? (i := 4) rfl)) rfl
set_option maxRecDepth 8000 in
theorem k_5 : Cond.initialized "java/util/Arrays" ∈ gT := gT_tb (tb1 (List.mem_of_getElem? (i := 5) rfl)) rfl
set_option maxRecDepth 8000 in
theorem k_6 : Cond.initialized "BackBay$Gauges" ∈ gT := gT_tb (tb1 (List.mem_of_getElem? (i := 6) rfl)) rfl
set_option maxRecDepth 8000 in
theorem k_7 : Cond.initialized "BackBay$Desk" ∈ gT := gT_tb (tb1 (List.mem_of_getElem? (i := 7) rfl)) rfl
set_option maxRecDepth 8000 in
theorem k_8 : Cond.initialized "BackBay$Course" ∈ gT := gT_tb (tb1 (List.mem_of_getElem? (i := 8) rfl)) rfl
set_option maxRecDepth 8000 in
theorem k_9 : Cond.initialized "BackBay$Slopes" ∈ gT := gT_tb (tb1 (List.mem_of_getElem? (i := 9) rfl)) rfl
set_option maxRecDepth 8000 in
theorem k_10 : Cond.initialized "BackBay$Redoing" ∈ gT := gT_tb (tb1 (List.mem_of_getElem? (i := 10) rfl)) rfl
set_option maxRecDepth 8000 in
theorem k_11 : Cond.initialized "BackBay$Strippings" ∈ gT := gT_tb (tb1 (List.mem_of_getElem? (i := 11) rfl)) rfl
set_option maxRecDepth 8000 in
theorem k_12 : Cond.initialized "BackBay$Asks" ∈ gT := gT_tb (tb1 (List.mem_of_getElem? (i := 12) rfl)) rfl
set_option maxRecDepth 8000 in
theorem k_13 : Cond.initialized "BackBay$Row" ∈ gT := gT_tb (tb1 (List.mem_of_getElem? (i := 13) rfl)) rfl
set_option maxRecDepth 8000 in
theorem k_14 : Cond.initialized "BackBayModel" ∈ gT := gT_tb (tb1 (List.mem_of_getElem? (i := 14) rfl)) rfl
set_option maxRecDepth 8000 in
theorem k_15 : Cond.initialized "java/lang/System" ∈ gT := gT_tb (tb1 (List.mem_of_getElem? (i := 15) rfl)) rfl
set_option maxRecDepth 8000 in
theorem k_16 : Cond.initialized "java/lang/String" ∈ gT := gT_tb (tb1 (List.mem_of_getElem? (i := 16) rfl)) rfl
set_option maxRecDepth 8000 in
theorem k_17 : Cond.initialized "java/lang/StringLatin1" ∈ gT := gT_tb (tb1 (List.mem_of_getElem? (i := 17) rfl)) rfl
set_option maxRecDepth 8000 in
theorem k_18 : Cond.initialized "jdk/internal/util/Preconditions" ∈ gT := gT_tb (tb1 (List.mem_of_getElem? (i := 18) rfl)) rfl
set_option maxRecDepth 8000 in
theorem k_19 : Cond.initialized "java/lang/StringUTF16" ∈ gT := gT_tb (tb1 (List.mem_of_getElem? (i := 19) rfl)) rfl
set_option maxRecDepth 8000 in
theorem k_20 : Cond.initialized "java/lang/Math" ∈ gT := gT_tb (tb1 (List.mem_of_getElem? (i := 20) rfl)) rfl
set_option maxRecDepth 8000 in
theorem k_21 : Cond.classLink "BackBayLaw" 7 "BackBay" ∈ gT := gT_tb (tb1 (List.mem_of_getElem? (i := 21) rfl)) rfl
set_option maxRecDepth 8000 in
theorem k_22 : Cond.instantiable "BackBay" 14 ∈ gT := gT_tb (tb1 (List.mem_of_getElem? (i := 22) rfl)) rfl
set_option maxRecDepth 8000 in
theorem k_23 : Cond.methodLink "BackBayLaw" 9 ⟨"BackBay","<init>","()V"⟩ ∈ gT := gT_tb (tb1 (List.mem_of_getElem? (i := 23) rfl)) rfl
set_option maxRecDepth 8000 in
theorem k_24 : Cond.instanceMethod ⟨"BackBay","<init>","()V"⟩ ∈ gT := gT_tb (tb1 (List.mem_of_getElem? (i := 24) rfl)) rfl
set_option maxRecDepth 8000 in
theorem k_25 : Cond.code ⟨"BackBay","<init>","()V"⟩ prog_1_method_1_code 2 none ∈ gT := gT_tb (tb1 (List.mem_of_getElem? (i := 25) rfl)) rfl
set_option maxRecDepth 8000 in
theorem k_26 : Cond.methodLink "BackBay" 3 ⟨"java/lang/Object","<init>","()V"⟩ ∈ gT := gT_tb (tb1 (List.mem_of_getElem? (i := 26) rfl)) rfl
set_option maxRecDepth 8000 in
theorem k_27 : Cond.instanceMethod ⟨"java/lang/Object","<init>","()V"⟩ ∈ gT := gT_tb (tb1 (List.mem_of_getElem? (i := 27) rfl)) rfl
set_option maxRecDepth 8000 in
theorem k_28 : Cond.code ⟨"java/lang/Object","<init>","()V"⟩ object_method_1_code 1 none ∈ gT := gT_tb (tb1 (List.mem_of_getElem? (i := 28) rfl)) rfl
set_option maxRecDepth 8000 in
theorem k_29 : Cond.classLink "BackBay" 9 "BackBay$Row" ∈ gT := gT_tb (tb1 (List.mem_of_getElem? (i := 29) rfl)) rfl
set_option maxRecDepth 8000 in
theorem k_31 : Cond.classLink "BackBay" 15 "BackBay$Tape" ∈ gT := gT_tb (tb1 (List.mem_of_getElem? (i := 31) rfl)) rfl
set_option maxRecDepth 8000 in
theorem k_32 : Cond.instantiable "BackBay$Tape" 8 ∈ gT := gT_tb (tb1 (List.mem_of_getElem? (i := 32) rfl)) rfl
set_option maxRecDepth 8000 in
theorem k_34 : Cond.instanceMethod ⟨"BackBay$Tape","<init>","()V"⟩ ∈ gT := gT_tb (tb1 (List.mem_of_getElem? (i := 34) rfl)) rfl
set_option maxRecDepth 8000 in
theorem k_35 : Cond.code ⟨"BackBay$Tape","<init>","()V"⟩ prog_12_method_1_code 1 none ∈ gT := gT_tb (tb1 (List.mem_of_getElem? (i := 35) rfl)) rfl
set_option maxRecDepth 8000 in
theorem k_36 : Cond.methodLink "BackBay$Tape" 3 ⟨"java/lang/Object","<init>","()V"⟩ ∈ gT := gT_tb (tb1 (List.mem_of_getElem? (i := 36) rfl)) rfl
set_option maxRecDepth 8000 in
theorem k_37 : Cond.fieldLink "BackBay$Tape" 15 "BackBay$Tape" "size" "I" ∈ gT := gT_tb (tb1 (List.mem_of_getElem? (i := 37) rfl)) rfl
set_option maxRecDepth 8000 in
theorem k_38 : Cond.fieldLink "BackBay" 145 "BackBay$Tape" "size" "I" ∈ gT := gT_tb (tb1 (List.mem_of_getElem? (i := 38) rfl)) rfl
set_option maxRecDepth 8000 in
theorem k_39 : Cond.fieldLink "BackBay$Tape" 9 "BackBay$Tape" "bytes" "[I" ∈ gT := gT_tb (tb1 (List.mem_of_getElem? (i := 39) rfl)) rfl
set_option maxRecDepth 8000 in
theorem k_40 : Cond.fieldLink "BackBay$Tape" 34 "BackBay$Tape" "token" "I" ∈ gT := gT_tb (tb1 (List.mem_of_getElem? (i := 40) rfl)) rfl
set_option maxRecDepth 8000 in
theorem k_41 : Cond.fieldLink "BackBay$Tape" 72 "BackBay$Tape" "tokenBegin" "I" ∈ gT := gT_tb (tb1 (List.mem_of_getElem? (i := 41) rfl)) rfl
set_option maxRecDepth 8000 in
theorem k_42 : Cond.fieldLink "BackBay$Tape" 24 "BackBay$Tape" "tokenEnd" "I" ∈ gT := gT_tb (tb1 (List.mem_of_getElem? (i := 42) rfl)) rfl
set_option maxRecDepth 8000 in
theorem k_43 : Cond.fieldLink "BackBay$Tape" 58 "BackBay$Tape" "number" "I" ∈ gT := gT_tb (tb1 (List.mem_of_getElem? (i := 43) rfl)) rfl
set_option maxRecDepth 8000 in
theorem k_44 : Cond.fieldLink "BackBay$Tape" 69 "BackBay$Tape" "latestFault" "I" ∈ gT := gT_tb (tb1 (List.mem_of_getElem? (i := 44) rfl)) rfl
set_option maxRecDepth 8000 in
theorem k_45 : Cond.fieldLink "BackBay" 164 "BackBay$Tape" "latestFault" "I" ∈ gT := gT_tb (tb1 (List.mem_of_getElem? (i := 45) rfl)) rfl
set_option maxRecDepth 8000 in
theorem k_46 : Cond.fieldLink "BackBay$Tape" 75 "BackBay$Tape" "place" "I" ∈ gT := gT_tb (tb1 (List.mem_of_getElem? (i := 46) rfl)) rfl
set_option maxRecDepth 8000 in
theorem k_47 : Cond.fieldLink "BackBay" 158 "BackBay$Tape" "place" "I" ∈ gT := gT_tb (tb1 (List.mem_of_getElem? (i := 47) rfl)) rfl
set_option maxRecDepth 8000 in
theorem k_65 : Cond.arrayClass .int ∈ gT := gT_tb (tb1 (List.mem_of_getElem? (i := 65) rfl)) rfl
set_option maxRecDepth 8000 in
theorem k_66 : Cond.classLink "BackBay" 22 "BackBay$Stencils" ∈ gT := gT_tb (tb1 (List.mem_of_getElem? (i := 66) rfl)) rfl
set_option maxRecDepth 8000 in
theorem k_67 : Cond.instantiable "BackBay$Stencils" 9 ∈ gT := gT_tb (tb1 (List.mem_of_getElem? (i := 67) rfl)) rfl
set_option maxRecDepth 8000 in
theorem k_69 : Cond.instanceMethod ⟨"BackBay$Stencils","<init>","()V"⟩ ∈ gT := gT_tb (tb1 (List.mem_of_getElem? (i := 69) rfl)) rfl
set_option maxRecDepth 8000 in
theorem k_70 : Cond.code ⟨"BackBay$Stencils","<init>","()V"⟩ prog_10_method_1_code 1 none ∈ gT := gT_tb (tb1 (List.mem_of_getElem? (i := 70) rfl)) rfl
set_option maxRecDepth 8000 in
theorem k_71 : Cond.methodLink "BackBay$Stencils" 3 ⟨"java/lang/Object","<init>","()V"⟩ ∈ gT := gT_tb (tb1 (List.mem_of_getElem? (i := 71) rfl)) rfl
set_option maxRecDepth 8000 in
theorem k_72 : Cond.fieldLink "BackBay$Stencils" 33 "BackBay$Stencils" "stencils" "I" ∈ gT := gT_tb (tb1 (List.mem_of_getElem? (i := 72) rfl)) rfl
set_option maxRecDepth 8000 in
theorem k_73 : Cond.fieldLink "BackBay$Course" 23 "BackBay$Stencils" "stencils" "I" ∈ gT := gT_tb (tb1 (List.mem_of_getElem? (i := 73) rfl)) rfl
set_option maxRecDepth 8000 in
theorem k_74 : Cond.fieldLink "BackBay$Slopes" 42 "BackBay$Stencils" "stencils" "I" ∈ gT := gT_tb (tb1 (List.mem_of_getElem? (i := 74) rfl)) rfl
set_option maxRecDepth 8000 in
theorem k_75 : Cond.fieldLink "BackBay$Tape" 41 "BackBay$Stencils" "stencils" "I" ∈ gT := gT_tb (tb1 (List.mem_of_getElem? (i := 75) rfl)) rfl
set_option maxRecDepth 8000 in
theorem k_76 : Cond.fieldLink "BackBay" 286 "BackBay$Stencils" "stencils" "I" ∈ gT := gT_tb (tb1 (List.mem_of_getElem? (i := 76) rfl)) rfl
set_option maxRecDepth 8000 in
theorem k_77 : Cond.fieldLink "BackBay$Stencils" 37 "BackBay$Stencils" "nodes" "I" ∈ gT := gT_tb (tb1 (List.mem_of_getElem? (i := 77) rfl)) rfl
set_option maxRecDepth 8000 in
theorem k_78 : Cond.fieldLink "BackBay" 161 "BackBay$Stencils" "nodes" "I" ∈ gT := gT_tb (tb1 (List.mem_of_getElem? (i := 78) rfl)) rfl
set_option maxRecDepth 8000 in
theorem k_79 : Cond.fieldLink "BackBay$Stencils" 9 "BackBay$Stencils" "begins" "[I" ∈ gT := gT_tb (tb1 (List.mem_of_getElem? (i := 79) rfl)) rfl
set_option maxRecDepth 8000 in
theorem k_80 : Cond.fieldLink "BackBay$Desk" 28 "BackBay$Stencils" "begins" "[I" ∈ gT := gT_tb (tb1 (List.mem_of_getElem? (i := 80) rfl)) rfl
set_option maxRecDepth 8000 in
theorem k_81 : Cond.fieldLink "BackBay$Stencils" 15 "BackBay$Stencils" "ops" "[I" ∈ gT := gT_tb (tb1 (List.mem_of_getElem? (i := 81) rfl)) rfl
set_option maxRecDepth 8000 in
theorem k_82 : Cond.fieldLink "BackBay$Desk" 37 "BackBay$Stencils" "ops" "[I" ∈ gT := gT_tb (tb1 (List.mem_of_getElem? (i := 82) rfl)) rfl
set_option maxRecDepth 8000 in
theorem k_83 : Cond.fieldLink "BackBay$Stencils" 18 "BackBay$Stencils" "numbers" "[I" ∈ gT := gT_tb (tb1 (List.mem_of_getElem? (i := 83) rfl)) rfl
set_option maxRecDepth 8000 in
theorem k_84 : Cond.fieldLink "BackBay$Desk" 40 "BackBay$Stencils" "numbers" "[I" ∈ gT := gT_tb (tb1 (List.mem_of_getElem? (i := 84) rfl)) rfl
set_option maxRecDepth 8000 in
theorem k_85 : Cond.fieldLink "BackBay$Stencils" 21 "BackBay$Stencils" "sizes" "[I" ∈ gT := gT_tb (tb1 (List.mem_of_getElem? (i := 85) rfl)) rfl
set_option maxRecDepth 8000 in
theorem k_86 : Cond.fieldLink "BackBay$Asks" 53 "BackBay$Stencils" "sizes" "[I" ∈ gT := gT_tb (tb1 (List.mem_of_getElem? (i := 86) rfl)) rfl
set_option maxRecDepth 8000 in
theorem k_87 : Cond.fieldLink "BackBay" 268 "BackBay$Stencils" "sizes" "[I" ∈ gT := gT_tb (tb1 (List.mem_of_getElem? (i := 87) rfl)) rfl
set_option maxRecDepth 8000 in
theorem k_88 : Cond.fieldLink "BackBay$Stencils" 24 "BackBay$Stencils" "seconds" "[I" ∈ gT := gT_tb (tb1 (List.mem_of_getElem? (i := 88) rfl)) rfl
set_option maxRecDepth 8000 in
theorem k_89 : Cond.fieldLink "BackBay$Desk" 43 "BackBay$Stencils" "seconds" "[I" ∈ gT := gT_tb (tb1 (List.mem_of_getElem? (i := 89) rfl)) rfl
set_option maxRecDepth 8000 in
theorem k_90 : Cond.fieldLink "BackBay$Stencils" 27 "BackBay$Stencils" "thirds" "[I" ∈ gT := gT_tb (tb1 (List.mem_of_getElem? (i := 90) rfl)) rfl
set_option maxRecDepth 8000 in
theorem k_91 : Cond.fieldLink "BackBay$Desk" 49 "BackBay$Stencils" "thirds" "[I" ∈ gT := gT_tb (tb1 (List.mem_of_getElem? (i := 91) rfl)) rfl
set_option maxRecDepth 8000 in
theorem k_92 : Cond.fieldLink "BackBay$Stencils" 30 "BackBay$Stencils" "fourths" "[I" ∈ gT := gT_tb (tb1 (List.mem_of_getElem? (i := 92) rfl)) rfl
set_option maxRecDepth 8000 in
theorem k_93 : Cond.fieldLink "BackBay$Desk" 52 "BackBay$Stencils" "fourths" "[I" ∈ gT := gT_tb (tb1 (List.mem_of_getElem? (i := 93) rfl)) rfl
set_option maxRecDepth 8000 in
theorem k_113 : Cond.classLink "BackBay" 32 "BackBay$Bay" ∈ gT := gT_tb (tb1 (List.mem_of_getElem? (i := 113) rfl)) rfl
set_option maxRecDepth 8000 in
theorem k_114 : Cond.instantiable "BackBay$Bay" 4 ∈ gT := gT_tb (tb1 (List.mem_of_getElem? (i := 114) rfl)) rfl
set_option maxRecDepth 8000 in
theorem k_115 : Cond.methodLink "BackBay" 34 ⟨"BackBay$Bay","<init>","()V"⟩ ∈ gT := gT_tb (tb1 (List.mem_of_getElem? (i := 115) rfl)) rfl
set_option maxRecDepth 8000 in
theorem k_116 : Cond.instanceMethod ⟨"BackBay$Bay","<init>","()V"⟩ ∈ gT := gT_tb (tb1 (List.mem_of_getElem? (i := 116) rfl)) rfl
set_option maxRecDepth 8000 in
theorem k_117 : Cond.code ⟨"BackBay$Bay","<init>","()V"⟩ prog_3_method_1_code 1 none ∈ gT := gT_tb (tb1 (List.mem_of_getElem? (i := 117) rfl)) rfl
set_option maxRecDepth 8000 in
theorem k_118 : Cond.methodLink "BackBay$Bay" 3 ⟨"java/lang/Object","<init>","()V"⟩ ∈ gT := gT_tb (tb1 (List.mem_of_getElem? (i := 118) rfl)) rfl
set_option maxRecDepth 8000 in
theorem k_119 : Cond.methodLink "BackBay$Bay" 21 ⟨"BackBay$Bay","begin","(I)V"⟩ ∈ gT := gT_tb (tb1 (List.mem_of_getElem? (i := 119) rfl)) rfl
set_option maxRecDepth 8000 in
theorem k_120 : Cond.instanceMethod ⟨"BackBay$Bay","begin","(I)V"⟩ ∈ gT := gT_tb (tb1 (List.mem_of_getElem? (i := 120) rfl)) rfl
set_option maxRecDepth 8000 in
theorem k_121 : Cond.selects "BackBay$Bay" ⟨"BackBay$Bay","begin","(I)V"⟩ ⟨"BackBay$Bay","begin","(I)V"⟩ ∈ gT := gT_tb (tb1 (List.mem_of_getElem? (i := 121) rfl)) rfl
set_option maxRecDepth 8000 in
theorem k_122 : Cond.code ⟨"BackBay$Bay","begin","(I)V"⟩ prog_3_method_2_code 2 none ∈ gT := gT_tb (tb1 (List.mem_of_getElem? (i := 122) rfl)) rfl
set_option maxRecDepth 8000 in
theorem k_123 : Cond.methodLink "BackBay$Bay" 29 ⟨"java/util/Arrays","fill","([II)V"⟩ ∈ gT := gT_tb (tb1 (List.mem_of_getElem? (i := 123) rfl)) rfl
set_option maxRecDepth 8000 in
theorem k_124 : Cond.static ⟨"java/util/Arrays","fill","([II)V"⟩ ∈ gT := gT_tb (tb1 (List.mem_of_getElem? (i := 124) rfl)) rfl
set_option maxRecDepth 8000 in
theorem k_125 : Cond.code ⟨"java/util/Arrays","fill","([II)V"⟩ prog_20_method_103_code 4 none ∈ gT := gT_tb (tb1 (List.mem_of_getElem? (i := 125) rfl)) rfl
set_option maxRecDepth 8000 in
theorem k_126 : Cond.fieldLink "BackBay$Bay" 25 "BackBay$Bay" "cells" "I" ∈ gT := gT_tb (tb1 (List.mem_of_getElem? (i := 126) rfl)) rfl
set_option maxRecDepth 8000 in
theorem k_127 : Cond.fieldLink "BackBay$Strippings" 24 "BackBay$Bay" "cells" "I" ∈ gT := gT_tb (tb1 (List.mem_of_getElem? (i := 127) rfl)) rfl
set_option maxRecDepth 8000 in
theorem k_128 : Cond.fieldLink "BackBay$Course" 37 "BackBay$Bay" "cells" "I" ∈ gT := gT_tb (tb1 (List.mem_of_getElem? (i := 128) rfl)) rfl
set_option maxRecDepth 8000 in
theorem k_129 : Cond.fieldLink "BackBay$Slopes" 30 "BackBay$Bay" "cells" "I" ∈ gT := gT_tb (tb1 (List.mem_of_getElem? (i := 129) rfl)) rfl
set_option maxRecDepth 8000 in
theorem k_130 : Cond.fieldLink "BackBay" 167 "BackBay$Bay" "cells" "I" ∈ gT := gT_tb (tb1 (List.mem_of_getElem? (i := 130) rfl)) rfl
set_option maxRecDepth 8000 in
theorem k_131 : Cond.fieldLink "BackBay$Bay" 9 "BackBay$Bay" "start" "[I" ∈ gT := gT_tb (tb1 (List.mem_of_getElem? (i := 131) rfl)) rfl
set_option maxRecDepth 8000 in
theorem k_132 : Cond.fieldLink "BackBay$Course" 32 "BackBay$Bay" "start" "[I" ∈ gT := gT_tb (tb1 (List.mem_of_getElem? (i := 132) rfl)) rfl
set_option maxRecDepth 8000 in
theorem k_133 : Cond.fieldLink "BackBay" 173 "BackBay$Bay" "start" "[I" ∈ gT := gT_tb (tb1 (List.mem_of_getElem? (i := 133) rfl)) rfl
set_option maxRecDepth 8000 in
theorem k_134 : Cond.fieldLink "BackBay$Bay" 15 "BackBay$Bay" "strips" "[I" ∈ gT := gT_tb (tb1 (List.mem_of_getElem? (i := 134) rfl)) rfl
set_option maxRecDepth 8000 in
theorem k_135 : Cond.fieldLink "BackBay$Strippings" 28 "BackBay$Bay" "strips" "[I" ∈ gT := gT_tb (tb1 (List.mem_of_getElem? (i := 135) rfl)) rfl
set_option maxRecDepth 8000 in
theorem k_136 : Cond.fieldLink "BackBay$Slopes" 55 "BackBay$Bay" "strips" "[I" ∈ gT := gT_tb (tb1 (List.mem_of_getElem? (i := 136) rfl)) rfl
set_option maxRecDepth 8000 in
theorem k_137 : Cond.fieldLink "BackBay" 178 "BackBay$Bay" "strips" "[I" ∈ gT := gT_tb (tb1 (List.mem_of_getElem? (i := 137) rfl)) rfl
set_option maxRecDepth 8000 in
theorem k_138 : Cond.fieldLink "BackBay$Bay" 18 "BackBay$Bay" "edges" "[I" ∈ gT := gT_tb (tb1 (List.mem_of_getElem? (i := 138) rfl)) rfl
set_option maxRecDepth 8000 in
theorem k_139 : Cond.fieldLink "BackBay$Course" 49 "BackBay$Bay" "edges" "[I" ∈ gT := gT_tb (tb1 (List.mem_of_getElem? (i := 139) rfl)) rfl
set_option maxRecDepth 8000 in
theorem k_140 : Cond.fieldLink "BackBay" 181 "BackBay$Bay" "edges" "[I" ∈ gT := gT_tb (tb1 (List.mem_of_getElem? (i := 140) rfl)) rfl
set_option maxRecDepth 8000 in
theorem k_150 : Cond.classLink "BackBay" 39 "BackBay$Gauges" ∈ gT := gT_tb (tb1 (List.mem_of_getElem? (i := 150) rfl)) rfl
set_option maxRecDepth 8000 in
theorem k_151 : Cond.instantiable "BackBay$Gauges" 6 ∈ gT := gT_tb (tb1 (List.mem_of_getElem? (i := 151) rfl)) rfl
set_option maxRecDepth 8000 in
theorem k_153 : Cond.instanceMethod ⟨"BackBay$Gauges","<init>","()V"⟩ ∈ gT := gT_tb (tb1 (List.mem_of_getElem? (i := 153) rfl)) rfl
set_option maxRecDepth 8000 in
theorem k_154 : Cond.code ⟨"BackBay$Gauges","<init>","()V"⟩ prog_6_method_1_code 1 none ∈ gT := gT_tb (tb1 (List.mem_of_getElem? (i := 154) rfl)) rfl
set_option maxRecDepth 8000 in
theorem k_155 : Cond.methodLink "BackBay$Gauges" 3 ⟨"java/lang/Object","<init>","()V"⟩ ∈ gT := gT_tb (tb1 (List.mem_of_getElem? (i := 155) rfl)) rfl
set_option maxRecDepth 8000 in
theorem k_156 : Cond.fieldLink "BackBay$Gauges" 28 "BackBay$Gauges" "size" "I" ∈ gT := gT_tb (tb1 (List.mem_of_getElem? (i := 156) rfl)) rfl
set_option maxRecDepth 8000 in
theorem k_157 : Cond.fieldLink "BackBay" 191 "BackBay$Gauges" "size" "I" ∈ gT := gT_tb (tb1 (List.mem_of_getElem? (i := 157) rfl)) rfl
set_option maxRecDepth 8000 in
theorem k_158 : Cond.fieldLink "BackBay$Gauges" 9 "BackBay$Gauges" "isOut" "[Z" ∈ gT := gT_tb (tb1 (List.mem_of_getElem? (i := 158) rfl)) rfl
set_option maxRecDepth 8000 in
theorem k_159 : Cond.fieldLink "BackBay" 195 "BackBay$Gauges" "isOut" "[Z" ∈ gT := gT_tb (tb1 (List.mem_of_getElem? (i := 159) rfl)) rfl
set_option maxRecDepth 8000 in
theorem k_160 : Cond.fieldLink "BackBay$Gauges" 15 "BackBay$Gauges" "cells" "[I" ∈ gT := gT_tb (tb1 (List.mem_of_getElem? (i := 160) rfl)) rfl
set_option maxRecDepth 8000 in
theorem k_161 : Cond.fieldLink "BackBay$Gauges" 19 "BackBay$Gauges" "steps" "[I" ∈ gT := gT_tb (tb1 (List.mem_of_getElem? (i := 161) rfl)) rfl
set_option maxRecDepth 8000 in
theorem k_162 : Cond.fieldLink "BackBay$Gauges" 22 "BackBay$Gauges" "weights" "[I" ∈ gT := gT_tb (tb1 (List.mem_of_getElem? (i := 162) rfl)) rfl
set_option maxRecDepth 8000 in
theorem k_163 : Cond.fieldLink "BackBay$Gauges" 25 "BackBay$Gauges" "wanted" "[I" ∈ gT := gT_tb (tb1 (List.mem_of_getElem? (i := 163) rfl)) rfl
set_option maxRecDepth 8000 in
theorem k_177 : Cond.arrayClass .boolean ∈ gT := gT_tb (tb1 (List.mem_of_getElem? (i := 177) rfl)) rfl
set_option maxRecDepth 8000 in
theorem k_178 : Cond.classLink "BackBay" 46 "BackBay$Desk" ∈ gT := gT_tb (tb1 (List.mem_of_getElem? (i := 178) rfl)) rfl
set_option maxRecDepth 8000 in
theorem k_179 : Cond.instantiable "BackBay$Desk" 5 ∈ gT := gT_tb (tb1 (List.mem_of_getElem? (i := 179) rfl)) rfl
set_option maxRecDepth 8000 in
theorem k_181 : Cond.instanceMethod ⟨"BackBay$Desk","<init>","()V"⟩ ∈ gT := gT_tb (tb1 (List.mem_of_getElem? (i := 181) rfl)) rfl
set_option maxRecDepth 8000 in
theorem k_182 : Cond.code ⟨"BackBay$Desk","<init>","()V"⟩ prog_5_method_1_code 1 none ∈ gT := gT_tb (tb1 (List.mem_of_getElem? (i := 182) rfl)) rfl
set_option maxRecDepth 8000 in
theorem k_183 : Cond.methodLink "BackBay$Desk" 3 ⟨"java/lang/Object","<init>","()V"⟩ ∈ gT := gT_tb (tb1 (List.mem_of_getElem? (i := 183) rfl)) rfl
set_option maxRecDepth 8000 in
theorem k_184 : Cond.fieldLink "BackBay$Desk" 9 "BackBay$Desk" "worths" "[I" ∈ gT := gT_tb (tb1 (List.mem_of_getElem? (i := 184) rfl)) rfl
set_option maxRecDepth 8000 in
theorem k_185 : Cond.fieldLink "BackBay$Desk" 15 "BackBay$Desk" "slopes" "[I" ∈ gT := gT_tb (tb1 (List.mem_of_getElem? (i := 185) rfl)) rfl
set_option maxRecDepth 8000 in
theorem k_186 : Cond.fieldLink "BackBay$Desk" 18 "BackBay$Desk" "isWorkedOut" "[Z" ∈ gT := gT_tb (tb1 (List.mem_of_getElem? (i := 186) rfl)) rfl
set_option maxRecDepth 8000 in
theorem k_187 : Cond.fieldLink "BackBay$Desk" 22 "BackBay$Desk" "seen" "[I" ∈ gT := gT_tb (tb1 (List.mem_of_getElem? (i := 187) rfl)) rfl
set_option maxRecDepth 8000 in
theorem k_188 : Cond.fieldLink "BackBay$Desk" 25 "BackBay$Desk" "seenSlopes" "[I" ∈ gT := gT_tb (tb1 (List.mem_of_getElem? (i := 188) rfl)) rfl
set_option maxRecDepth 8000 in
theorem k_189 : Cond.fieldLink "BackBay$Slopes" 74 "BackBay$Desk" "seenSlopes" "[I" ∈ gT := gT_tb (tb1 (List.mem_of_getElem? (i := 189) rfl)) rfl
set_option maxRecDepth 8000 in
theorem k_201 : Cond.classLink "BackBay" 53 "BackBay$Course" ∈ gT := gT_tb (tb1 (List.mem_of_getElem? (i := 201) rfl)) rfl
set_option maxRecDepth 8000 in
theorem k_202 : Cond.instantiable "BackBay$Course" 4 ∈ gT := gT_tb (tb1 (List.mem_of_getElem? (i := 202) rfl)) rfl
set_option maxRecDepth 8000 in
theorem k_203 : Cond.methodLink "BackBay" 55 ⟨"BackBay$Course","<init>","(LBackBay$Bay;LBackBay$Desk;)V"⟩ ∈ gT := gT_tb (tb1 (List.mem_of_getElem? (i := 203) rfl)) rfl
set_option maxRecDepth 8000 in
theorem k_204 : Cond.instanceMethod ⟨"BackBay$Course","<init>","(LBackBay$Bay;LBackBay$Desk;)V"⟩ ∈ gT := gT_tb (tb1 (List.mem_of_getElem? (i := 204) rfl)) rfl
set_option maxRecDepth 8000 in
theorem k_205 : Cond.code ⟨"BackBay$Course","<init>","(LBackBay$Bay;LBackBay$Desk;)V"⟩ prog_4_method_1_code 3 none ∈ gT := gT_tb (tb1 (List.mem_of_getElem? (i := 205) rfl)) rfl
set_option maxRecDepth 8000 in
theorem k_206 : Cond.methodLink "BackBay$Course" 3 ⟨"java/lang/Object","<init>","()V"⟩ ∈ gT := gT_tb (tb1 (List.mem_of_getElem? (i := 206) rfl)) rfl
set_option maxRecDepth 8000 in
theorem k_207 : Cond.fieldLink "BackBay$Course" 19 "BackBay$Course" "desk" "LBackBay$Desk;" ∈ gT := gT_tb (tb1 (List.mem_of_getElem? (i := 207) rfl)) rfl
set_option maxRecDepth 8000 in
theorem k_208 : Cond.fieldLink "BackBay$Slopes" 64 "BackBay$Course" "desk" "LBackBay$Desk;" ∈ gT := gT_tb (tb1 (List.mem_of_getElem? (i := 208) rfl)) rfl
set_option maxRecDepth 8000 in
theorem k_209 : Cond.fieldLink "BackBay$Course" 15 "BackBay$Course" "bay" "LBackBay$Bay;" ∈ gT := gT_tb (tb1 (List.mem_of_getElem? (i := 209) rfl)) rfl
set_option maxRecDepth 8000 in
theorem k_210 : Cond.fieldLink "BackBay$Course" 9 "BackBay$Course" "cells" "[I" ∈ gT := gT_tb (tb1 (List.mem_of_getElem? (i := 210) rfl)) rfl
set_option maxRecDepth 8000 in
theorem k_211 : Cond.fieldLink "BackBay$Course" 29 "BackBay$Course" "rowsOfStep" "I" ∈ gT := gT_tb (tb1 (List.mem_of_getElem? (i := 211) rfl)) rfl
set_option maxRecDepth 8000 in
theorem k_221 : Cond.classLink "BackBay" 65 "BackBay$Slopes" ∈ gT := gT_tb (tb1 (List.mem_of_getElem? (i := 221) rfl)) rfl
set_option maxRecDepth 8000 in
theorem k_222 : Cond.instantiable "BackBay$Slopes" 4 ∈ gT := gT_tb (tb1 (List.mem_of_getElem? (i := 222) rfl)) rfl
set_option maxRecDepth 8000 in
theorem k_224 : Cond.instanceMethod ⟨"BackBay$Slopes","<init>","()V"⟩ ∈ gT := gT_tb (tb1 (List.mem_of_getElem? (i := 224) rfl)) rfl
set_option maxRecDepth 8000 in
theorem k_225 : Cond.code ⟨"BackBay$Slopes","<init>","()V"⟩ prog_9_method_1_code 1 none ∈ gT := gT_tb (tb1 (List.mem_of_getElem? (i := 225) rfl)) rfl
set_option maxRecDepth 8000 in
theorem k_226 : Cond.methodLink "BackBay$Slopes" 3 ⟨"java/lang/Object","<init>","()V"⟩ ∈ gT := gT_tb (tb1 (List.mem_of_getElem? (i := 226) rfl)) rfl
set_option maxRecDepth 8000 in
theorem k_227 : Cond.fieldLink "BackBay$Slopes" 9 "BackBay$Slopes" "ofStrips" "[I" ∈ gT := gT_tb (tb1 (List.mem_of_getElem? (i := 227) rfl)) rfl
set_option maxRecDepth 8000 in
theorem k_228 : Cond.fieldLink "BackBay" 214 "BackBay$Slopes" "ofStrips" "[I" ∈ gT := gT_tb (tb1 (List.mem_of_getElem? (i := 228) rfl)) rfl
set_option maxRecDepth 8000 in
theorem k_229 : Cond.fieldLink "BackBay$Slopes" 15 "BackBay$Slopes" "ofStart" "[I" ∈ gT := gT_tb (tb1 (List.mem_of_getElem? (i := 229) rfl)) rfl
set_option maxRecDepth 8000 in
theorem k_230 : Cond.fieldLink "BackBay" 217 "BackBay$Slopes" "ofStart" "[I" ∈ gT := gT_tb (tb1 (List.mem_of_getElem? (i := 230) rfl)) rfl
set_option maxRecDepth 8000 in
theorem k_231 : Cond.fieldLink "BackBay$Slopes" 18 "BackBay$Slopes" "ofEdges" "[I" ∈ gT := gT_tb (tb1 (List.mem_of_getElem? (i := 231) rfl)) rfl
set_option maxRecDepth 8000 in
theorem k_232 : Cond.fieldLink "BackBay" 220 "BackBay$Slopes" "ofEdges" "[I" ∈ gT := gT_tb (tb1 (List.mem_of_getElem? (i := 232) rfl)) rfl
set_option maxRecDepth 8000 in
theorem k_233 : Cond.fieldLink "BackBay$Slopes" 21 "BackBay$Slopes" "ofRowAhead" "[I" ∈ gT := gT_tb (tb1 (List.mem_of_getElem? (i := 233) rfl)) rfl
set_option maxRecDepth 8000 in
theorem k_243 : Cond.classLink "BackBay" 72 "BackBay$Redoing" ∈ gT := gT_tb (tb2 (List.mem_of_getElem? (i := 3) rfl)) rfl
set_option maxRecDepth 8000 in
theorem k_244 : Cond.instantiable "BackBay$Redoing" 3 ∈ gT := gT_tb (tb2 (List.mem_of_getElem? (i := 4) rfl)) rfl
set_option maxRecDepth 8000 in
theorem k_246 : Cond.instanceMethod ⟨"BackBay$Redoing","<init>","()V"⟩ ∈ gT := gT_tb (tb2 (List.mem_of_getElem? (i := 6) rfl)) rfl
set_option maxRecDepth 8000 in
theorem k_247 : Cond.code ⟨"BackBay$Redoing","<init>","()V"⟩ prog_7_method_1_code 1 none ∈ gT := gT_tb (tb2 (List.mem_of_getElem? (i := 7) rfl)) rfl
set_option maxRecDepth 8000 in
theorem k_248 : Cond.methodLink "BackBay$Redoing" 3 ⟨"java/lang/Object","<init>","()V"⟩ ∈ gT := gT_tb (tb2 (List.mem_of_getElem? (i := 8) rfl)) rfl
set_option maxRecDepth 8000 in
theorem k_249 : Cond.fieldLink "BackBay$Redoing" 9 "BackBay$Redoing" "fewest" "[I" ∈ gT := gT_tb (tb2 (List.mem_of_getElem? (i := 9) rfl)) rfl
set_option maxRecDepth 8000 in
theorem k_250 : Cond.fieldLink "BackBay" 232 "BackBay$Redoing" "fewest" "[I" ∈ gT := gT_tb (tb2 (List.mem_of_getElem? (i := 10) rfl)) rfl
set_option maxRecDepth 8000 in
theorem k_251 : Cond.fieldLink "BackBay$Redoing" 15 "BackBay$Redoing" "where" "[I" ∈ gT := gT_tb (tb2 (List.mem_of_getElem? (i := 11) rfl)) rfl
set_option maxRecDepth 8000 in
theorem k_252 : Cond.fieldLink "BackBay" 235 "BackBay$Redoing" "where" "[I" ∈ gT := gT_tb (tb2 (List.mem_of_getElem? (i := 12) rfl)) rfl
set_option maxRecDepth 8000 in
theorem k_253 : Cond.fieldLink "BackBay$Redoing" 18 "BackBay$Redoing" "isFilled" "Z" ∈ gT := gT_tb (tb2 (List.mem_of_getElem? (i := 13) rfl)) rfl
set_option maxRecDepth 8000 in
theorem k_261 : Cond.classLink "BackBay" 79 "BackBay$Strippings" ∈ gT := gT_tb (tb2 (List.mem_of_getElem? (i := 21) rfl)) rfl
set_option maxRecDepth 8000 in
theorem k_262 : Cond.instantiable "BackBay$Strippings" 3 ∈ gT := gT_tb (tb2 (List.mem_of_getElem? (i := 22) rfl)) rfl
set_option maxRecDepth 8000 in
theorem k_264 : Cond.instanceMethod ⟨"BackBay$Strippings","<init>","()V"⟩ ∈ gT := gT_tb (tb2 (List.mem_of_getElem? (i := 24) rfl)) rfl
set_option maxRecDepth 8000 in
theorem k_265 : Cond.code ⟨"BackBay$Strippings","<init>","()V"⟩ prog_11_method_1_code 1 none ∈ gT := gT_tb (tb2 (List.mem_of_getElem? (i := 25) rfl)) rfl
set_option maxRecDepth 8000 in
theorem k_266 : Cond.methodLink "BackBay$Strippings" 3 ⟨"java/lang/Object","<init>","()V"⟩ ∈ gT := gT_tb (tb2 (List.mem_of_getElem? (i := 26) rfl)) rfl
set_option maxRecDepth 8000 in
theorem k_267 : Cond.classLink "BackBay$Strippings" 15 "[[I" ∈ gT := gT_tb (tb2 (List.mem_of_getElem? (i := 27) rfl)) rfl
set_option maxRecDepth 8000 in
theorem k_269 : Cond.fieldLink "BackBay$Strippings" 20 "BackBay$Strippings" "size" "I" ∈ gT := gT_tb (tb2 (List.mem_of_getElem? (i := 29) rfl)) rfl
set_option maxRecDepth 8000 in
theorem k_270 : Cond.fieldLink "BackBay" 245 "BackBay$Strippings" "size" "I" ∈ gT := gT_tb (tb2 (List.mem_of_getElem? (i := 30) rfl)) rfl
set_option maxRecDepth 8000 in
theorem k_271 : Cond.fieldLink "BackBay$Strippings" 9 "BackBay$Strippings" "cells" "[I" ∈ gT := gT_tb (tb2 (List.mem_of_getElem? (i := 31) rfl)) rfl
set_option maxRecDepth 8000 in
theorem k_272 : Cond.fieldLink "BackBay" 250 "BackBay$Strippings" "cells" "[I" ∈ gT := gT_tb (tb2 (List.mem_of_getElem? (i := 32) rfl)) rfl
set_option maxRecDepth 8000 in
theorem k_273 : Cond.fieldLink "BackBay$Strippings" 17 "BackBay$Strippings" "strips" "[[I" ∈ gT := gT_tb (tb2 (List.mem_of_getElem? (i := 33) rfl)) rfl
set_option maxRecDepth 8000 in
theorem k_274 : Cond.fieldLink "BackBay" 254 "BackBay$Strippings" "strips" "[[I" ∈ gT := gT_tb (tb2 (List.mem_of_getElem? (i := 34) rfl)) rfl
set_option maxRecDepth 8000 in
theorem k_282 : Cond.classLink "BackBay" 86 "BackBay$Asks" ∈ gT := gT_tb (tb2 (List.mem_of_getElem? (i := 42) rfl)) rfl
set_option maxRecDepth 8000 in
theorem k_283 : Cond.instantiable "BackBay$Asks" 2 ∈ gT := gT_tb (tb2 (List.mem_of_getElem? (i := 43) rfl)) rfl
set_option maxRecDepth 8000 in
theorem k_285 : Cond.instanceMethod ⟨"BackBay$Asks","<init>","()V"⟩ ∈ gT := gT_tb (tb2 (List.mem_of_getElem? (i := 45) rfl)) rfl
set_option maxRecDepth 8000 in
theorem k_286 : Cond.code ⟨"BackBay$Asks","<init>","()V"⟩ prog_2_method_1_code 1 none ∈ gT := gT_tb (tb2 (List.mem_of_getElem? (i := 46) rfl)) rfl
set_option maxRecDepth 8000 in
theorem k_287 : Cond.methodLink "BackBay$Asks" 3 ⟨"java/lang/Object","<init>","()V"⟩ ∈ gT := gT_tb (tb2 (List.mem_of_getElem? (i := 47) rfl)) rfl
set_option maxRecDepth 8000 in
theorem k_288 : Cond.fieldLink "BackBay$Asks" 9 "BackBay$Asks" "bodies" "[I" ∈ gT := gT_tb (tb2 (List.mem_of_getElem? (i := 48) rfl)) rfl
set_option maxRecDepth 8000 in
theorem k_289 : Cond.fieldLink "BackBay" 280 "BackBay$Asks" "bodies" "[I" ∈ gT := gT_tb (tb2 (List.mem_of_getElem? (i := 49) rfl)) rfl
set_option maxRecDepth 8000 in
theorem k_290 : Cond.fieldLink "BackBay$Asks" 59 "BackBay$Asks" "traced" "I" ∈ gT := gT_tb (tb2 (List.mem_of_getElem? (i := 50) rfl)) rfl
set_option maxRecDepth 8000 in
theorem k_291 : Cond.fieldLink "BackBay" 271 "BackBay$Asks" "traced" "I" ∈ gT := gT_tb (tb2 (List.mem_of_getElem? (i := 51) rfl)) rfl
set_option maxRecDepth 8000 in
theorem k_297 : Cond.instantiable "BackBay$Row" 4 ∈ gT := gT_tb (tb2 (List.mem_of_getElem? (i := 57) rfl)) rfl
set_option maxRecDepth 8000 in
theorem k_299 : Cond.instanceMethod ⟨"BackBay$Row","<init>","()V"⟩ ∈ gT := gT_tb (tb2 (List.mem_of_getElem? (i := 59) rfl)) rfl
set_option maxRecDepth 8000 in
theorem k_300 : Cond.code ⟨"BackBay$Row","<init>","()V"⟩ prog_8_method_1_code 1 none ∈ gT := gT_tb (tb2 (List.mem_of_getElem? (i := 60) rfl)) rfl
set_option maxRecDepth 8000 in
theorem k_301 : Cond.methodLink "BackBay$Row" 3 ⟨"java/lang/Object","<init>","()V"⟩ ∈ gT := gT_tb (tb2 (List.mem_of_getElem? (i := 61) rfl)) rfl
set_option maxRecDepth 8000 in
theorem k_302 : Cond.fieldLink "BackBay$Row" 9 "BackBay$Row" "items" "[I" ∈ gT := gT_tb (tb2 (List.mem_of_getElem? (i := 62) rfl)) rfl
set_option maxRecDepth 8000 in
theorem k_303 : Cond.fieldLink "BackBay" 132 "BackBay$Row" "items" "[I" ∈ gT := gT_tb (tb2 (List.mem_of_getElem? (i := 63) rfl)) rfl
set_option maxRecDepth 8000 in
theorem k_304 : Cond.fieldLink "BackBay$Row" 15 "BackBay$Row" "there" "Z" ∈ gT := gT_tb (tb2 (List.mem_of_getElem? (i := 64) rfl)) rfl
set_option maxRecDepth 8000 in
theorem k_305 : Cond.fieldLink "BackBay" 116 "BackBay$Row" "there" "Z" ∈ gT := gT_tb (tb2 (List.mem_of_getElem? (i := 65) rfl)) rfl
set_option maxRecDepth 8000 in
theorem k_306 : Cond.fieldLink "BackBay$Row" 19 "BackBay$Row" "lane" "I" ∈ gT := gT_tb (tb2 (List.mem_of_getElem? (i := 66) rfl)) rfl
set_option maxRecDepth 8000 in
theorem k_307 : Cond.fieldLink "BackBay" 128 "BackBay$Row" "lane" "I" ∈ gT := gT_tb (tb2 (List.mem_of_getElem? (i := 67) rfl)) rfl
set_option maxRecDepth 8000 in
theorem k_308 : Cond.fieldLink "BackBay$Row" 23 "BackBay$Row" "size" "I" ∈ gT := gT_tb (tb2 (List.mem_of_getElem? (i := 68) rfl)) rfl
set_option maxRecDepth 8000 in
theorem k_309 : Cond.fieldLink "BackBay" 142 "BackBay$Row" "size" "I" ∈ gT := gT_tb (tb2 (List.mem_of_getElem? (i := 69) rfl)) rfl
set_option maxRecDepth 8000 in
theorem k_319 : Cond.fieldLink "BackBay" 11 "BackBay" "rows" "[LBackBay$Row;" ∈ gT := gT_tb (tb2 (List.mem_of_getElem? (i := 79) rfl)) rfl
set_option maxRecDepth 8000 in
theorem k_320 : Cond.fieldLink "BackBay" 292 "BackBay" "finding" "I" ∈ gT := gT_tb (tb2 (List.mem_of_getElem? (i := 80) rfl)) rfl
set_option maxRecDepth 8000 in
theorem k_321 : Cond.fieldLink "BackBay" 18 "BackBay" "tape" "LBackBay$Tape;" ∈ gT := gT_tb (tb2 (List.mem_of_getElem? (i := 81) rfl)) rfl
set_option maxRecDepth 8000 in
theorem k_322 : Cond.fieldLink "BackBay" 25 "BackBay" "text" "LBackBay$Stencils;" ∈ gT := gT_tb (tb2 (List.mem_of_getElem? (i := 82) rfl)) rfl
set_option maxRecDepth 8000 in
theorem k_323 : Cond.fieldLink "BackBay" 29 "BackBay" "draft" "LBackBay$Stencils;" ∈ gT := gT_tb (tb2 (List.mem_of_getElem? (i := 83) rfl)) rfl
set_option maxRecDepth 8000 in
theorem k_324 : Cond.fieldLink "BackBay" 35 "BackBay" "bay" "LBackBay$Bay;" ∈ gT := gT_tb (tb2 (List.mem_of_getElem? (i := 84) rfl)) rfl
set_option maxRecDepth 8000 in
theorem k_325 : Cond.fieldLink "BackBay" 42 "BackBay" "gauges" "LBackBay$Gauges;" ∈ gT := gT_tb (tb2 (List.mem_of_getElem? (i := 85) rfl)) rfl
set_option maxRecDepth 8000 in
theorem k_326 : Cond.fieldLink "BackBay" 49 "BackBay" "desk" "LBackBay$Desk;" ∈ gT := gT_tb (tb2 (List.mem_of_getElem? (i := 86) rfl)) rfl
set_option maxRecDepth 8000 in
theorem k_327 : Cond.fieldLink "BackBay" 58 "BackBay" "course" "LBackBay$Course;" ∈ gT := gT_tb (tb2 (List.mem_of_getElem? (i := 87) rfl)) rfl
set_option maxRecDepth 8000 in
theorem k_328 : Cond.fieldLink "BackBay" 62 "BackBay" "otherCourse" "LBackBay$Course;" ∈ gT := gT_tb (tb2 (List.mem_of_getElem? (i := 88) rfl)) rfl
set_option maxRecDepth 8000 in
theorem k_329 : Cond.fieldLink "BackBay" 68 "BackBay" "slopes" "LBackBay$Slopes;" ∈ gT := gT_tb (tb2 (List.mem_of_getElem? (i := 89) rfl)) rfl
set_option maxRecDepth 8000 in
theorem k_330 : Cond.fieldLink "BackBay" 75 "BackBay" "redoing" "LBackBay$Redoing;" ∈ gT := gT_tb (tb2 (List.mem_of_getElem? (i := 90) rfl)) rfl
set_option maxRecDepth 8000 in
theorem k_331 : Cond.fieldLink "BackBay" 82 "BackBay" "strippings" "LBackBay$Strippings;" ∈ gT := gT_tb (tb2 (List.mem_of_getElem? (i := 91) rfl)) rfl
set_option maxRecDepth 8000 in
theorem k_332 : Cond.fieldLink "BackBay" 89 "BackBay" "asks" "LBackBay$Asks;" ∈ gT := gT_tb (tb2 (List.mem_of_getElem? (i := 92) rfl)) rfl
set_option maxRecDepth 8000 in
theorem k_362 : Cond.methodLink "BackBayLaw" 13 ⟨"BackBay","row","(III)J"⟩ ∈ gT := gT_tb (tb2 (List.mem_of_getElem? (i := 122) rfl)) rfl
set_option maxRecDepth 8000 in
theorem k_363 : Cond.instanceMethod ⟨"BackBay","row","(III)J"⟩ ∈ gT := gT_tb (tb2 (List.mem_of_getElem? (i := 123) rfl)) rfl
set_option maxRecDepth 8000 in
theorem k_364 : Cond.selects "BackBay" ⟨"BackBay","row","(III)J"⟩ ⟨"BackBay","row","(III)J"⟩ ∈ gT := gT_tb (tb2 (List.mem_of_getElem? (i := 124) rfl)) rfl
set_option maxRecDepth 8000 in
theorem k_365 : Cond.code ⟨"BackBay","row","(III)J"⟩ prog_1_method_2_code 4 (some .long) ∈ gT := gT_tb (tb2 (List.mem_of_getElem? (i := 125) rfl)) rfl
set_option maxRecDepth 8000 in
theorem k_366 : Cond.methodLink "BackBay" 94 ⟨"BackBay","isRow","(I)Z"⟩ ∈ gT := gT_tb (tb2 (List.mem_of_getElem? (i := 126) rfl)) rfl
set_option maxRecDepth 8000 in
theorem k_367 : Cond.static ⟨"BackBay","isRow","(I)Z"⟩ ∈ gT := gT_tb (tb2 (List.mem_of_getElem? (i := 127) rfl)) rfl
set_option maxRecDepth 8000 in
theorem k_368 : Cond.code ⟨"BackBay","isRow","(I)Z"⟩ prog_1_method_32_code 1 (some .boolean) ∈ gT := gT_tb (tb2 (List.mem_of_getElem? (i := 128) rfl)) rfl
set_option maxRecDepth 8000 in
theorem k_369 : Cond.methodLink "BackBay" 98 ⟨"BackBay","isWithin","(III)Z"⟩ ∈ gT := gT_tb (tb2 (List.mem_of_getElem? (i := 129) rfl)) rfl
set_option maxRecDepth 8000 in
theorem k_370 : Cond.static ⟨"BackBay","isWithin","(III)Z"⟩ ∈ gT := gT_tb (tb2 (List.mem_of_getElem? (i := 130) rfl)) rfl
set_option maxRecDepth 8000 in
theorem k_371 : Cond.code ⟨"BackBay","isWithin","(III)Z"⟩ prog_1_method_31_code 3 (some .boolean) ∈ gT := gT_tb (tb2 (List.mem_of_getElem? (i := 131) rfl)) rfl
set_option maxRecDepth 8000 in
theorem k_372 : Cond.constantLong "BackBay" 102 (-9000000000000000001) ∈ gT := gT_tb (tb2 (List.mem_of_getElem? (i := 132) rfl)) rfl
set_option maxRecDepth 8000 in
theorem k_373 : Cond.methodLink "BackBay" 104 ⟨"BackBay","found","(I)J"⟩ ∈ gT := gT_tb (tb2 (List.mem_of_getElem? (i := 133) rfl)) rfl
set_option maxRecDepth 8000 in
theorem k_375 : Cond.instanceMethod ⟨"BackBay","found","(I)J"⟩ ∈ gT := gT_tb (tb2 (List.mem_of_getElem? (i := 135) rfl)) rfl
set_option maxRecDepth 8000 in
theorem k_376 : Cond.code ⟨"BackBay","found","(I)J"⟩ prog_1_method_33_code 2 (some .long) ∈ gT := gT_tb (tb2 (List.mem_of_getElem? (i := 136) rfl)) rfl
set_option maxRecDepth 8000 in
theorem k_377 : Cond.constantLong "BackBay" 295 (-9000000000000000010) ∈ gT := gT_tb (tb2 (List.mem_of_getElem? (i := 137) rfl)) rfl
set_option maxRecDepth 8000 in
theorem k_378 : Cond.methodLink "BackBay" 108 ⟨"BackBay$Row","begin","(II)V"⟩ ∈ gT := gT_tb (tb2 (List.mem_of_getElem? (i := 138) rfl)) rfl
set_option maxRecDepth 8000 in
theorem k_379 : Cond.instanceMethod ⟨"BackBay$Row","begin","(II)V"⟩ ∈ gT := gT_tb (tb2 (List.mem_of_getElem? (i := 139) rfl)) rfl
set_option maxRecDepth 8000 in
theorem k_380 : Cond.selects "BackBay$Row" ⟨"BackBay$Row","begin","(II)V"⟩ ⟨"BackBay$Row","begin","(II)V"⟩ ∈ gT := gT_tb (tb2 (List.mem_of_getElem? (i := 140) rfl)) rfl
set_option maxRecDepth 8000 in
theorem k_381 : Cond.code ⟨"BackBay$Row","begin","(II)V"⟩ prog_8_method_2_code 3 none ∈ gT := gT_tb (tb2 (List.mem_of_getElem? (i := 141) rfl)) rfl
set_option maxRecDepth 8000 in
theorem k_382 : Cond.methodLink "BackBay$Row" 26 ⟨"java/util/Arrays","fill","([II)V"⟩ ∈ gT := gT_tb (tb2 (List.mem_of_getElem? (i := 142) rfl)) rfl
set_option maxRecDepth 8000 in
theorem k_383 : Cond.methodLink "BackBay" 112 ⟨"BackBay","foundNothing","(J)J"⟩ ∈ gT := gT_tb (tb2 (List.mem_of_getElem? (i := 143) rfl)) rfl
set_option maxRecDepth 8000 in
theorem k_385 : Cond.instanceMethod ⟨"BackBay","foundNothing","(J)J"⟩ ∈ gT := gT_tb (tb2 (List.mem_of_getElem? (i := 145) rfl)) rfl
set_option maxRecDepth 8000 in
theorem k_386 : Cond.code ⟨"BackBay","foundNothing","(J)J"⟩ prog_1_method_34_code 3 (some .long) ∈ gT := gT_tb (tb2 (List.mem_of_getElem? (i := 146) rfl)) rfl
set_option maxRecDepth 8000 in
theorem k_387 : Cond.methodLink "BackBayLaw" 18 ⟨"BackBay","set","(III)J"⟩ ∈ gT := gT_tb (tb2 (List.mem_of_getElem? (i := 147) rfl)) rfl
set_option maxRecDepth 8000 in
theorem k_388 : Cond.instanceMethod ⟨"BackBay","set","(III)J"⟩ ∈ gT := gT_tb (tb2 (List.mem_of_getElem? (i := 148) rfl)) rfl
set_option maxRecDepth 8000 in
theorem k_389 : Cond.selects "BackBay" ⟨"BackBay","set","(III)J"⟩ ⟨"BackBay","set","(III)J"⟩ ∈ gT := gT_tb (tb2 (List.mem_of_getElem? (i := 149) rfl)) rfl
set_option maxRecDepth 8000 in
theorem k_390 : Cond.code ⟨"BackBay","set","(III)J"⟩ prog_1_method_3_code 5 (some .long) ∈ gT := gT_tb (tb2 (List.mem_of_getElem? (i := 150) rfl)) rfl
set_option maxRecDepth 8000 in
theorem k_391 : Cond.methodLink "BackBay" 120 ⟨"BackBay$Row","has","(II)Z"⟩ ∈ gT := gT_tb (tb2 (List.mem_of_getElem? (i := 151) rfl)) rfl
set_option maxRecDepth 8000 in
theorem k_392 : Cond.instanceMethod ⟨"BackBay$Row","has","(II)Z"⟩ ∈ gT := gT_tb (tb2 (List.mem_of_getElem? (i := 152) rfl)) rfl
set_option maxRecDepth 8000 in
theorem k_393 : Cond.selects "BackBay$Row" ⟨"BackBay$Row","has","(II)Z"⟩ ⟨"BackBay$Row","has","(II)Z"⟩ ∈ gT := gT_tb (tb2 (List.mem_of_getElem? (i := 153) rfl)) rfl
set_option maxRecDepth 8000 in
theorem k_394 : Cond.code ⟨"BackBay$Row","has","(II)Z"⟩ prog_8_method_3_code 3 (some .boolean) ∈ gT := gT_tb (tb2 (List.mem_of_getElem? (i := 154) rfl)) rfl
set_option maxRecDepth 8000 in
theorem k_395 : Cond.methodLink "BackBay" 124 ⟨"BackBay$Row","put","(II)I"⟩ ∈ gT := gT_tb (tb2 (List.mem_of_getElem? (i := 155) rfl)) rfl
set_option maxRecDepth 8000 in
theorem k_396 : Cond.instanceMethod ⟨"BackBay$Row","put","(II)I"⟩ ∈ gT := gT_tb (tb2 (List.mem_of_getElem? (i := 156) rfl)) rfl
set_option maxRecDepth 8000 in
theorem k_397 : Cond.selects "BackBay$Row" ⟨"BackBay$Row","put","(II)I"⟩ ⟨"BackBay$Row","put","(II)I"⟩ ∈ gT := gT_tb (tb2 (List.mem_of_getElem? (i := 157) rfl)) rfl
set_option maxRecDepth 8000 in
theorem k_398 : Cond.code ⟨"BackBay$Row","put","(II)I"⟩ prog_8_method_4_code 3 (some .int) ∈ gT := gT_tb (tb2 (List.mem_of_getElem? (i := 158) rfl)) rfl
set_option maxRecDepth 8000 in
theorem k_399 : Cond.methodLink "BackBayLaw" 22 ⟨"BackBay","copy","(IIIII)J"⟩ ∈ gT := gT_tb (tb2 (List.mem_of_getElem? (i := 159) rfl)) rfl
set_option maxRecDepth 8000 in
theorem k_400 : Cond.instanceMethod ⟨"BackBay","copy","(IIIII)J"⟩ ∈ gT := gT_tb (tb2 (List.mem_of_getElem? (i := 160) rfl)) rfl
set_option maxRecDepth 8000 in
theorem k_401 : Cond.selects "BackBay" ⟨"BackBay","copy","(IIIII)J"⟩ ⟨"BackBay","copy","(IIIII)J"⟩ ∈ gT := gT_tb (tb2 (List.mem_of_getElem? (i := 161) rfl)) rfl
set_option maxRecDepth 8000 in
theorem k_402 : Cond.code ⟨"BackBay","copy","(IIIII)J"⟩ prog_1_method_4_code 8 (some .long) ∈ gT := gT_tb (tb2 (List.mem_of_getElem? (i := 162) rfl)) rfl
set_option maxRecDepth 8000 in
theorem k_403 : Cond.methodLink "BackBay" 136 ⟨"java/lang/System","arraycopy","(Ljava/lang/Object;ILjava/lang/Object;II)V"⟩ ∈ gT := gT_tb (tb2 (List.mem_of_getElem? (i := 163) rfl)) rfl
set_option maxRecDepth 8000 in
theorem k_404 : Cond.static ⟨"java/lang/System","arraycopy","(Ljava/lang/Object;ILjava/lang/Object;II)V"⟩ ∈ gT := gT_tb (tb2 (List.mem_of_getElem? (i := 164) rfl)) rfl
set_option maxRecDepth 8000 in
theorem k_405 : Cond.native ⟨"java/lang/System","arraycopy","(Ljava/lang/Object;ILjava/lang/Object;II)V"⟩ ∈ gT := gT_tb (tb2 (List.mem_of_getElem? (i := 165) rfl)) rfl
set_option maxRecDepth 8000 in
theorem k_406 : Cond.methodLink "BackBayLaw" 27 ⟨"BackBay","drop","(I)J"⟩ ∈ gT := gT_tb (tb2 (List.mem_of_getElem? (i := 166) rfl)) rfl
set_option maxRecDepth 8000 in
theorem k_407 : Cond.instanceMethod ⟨"BackBay","drop","(I)J"⟩ ∈ gT := gT_tb (tb2 (List.mem_of_getElem? (i := 167) rfl)) rfl
set_option maxRecDepth 8000 in
theorem k_408 : Cond.selects "BackBay" ⟨"BackBay","drop","(I)J"⟩ ⟨"BackBay","drop","(I)J"⟩ ∈ gT := gT_tb (tb2 (List.mem_of_getElem? (i := 168) rfl)) rfl
set_option maxRecDepth 8000 in
theorem k_409 : Cond.code ⟨"BackBay","drop","(I)J"⟩ prog_1_method_5_code 3 (some .long) ∈ gT := gT_tb (tb2 (List.mem_of_getElem? (i := 169) rfl)) rfl
set_option maxRecDepth 8000 in
theorem k_410 : Cond.methodLink "BackBayLaw" 34 ⟨"BackBay","feed","(JI)J"⟩ ∈ gT := gT_tb (tb2 (List.mem_of_getElem? (i := 170) rfl)) rfl
set_option maxRecDepth 8000 in
theorem k_411 : Cond.instanceMethod ⟨"BackBay","feed","(JI)J"⟩ ∈ gT := gT_tb (tb2 (List.mem_of_getElem? (i := 171) rfl)) rfl
set_option maxRecDepth 8000 in
theorem k_412 : Cond.selects "BackBay" ⟨"BackBay","feed","(JI)J"⟩ ⟨"BackBay","feed","(JI)J"⟩ ∈ gT := gT_tb (tb2 (List.mem_of_getElem? (i := 172) rfl)) rfl
set_option maxRecDepth 8000 in
theorem k_413 : Cond.code ⟨"BackBay","feed","(JI)J"⟩ prog_1_method_6_code 4 (some .long) ∈ gT := gT_tb (tb2 (List.mem_of_getElem? (i := 173) rfl)) rfl
set_option maxRecDepth 8000 in
theorem k_414 : Cond.constantLong "BackBay" 146 (-9000000000000000003) ∈ gT := gT_tb (tb2 (List.mem_of_getElem? (i := 174) rfl)) rfl
set_option maxRecDepth 8000 in
theorem k_415 : Cond.methodLink "BackBay" 148 ⟨"BackBay$Tape","add","(JI)V"⟩ ∈ gT := gT_tb (tb2 (List.mem_of_getElem? (i := 175) rfl)) rfl
set_option maxRecDepth 8000 in
theorem k_416 : Cond.instanceMethod ⟨"BackBay$Tape","add","(JI)V"⟩ ∈ gT := gT_tb (tb2 (List.mem_of_getElem? (i := 176) rfl)) rfl
set_option maxRecDepth 8000 in
theorem k_417 : Cond.selects "BackBay$Tape" ⟨"BackBay$Tape","add","(JI)V"⟩ ⟨"BackBay$Tape","add","(JI)V"⟩ ∈ gT := gT_tb (tb2 (List.mem_of_getElem? (i := 177) rfl)) rfl
set_option maxRecDepth 8000 in
theorem k_418 : Cond.code ⟨"BackBay$Tape","add","(JI)V"⟩ prog_12_method_2_code 5 none ∈ gT := gT_tb (tb2 (List.mem_of_getElem? (i := 178) rfl)) rfl
set_option maxRecDepth 8000 in
theorem k_419 : Cond.methodLink "BackBayLaw" 39 ⟨"BackBay","stencils","()J"⟩ ∈ gT := gT_tb (tb2 (List.mem_of_getElem? (i := 179) rfl)) rfl
set_option maxRecDepth 8000 in
theorem k_420 : Cond.instanceMethod ⟨"BackBay","stencils","()J"⟩ ∈ gT := gT_tb (tb2 (List.mem_of_getElem? (i := 180) rfl)) rfl
set_option maxRecDepth 8000 in
theorem k_421 : Cond.selects "BackBay" ⟨"BackBay","stencils","()J"⟩ ⟨"BackBay","stencils","()J"⟩ ∈ gT := gT_tb (tb2 (List.mem_of_getElem? (i := 181) rfl)) rfl
set_option maxRecDepth 8000 in
theorem k_422 : Cond.code ⟨"BackBay","stencils","()J"⟩ prog_1_method_7_code 3 (some .long) ∈ gT := gT_tb (tb2 (List.mem_of_getElem? (i := 182) rfl)) rfl
set_option maxRecDepth 8000 in
theorem k_423 : Cond.methodLink "BackBay" 152 ⟨"BackBay$Tape","readText","(LBackBay$Stencils;)Z"⟩ ∈ gT := gT_tb (tb2 (List.mem_of_getElem? (i := 183) rfl)) rfl
set_option maxRecDepth 8000 in
theorem k_424 : Cond.instanceMethod ⟨"BackBay$Tape","readText","(LBackBay$Stencils;)Z"⟩ ∈ gT := gT_tb (tb2 (List.mem_of_getElem? (i := 184) rfl)) rfl
set_option maxRecDepth 8000 in
theorem k_425 : Cond.selects "BackBay$Tape" ⟨"BackBay$Tape","readText","(LBackBay$Stencils;)Z"⟩ ⟨"BackBay$Tape","readText","(LBackBay$Stencils;)Z"⟩ ∈ gT := gT_tb (tb2 (List.mem_of_getElem? (i := 185) rfl)) rfl
set_option maxRecDepth 8000 in
theorem k_426 : Cond.code ⟨"BackBay$Tape","readText","(LBackBay$Stencils;)Z"⟩ prog_12_method_3_code 4 (some .boolean) ∈ gT := gT_tb (tb2 (List.mem_of_getElem? (i := 186) rfl)) rfl
set_option maxRecDepth 8000 in
theorem k_427 : Cond.methodLink "BackBay$Tape" 19 ⟨"BackBay$Stencils","clear","()V"⟩ ∈ gT := gT_tb (tb2 (List.mem_of_getElem? (i := 187) rfl)) rfl
set_option maxRecDepth 8000 in
theorem k_428 : Cond.instanceMethod ⟨"BackBay$Stencils","clear","()V"⟩ ∈ gT := gT_tb (tb2 (List.mem_of_getElem? (i := 188) rfl)) rfl
set_option maxRecDepth 8000 in
theorem k_429 : Cond.selects "BackBay$Stencils" ⟨"BackBay$Stencils","clear","()V"⟩ ⟨"BackBay$Stencils","clear","()V"⟩ ∈ gT := gT_tb (tb2 (List.mem_of_getElem? (i := 189) rfl)) rfl
set_option maxRecDepth 8000 in
theorem k_430 : Cond.code ⟨"BackBay$Stencils","clear","()V"⟩ prog_10_method_2_code 1 none ∈ gT := gT_tb (tb2 (List.mem_of_getElem? (i := 190) rfl)) rfl
set_option maxRecDepth 8000 in
theorem k_431 : Cond.methodLink "BackBay$Tape" 27 ⟨"BackBay$Tape","advance","()V"⟩ ∈ gT := gT_tb (tb2 (List.mem_of_getElem? (i := 191) rfl)) rfl
set_option maxRecDepth 8000 in
theorem k_433 : Cond.instanceMethod ⟨"BackBay$Tape","advance","()V"⟩ ∈ gT := gT_tb (tb2 (List.mem_of_getElem? (i := 193) rfl)) rfl
set_option maxRecDepth 8000 in
theorem k_434 : Cond.code ⟨"BackBay$Tape","advance","()V"⟩ prog_12_method_7_code 2 none ∈ gT := gT_tb (tb2 (List.mem_of_getElem? (i := 194) rfl)) rfl
set_option maxRecDepth 8000 in
theorem k_436 : Cond.methodLink "BackBay$Tape" 82 ⟨"BackBay$Tape","endOf","(II)I"⟩ ∈ gT := gT_tb (tb2 (List.mem_of_getElem? (i := 196) rfl)) rfl
set_option maxRecDepth 8000 in
theorem k_438 : Cond.instanceMethod ⟨"BackBay$Tape","endOf","(II)I"⟩ ∈ gT := gT_tb (tb2 (List.mem_of_getElem? (i := 198) rfl)) rfl
set_option maxRecDepth 8000 in
theorem k_439 : Cond.code ⟨"BackBay$Tape","endOf","(II)I"⟩ prog_12_method_8_code 4 (some .int) ∈ gT := gT_tb (tb2 (List.mem_of_getElem? (i := 199) rfl)) rfl
set_option maxRecDepth 8000 in
theorem k_440 : Cond.methodLink "BackBay$Tape" 85 ⟨"BackBay$Tape","nameToken","()I"⟩ ∈ gT := gT_tb (tb2 (List.mem_of_getElem? (i := 200) rfl)) rfl
set_option maxRecDepth 8000 in
theorem k_442 : Cond.instanceMethod ⟨"BackBay$Tape","nameToken","()I"⟩ ∈ gT := gT_tb (tb2 (List.mem_of_getElem? (i := 202) rfl)) rfl
set_option maxRecDepth 8000 in
theorem k_443 : Cond.code ⟨"BackBay$Tape","nameToken","()I"⟩ prog_12_method_10_code 1 (some .int) ∈ gT := gT_tb (tb2 (List.mem_of_getElem? (i := 203) rfl)) rfl
set_option maxRecDepth 8000 in
theorem k_444 : Cond.methodLink "BackBay$Tape" 95 ⟨"BackBay$Tape","letterToken","(I)I"⟩ ∈ gT := gT_tb (tb2 (List.mem_of_getElem? (i := 204) rfl)) rfl
set_option maxRecDepth 8000 in
theorem k_445 : Cond.static ⟨"BackBay$Tape","letterToken","(I)I"⟩ ∈ gT := gT_tb (tb2 (List.mem_of_getElem? (i := 205) rfl)) rfl
set_option maxRecDepth 8000 in
theorem k_446 : Cond.code ⟨"BackBay$Tape","letterToken","(I)I"⟩ prog_12_method_12_code 1 (some .int) ∈ gT := gT_tb (tb2 (List.mem_of_getElem? (i := 206) rfl)) rfl
set_option maxRecDepth 8000 in
theorem k_448 : Cond.methodLink "BackBay$Tape" 100 ⟨"BackBay$Tape","isName","(Ljava/lang/String;)Z"⟩ ∈ gT := gT_tb (tb2 (List.mem_of_getElem? (i := 208) rfl)) rfl
set_option maxRecDepth 8000 in
theorem k_450 : Cond.instanceMethod ⟨"BackBay$Tape","isName","(Ljava/lang/String;)Z"⟩ ∈ gT := gT_tb (tb2 (List.mem_of_getElem? (i := 210) rfl)) rfl
set_option maxRecDepth 8000 in
theorem k_451 : Cond.code ⟨"BackBay$Tape","isName","(Ljava/lang/String;)Z"⟩ prog_12_method_11_code 3 (some .boolean) ∈ gT := gT_tb (tb2 (List.mem_of_getElem? (i := 211) rfl)) rfl
set_option maxRecDepth 8000 in
theorem k_452 : Cond.methodLink "BackBay$Tape" 110 ⟨"java/lang/String","length","()I"⟩ ∈ gT := gT_tb (tb2 (List.mem_of_getElem? (i := 212) rfl)) rfl
set_option maxRecDepth 8000 in
theorem k_453 : Cond.instanceMethod ⟨"java/lang/String","length","()I"⟩ ∈ gT := gT_tb (tb2 (List.mem_of_getElem? (i := 213) rfl)) rfl
set_option maxRecDepth 8000 in
theorem k_454 : Cond.selects "java/lang/String" ⟨"java/lang/String","length","()I"⟩ ⟨"java/lang/String","length","()I"⟩ ∈ gT := gT_tb (tb2 (List.mem_of_getElem? (i := 214) rfl)) rfl
set_option maxRecDepth 8000 in
theorem k_455 : Cond.code ⟨"java/lang/String","length","()I"⟩ prog_16_method_54_code 1 (some .int) ∈ gT := gT_tb (tb2 (List.mem_of_getElem? (i := 215) rfl)) rfl
set_option maxRecDepth 8000 in
theorem k_456 : Cond.methodLink "java/lang/String" 335 ⟨"java/lang/String","coder","()B"⟩ ∈ gT := gT_tb (tb2 (List.mem_of_getElem? (i := 216) rfl)) rfl
set_option maxRecDepth 8000 in
theorem k_457 : Cond.instanceMethod ⟨"java/lang/String","coder","()B"⟩ ∈ gT := gT_tb (tb2 (List.mem_of_getElem? (i := 217) rfl)) rfl
set_option maxRecDepth 8000 in
theorem k_458 : Cond.selects "java/lang/String" ⟨"java/lang/String","coder","()B"⟩ ⟨"java/lang/String","coder","()B"⟩ ∈ gT := gT_tb (tb2 (List.mem_of_getElem? (i := 218) rfl)) rfl
set_option maxRecDepth 8000 in
theorem k_459 : Cond.code ⟨"java/lang/String","coder","()B"⟩ prog_16_method_152_code 1 (some .byte) ∈ gT := gT_tb (tb2 (List.mem_of_getElem? (i := 219) rfl)) rfl
set_option maxRecDepth 8000 in
theorem k_460 : Cond.fieldLink "java/lang/String" 38 "java/lang/String" "COMPACT_STRINGS" "Z" ∈ gT := gT_tb (tb2 (List.mem_of_getElem? (i := 220) rfl)) rfl
set_option maxRecDepth 8000 in
theorem k_462 : Cond.methodLink "BackBay$Tape" 115 ⟨"java/lang/String","charAt","(I)C"⟩ ∈ gT := gT_tb (tb2 (List.mem_of_getElem? (i := 222) rfl)) rfl
set_option maxRecDepth 8000 in
theorem k_463 : Cond.instanceMethod ⟨"java/lang/String","charAt","(I)C"⟩ ∈ gT := gT_tb (tb2 (List.mem_of_getElem? (i := 223) rfl)) rfl
set_option maxRecDepth 8000 in
theorem k_464 : Cond.selects "java/lang/String" ⟨"java/lang/String","charAt","(I)C"⟩ ⟨"java/lang/String","charAt","(I)C"⟩ ∈ gT := gT_tb (tb2 (List.mem_of_getElem? (i := 224) rfl)) rfl
set_option maxRecDepth 8000 in
theorem k_465 : Cond.code ⟨"java/lang/String","charAt","(I)C"⟩ prog_16_method_56_code 2 (some .char) ∈ gT := gT_tb (tb2 (List.mem_of_getElem? (i := 225) rfl)) rfl
set_option maxRecDepth 8000 in
theorem k_466 : Cond.methodLink "java/lang/String" 492 ⟨"java/lang/String","isLatin1","()Z"⟩ ∈ gT := gT_tb (tb2 (List.mem_of_getElem? (i := 226) rfl)) rfl
set_option maxRecDepth 8000 in
theorem k_467 : Cond.instanceMethod ⟨"java/lang/String","isLatin1","()Z"⟩ ∈ gT := gT_tb (tb2 (List.mem_of_getElem? (i := 227) rfl)) rfl
set_option maxRecDepth 8000 in
theorem k_468 : Cond.selects "java/lang/String" ⟨"java/lang/String","isLatin1","()Z"⟩ ⟨"java/lang/String","isLatin1","()Z"⟩ ∈ gT := gT_tb (tb2 (List.mem_of_getElem? (i := 228) rfl)) rfl
set_option maxRecDepth 8000 in
theorem k_469 : Cond.code ⟨"java/lang/String","isLatin1","()Z"⟩ prog_16_method_154_code 1 (some .boolean) ∈ gT := gT_tb (tb2 (List.mem_of_getElem? (i := 229) rfl)) rfl
set_option maxRecDepth 8000 in
theorem k_470 : Cond.methodLink "java/lang/String" 495 ⟨"java/lang/StringLatin1","charAt","([BI)C"⟩ ∈ gT := gT_tb (tb2 (List.mem_of_getElem? (i := 230) rfl)) rfl
set_option maxRecDepth 8000 in
theorem k_471 : Cond.static ⟨"java/lang/StringLatin1","charAt","([BI)C"⟩ ∈ gT := gT_tb (tb2 (List.mem_of_getElem? (i := 231) rfl)) rfl
set_option maxRecDepth 8000 in
theorem k_472 : Cond.code ⟨"java/lang/StringLatin1","charAt","([BI)C"⟩ prog_17_method_2_code 2 (some .char) ∈ gT := gT_tb (tb2 (List.mem_of_getElem? (i := 232) rfl)) rfl
set_option maxRecDepth 8000 in
theorem k_473 : Cond.methodLink "java/lang/StringLatin1" 9 ⟨"java/lang/String","checkIndex","(II)V"⟩ ∈ gT := gT_tb (tb2 (List.mem_of_getElem? (i := 233) rfl)) rfl
set_option maxRecDepth 8000 in
theorem k_474 : Cond.static ⟨"java/lang/String","checkIndex","(II)V"⟩ ∈ gT := gT_tb (tb2 (List.mem_of_getElem? (i := 234) rfl)) rfl
set_option maxRecDepth 8000 in
theorem k_475 : Cond.code ⟨"java/lang/String","checkIndex","(II)V"⟩ prog_16_method_155_code 2 none ∈ gT := gT_tb (tb2 (List.mem_of_getElem? (i := 235) rfl)) rfl
set_option maxRecDepth 8000 in
theorem k_476 : Cond.fieldLink "java/lang/String" 1053 "jdk/internal/util/Preconditions" "SIOOBE_FORMATTER" "Ljava/util/function/BiFunction;" ∈ gT := gT_tb (tb2 (List.mem_of_getElem? (i := 236) rfl)) rfl
set_option maxRecDepth 8000 in
theorem k_478 : Cond.methodLink "java/lang/String" 1059 ⟨"jdk/internal/util/Preconditions","checkIndex","(IILjava/util/function/BiFunction;)I"⟩ ∈ gT := gT_tb (tb2 (List.mem_of_getElem? (i := 238) rfl)) rfl
set_option maxRecDepth 8000 in
theorem k_479 : Cond.static ⟨"jdk/internal/util/Preconditions","checkIndex","(IILjava/util/function/BiFunction;)I"⟩ ∈ gT := gT_tb (tb2 (List.mem_of_getElem? (i := 239) rfl)) rfl
set_option maxRecDepth 8000 in
theorem k_480 : Cond.code ⟨"jdk/internal/util/Preconditions","checkIndex","(IILjava/util/function/BiFunction;)I"⟩ prog_21_method_11_code 3 (some .int) ∈ gT := gT_tb (tb3 (List.mem_of_getElem? (i := 0) rfl)) rfl
set_option maxRecDepth 8000 in
theorem k_481 : Cond.methodLink "java/lang/String" 498 ⟨"java/lang/StringUTF16","charAt","([BI)C"⟩ ∈ gT := gT_tb (tb3 (List.mem_of_getElem? (i := 1) rfl)) rfl
set_option maxRecDepth 8000 in
theorem k_482 : Cond.static ⟨"java/lang/StringUTF16","charAt","([BI)C"⟩ ∈ gT := gT_tb (tb3 (List.mem_of_getElem? (i := 2) rfl)) rfl
set_option maxRecDepth 8000 in
theorem k_483 : Cond.code ⟨"java/lang/StringUTF16","charAt","([BI)C"⟩ prog_18_method_83_code 2 (some .char) ∈ gT := gT_tb (tb3 (List.mem_of_getElem? (i := 3) rfl)) rfl
set_option maxRecDepth 8000 in
theorem k_484 : Cond.methodLink "java/lang/StringUTF16" 67 ⟨"java/lang/StringUTF16","checkIndex","(I[B)V"⟩ ∈ gT := gT_tb (tb3 (List.mem_of_getElem? (i := 4) rfl)) rfl
set_option maxRecDepth 8000 in
theorem k_485 : Cond.static ⟨"java/lang/StringUTF16","checkIndex","(I[B)V"⟩ ∈ gT := gT_tb (tb3 (List.mem_of_getElem? (i := 5) rfl)) rfl
set_option maxRecDepth 8000 in
theorem k_486 : Cond.code ⟨"java/lang/StringUTF16","checkIndex","(I[B)V"⟩ prog_18_method_91_code 2 none ∈ gT := gT_tb (tb3 (List.mem_of_getElem? (i := 6) rfl)) rfl
set_option maxRecDepth 8000 in
theorem k_487 : Cond.methodLink "java/lang/StringUTF16" 48 ⟨"java/lang/StringUTF16","length","([B)I"⟩ ∈ gT := gT_tb (tb3 (List.mem_of_getElem? (i := 7) rfl)) rfl
set_option maxRecDepth 8000 in
theorem k_488 : Cond.static ⟨"java/lang/StringUTF16","length","([B)I"⟩ ∈ gT := gT_tb (tb3 (List.mem_of_getElem? (i := 8) rfl)) rfl
set_option maxRecDepth 8000 in
theorem k_489 : Cond.code ⟨"java/lang/StringUTF16","length","([B)I"⟩ prog_18_method_6_code 1 (some .int) ∈ gT := gT_tb (tb3 (List.mem_of_getElem? (i := 9) rfl)) rfl
set_option maxRecDepth 8000 in
theorem k_490 : Cond.methodLink "java/lang/StringUTF16" 414 ⟨"java/lang/String","checkIndex","(II)V"⟩ ∈ gT := gT_tb (tb3 (List.mem_of_getElem? (i := 10) rfl)) rfl
set_option maxRecDepth 8000 in
theorem k_491 : Cond.methodLink "java/lang/StringUTF16" 71 ⟨"java/lang/StringUTF16","getChar","([BI)C"⟩ ∈ gT := gT_tb (tb3 (List.mem_of_getElem? (i := 11) rfl)) rfl
set_option maxRecDepth 8000 in
theorem k_492 : Cond.static ⟨"java/lang/StringUTF16","getChar","([BI)C"⟩ ∈ gT := gT_tb (tb3 (List.mem_of_getElem? (i := 12) rfl)) rfl
set_option maxRecDepth 8000 in
theorem k_493 : Cond.code ⟨"java/lang/StringUTF16","getChar","([BI)C"⟩ prog_18_method_5_code 2 (some .char) ∈ gT := gT_tb (tb3 (List.mem_of_getElem? (i := 13) rfl)) rfl
set_option maxRecDepth 8000 in
theorem k_494 : Cond.fieldLink "java/lang/StringUTF16" 44 "java/lang/StringUTF16" "$assertionsDisabled" "Z" ∈ gT := gT_tb (tb3 (List.mem_of_getElem? (i := 14) rfl)) rfl
set_option maxRecDepth 8000 in
theorem k_496 : Cond.fieldLink "java/lang/StringUTF16" 59 "java/lang/StringUTF16" "HI_BYTE_SHIFT" "I" ∈ gT := gT_tb (tb3 (List.mem_of_getElem? (i := 16) rfl)) rfl
set_option maxRecDepth 8000 in
theorem k_498 : Cond.fieldLink "java/lang/StringUTF16" 63 "java/lang/StringUTF16" "LO_BYTE_SHIFT" "I" ∈ gT := gT_tb (tb3 (List.mem_of_getElem? (i := 18) rfl)) rfl
set_option maxRecDepth 8000 in
theorem k_503 : Cond.methodLink "BackBay$Tape" 88 ⟨"BackBay$Tape","numberToken","()I"⟩ ∈ gT := gT_tb (tb3 (List.mem_of_getElem? (i := 23) rfl)) rfl
set_option maxRecDepth 8000 in
theorem k_505 : Cond.instanceMethod ⟨"BackBay$Tape","numberToken","()I"⟩ ∈ gT := gT_tb (tb3 (List.mem_of_getElem? (i := 25) rfl)) rfl
set_option maxRecDepth 8000 in
theorem k_506 : Cond.code ⟨"BackBay$Tape","numberToken","()I"⟩ prog_12_method_9_code 2 (some .int) ∈ gT := gT_tb (tb3 (List.mem_of_getElem? (i := 26) rfl)) rfl
set_option maxRecDepth 8000 in
theorem k_507 : Cond.methodLink "BackBay$Tape" 91 ⟨"BackBay$Tape","signToken","(I)I"⟩ ∈ gT := gT_tb (tb3 (List.mem_of_getElem? (i := 27) rfl)) rfl
set_option maxRecDepth 8000 in
theorem k_508 : Cond.static ⟨"BackBay$Tape","signToken","(I)I"⟩ ∈ gT := gT_tb (tb3 (List.mem_of_getElem? (i := 28) rfl)) rfl
set_option maxRecDepth 8000 in
theorem k_509 : Cond.code ⟨"BackBay$Tape","signToken","(I)I"⟩ prog_12_method_13_code 1 (some .int) ∈ gT := gT_tb (tb3 (List.mem_of_getElem? (i := 29) rfl)) rfl
set_option maxRecDepth 8000 in
theorem k_510 : Cond.methodLink "BackBay$Tape" 30 ⟨"BackBay$Tape","readStencil","(LBackBay$Stencils;)Z"⟩ ∈ gT := gT_tb (tb3 (List.mem_of_getElem? (i := 30) rfl)) rfl
set_option maxRecDepth 8000 in
theorem k_512 : Cond.instanceMethod ⟨"BackBay$Tape","readStencil","(LBackBay$Stencils;)Z"⟩ ∈ gT := gT_tb (tb3 (List.mem_of_getElem? (i := 32) rfl)) rfl
set_option maxRecDepth 8000 in
theorem k_513 : Cond.code ⟨"BackBay$Tape","readStencil","(LBackBay$Stencils;)Z"⟩ prog_12_method_4_code 2 (some .boolean) ∈ gT := gT_tb (tb3 (List.mem_of_getElem? (i := 33) rfl)) rfl
set_option maxRecDepth 8000 in
theorem k_514 : Cond.methodLink "BackBay$Tape" 37 ⟨"BackBay$Tape","fail","(I)Z"⟩ ∈ gT := gT_tb (tb3 (List.mem_of_getElem? (i := 34) rfl)) rfl
set_option maxRecDepth 8000 in
theorem k_516 : Cond.instanceMethod ⟨"BackBay$Tape","fail","(I)Z"⟩ ∈ gT := gT_tb (tb3 (List.mem_of_getElem? (i := 36) rfl)) rfl
set_option maxRecDepth 8000 in
theorem k_517 : Cond.code ⟨"BackBay$Tape","fail","(I)Z"⟩ prog_12_method_6_code 2 (some .boolean) ∈ gT := gT_tb (tb3 (List.mem_of_getElem? (i := 37) rfl)) rfl
set_option maxRecDepth 8000 in
theorem k_518 : Cond.methodLink "BackBay$Tape" 44 ⟨"BackBay$Tape","readNode","(LBackBay$Stencils;I)Z"⟩ ∈ gT := gT_tb (tb3 (List.mem_of_getElem? (i := 38) rfl)) rfl
set_option maxRecDepth 8000 in
theorem k_520 : Cond.instanceMethod ⟨"BackBay$Tape","readNode","(LBackBay$Stencils;I)Z"⟩ ∈ gT := gT_tb (tb3 (List.mem_of_getElem? (i := 40) rfl)) rfl
set_option maxRecDepth 8000 in
theorem k_521 : Cond.code ⟨"BackBay$Tape","readNode","(LBackBay$Stencils;I)Z"⟩ prog_12_method_5_code 6 (some .boolean) ∈ gT := gT_tb (tb3 (List.mem_of_getElem? (i := 41) rfl)) rfl
set_option maxRecDepth 8000 in
theorem k_522 : Cond.methodLink "BackBay$Tape" 51 ⟨"BackBay$Stencils","nodesOfOpen","()I"⟩ ∈ gT := gT_tb (tb3 (List.mem_of_getElem? (i := 42) rfl)) rfl
set_option maxRecDepth 8000 in
theorem k_523 : Cond.instanceMethod ⟨"BackBay$Stencils","nodesOfOpen","()I"⟩ ∈ gT := gT_tb (tb3 (List.mem_of_getElem? (i := 43) rfl)) rfl
set_option maxRecDepth 8000 in
theorem k_524 : Cond.selects "BackBay$Stencils" ⟨"BackBay$Stencils","nodesOfOpen","()I"⟩ ⟨"BackBay$Stencils","nodesOfOpen","()I"⟩ ∈ gT := gT_tb (tb3 (List.mem_of_getElem? (i := 44) rfl)) rfl
set_option maxRecDepth 8000 in
theorem k_525 : Cond.code ⟨"BackBay$Stencils","nodesOfOpen","()I"⟩ prog_10_method_5_code 1 (some .int) ∈ gT := gT_tb (tb3 (List.mem_of_getElem? (i := 45) rfl)) rfl
set_option maxRecDepth 8000 in
theorem k_528 : Cond.methodLink "BackBay$Tape" 61 ⟨"BackBay$Stencils","addNode","(II)I"⟩ ∈ gT := gT_tb (tb3 (List.mem_of_getElem? (i := 48) rfl)) rfl
set_option maxRecDepth 8000 in
theorem k_529 : Cond.instanceMethod ⟨"BackBay$Stencils","addNode","(II)I"⟩ ∈ gT := gT_tb (tb3 (List.mem_of_getElem? (i := 49) rfl)) rfl
set_option maxRecDepth 8000 in
theorem k_530 : Cond.selects "BackBay$Stencils" ⟨"BackBay$Stencils","addNode","(II)I"⟩ ⟨"BackBay$Stencils","addNode","(II)I"⟩ ∈ gT := gT_tb (tb3 (List.mem_of_getElem? (i := 50) rfl)) rfl
set_option maxRecDepth 8000 in
theorem k_531 : Cond.code ⟨"BackBay$Stencils","addNode","(II)I"⟩ prog_10_method_6_code 3 (some .int) ∈ gT := gT_tb (tb3 (List.mem_of_getElem? (i := 51) rfl)) rfl
set_option maxRecDepth 8000 in
theorem k_532 : Cond.methodLink "BackBay$Tape" 65 ⟨"BackBay$Stencils","closeNode","(I)V"⟩ ∈ gT := gT_tb (tb3 (List.mem_of_getElem? (i := 52) rfl)) rfl
set_option maxRecDepth 8000 in
theorem k_533 : Cond.instanceMethod ⟨"BackBay$Stencils","closeNode","(I)V"⟩ ∈ gT := gT_tb (tb3 (List.mem_of_getElem? (i := 53) rfl)) rfl
set_option maxRecDepth 8000 in
theorem k_534 : Cond.selects "BackBay$Stencils" ⟨"BackBay$Stencils","closeNode","(I)V"⟩ ⟨"BackBay$Stencils","closeNode","(I)V"⟩ ∈ gT := gT_tb (tb3 (List.mem_of_getElem? (i := 54) rfl)) rfl
set_option maxRecDepth 8000 in
theorem k_535 : Cond.code ⟨"BackBay$Stencils","closeNode","(I)V"⟩ prog_10_method_7_code 2 none ∈ gT := gT_tb (tb3 (List.mem_of_getElem? (i := 55) rfl)) rfl
set_option maxRecDepth 8000 in
theorem k_536 : Cond.methodLink "BackBay$Stencils" 47 ⟨"BackBay$Stencils","behind","(I)I"⟩ ∈ gT := gT_tb (tb3 (List.mem_of_getElem? (i := 56) rfl)) rfl
set_option maxRecDepth 8000 in
theorem k_538 : Cond.instanceMethod ⟨"BackBay$Stencils","behind","(I)I"⟩ ∈ gT := gT_tb (tb3 (List.mem_of_getElem? (i := 58) rfl)) rfl
set_option maxRecDepth 8000 in
theorem k_539 : Cond.code ⟨"BackBay$Stencils","behind","(I)I"⟩ prog_10_method_9_code 2 (some .int) ∈ gT := gT_tb (tb3 (List.mem_of_getElem? (i := 59) rfl)) rfl
set_option maxRecDepth 8000 in
theorem k_540 : Cond.methodLink "BackBay$Tape" 48 ⟨"BackBay$Stencils","closeStencil","()V"⟩ ∈ gT := gT_tb (tb3 (List.mem_of_getElem? (i := 60) rfl)) rfl
set_option maxRecDepth 8000 in
theorem k_541 : Cond.instanceMethod ⟨"BackBay$Stencils","closeStencil","()V"⟩ ∈ gT := gT_tb (tb3 (List.mem_of_getElem? (i := 61) rfl)) rfl
set_option maxRecDepth 8000 in
theorem k_542 : Cond.selects "BackBay$Stencils" ⟨"BackBay$Stencils","closeStencil","()V"⟩ ⟨"BackBay$Stencils","closeStencil","()V"⟩ ∈ gT := gT_tb (tb3 (List.mem_of_getElem? (i := 62) rfl)) rfl
set_option maxRecDepth 8000 in
theorem k_543 : Cond.code ⟨"BackBay$Stencils","closeStencil","()V"⟩ prog_10_method_8_code 1 none ∈ gT := gT_tb (tb3 (List.mem_of_getElem? (i := 63) rfl)) rfl
set_option maxRecDepth 8000 in
theorem k_544 : Cond.constantLong "BackBay" 156 (-9000000000000000100) ∈ gT := gT_tb (tb3 (List.mem_of_getElem? (i := 64) rfl)) rfl
set_option maxRecDepth 8000 in
theorem k_545 : Cond.arrayClass .byte ∈ gT := gT_tb (tb3 (List.mem_of_getElem? (i := 65) rfl)) rfl
set_option maxRecDepth 8000 in
theorem k_546 : Cond.methodLink "BackBayLaw" 44 ⟨"BackBay","fault","()I"⟩ ∈ gT := gT_tb (tb3 (List.mem_of_getElem? (i := 66) rfl)) rfl
set_option maxRecDepth 8000 in
theorem k_547 : Cond.instanceMethod ⟨"BackBay","fault","()I"⟩ ∈ gT := gT_tb (tb3 (List.mem_of_getElem? (i := 67) rfl)) rfl
set_option maxRecDepth 8000 in
theorem k_548 : Cond.selects "BackBay" ⟨"BackBay","fault","()I"⟩ ⟨"BackBay","fault","()I"⟩ ∈ gT := gT_tb (tb3 (List.mem_of_getElem? (i := 68) rfl)) rfl
set_option maxRecDepth 8000 in
theorem k_549 : Cond.code ⟨"BackBay","fault","()I"⟩ prog_1_method_8_code 1 (some .int) ∈ gT := gT_tb (tb3 (List.mem_of_getElem? (i := 69) rfl)) rfl
set_option maxRecDepth 8000 in
theorem k_550 : Cond.methodLink "BackBayLaw" 49 ⟨"BackBay","bay","(I)J"⟩ ∈ gT := gT_tb (tb3 (List.mem_of_getElem? (i := 70) rfl)) rfl
set_option maxRecDepth 8000 in
theorem k_551 : Cond.instanceMethod ⟨"BackBay","bay","(I)J"⟩ ∈ gT := gT_tb (tb3 (List.mem_of_getElem? (i := 71) rfl)) rfl
set_option maxRecDepth 8000 in
theorem k_552 : Cond.selects "BackBay" ⟨"BackBay","bay","(I)J"⟩ ⟨"BackBay","bay","(I)J"⟩ ∈ gT := gT_tb (tb3 (List.mem_of_getElem? (i := 72) rfl)) rfl
set_option maxRecDepth 8000 in
theorem k_553 : Cond.code ⟨"BackBay","bay","(I)J"⟩ prog_1_method_9_code 3 (some .long) ∈ gT := gT_tb (tb3 (List.mem_of_getElem? (i := 73) rfl)) rfl
set_option maxRecDepth 8000 in
theorem k_554 : Cond.methodLink "BackBay" 170 ⟨"BackBay$Bay","begin","(I)V"⟩ ∈ gT := gT_tb (tb3 (List.mem_of_getElem? (i := 74) rfl)) rfl
set_option maxRecDepth 8000 in
theorem k_555 : Cond.methodLink "BackBayLaw" 53 ⟨"BackBay","start","(II)J"⟩ ∈ gT := gT_tb (tb3 (List.mem_of_getElem? (i := 75) rfl)) rfl
set_option maxRecDepth 8000 in
theorem k_556 : Cond.instanceMethod ⟨"BackBay","start","(II)J"⟩ ∈ gT := gT_tb (tb3 (List.mem_of_getElem? (i := 76) rfl)) rfl
set_option maxRecDepth 8000 in
theorem k_557 : Cond.selects "BackBay" ⟨"BackBay","start","(II)J"⟩ ⟨"BackBay","start","(II)J"⟩ ∈ gT := gT_tb (tb3 (List.mem_of_getElem? (i := 77) rfl)) rfl
set_option maxRecDepth 8000 in
theorem k_558 : Cond.code ⟨"BackBay","start","(II)J"⟩ prog_1_method_10_code 4 (some .long) ∈ gT := gT_tb (tb3 (List.mem_of_getElem? (i := 78) rfl)) rfl
set_option maxRecDepth 8000 in
theorem k_559 : Cond.methodLink "BackBayLaw" 58 ⟨"BackBay","strip","(II)J"⟩ ∈ gT := gT_tb (tb3 (List.mem_of_getElem? (i := 79) rfl)) rfl
set_option maxRecDepth 8000 in
theorem k_560 : Cond.instanceMethod ⟨"BackBay","strip","(II)J"⟩ ∈ gT := gT_tb (tb3 (List.mem_of_getElem? (i := 80) rfl)) rfl
set_option maxRecDepth 8000 in
theorem k_561 : Cond.selects "BackBay" ⟨"BackBay","strip","(II)J"⟩ ⟨"BackBay","strip","(II)J"⟩ ∈ gT := gT_tb (tb3 (List.mem_of_getElem? (i := 81) rfl)) rfl
set_option maxRecDepth 8000 in
theorem k_562 : Cond.code ⟨"BackBay","strip","(II)J"⟩ prog_1_method_11_code 4 (some .long) ∈ gT := gT_tb (tb3 (List.mem_of_getElem? (i := 82) rfl)) rfl
set_option maxRecDepth 8000 in
theorem k_563 : Cond.methodLink "BackBay" 176 ⟨"BackBay$Bay","has","(I)Z"⟩ ∈ gT := gT_tb (tb3 (List.mem_of_getElem? (i := 83) rfl)) rfl
set_option maxRecDepth 8000 in
theorem k_564 : Cond.instanceMethod ⟨"BackBay$Bay","has","(I)Z"⟩ ∈ gT := gT_tb (tb3 (List.mem_of_getElem? (i := 84) rfl)) rfl
set_option maxRecDepth 8000 in
theorem k_565 : Cond.selects "BackBay$Bay" ⟨"BackBay$Bay","has","(I)Z"⟩ ⟨"BackBay$Bay","has","(I)Z"⟩ ∈ gT := gT_tb (tb3 (List.mem_of_getElem? (i := 85) rfl)) rfl
set_option maxRecDepth 8000 in
theorem k_566 : Cond.code ⟨"BackBay$Bay","has","(I)Z"⟩ prog_3_method_3_code 2 (some .boolean) ∈ gT := gT_tb (tb3 (List.mem_of_getElem? (i := 86) rfl)) rfl
set_option maxRecDepth 8000 in
theorem k_568 : Cond.methodLink "BackBayLaw" 62 ⟨"BackBay","edge","(II)J"⟩ ∈ gT := gT_tb (tb3 (List.mem_of_getElem? (i := 88) rfl)) rfl
set_option maxRecDepth 8000 in
theorem k_569 : Cond.instanceMethod ⟨"BackBay","edge","(II)J"⟩ ∈ gT := gT_tb (tb3 (List.mem_of_getElem? (i := 89) rfl)) rfl
set_option maxRecDepth 8000 in
theorem k_570 : Cond.selects "BackBay" ⟨"BackBay","edge","(II)J"⟩ ⟨"BackBay","edge","(II)J"⟩ ∈ gT := gT_tb (tb3 (List.mem_of_getElem? (i := 90) rfl)) rfl
set_option maxRecDepth 8000 in
theorem k_571 : Cond.code ⟨"BackBay","edge","(II)J"⟩ prog_1_method_12_code 4 (some .long) ∈ gT := gT_tb (tb3 (List.mem_of_getElem? (i := 91) rfl)) rfl
set_option maxRecDepth 8000 in
theorem k_572 : Cond.methodLink "BackBayLaw" 66 ⟨"BackBay","cell","(II)J"⟩ ∈ gT := gT_tb (tb3 (List.mem_of_getElem? (i := 92) rfl)) rfl
set_option maxRecDepth 8000 in
theorem k_573 : Cond.instanceMethod ⟨"BackBay","cell","(II)J"⟩ ∈ gT := gT_tb (tb3 (List.mem_of_getElem? (i := 93) rfl)) rfl
set_option maxRecDepth 8000 in
theorem k_574 : Cond.selects "BackBay" ⟨"BackBay","cell","(II)J"⟩ ⟨"BackBay","cell","(II)J"⟩ ∈ gT := gT_tb (tb3 (List.mem_of_getElem? (i := 94) rfl)) rfl
set_option maxRecDepth 8000 in
theorem k_575 : Cond.code ⟨"BackBay","cell","(II)J"⟩ prog_1_method_13_code 3 (some .long) ∈ gT := gT_tb (tb3 (List.mem_of_getElem? (i := 95) rfl)) rfl
set_option maxRecDepth 8000 in
theorem k_576 : Cond.methodLink "BackBay" 184 ⟨"BackBay$Course","run","(LBackBay$Stencils;[II)V"⟩ ∈ gT := gT_tb (tb3 (List.mem_of_getElem? (i := 96) rfl)) rfl
set_option maxRecDepth 8000 in
theorem k_577 : Cond.instanceMethod ⟨"BackBay$Course","run","(LBackBay$Stencils;[II)V"⟩ ∈ gT := gT_tb (tb3 (List.mem_of_getElem? (i := 97) rfl)) rfl
set_option maxRecDepth 8000 in
theorem k_578 : Cond.selects "BackBay$Course" ⟨"BackBay$Course","run","(LBackBay$Stencils;[II)V"⟩ ⟨"BackBay$Course","run","(LBackBay$Stencils;[II)V"⟩ ∈ gT := gT_tb (tb3 (List.mem_of_getElem? (i := 98) rfl)) rfl
set_option maxRecDepth 8000 in
theorem k_579 : Cond.code ⟨"BackBay$Course","run","(LBackBay$Stencils;[II)V"⟩ prog_4_method_2_code 8 none ∈ gT := gT_tb (tb3 (List.mem_of_getElem? (i := 99) rfl)) rfl
set_option maxRecDepth 8000 in
theorem k_580 : Cond.methodLink "BackBay$Course" 39 ⟨"java/lang/System","arraycopy","(Ljava/lang/Object;ILjava/lang/Object;II)V"⟩ ∈ gT := gT_tb (tb3 (List.mem_of_getElem? (i := 100) rfl)) rfl
set_option maxRecDepth 8000 in
theorem k_581 : Cond.methodLink "BackBay$Course" 45 ⟨"BackBay$Course","workOut","(LBackBay$Stencils;[IIII)I"⟩ ∈ gT := gT_tb (tb3 (List.mem_of_getElem? (i := 101) rfl)) rfl
set_option maxRecDepth 8000 in
theorem k_582 : Cond.instanceMethod ⟨"BackBay$Course","workOut","(LBackBay$Stencils;[IIII)I"⟩ ∈ gT := gT_tb (tb3 (List.mem_of_getElem? (i := 102) rfl)) rfl
set_option maxRecDepth 8000 in
theorem k_583 : Cond.selects "BackBay$Course" ⟨"BackBay$Course","workOut","(LBackBay$Stencils;[IIII)I"⟩ ⟨"BackBay$Course","workOut","(LBackBay$Stencils;[IIII)I"⟩ ∈ gT := gT_tb (tb3 (List.mem_of_getElem? (i := 103) rfl)) rfl
set_option maxRecDepth 8000 in
theorem k_584 : Cond.code ⟨"BackBay$Course","workOut","(LBackBay$Stencils;[IIII)I"⟩ prog_4_method_4_code 9 (some .int) ∈ gT := gT_tb (tb3 (List.mem_of_getElem? (i := 104) rfl)) rfl
set_option maxRecDepth 8000 in
theorem k_585 : Cond.methodLink "BackBay$Course" 52 ⟨"BackBay$Desk","workOut","(LBackBay$Stencils;IIIII)I"⟩ ∈ gT := gT_tb (tb3 (List.mem_of_getElem? (i := 105) rfl)) rfl
set_option maxRecDepth 8000 in
theorem k_586 : Cond.instanceMethod ⟨"BackBay$Desk","workOut","(LBackBay$Stencils;IIIII)I"⟩ ∈ gT := gT_tb (tb3 (List.mem_of_getElem? (i := 106) rfl)) rfl
set_option maxRecDepth 8000 in
theorem k_587 : Cond.selects "BackBay$Desk" ⟨"BackBay$Desk","workOut","(LBackBay$Stencils;IIIII)I"⟩ ⟨"BackBay$Desk","workOut","(LBackBay$Stencils;IIIII)I"⟩ ∈ gT := gT_tb (tb3 (List.mem_of_getElem? (i := 107) rfl)) rfl
set_option maxRecDepth 8000 in
theorem k_588 : Cond.code ⟨"BackBay$Desk","workOut","(LBackBay$Stencils;IIIII)I"⟩ prog_5_method_2_code 9 (some .int) ∈ gT := gT_tb (tb3 (List.mem_of_getElem? (i := 108) rfl)) rfl
set_option maxRecDepth 8000 in
theorem k_589 : Cond.methodLink "BackBay$Desk" 33 ⟨"BackBay$Desk","worthOf","(LBackBay$Stencils;I)I"⟩ ∈ gT := gT_tb (tb3 (List.mem_of_getElem? (i := 109) rfl)) rfl
set_option maxRecDepth 8000 in
theorem k_591 : Cond.instanceMethod ⟨"BackBay$Desk","worthOf","(LBackBay$Stencils;I)I"⟩ ∈ gT := gT_tb (tb3 (List.mem_of_getElem? (i := 111) rfl)) rfl
set_option maxRecDepth 8000 in
theorem k_592 : Cond.code ⟨"BackBay$Desk","worthOf","(LBackBay$Stencils;I)I"⟩ prog_5_method_3_code 4 (some .int) ∈ gT := gT_tb (tb3 (List.mem_of_getElem? (i := 112) rfl)) rfl
set_option maxRecDepth 8000 in
theorem k_593 : Cond.methodLink "BackBay$Desk" 46 ⟨"BackBay$Desk","taken","(LBackBay$Stencils;I)I"⟩ ∈ gT := gT_tb (tb3 (List.mem_of_getElem? (i := 113) rfl)) rfl
set_option maxRecDepth 8000 in
theorem k_595 : Cond.instanceMethod ⟨"BackBay$Desk","taken","(LBackBay$Stencils;I)I"⟩ ∈ gT := gT_tb (tb3 (List.mem_of_getElem? (i := 115) rfl)) rfl
set_option maxRecDepth 8000 in
theorem k_596 : Cond.code ⟨"BackBay$Desk","taken","(LBackBay$Stencils;I)I"⟩ prog_5_method_4_code 6 (some .int) ∈ gT := gT_tb (tb3 (List.mem_of_getElem? (i := 116) rfl)) rfl
set_option maxRecDepth 8000 in
theorem k_597 : Cond.methodLink "BackBay" 188 ⟨"BackBay$Course","behind","(II)I"⟩ ∈ gT := gT_tb (tb3 (List.mem_of_getElem? (i := 117) rfl)) rfl
set_option maxRecDepth 8000 in
theorem k_598 : Cond.instanceMethod ⟨"BackBay$Course","behind","(II)I"⟩ ∈ gT := gT_tb (tb3 (List.mem_of_getElem? (i := 118) rfl)) rfl
set_option maxRecDepth 8000 in
theorem k_599 : Cond.selects "BackBay$Course" ⟨"BackBay$Course","behind","(II)I"⟩ ⟨"BackBay$Course","behind","(II)I"⟩ ∈ gT := gT_tb (tb3 (List.mem_of_getElem? (i := 119) rfl)) rfl
set_option maxRecDepth 8000 in
theorem k_600 : Cond.code ⟨"BackBay$Course","behind","(II)I"⟩ prog_4_method_3_code 3 (some .int) ∈ gT := gT_tb (tb3 (List.mem_of_getElem? (i := 120) rfl)) rfl
set_option maxRecDepth 8000 in
theorem k_601 : Cond.methodLink "BackBayLaw" 70 ⟨"BackBay","gauge","(IIII)J"⟩ ∈ gT := gT_tb (tb3 (List.mem_of_getElem? (i := 121) rfl)) rfl
set_option maxRecDepth 8000 in
theorem k_602 : Cond.instanceMethod ⟨"BackBay","gauge","(IIII)J"⟩ ∈ gT := gT_tb (tb3 (List.mem_of_getElem? (i := 122) rfl)) rfl
set_option maxRecDepth 8000 in
theorem k_603 : Cond.selects "BackBay" ⟨"BackBay","gauge","(IIII)J"⟩ ⟨"BackBay","gauge","(IIII)J"⟩ ∈ gT := gT_tb (tb3 (List.mem_of_getElem? (i := 123) rfl)) rfl
set_option maxRecDepth 8000 in
theorem k_604 : Cond.code ⟨"BackBay","gauge","(IIII)J"⟩ prog_1_method_14_code 5 (some .long) ∈ gT := gT_tb (tb3 (List.mem_of_getElem? (i := 124) rfl)) rfl
set_option maxRecDepth 8000 in
theorem k_605 : Cond.methodLink "BackBay" 192 ⟨"BackBay$Gauges","add","(IIII)V"⟩ ∈ gT := gT_tb (tb3 (List.mem_of_getElem? (i := 125) rfl)) rfl
set_option maxRecDepth 8000 in
theorem k_606 : Cond.instanceMethod ⟨"BackBay$Gauges","add","(IIII)V"⟩ ∈ gT := gT_tb (tb3 (List.mem_of_getElem? (i := 126) rfl)) rfl
set_option maxRecDepth 8000 in
theorem k_607 : Cond.selects "BackBay$Gauges" ⟨"BackBay$Gauges","add","(IIII)V"⟩ ⟨"BackBay$Gauges","add","(IIII)V"⟩ ∈ gT := gT_tb (tb3 (List.mem_of_getElem? (i := 127) rfl)) rfl
set_option maxRecDepth 8000 in
theorem k_608 : Cond.code ⟨"BackBay$Gauges","add","(IIII)V"⟩ prog_6_method_2_code 5 none ∈ gT := gT_tb (tb3 (List.mem_of_getElem? (i := 128) rfl)) rfl
set_option maxRecDepth 8000 in
theorem k_609 : Cond.methodLink "BackBayLaw" 75 ⟨"BackBay","out","(II)J"⟩ ∈ gT := gT_tb (tb3 (List.mem_of_getElem? (i := 129) rfl)) rfl
set_option maxRecDepth 8000 in
theorem k_610 : Cond.instanceMethod ⟨"BackBay","out","(II)J"⟩ ∈ gT := gT_tb (tb3 (List.mem_of_getElem? (i := 130) rfl)) rfl
set_option maxRecDepth 8000 in
theorem k_611 : Cond.selects "BackBay" ⟨"BackBay","out","(II)J"⟩ ⟨"BackBay","out","(II)J"⟩ ∈ gT := gT_tb (tb3 (List.mem_of_getElem? (i := 131) rfl)) rfl
set_option maxRecDepth 8000 in
theorem k_612 : Cond.code ⟨"BackBay","out","(II)J"⟩ prog_1_method_15_code 3 (some .long) ∈ gT := gT_tb (tb3 (List.mem_of_getElem? (i := 132) rfl)) rfl
set_option maxRecDepth 8000 in
theorem k_613 : Cond.methodLink "BackBayLaw" 79 ⟨"BackBay","wish","(I)J"⟩ ∈ gT := gT_tb (tb3 (List.mem_of_getElem? (i := 133) rfl)) rfl
set_option maxRecDepth 8000 in
theorem k_614 : Cond.instanceMethod ⟨"BackBay","wish","(I)J"⟩ ∈ gT := gT_tb (tb3 (List.mem_of_getElem? (i := 134) rfl)) rfl
set_option maxRecDepth 8000 in
theorem k_615 : Cond.selects "BackBay" ⟨"BackBay","wish","(I)J"⟩ ⟨"BackBay","wish","(I)J"⟩ ∈ gT := gT_tb (tb3 (List.mem_of_getElem? (i := 135) rfl)) rfl
set_option maxRecDepth 8000 in
theorem k_616 : Cond.code ⟨"BackBay","wish","(I)J"⟩ prog_1_method_16_code 2 (some .long) ∈ gT := gT_tb (tb3 (List.mem_of_getElem? (i := 136) rfl)) rfl
set_option maxRecDepth 8000 in
theorem k_617 : Cond.methodLink "BackBay" 199 ⟨"BackBay","wishNow","()I"⟩ ∈ gT := gT_tb (tb3 (List.mem_of_getElem? (i := 137) rfl)) rfl
set_option maxRecDepth 8000 in
theorem k_619 : Cond.instanceMethod ⟨"BackBay","wishNow","()I"⟩ ∈ gT := gT_tb (tb3 (List.mem_of_getElem? (i := 139) rfl)) rfl
set_option maxRecDepth 8000 in
theorem k_620 : Cond.code ⟨"BackBay","wishNow","()I"⟩ prog_1_method_36_code 1 (some .int) ∈ gT := gT_tb (tb3 (List.mem_of_getElem? (i := 140) rfl)) rfl
set_option maxRecDepth 8000 in
theorem k_621 : Cond.methodLink "BackBay" 223 ⟨"BackBay","wishWith","(II)I"⟩ ∈ gT := gT_tb (tb3 (List.mem_of_getElem? (i := 141) rfl)) rfl
set_option maxRecDepth 8000 in
theorem k_623 : Cond.instanceMethod ⟨"BackBay","wishWith","(II)I"⟩ ∈ gT := gT_tb (tb3 (List.mem_of_getElem? (i := 143) rfl)) rfl
set_option maxRecDepth 8000 in
theorem k_624 : Cond.code ⟨"BackBay","wishWith","(II)I"⟩ prog_1_method_37_code 4 (some .int) ∈ gT := gT_tb (tb3 (List.mem_of_getElem? (i := 144) rfl)) rfl
set_option maxRecDepth 8000 in
theorem k_625 : Cond.methodLink "BackBay" 203 ⟨"BackBay$Gauges","last","(I)I"⟩ ∈ gT := gT_tb (tb3 (List.mem_of_getElem? (i := 145) rfl)) rfl
set_option maxRecDepth 8000 in
theorem k_626 : Cond.instanceMethod ⟨"BackBay$Gauges","last","(I)I"⟩ ∈ gT := gT_tb (tb3 (List.mem_of_getElem? (i := 146) rfl)) rfl
set_option maxRecDepth 8000 in
theorem k_627 : Cond.selects "BackBay$Gauges" ⟨"BackBay$Gauges","last","(I)I"⟩ ⟨"BackBay$Gauges","last","(I)I"⟩ ∈ gT := gT_tb (tb3 (List.mem_of_getElem? (i := 147) rfl)) rfl
set_option maxRecDepth 8000 in
theorem k_628 : Cond.code ⟨"BackBay$Gauges","last","(I)I"⟩ prog_6_method_4_code 4 (some .int) ∈ gT := gT_tb (tb3 (List.mem_of_getElem? (i := 148) rfl)) rfl
set_option maxRecDepth 8000 in
theorem k_629 : Cond.methodLink "BackBay$Gauges" 32 ⟨"BackBay$Gauges","counts","(II)Z"⟩ ∈ gT := gT_tb (tb3 (List.mem_of_getElem? (i := 149) rfl)) rfl
set_option maxRecDepth 8000 in
theorem k_631 : Cond.instanceMethod ⟨"BackBay$Gauges","counts","(II)Z"⟩ ∈ gT := gT_tb (tb3 (List.mem_of_getElem? (i := 151) rfl)) rfl
set_option maxRecDepth 8000 in
theorem k_632 : Cond.code ⟨"BackBay$Gauges","counts","(II)Z"⟩ prog_6_method_7_code 3 (some .boolean) ∈ gT := gT_tb (tb3 (List.mem_of_getElem? (i := 152) rfl)) rfl
set_option maxRecDepth 8000 in
theorem k_633 : Cond.methodLink "BackBay$Gauges" 36 ⟨"java/lang/Math","max","(II)I"⟩ ∈ gT := gT_tb (tb3 (List.mem_of_getElem? (i := 153) rfl)) rfl
set_option maxRecDepth 8000 in
theorem k_634 : Cond.static ⟨"java/lang/Math","max","(II)I"⟩ ∈ gT := gT_tb (tb3 (List.mem_of_getElem? (i := 154) rfl)) rfl
set_option maxRecDepth 8000 in
theorem k_635 : Cond.code ⟨"java/lang/Math","max","(II)I"⟩ prog_15_method_65_code 2 (some .int) ∈ gT := gT_tb (tb3 (List.mem_of_getElem? (i := 155) rfl)) rfl
set_option maxRecDepth 8000 in
theorem k_636 : Cond.methodLink "BackBay" 297 ⟨"BackBay$Gauges","total","(LBackBay$Course;I)I"⟩ ∈ gT := gT_tb (tb3 (List.mem_of_getElem? (i := 156) rfl)) rfl
set_option maxRecDepth 8000 in
theorem k_637 : Cond.instanceMethod ⟨"BackBay$Gauges","total","(LBackBay$Course;I)I"⟩ ∈ gT := gT_tb (tb3 (List.mem_of_getElem? (i := 157) rfl)) rfl
set_option maxRecDepth 8000 in
theorem k_638 : Cond.selects "BackBay$Gauges" ⟨"BackBay$Gauges","total","(LBackBay$Course;I)I"⟩ ⟨"BackBay$Gauges","total","(LBackBay$Course;I)I"⟩ ∈ gT := gT_tb (tb3 (List.mem_of_getElem? (i := 158) rfl)) rfl
set_option maxRecDepth 8000 in
theorem k_639 : Cond.code ⟨"BackBay$Gauges","total","(LBackBay$Course;I)I"⟩ prog_6_method_5_code 6 (some .int) ∈ gT := gT_tb (tb3 (List.mem_of_getElem? (i := 159) rfl)) rfl
set_option maxRecDepth 8000 in
theorem k_640 : Cond.methodLink "BackBay$Gauges" 42 ⟨"BackBay$Gauges","offBy","(ILBackBay$Course;)I"⟩ ∈ gT := gT_tb (tb3 (List.mem_of_getElem? (i := 160) rfl)) rfl
set_option maxRecDepth 8000 in
theorem k_642 : Cond.instanceMethod ⟨"BackBay$Gauges","offBy","(ILBackBay$Course;)I"⟩ ∈ gT := gT_tb (tb3 (List.mem_of_getElem? (i := 162) rfl)) rfl
set_option maxRecDepth 8000 in
theorem k_643 : Cond.code ⟨"BackBay$Gauges","offBy","(ILBackBay$Course;)I"⟩ prog_6_method_8_code 3 (some .int) ∈ gT := gT_tb (tb3 (List.mem_of_getElem? (i := 163) rfl)) rfl
set_option maxRecDepth 8000 in
theorem k_644 : Cond.methodLink "BackBay$Gauges" 46 ⟨"BackBay$Course","behind","(II)I"⟩ ∈ gT := gT_tb (tb3 (List.mem_of_getElem? (i := 164) rfl)) rfl
set_option maxRecDepth 8000 in
theorem k_645 : Cond.methodLink "BackBay" 207 ⟨"BackBay","knotsNow","()I"⟩ ∈ gT := gT_tb (tb3 (List.mem_of_getElem? (i := 165) rfl)) rfl
set_option maxRecDepth 8000 in
theorem k_647 : Cond.instanceMethod ⟨"BackBay","knotsNow","()I"⟩ ∈ gT := gT_tb (tb3 (List.mem_of_getElem? (i := 167) rfl)) rfl
set_option maxRecDepth 8000 in
theorem k_648 : Cond.code ⟨"BackBay","knotsNow","()I"⟩ prog_1_method_38_code 2 (some .int) ∈ gT := gT_tb (tb3 (List.mem_of_getElem? (i := 168) rfl)) rfl
set_option maxRecDepth 8000 in
theorem k_649 : Cond.methodLink "BackBay" 301 ⟨"BackBay$Course","knots","(LBackBay$Stencils;[II)I"⟩ ∈ gT := gT_tb (tb3 (List.mem_of_getElem? (i := 169) rfl)) rfl
set_option maxRecDepth 8000 in
theorem k_650 : Cond.instanceMethod ⟨"BackBay$Course","knots","(LBackBay$Stencils;[II)I"⟩ ∈ gT := gT_tb (tb3 (List.mem_of_getElem? (i := 170) rfl)) rfl
set_option maxRecDepth 8000 in
theorem k_651 : Cond.selects "BackBay$Course" ⟨"BackBay$Course","knots","(LBackBay$Stencils;[II)I"⟩ ⟨"BackBay$Course","knots","(LBackBay$Stencils;[II)I"⟩ ∈ gT := gT_tb (tb3 (List.mem_of_getElem? (i := 171) rfl)) rfl
set_option maxRecDepth 8000 in
theorem k_652 : Cond.code ⟨"BackBay$Course","knots","(LBackBay$Stencils;[II)I"⟩ prog_4_method_5_code 9 (some .int) ∈ gT := gT_tb (tb3 (List.mem_of_getElem? (i := 172) rfl)) rfl
set_option maxRecDepth 8000 in
theorem k_653 : Cond.methodLink "BackBay$Course" 57 ⟨"BackBay$Desk","knots","(LBackBay$Stencils;I)I"⟩ ∈ gT := gT_tb (tb3 (List.mem_of_getElem? (i := 173) rfl)) rfl
set_option maxRecDepth 8000 in
theorem k_654 : Cond.instanceMethod ⟨"BackBay$Desk","knots","(LBackBay$Stencils;I)I"⟩ ∈ gT := gT_tb (tb3 (List.mem_of_getElem? (i := 174) rfl)) rfl
set_option maxRecDepth 8000 in
theorem k_655 : Cond.selects "BackBay$Desk" ⟨"BackBay$Desk","knots","(LBackBay$Stencils;I)I"⟩ ⟨"BackBay$Desk","knots","(LBackBay$Stencils;I)I"⟩ ∈ gT := gT_tb (tb3 (List.mem_of_getElem? (i := 175) rfl)) rfl
set_option maxRecDepth 8000 in
theorem k_656 : Cond.code ⟨"BackBay$Desk","knots","(LBackBay$Stencils;I)I"⟩ prog_5_method_7_code 8 (some .int) ∈ gT := gT_tb (tb3 (List.mem_of_getElem? (i := 176) rfl)) rfl
set_option maxRecDepth 8000 in
theorem k_657 : Cond.methodLink "BackBayLaw" 83 ⟨"BackBay","slope","(II)J"⟩ ∈ gT := gT_tb (tb3 (List.mem_of_getElem? (i := 177) rfl)) rfl
set_option maxRecDepth 8000 in
theorem k_658 : Cond.instanceMethod ⟨"BackBay","slope","(II)J"⟩ ∈ gT := gT_tb (tb3 (List.mem_of_getElem? (i := 178) rfl)) rfl
set_option maxRecDepth 8000 in
theorem k_659 : Cond.selects "BackBay" ⟨"BackBay","slope","(II)J"⟩ ⟨"BackBay","slope","(II)J"⟩ ∈ gT := gT_tb (tb3 (List.mem_of_getElem? (i := 179) rfl)) rfl
set_option maxRecDepth 8000 in
theorem k_660 : Cond.code ⟨"BackBay","slope","(II)J"⟩ prog_1_method_17_code 4 (some .long) ∈ gT := gT_tb (tb3 (List.mem_of_getElem? (i := 180) rfl)) rfl
set_option maxRecDepth 8000 in
theorem k_661 : Cond.methodLink "BackBay" 210 ⟨"BackBay$Slopes","goBack","(LBackBay$Stencils;LBackBay$Bay;LBackBay$Gauges;LBackBay$Course;)V"⟩ ∈ gT := gT_tb (tb3 (List.mem_of_getElem? (i := 181) rfl)) rfl
set_option maxRecDepth 8000 in
theorem k_662 : Cond.instanceMethod ⟨"BackBay$Slopes","goBack","(LBackBay$Stencils;LBackBay$Bay;LBackBay$Gauges;LBackBay$Course;)V"⟩ ∈ gT := gT_tb (tb3 (List.mem_of_getElem? (i := 182) rfl)) rfl
set_option maxRecDepth 8000 in
theorem k_663 : Cond.selects "BackBay$Slopes" ⟨"BackBay$Slopes","goBack","(LBackBay$Stencils;LBackBay$Bay;LBackBay$Gauges;LBackBay$Course;)V"⟩ ⟨"BackBay$Slopes","goBack","(LBackBay$Stencils;LBackBay$Bay;LBackBay$Gauges;LBackBay$Course;)V"⟩ ∈ gT := gT_tb (tb3 (List.mem_of_getElem? (i := 183) rfl)) rfl
set_option maxRecDepth 8000 in
theorem k_664 : Cond.code ⟨"BackBay$Slopes","goBack","(LBackBay$Stencils;LBackBay$Bay;LBackBay$Gauges;LBackBay$Course;)V"⟩ prog_9_method_2_code 9 none ∈ gT := gT_tb (tb3 (List.mem_of_getElem? (i := 184) rfl)) rfl
set_option maxRecDepth 8000 in
theorem k_665 : Cond.methodLink "BackBay$Slopes" 24 ⟨"java/util/Arrays","fill","([II)V"⟩ ∈ gT := gT_tb (tb3 (List.mem_of_getElem? (i := 185) rfl)) rfl
set_option maxRecDepth 8000 in
theorem k_666 : Cond.methodLink "BackBay$Slopes" 36 ⟨"BackBay$Gauges","last","(I)I"⟩ ∈ gT := gT_tb (tb3 (List.mem_of_getElem? (i := 186) rfl)) rfl
set_option maxRecDepth 8000 in
theorem k_667 : Cond.methodLink "BackBay$Slopes" 47 ⟨"BackBay$Gauges","addSlopes","(ILBackBay$Course;I[I)V"⟩ ∈ gT := gT_tb (tb3 (List.mem_of_getElem? (i := 187) rfl)) rfl
set_option maxRecDepth 8000 in
theorem k_668 : Cond.instanceMethod ⟨"BackBay$Gauges","addSlopes","(ILBackBay$Course;I[I)V"⟩ ∈ gT := gT_tb (tb3 (List.mem_of_getElem? (i := 188) rfl)) rfl
set_option maxRecDepth 8000 in
theorem k_669 : Cond.selects "BackBay$Gauges" ⟨"BackBay$Gauges","addSlopes","(ILBackBay$Course;I[I)V"⟩ ⟨"BackBay$Gauges","addSlopes","(ILBackBay$Course;I[I)V"⟩ ∈ gT := gT_tb (tb3 (List.mem_of_getElem? (i := 189) rfl)) rfl
set_option maxRecDepth 8000 in
theorem k_670 : Cond.code ⟨"BackBay$Gauges","addSlopes","(ILBackBay$Course;I[I)V"⟩ prog_6_method_6_code 6 none ∈ gT := gT_tb (tb3 (List.mem_of_getElem? (i := 190) rfl)) rfl
set_option maxRecDepth 8000 in
theorem k_671 : Cond.methodLink "BackBay$Slopes" 51 ⟨"BackBay$Slopes","goBackOver","(LBackBay$Stencils;LBackBay$Bay;LBackBay$Course;II)V"⟩ ∈ gT := gT_tb (tb3 (List.mem_of_getElem? (i := 191) rfl)) rfl
set_option maxRecDepth 8000 in
theorem k_673 : Cond.instanceMethod ⟨"BackBay$Slopes","goBackOver","(LBackBay$Stencils;LBackBay$Bay;LBackBay$Course;II)V"⟩ ∈ gT := gT_tb (tb3 (List.mem_of_getElem? (i := 193) rfl)) rfl
set_option maxRecDepth 8000 in
theorem k_674 : Cond.code ⟨"BackBay$Slopes","goBackOver","(LBackBay$Stencils;LBackBay$Bay;LBackBay$Course;II)V"⟩ prog_9_method_3_code 7 none ∈ gT := gT_tb (tb3 (List.mem_of_getElem? (i := 194) rfl)) rfl
set_option maxRecDepth 8000 in
theorem k_675 : Cond.methodLink "BackBay$Slopes" 58 ⟨"BackBay$Course","workOut","(LBackBay$Stencils;[IIII)I"⟩ ∈ gT := gT_tb (tb3 (List.mem_of_getElem? (i := 195) rfl)) rfl
set_option maxRecDepth 8000 in
theorem k_676 : Cond.methodLink "BackBay$Slopes" 68 ⟨"BackBay$Desk","goBack","(LBackBay$Stencils;II)V"⟩ ∈ gT := gT_tb (tb3 (List.mem_of_getElem? (i := 196) rfl)) rfl
set_option maxRecDepth 8000 in
theorem k_677 : Cond.instanceMethod ⟨"BackBay$Desk","goBack","(LBackBay$Stencils;II)V"⟩ ∈ gT := gT_tb (tb3 (List.mem_of_getElem? (i := 197) rfl)) rfl
set_option maxRecDepth 8000 in
theorem k_678 : Cond.selects "BackBay$Desk" ⟨"BackBay$Desk","goBack","(LBackBay$Stencils;II)V"⟩ ⟨"BackBay$Desk","goBack","(LBackBay$Stencils;II)V"⟩ ∈ gT := gT_tb (tb3 (List.mem_of_getElem? (i := 198) rfl)) rfl
set_option maxRecDepth 8000 in
theorem k_679 : Cond.code ⟨"BackBay$Desk","goBack","(LBackBay$Stencils;II)V"⟩ prog_5_method_5_code 7 none ∈ gT := gT_tb (tb3 (List.mem_of_getElem? (i := 199) rfl)) rfl
set_option maxRecDepth 8000 in
theorem k_680 : Cond.methodLink "BackBay$Desk" 55 ⟨"java/util/Arrays","fill","([II)V"⟩ ∈ gT := gT_tb (tb3 (List.mem_of_getElem? (i := 200) rfl)) rfl
set_option maxRecDepth 8000 in
theorem k_681 : Cond.methodLink "BackBay$Desk" 61 ⟨"BackBay$Desk","handDown","(LBackBay$Stencils;I)V"⟩ ∈ gT := gT_tb (tb3 (List.mem_of_getElem? (i := 201) rfl)) rfl
set_option maxRecDepth 8000 in
theorem k_683 : Cond.instanceMethod ⟨"BackBay$Desk","handDown","(LBackBay$Stencils;I)V"⟩ ∈ gT := gT_tb (tb3 (List.mem_of_getElem? (i := 203) rfl)) rfl
set_option maxRecDepth 8000 in
theorem k_684 : Cond.code ⟨"BackBay$Desk","handDown","(LBackBay$Stencils;I)V"⟩ prog_5_method_6_code 7 none ∈ gT := gT_tb (tb3 (List.mem_of_getElem? (i := 204) rfl)) rfl
set_option maxRecDepth 8000 in
theorem k_685 : Cond.methodLink "BackBay$Slopes" 77 ⟨"BackBay$Slopes","handOut","([III)V"⟩ ∈ gT := gT_tb (tb3 (List.mem_of_getElem? (i := 205) rfl)) rfl
set_option maxRecDepth 8000 in
theorem k_687 : Cond.instanceMethod ⟨"BackBay$Slopes","handOut","([III)V"⟩ ∈ gT := gT_tb (tb3 (List.mem_of_getElem? (i := 207) rfl)) rfl
set_option maxRecDepth 8000 in
theorem k_688 : Cond.code ⟨"BackBay$Slopes","handOut","([III)V"⟩ prog_9_method_4_code 4 none ∈ gT := gT_tb (tb3 (List.mem_of_getElem? (i := 208) rfl)) rfl
set_option maxRecDepth 8000 in
theorem k_689 : Cond.methodLink "BackBay$Slopes" 81 ⟨"java/lang/System","arraycopy","(Ljava/lang/Object;ILjava/lang/Object;II)V"⟩ ∈ gT := gT_tb (tb3 (List.mem_of_getElem? (i := 209) rfl)) rfl
set_option maxRecDepth 8000 in
theorem k_690 : Cond.methodLink "BackBayLaw" 87 ⟨"BackBay","push","(II)J"⟩ ∈ gT := gT_tb (tb3 (List.mem_of_getElem? (i := 210) rfl)) rfl
set_option maxRecDepth 8000 in
theorem k_691 : Cond.instanceMethod ⟨"BackBay","push","(II)J"⟩ ∈ gT := gT_tb (tb3 (List.mem_of_getElem? (i := 211) rfl)) rfl
set_option maxRecDepth 8000 in
theorem k_692 : Cond.selects "BackBay" ⟨"BackBay","push","(II)J"⟩ ⟨"BackBay","push","(II)J"⟩ ∈ gT := gT_tb (tb3 (List.mem_of_getElem? (i := 212) rfl)) rfl
set_option maxRecDepth 8000 in
theorem k_693 : Cond.code ⟨"BackBay","push","(II)J"⟩ prog_1_method_18_code 3 (some .long) ∈ gT := gT_tb (tb3 (List.mem_of_getElem? (i := 213) rfl)) rfl
set_option maxRecDepth 8000 in
theorem k_694 : Cond.methodLink "BackBayLaw" 91 ⟨"BackBay","again","(III)J"⟩ ∈ gT := gT_tb (tb3 (List.mem_of_getElem? (i := 214) rfl)) rfl
set_option maxRecDepth 8000 in
theorem k_695 : Cond.instanceMethod ⟨"BackBay","again","(III)J"⟩ ∈ gT := gT_tb (tb3 (List.mem_of_getElem? (i := 215) rfl)) rfl
set_option maxRecDepth 8000 in
theorem k_696 : Cond.selects "BackBay" ⟨"BackBay","again","(III)J"⟩ ⟨"BackBay","again","(III)J"⟩ ∈ gT := gT_tb (tb3 (List.mem_of_getElem? (i := 216) rfl)) rfl
set_option maxRecDepth 8000 in
theorem k_697 : Cond.code ⟨"BackBay","again","(III)J"⟩ prog_1_method_19_code 5 (some .long) ∈ gT := gT_tb (tb3 (List.mem_of_getElem? (i := 217) rfl)) rfl
set_option maxRecDepth 8000 in
theorem k_698 : Cond.methodLink "BackBay" 226 ⟨"BackBay$Redoing","fill","()V"⟩ ∈ gT := gT_tb (tb3 (List.mem_of_getElem? (i := 218) rfl)) rfl
set_option maxRecDepth 8000 in
theorem k_699 : Cond.instanceMethod ⟨"BackBay$Redoing","fill","()V"⟩ ∈ gT := gT_tb (tb3 (List.mem_of_getElem? (i := 219) rfl)) rfl
set_option maxRecDepth 8000 in
theorem k_700 : Cond.selects "BackBay$Redoing" ⟨"BackBay$Redoing","fill","()V"⟩ ⟨"BackBay$Redoing","fill","()V"⟩ ∈ gT := gT_tb (tb3 (List.mem_of_getElem? (i := 220) rfl)) rfl
set_option maxRecDepth 8000 in
theorem k_701 : Cond.code ⟨"BackBay$Redoing","fill","()V"⟩ prog_7_method_3_code 3 none ∈ gT := gT_tb (tb3 (List.mem_of_getElem? (i := 221) rfl)) rfl
set_option maxRecDepth 8000 in
theorem k_702 : Cond.constant "BackBay$Redoing" 22 (-1000000) ∈ gT := gT_tb (tb3 (List.mem_of_getElem? (i := 222) rfl)) rfl
set_option maxRecDepth 8000 in
theorem k_703 : Cond.methodLink "BackBay$Redoing" 23 ⟨"java/util/Arrays","fill","([II)V"⟩ ∈ gT := gT_tb (tb3 (List.mem_of_getElem? (i := 223) rfl)) rfl
set_option maxRecDepth 8000 in
theorem k_704 : Cond.methodLink "BackBay$Redoing" 29 ⟨"BackBay$Redoing","at","(II)I"⟩ ∈ gT := gT_tb (tb3 (List.mem_of_getElem? (i := 224) rfl)) rfl
set_option maxRecDepth 8000 in
theorem k_705 : Cond.static ⟨"BackBay$Redoing","at","(II)I"⟩ ∈ gT := gT_tb (tb3 (List.mem_of_getElem? (i := 225) rfl)) rfl
set_option maxRecDepth 8000 in
theorem k_706 : Cond.code ⟨"BackBay$Redoing","at","(II)I"⟩ prog_7_method_2_code 2 (some .int) ∈ gT := gT_tb (tb3 (List.mem_of_getElem? (i := 226) rfl)) rfl
set_option maxRecDepth 8000 in
theorem k_707 : Cond.methodLink "BackBay$Redoing" 33 ⟨"BackBay$Redoing","fillOne","(II)V"⟩ ∈ gT := gT_tb (tb3 (List.mem_of_getElem? (i := 227) rfl)) rfl
set_option maxRecDepth 8000 in
theorem k_709 : Cond.instanceMethod ⟨"BackBay$Redoing","fillOne","(II)V"⟩ ∈ gT := gT_tb (tb3 (List.mem_of_getElem? (i := 229) rfl)) rfl
set_option maxRecDepth 8000 in
theorem k_710 : Cond.code ⟨"BackBay$Redoing","fillOne","(II)V"⟩ prog_7_method_4_code 6 none ∈ gT := gT_tb (tb3 (List.mem_of_getElem? (i := 230) rfl)) rfl
set_option maxRecDepth 8000 in
theorem k_711 : Cond.methodLink "BackBay" 229 ⟨"BackBay$Redoing","at","(II)I"⟩ ∈ gT := gT_tb (tb3 (List.mem_of_getElem? (i := 231) rfl)) rfl
set_option maxRecDepth 8000 in
theorem k_712 : Cond.methodLink "BackBayLaw" 95 ⟨"BackBay","move","()I"⟩ ∈ gT := gT_tb (tb3 (List.mem_of_getElem? (i := 232) rfl)) rfl
set_option maxRecDepth 8000 in
theorem k_713 : Cond.instanceMethod ⟨"BackBay","move","()I"⟩ ∈ gT := gT_tb (tb3 (List.mem_of_getElem? (i := 233) rfl)) rfl
set_option maxRecDepth 8000 in
theorem k_714 : Cond.selects "BackBay" ⟨"BackBay","move","()I"⟩ ⟨"BackBay","move","()I"⟩ ∈ gT := gT_tb (tb3 (List.mem_of_getElem? (i := 234) rfl)) rfl
set_option maxRecDepth 8000 in
theorem k_715 : Cond.code ⟨"BackBay","move","()I"⟩ prog_1_method_20_code 5 (some .int) ∈ gT := gT_tb (tb3 (List.mem_of_getElem? (i := 235) rfl)) rfl
set_option maxRecDepth 8000 in
theorem k_716 : Cond.methodLink "BackBay" 238 ⟨"BackBay$Slopes","steepestStrips","(I)I"⟩ ∈ gT := gT_tb (tb3 (List.mem_of_getElem? (i := 236) rfl)) rfl
set_option maxRecDepth 8000 in
theorem k_717 : Cond.instanceMethod ⟨"BackBay$Slopes","steepestStrips","(I)I"⟩ ∈ gT := gT_tb (tb3 (List.mem_of_getElem? (i := 237) rfl)) rfl
set_option maxRecDepth 8000 in
theorem k_718 : Cond.selects "BackBay$Slopes" ⟨"BackBay$Slopes","steepestStrips","(I)I"⟩ ⟨"BackBay$Slopes","steepestStrips","(I)I"⟩ ∈ gT := gT_tb (tb3 (List.mem_of_getElem? (i := 238) rfl)) rfl
set_option maxRecDepth 8000 in
theorem k_719 : Cond.code ⟨"BackBay$Slopes","steepestStrips","(I)I"⟩ prog_9_method_5_code 8 (some .int) ∈ gT := gT_tb (tb3 (List.mem_of_getElem? (i := 239) rfl)) rfl
set_option maxRecDepth 8000 in
theorem k_720 : Cond.constant "BackBay$Slopes" 87 (-1000000) ∈ gT := gT_tb (tb4 (List.mem_of_getElem? (i := 0) rfl)) rfl
set_option maxRecDepth 8000 in
theorem k_721 : Cond.methodLink "BackBay$Slopes" 88 ⟨"java/lang/Math","abs","(J)J"⟩ ∈ gT := gT_tb (tb4 (List.mem_of_getElem? (i := 1) rfl)) rfl
set_option maxRecDepth 8000 in
theorem k_722 : Cond.static ⟨"java/lang/Math","abs","(J)J"⟩ ∈ gT := gT_tb (tb4 (List.mem_of_getElem? (i := 2) rfl)) rfl
set_option maxRecDepth 8000 in
theorem k_723 : Cond.code ⟨"java/lang/Math","abs","(J)J"⟩ prog_15_method_61_code 2 (some .long) ∈ gT := gT_tb (tb4 (List.mem_of_getElem? (i := 3) rfl)) rfl
set_option maxRecDepth 8000 in
theorem k_724 : Cond.constant "BackBay" 241 (-1000000) ∈ gT := gT_tb (tb4 (List.mem_of_getElem? (i := 4) rfl)) rfl
set_option maxRecDepth 8000 in
theorem k_725 : Cond.methodLink "BackBay" 242 ⟨"BackBay","helps","(III)Z"⟩ ∈ gT := gT_tb (tb4 (List.mem_of_getElem? (i := 5) rfl)) rfl
set_option maxRecDepth 8000 in
theorem k_727 : Cond.instanceMethod ⟨"BackBay","helps","(III)Z"⟩ ∈ gT := gT_tb (tb4 (List.mem_of_getElem? (i := 7) rfl)) rfl
set_option maxRecDepth 8000 in
theorem k_728 : Cond.code ⟨"BackBay","helps","(III)Z"⟩ prog_1_method_39_code 4 (some .boolean) ∈ gT := gT_tb (tb4 (List.mem_of_getElem? (i := 8) rfl)) rfl
set_option maxRecDepth 8000 in
theorem k_729 : Cond.methodLink "BackBayLaw" 99 ⟨"BackBay","rest","()I"⟩ ∈ gT := gT_tb (tb4 (List.mem_of_getElem? (i := 9) rfl)) rfl
set_option maxRecDepth 8000 in
theorem k_730 : Cond.instanceMethod ⟨"BackBay","rest","()I"⟩ ∈ gT := gT_tb (tb4 (List.mem_of_getElem? (i := 10) rfl)) rfl
set_option maxRecDepth 8000 in
theorem k_731 : Cond.selects "BackBay" ⟨"BackBay","rest","()I"⟩ ⟨"BackBay","rest","()I"⟩ ∈ gT := gT_tb (tb4 (List.mem_of_getElem? (i := 11) rfl)) rfl
set_option maxRecDepth 8000 in
theorem k_732 : Cond.code ⟨"BackBay","rest","()I"⟩ prog_1_method_21_code 3 (some .int) ∈ gT := gT_tb (tb4 (List.mem_of_getElem? (i := 12) rfl)) rfl
set_option maxRecDepth 8000 in
theorem k_733 : Cond.methodLink "BackBayLaw" 103 ⟨"BackBay","keep","()J"⟩ ∈ gT := gT_tb (tb4 (List.mem_of_getElem? (i := 13) rfl)) rfl
set_option maxRecDepth 8000 in
theorem k_734 : Cond.instanceMethod ⟨"BackBay","keep","()J"⟩ ∈ gT := gT_tb (tb4 (List.mem_of_getElem? (i := 14) rfl)) rfl
set_option maxRecDepth 8000 in
theorem k_735 : Cond.selects "BackBay" ⟨"BackBay","keep","()J"⟩ ⟨"BackBay","keep","()J"⟩ ∈ gT := gT_tb (tb4 (List.mem_of_getElem? (i := 15) rfl)) rfl
set_option maxRecDepth 8000 in
theorem k_736 : Cond.code ⟨"BackBay","keep","()J"⟩ prog_1_method_22_code 1 (some .long) ∈ gT := gT_tb (tb4 (List.mem_of_getElem? (i := 16) rfl)) rfl
set_option maxRecDepth 8000 in
theorem k_737 : Cond.methodLink "BackBay" 246 ⟨"BackBay$Strippings","add","(LBackBay$Bay;)V"⟩ ∈ gT := gT_tb (tb4 (List.mem_of_getElem? (i := 17) rfl)) rfl
set_option maxRecDepth 8000 in
theorem k_738 : Cond.instanceMethod ⟨"BackBay$Strippings","add","(LBackBay$Bay;)V"⟩ ∈ gT := gT_tb (tb4 (List.mem_of_getElem? (i := 18) rfl)) rfl
set_option maxRecDepth 8000 in
theorem k_739 : Cond.selects "BackBay$Strippings" ⟨"BackBay$Strippings","add","(LBackBay$Bay;)V"⟩ ⟨"BackBay$Strippings","add","(LBackBay$Bay;)V"⟩ ∈ gT := gT_tb (tb4 (List.mem_of_getElem? (i := 19) rfl)) rfl
set_option maxRecDepth 8000 in
theorem k_740 : Cond.code ⟨"BackBay$Strippings","add","(LBackBay$Bay;)V"⟩ prog_11_method_2_code 2 none ∈ gT := gT_tb (tb4 (List.mem_of_getElem? (i := 20) rfl)) rfl
set_option maxRecDepth 8000 in
theorem k_741 : Cond.methodLink "BackBay$Strippings" 30 ⟨"java/lang/System","arraycopy","(Ljava/lang/Object;ILjava/lang/Object;II)V"⟩ ∈ gT := gT_tb (tb4 (List.mem_of_getElem? (i := 21) rfl)) rfl
set_option maxRecDepth 8000 in
theorem k_742 : Cond.methodLink "BackBayLaw" 107 ⟨"BackBay","lay","(I)J"⟩ ∈ gT := gT_tb (tb4 (List.mem_of_getElem? (i := 22) rfl)) rfl
set_option maxRecDepth 8000 in
theorem k_743 : Cond.instanceMethod ⟨"BackBay","lay","(I)J"⟩ ∈ gT := gT_tb (tb4 (List.mem_of_getElem? (i := 23) rfl)) rfl
set_option maxRecDepth 8000 in
theorem k_744 : Cond.selects "BackBay" ⟨"BackBay","lay","(I)J"⟩ ⟨"BackBay","lay","(I)J"⟩ ∈ gT := gT_tb (tb4 (List.mem_of_getElem? (i := 24) rfl)) rfl
set_option maxRecDepth 8000 in
theorem k_745 : Cond.code ⟨"BackBay","lay","(I)J"⟩ prog_1_method_23_code 2 (some .long) ∈ gT := gT_tb (tb4 (List.mem_of_getElem? (i := 25) rfl)) rfl
set_option maxRecDepth 8000 in
theorem k_746 : Cond.methodLink "BackBay" 249 ⟨"BackBay$Strippings","has","(I)Z"⟩ ∈ gT := gT_tb (tb4 (List.mem_of_getElem? (i := 26) rfl)) rfl
set_option maxRecDepth 8000 in
theorem k_747 : Cond.instanceMethod ⟨"BackBay$Strippings","has","(I)Z"⟩ ∈ gT := gT_tb (tb4 (List.mem_of_getElem? (i := 27) rfl)) rfl
set_option maxRecDepth 8000 in
theorem k_748 : Cond.selects "BackBay$Strippings" ⟨"BackBay$Strippings","has","(I)Z"⟩ ⟨"BackBay$Strippings","has","(I)Z"⟩ ∈ gT := gT_tb (tb4 (List.mem_of_getElem? (i := 28) rfl)) rfl
set_option maxRecDepth 8000 in
theorem k_749 : Cond.code ⟨"BackBay$Strippings","has","(I)Z"⟩ prog_11_method_3_code 2 (some .boolean) ∈ gT := gT_tb (tb4 (List.mem_of_getElem? (i := 29) rfl)) rfl
set_option maxRecDepth 8000 in
theorem k_751 : Cond.constantLong "BackBay" 252 (-9000000000000000002) ∈ gT := gT_tb (tb4 (List.mem_of_getElem? (i := 31) rfl)) rfl
set_option maxRecDepth 8000 in
theorem k_752 : Cond.methodLink "BackBayLaw" 111 ⟨"BackBay","apart","(II)J"⟩ ∈ gT := gT_tb (tb4 (List.mem_of_getElem? (i := 32) rfl)) rfl
set_option maxRecDepth 8000 in
theorem k_753 : Cond.instanceMethod ⟨"BackBay","apart","(II)J"⟩ ∈ gT := gT_tb (tb4 (List.mem_of_getElem? (i := 33) rfl)) rfl
set_option maxRecDepth 8000 in
theorem k_754 : Cond.selects "BackBay" ⟨"BackBay","apart","(II)J"⟩ ⟨"BackBay","apart","(II)J"⟩ ∈ gT := gT_tb (tb4 (List.mem_of_getElem? (i := 34) rfl)) rfl
set_option maxRecDepth 8000 in
theorem k_755 : Cond.code ⟨"BackBay","apart","(II)J"⟩ prog_1_method_24_code 4 (some .long) ∈ gT := gT_tb (tb4 (List.mem_of_getElem? (i := 35) rfl)) rfl
set_option maxRecDepth 8000 in
theorem k_756 : Cond.methodLink "BackBay" 257 ⟨"BackBay$Course","farthestFrom","(LBackBay$Course;I)J"⟩ ∈ gT := gT_tb (tb4 (List.mem_of_getElem? (i := 36) rfl)) rfl
set_option maxRecDepth 8000 in
theorem k_757 : Cond.instanceMethod ⟨"BackBay$Course","farthestFrom","(LBackBay$Course;I)J"⟩ ∈ gT := gT_tb (tb4 (List.mem_of_getElem? (i := 37) rfl)) rfl
set_option maxRecDepth 8000 in
theorem k_758 : Cond.selects "BackBay$Course" ⟨"BackBay$Course","farthestFrom","(LBackBay$Course;I)J"⟩ ⟨"BackBay$Course","farthestFrom","(LBackBay$Course;I)J"⟩ ∈ gT := gT_tb (tb4 (List.mem_of_getElem? (i := 38) rfl)) rfl
set_option maxRecDepth 8000 in
theorem k_759 : Cond.code ⟨"BackBay$Course","farthestFrom","(LBackBay$Course;I)J"⟩ prog_4_method_6_code 11 (some .long) ∈ gT := gT_tb (tb4 (List.mem_of_getElem? (i := 39) rfl)) rfl
set_option maxRecDepth 8000 in
theorem k_760 : Cond.constantLong "BackBay$Course" 61 (-1000000) ∈ gT := gT_tb (tb4 (List.mem_of_getElem? (i := 40) rfl)) rfl
set_option maxRecDepth 8000 in
theorem k_761 : Cond.methodLink "BackBay$Course" 63 ⟨"BackBay$Course","behind","(II)I"⟩ ∈ gT := gT_tb (tb4 (List.mem_of_getElem? (i := 41) rfl)) rfl
set_option maxRecDepth 8000 in
theorem k_762 : Cond.methodLink "BackBay$Course" 67 ⟨"java/lang/Math","abs","(J)J"⟩ ∈ gT := gT_tb (tb4 (List.mem_of_getElem? (i := 42) rfl)) rfl
set_option maxRecDepth 8000 in
theorem k_763 : Cond.methodLink "BackBayLaw" 115 ⟨"BackBay","kind","(I)J"⟩ ∈ gT := gT_tb (tb4 (List.mem_of_getElem? (i := 43) rfl)) rfl
set_option maxRecDepth 8000 in
theorem k_764 : Cond.instanceMethod ⟨"BackBay","kind","(I)J"⟩ ∈ gT := gT_tb (tb4 (List.mem_of_getElem? (i := 44) rfl)) rfl
set_option maxRecDepth 8000 in
theorem k_765 : Cond.selects "BackBay" ⟨"BackBay","kind","(I)J"⟩ ⟨"BackBay","kind","(I)J"⟩ ∈ gT := gT_tb (tb4 (List.mem_of_getElem? (i := 45) rfl)) rfl
set_option maxRecDepth 8000 in
theorem k_766 : Cond.code ⟨"BackBay","kind","(I)J"⟩ prog_1_method_25_code 2 (some .long) ∈ gT := gT_tb (tb4 (List.mem_of_getElem? (i := 46) rfl)) rfl
set_option maxRecDepth 8000 in
theorem k_767 : Cond.methodLink "BackBay" 261 ⟨"BackBay$Stencils","has","(I)Z"⟩ ∈ gT := gT_tb (tb4 (List.mem_of_getElem? (i := 47) rfl)) rfl
set_option maxRecDepth 8000 in
theorem k_768 : Cond.instanceMethod ⟨"BackBay$Stencils","has","(I)Z"⟩ ∈ gT := gT_tb (tb4 (List.mem_of_getElem? (i := 48) rfl)) rfl
set_option maxRecDepth 8000 in
theorem k_769 : Cond.selects "BackBay$Stencils" ⟨"BackBay$Stencils","has","(I)Z"⟩ ⟨"BackBay$Stencils","has","(I)Z"⟩ ∈ gT := gT_tb (tb4 (List.mem_of_getElem? (i := 49) rfl)) rfl
set_option maxRecDepth 8000 in
theorem k_770 : Cond.code ⟨"BackBay$Stencils","has","(I)Z"⟩ prog_10_method_3_code 2 (some .boolean) ∈ gT := gT_tb (tb4 (List.mem_of_getElem? (i := 50) rfl)) rfl
set_option maxRecDepth 8000 in
theorem k_772 : Cond.methodLink "BackBay" 262 ⟨"BackBay$Stencils","kindOf","(I)I"⟩ ∈ gT := gT_tb (tb4 (List.mem_of_getElem? (i := 52) rfl)) rfl
set_option maxRecDepth 8000 in
theorem k_773 : Cond.instanceMethod ⟨"BackBay$Stencils","kindOf","(I)I"⟩ ∈ gT := gT_tb (tb4 (List.mem_of_getElem? (i := 53) rfl)) rfl
set_option maxRecDepth 8000 in
theorem k_774 : Cond.selects "BackBay$Stencils" ⟨"BackBay$Stencils","kindOf","(I)I"⟩ ⟨"BackBay$Stencils","kindOf","(I)I"⟩ ∈ gT := gT_tb (tb4 (List.mem_of_getElem? (i := 54) rfl)) rfl
set_option maxRecDepth 8000 in
theorem k_775 : Cond.code ⟨"BackBay$Stencils","kindOf","(I)I"⟩ prog_10_method_4_code 2 (some .int) ∈ gT := gT_tb (tb4 (List.mem_of_getElem? (i := 55) rfl)) rfl
set_option maxRecDepth 8000 in
theorem k_778 : Cond.methodLink "BackBayLaw" 119 ⟨"BackBay","as","(II)J"⟩ ∈ gT := gT_tb (tb4 (List.mem_of_getElem? (i := 58) rfl)) rfl
set_option maxRecDepth 8000 in
theorem k_779 : Cond.instanceMethod ⟨"BackBay","as","(II)J"⟩ ∈ gT := gT_tb (tb4 (List.mem_of_getElem? (i := 59) rfl)) rfl
set_option maxRecDepth 8000 in
theorem k_780 : Cond.selects "BackBay" ⟨"BackBay","as","(II)J"⟩ ⟨"BackBay","as","(II)J"⟩ ∈ gT := gT_tb (tb4 (List.mem_of_getElem? (i := 60) rfl)) rfl
set_option maxRecDepth 8000 in
theorem k_781 : Cond.code ⟨"BackBay","as","(II)J"⟩ prog_1_method_26_code 3 (some .long) ∈ gT := gT_tb (tb4 (List.mem_of_getElem? (i := 61) rfl)) rfl
set_option maxRecDepth 8000 in
theorem k_782 : Cond.methodLink "BackBay" 265 ⟨"BackBay","isKind","(II)Z"⟩ ∈ gT := gT_tb (tb4 (List.mem_of_getElem? (i := 62) rfl)) rfl
set_option maxRecDepth 8000 in
theorem k_783 : Cond.static ⟨"BackBay","isKind","(II)Z"⟩ ∈ gT := gT_tb (tb4 (List.mem_of_getElem? (i := 63) rfl)) rfl
set_option maxRecDepth 8000 in
theorem k_784 : Cond.code ⟨"BackBay","isKind","(II)Z"⟩ prog_1_method_40_code 4 (some .boolean) ∈ gT := gT_tb (tb4 (List.mem_of_getElem? (i := 64) rfl)) rfl
set_option maxRecDepth 8000 in
theorem k_785 : Cond.fieldLink "BackBay" 305 "BackBay" "KIND_ABOVE" "[I" ∈ gT := gT_tb (tb4 (List.mem_of_getElem? (i := 65) rfl)) rfl
set_option maxRecDepth 8000 in
theorem k_787 : Cond.methodLink "BackBayLaw" 123 ⟨"BackBay","ask","(II)J"⟩ ∈ gT := gT_tb (tb4 (List.mem_of_getElem? (i := 67) rfl)) rfl
set_option maxRecDepth 8000 in
theorem k_788 : Cond.instanceMethod ⟨"BackBay","ask","(II)J"⟩ ∈ gT := gT_tb (tb4 (List.mem_of_getElem? (i := 68) rfl)) rfl
set_option maxRecDepth 8000 in
theorem k_789 : Cond.selects "BackBay" ⟨"BackBay","ask","(II)J"⟩ ⟨"BackBay","ask","(II)J"⟩ ∈ gT := gT_tb (tb4 (List.mem_of_getElem? (i := 69) rfl)) rfl
set_option maxRecDepth 8000 in
theorem k_790 : Cond.code ⟨"BackBay","ask","(II)J"⟩ prog_1_method_27_code 3 (some .long) ∈ gT := gT_tb (tb4 (List.mem_of_getElem? (i := 70) rfl)) rfl
set_option maxRecDepth 8000 in
theorem k_791 : Cond.methodLink "BackBay" 274 ⟨"BackBay$Asks","size","(LBackBay$Stencils;I)I"⟩ ∈ gT := gT_tb (tb4 (List.mem_of_getElem? (i := 71) rfl)) rfl
set_option maxRecDepth 8000 in
theorem k_792 : Cond.instanceMethod ⟨"BackBay$Asks","size","(LBackBay$Stencils;I)I"⟩ ∈ gT := gT_tb (tb4 (List.mem_of_getElem? (i := 72) rfl)) rfl
set_option maxRecDepth 8000 in
theorem k_793 : Cond.selects "BackBay$Asks" ⟨"BackBay$Asks","size","(LBackBay$Stencils;I)I"⟩ ⟨"BackBay$Asks","size","(LBackBay$Stencils;I)I"⟩ ∈ gT := gT_tb (tb4 (List.mem_of_getElem? (i := 73) rfl)) rfl
set_option maxRecDepth 8000 in
theorem k_794 : Cond.code ⟨"BackBay$Asks","size","(LBackBay$Stencils;I)I"⟩ prog_2_method_2_code 3 (some .int) ∈ gT := gT_tb (tb4 (List.mem_of_getElem? (i := 74) rfl)) rfl
set_option maxRecDepth 8000 in
theorem k_795 : Cond.methodLink "BackBay$Asks" 15 ⟨"BackBay$Stencils","kindOf","(I)I"⟩ ∈ gT := gT_tb (tb4 (List.mem_of_getElem? (i := 75) rfl)) rfl
set_option maxRecDepth 8000 in
theorem k_796 : Cond.methodLink "BackBay$Asks" 21 ⟨"BackBay$Asks","sizeOfSeen","(LBackBay$Stencils;I)I"⟩ ∈ gT := gT_tb (tb4 (List.mem_of_getElem? (i := 76) rfl)) rfl
set_option maxRecDepth 8000 in
theorem k_798 : Cond.instanceMethod ⟨"BackBay$Asks","sizeOfSeen","(LBackBay$Stencils;I)I"⟩ ∈ gT := gT_tb (tb4 (List.mem_of_getElem? (i := 78) rfl)) rfl
set_option maxRecDepth 8000 in
theorem k_799 : Cond.code ⟨"BackBay$Asks","sizeOfSeen","(LBackBay$Stencils;I)I"⟩ prog_2_method_5_code 3 (some .int) ∈ gT := gT_tb (tb4 (List.mem_of_getElem? (i := 79) rfl)) rfl
set_option maxRecDepth 8000 in
theorem k_800 : Cond.methodLink "BackBay$Asks" 49 ⟨"BackBay$Asks","begin","(I)V"⟩ ∈ gT := gT_tb (tb4 (List.mem_of_getElem? (i := 80) rfl)) rfl
set_option maxRecDepth 8000 in
theorem k_802 : Cond.instanceMethod ⟨"BackBay$Asks","begin","(I)V"⟩ ∈ gT := gT_tb (tb4 (List.mem_of_getElem? (i := 82) rfl)) rfl
set_option maxRecDepth 8000 in
theorem k_803 : Cond.code ⟨"BackBay$Asks","begin","(I)V"⟩ prog_2_method_13_code 2 none ∈ gT := gT_tb (tb4 (List.mem_of_getElem? (i := 83) rfl)) rfl
set_option maxRecDepth 8000 in
theorem k_804 : Cond.methodLink "BackBay$Asks" 34 ⟨"BackBay$Asks","sizeLent","(LBackBay$Stencils;I)I"⟩ ∈ gT := gT_tb (tb4 (List.mem_of_getElem? (i := 84) rfl)) rfl
set_option maxRecDepth 8000 in
theorem k_806 : Cond.instanceMethod ⟨"BackBay$Asks","sizeLent","(LBackBay$Stencils;I)I"⟩ ∈ gT := gT_tb (tb4 (List.mem_of_getElem? (i := 86) rfl)) rfl
set_option maxRecDepth 8000 in
theorem k_807 : Cond.code ⟨"BackBay$Asks","sizeLent","(LBackBay$Stencils;I)I"⟩ prog_2_method_4_code 3 (some .int) ∈ gT := gT_tb (tb4 (List.mem_of_getElem? (i := 87) rfl)) rfl
set_option maxRecDepth 8000 in
theorem k_808 : Cond.methodLink "BackBay$Asks" 56 ⟨"BackBay$Asks","mark","(LBackBay$Stencils;I)I"⟩ ∈ gT := gT_tb (tb4 (List.mem_of_getElem? (i := 88) rfl)) rfl
set_option maxRecDepth 8000 in
theorem k_809 : Cond.instanceMethod ⟨"BackBay$Asks","mark","(LBackBay$Stencils;I)I"⟩ ∈ gT := gT_tb (tb4 (List.mem_of_getElem? (i := 89) rfl)) rfl
set_option maxRecDepth 8000 in
theorem k_810 : Cond.selects "BackBay$Asks" ⟨"BackBay$Asks","mark","(LBackBay$Stencils;I)I"⟩ ⟨"BackBay$Asks","mark","(LBackBay$Stencils;I)I"⟩ ∈ gT := gT_tb (tb4 (List.mem_of_getElem? (i := 90) rfl)) rfl
set_option maxRecDepth 8000 in
theorem k_811 : Cond.code ⟨"BackBay$Asks","mark","(LBackBay$Stencils;I)I"⟩ prog_2_method_3_code 3 (some .int) ∈ gT := gT_tb (tb4 (List.mem_of_getElem? (i := 91) rfl)) rfl
set_option maxRecDepth 8000 in
theorem k_812 : Cond.methodLink "BackBay$Asks" 37 ⟨"BackBay$Asks","markOfLeaf","(I)I"⟩ ∈ gT := gT_tb (tb4 (List.mem_of_getElem? (i := 92) rfl)) rfl
set_option maxRecDepth 8000 in
theorem k_814 : Cond.instanceMethod ⟨"BackBay$Asks","markOfLeaf","(I)I"⟩ ∈ gT := gT_tb (tb4 (List.mem_of_getElem? (i := 94) rfl)) rfl
set_option maxRecDepth 8000 in
theorem k_815 : Cond.code ⟨"BackBay$Asks","markOfLeaf","(I)I"⟩ prog_2_method_10_code 2 (some .int) ∈ gT := gT_tb (tb4 (List.mem_of_getElem? (i := 95) rfl)) rfl
set_option maxRecDepth 8000 in
theorem k_816 : Cond.methodLink "BackBay$Asks" 46 ⟨"BackBay$Asks","markLent","(I)I"⟩ ∈ gT := gT_tb (tb4 (List.mem_of_getElem? (i := 96) rfl)) rfl
set_option maxRecDepth 8000 in
theorem k_818 : Cond.instanceMethod ⟨"BackBay$Asks","markLent","(I)I"⟩ ∈ gT := gT_tb (tb4 (List.mem_of_getElem? (i := 98) rfl)) rfl
set_option maxRecDepth 8000 in
theorem k_819 : Cond.code ⟨"BackBay$Asks","markLent","(I)I"⟩ prog_2_method_9_code 2 (some .int) ∈ gT := gT_tb (tb4 (List.mem_of_getElem? (i := 99) rfl)) rfl
set_option maxRecDepth 8000 in
theorem k_820 : Cond.methodLink "BackBay$Asks" 40 ⟨"BackBay$Asks","markOfSeen","(I)I"⟩ ∈ gT := gT_tb (tb4 (List.mem_of_getElem? (i := 100) rfl)) rfl
set_option maxRecDepth 8000 in
theorem k_822 : Cond.instanceMethod ⟨"BackBay$Asks","markOfSeen","(I)I"⟩ ∈ gT := gT_tb (tb4 (List.mem_of_getElem? (i := 102) rfl)) rfl
set_option maxRecDepth 8000 in
theorem k_823 : Cond.code ⟨"BackBay$Asks","markOfSeen","(I)I"⟩ prog_2_method_11_code 2 (some .int) ∈ gT := gT_tb (tb4 (List.mem_of_getElem? (i := 103) rfl)) rfl
set_option maxRecDepth 8000 in
theorem k_824 : Cond.methodLink "BackBay$Asks" 43 ⟨"BackBay$Asks","markOfChosen","(LBackBay$Stencils;I)I"⟩ ∈ gT := gT_tb (tb4 (List.mem_of_getElem? (i := 104) rfl)) rfl
set_option maxRecDepth 8000 in
theorem k_826 : Cond.instanceMethod ⟨"BackBay$Asks","markOfChosen","(LBackBay$Stencils;I)I"⟩ ∈ gT := gT_tb (tb4 (List.mem_of_getElem? (i := 106) rfl)) rfl
set_option maxRecDepth 8000 in
theorem k_827 : Cond.code ⟨"BackBay$Asks","markOfChosen","(LBackBay$Stencils;I)I"⟩ prog_2_method_12_code 3 (some .int) ∈ gT := gT_tb (tb4 (List.mem_of_getElem? (i := 107) rfl)) rfl
set_option maxRecDepth 8000 in
theorem k_828 : Cond.methodLink "BackBay$Asks" 25 ⟨"BackBay$Asks","sizeOfPair","(LBackBay$Stencils;I)I"⟩ ∈ gT := gT_tb (tb4 (List.mem_of_getElem? (i := 108) rfl)) rfl
set_option maxRecDepth 8000 in
theorem k_830 : Cond.instanceMethod ⟨"BackBay$Asks","sizeOfPair","(LBackBay$Stencils;I)I"⟩ ∈ gT := gT_tb (tb4 (List.mem_of_getElem? (i := 110) rfl)) rfl
set_option maxRecDepth 8000 in
theorem k_831 : Cond.code ⟨"BackBay$Asks","sizeOfPair","(LBackBay$Stencils;I)I"⟩ prog_2_method_6_code 3 (some .int) ∈ gT := gT_tb (tb4 (List.mem_of_getElem? (i := 111) rfl)) rfl
set_option maxRecDepth 8000 in
theorem k_832 : Cond.methodLink "BackBay$Asks" 28 ⟨"BackBay$Asks","sizeOfChosen","(LBackBay$Stencils;I)I"⟩ ∈ gT := gT_tb (tb4 (List.mem_of_getElem? (i := 112) rfl)) rfl
set_option maxRecDepth 8000 in
theorem k_834 : Cond.instanceMethod ⟨"BackBay$Asks","sizeOfChosen","(LBackBay$Stencils;I)I"⟩ ∈ gT := gT_tb (tb4 (List.mem_of_getElem? (i := 114) rfl)) rfl
set_option maxRecDepth 8000 in
theorem k_835 : Cond.code ⟨"BackBay$Asks","sizeOfChosen","(LBackBay$Stencils;I)I"⟩ prog_2_method_7_code 3 (some .int) ∈ gT := gT_tb (tb4 (List.mem_of_getElem? (i := 115) rfl)) rfl
set_option maxRecDepth 8000 in
theorem k_836 : Cond.methodLink "BackBay$Asks" 31 ⟨"BackBay$Asks","sizeOfFork","(LBackBay$Stencils;I)I"⟩ ∈ gT := gT_tb (tb4 (List.mem_of_getElem? (i := 116) rfl)) rfl
set_option maxRecDepth 8000 in
theorem k_838 : Cond.instanceMethod ⟨"BackBay$Asks","sizeOfFork","(LBackBay$Stencils;I)I"⟩ ∈ gT := gT_tb (tb4 (List.mem_of_getElem? (i := 118) rfl)) rfl
set_option maxRecDepth 8000 in
theorem k_839 : Cond.code ⟨"BackBay$Asks","sizeOfFork","(LBackBay$Stencils;I)I"⟩ prog_2_method_8_code 3 (some .int) ∈ gT := gT_tb (tb4 (List.mem_of_getElem? (i := 119) rfl)) rfl
set_option maxRecDepth 8000 in
theorem k_840 : Cond.methodLink "BackBay" 277 ⟨"BackBay$Asks","mark","(LBackBay$Stencils;I)I"⟩ ∈ gT := gT_tb (tb4 (List.mem_of_getElem? (i := 120) rfl)) rfl
set_option maxRecDepth 8000 in
theorem k_841 : Cond.methodLink "BackBayLaw" 127 ⟨"BackBay","trace","(I)I"⟩ ∈ gT := gT_tb (tb4 (List.mem_of_getElem? (i := 121) rfl)) rfl
set_option maxRecDepth 8000 in
theorem k_842 : Cond.instanceMethod ⟨"BackBay","trace","(I)I"⟩ ∈ gT := gT_tb (tb4 (List.mem_of_getElem? (i := 122) rfl)) rfl
set_option maxRecDepth 8000 in
theorem k_843 : Cond.selects "BackBay" ⟨"BackBay","trace","(I)I"⟩ ⟨"BackBay","trace","(I)I"⟩ ∈ gT := gT_tb (tb4 (List.mem_of_getElem? (i := 123) rfl)) rfl
set_option maxRecDepth 8000 in
theorem k_844 : Cond.code ⟨"BackBay","trace","(I)I"⟩ prog_1_method_28_code 2 (some .int) ∈ gT := gT_tb (tb4 (List.mem_of_getElem? (i := 124) rfl)) rfl
set_option maxRecDepth 8000 in
theorem k_845 : Cond.methodLink "BackBayLaw" 132 ⟨"BackBay","count","(I)J"⟩ ∈ gT := gT_tb (tb4 (List.mem_of_getElem? (i := 125) rfl)) rfl
set_option maxRecDepth 8000 in
theorem k_846 : Cond.instanceMethod ⟨"BackBay","count","(I)J"⟩ ∈ gT := gT_tb (tb4 (List.mem_of_getElem? (i := 126) rfl)) rfl
set_option maxRecDepth 8000 in
theorem k_847 : Cond.selects "BackBay" ⟨"BackBay","count","(I)J"⟩ ⟨"BackBay","count","(I)J"⟩ ∈ gT := gT_tb (tb4 (List.mem_of_getElem? (i := 127) rfl)) rfl
set_option maxRecDepth 8000 in
theorem k_848 : Cond.code ⟨"BackBay","count","(I)J"⟩ prog_1_method_29_code 2 (some .long) ∈ gT := gT_tb (tb4 (List.mem_of_getElem? (i := 128) rfl)) rfl
set_option maxRecDepth 8000 in
theorem k_849 : Cond.methodLink "BackBay" 283 ⟨"BackBay","rowsThere","()I"⟩ ∈ gT := gT_tb (tb4 (List.mem_of_getElem? (i := 129) rfl)) rfl
set_option maxRecDepth 8000 in
theorem k_851 : Cond.instanceMethod ⟨"BackBay","rowsThere","()I"⟩ ∈ gT := gT_tb (tb4 (List.mem_of_getElem? (i := 131) rfl)) rfl
set_option maxRecDepth 8000 in
theorem k_852 : Cond.code ⟨"BackBay","rowsThere","()I"⟩ prog_1_method_35_code 3 (some .int) ∈ gT := gT_tb (tb4 (List.mem_of_getElem? (i := 132) rfl)) rfl
set_option maxRecDepth 8000 in
theorem k_853 : Cond.methodLink "BackBay" 289 ⟨"BackBay$Gauges","howManyOut","()I"⟩ ∈ gT := gT_tb (tb4 (List.mem_of_getElem? (i := 133) rfl)) rfl
set_option maxRecDepth 8000 in
theorem k_854 : Cond.instanceMethod ⟨"BackBay$Gauges","howManyOut","()I"⟩ ∈ gT := gT_tb (tb4 (List.mem_of_getElem? (i := 134) rfl)) rfl
set_option maxRecDepth 8000 in
theorem k_855 : Cond.selects "BackBay$Gauges" ⟨"BackBay$Gauges","howManyOut","()I"⟩ ⟨"BackBay$Gauges","howManyOut","()I"⟩ ∈ gT := gT_tb (tb4 (List.mem_of_getElem? (i := 135) rfl)) rfl
set_option maxRecDepth 8000 in
theorem k_856 : Cond.code ⟨"BackBay$Gauges","howManyOut","()I"⟩ prog_6_method_3_code 3 (some .int) ∈ gT := gT_tb (tb4 (List.mem_of_getElem? (i := 136) rfl)) rfl
set_option maxRecDepth 8000 in
theorem k_857 : Cond.methodLink "BackBayLaw" 136 ⟨"BackBay","status","()I"⟩ ∈ gT := gT_tb (tb4 (List.mem_of_getElem? (i := 137) rfl)) rfl
set_option maxRecDepth 8000 in
theorem k_858 : Cond.instanceMethod ⟨"BackBay","status","()I"⟩ ∈ gT := gT_tb (tb4 (List.mem_of_getElem? (i := 138) rfl)) rfl
set_option maxRecDepth 8000 in
theorem k_859 : Cond.selects "BackBay" ⟨"BackBay","status","()I"⟩ ⟨"BackBay","status","()I"⟩ ∈ gT := gT_tb (tb4 (List.mem_of_getElem? (i := 139) rfl)) rfl
set_option maxRecDepth 8000 in
theorem k_860 : Cond.code ⟨"BackBay","status","()I"⟩ prog_1_method_30_code 1 (some .int) ∈ gT := gT_tb (tb4 (List.mem_of_getElem? (i := 140) rfl)) rfl
set_option maxRecDepth 8000 in
theorem k_861 : Cond.classLink "BackBayLaw" 10 "BackBayModel" ∈ gT := gT_tb (tb4 (List.mem_of_getElem? (i := 141) rfl)) rfl
set_option maxRecDepth 8000 in
theorem k_862 : Cond.instantiable "BackBayModel" 48 ∈ gT := gT_tb (tb4 (List.mem_of_getElem? (i := 142) rfl)) rfl
set_option maxRecDepth 8000 in
theorem k_863 : Cond.methodLink "BackBayLaw" 12 ⟨"BackBayModel","<init>","()V"⟩ ∈ gT := gT_tb (tb4 (List.mem_of_getElem? (i := 143) rfl)) rfl
set_option maxRecDepth 8000 in
theorem k_864 : Cond.instanceMethod ⟨"BackBayModel","<init>","()V"⟩ ∈ gT := gT_tb (tb4 (List.mem_of_getElem? (i := 144) rfl)) rfl
set_option maxRecDepth 8000 in
theorem k_865 : Cond.code ⟨"BackBayModel","<init>","()V"⟩ prog_14_method_1_code 1 none ∈ gT := gT_tb (tb4 (List.mem_of_getElem? (i := 145) rfl)) rfl
set_option maxRecDepth 8000 in
theorem k_866 : Cond.methodLink "BackBayModel" 1 ⟨"java/lang/Object","<init>","()V"⟩ ∈ gT := gT_tb (tb4 (List.mem_of_getElem? (i := 146) rfl)) rfl
set_option maxRecDepth 8000 in
theorem k_867 : Cond.fieldLink "BackBayModel" 116 "BackBayModel" "status" "I" ∈ gT := gT_tb (tb4 (List.mem_of_getElem? (i := 147) rfl)) rfl
set_option maxRecDepth 8000 in
theorem k_868 : Cond.fieldLink "BackBayModel" 7 "BackBayModel" "lanes" "[I" ∈ gT := gT_tb (tb4 (List.mem_of_getElem? (i := 148) rfl)) rfl
set_option maxRecDepth 8000 in
theorem k_869 : Cond.fieldLink "BackBayModel" 13 "BackBayModel" "rowLong" "[I" ∈ gT := gT_tb (tb4 (List.mem_of_getElem? (i := 149) rfl)) rfl
set_option maxRecDepth 8000 in
theorem k_870 : Cond.fieldLink "BackBayModel" 16 "BackBayModel" "items" "[I" ∈ gT := gT_tb (tb4 (List.mem_of_getElem? (i := 150) rfl)) rfl
set_option maxRecDepth 8000 in
theorem k_871 : Cond.fieldLink "BackBayModel" 19 "BackBayModel" "tape" "[I" ∈ gT := gT_tb (tb4 (List.mem_of_getElem? (i := 151) rfl)) rfl
set_option maxRecDepth 8000 in
theorem k_872 : Cond.fieldLink "BackBayModel" 140 "BackBayModel" "tapeLong" "I" ∈ gT := gT_tb (tb4 (List.mem_of_getElem? (i := 152) rfl)) rfl
set_option maxRecDepth 8000 in
theorem k_873 : Cond.fieldLink "BackBayModel" 190 "BackBayModel" "stencils" "I" ∈ gT := gT_tb (tb4 (List.mem_of_getElem? (i := 153) rfl)) rfl
set_option maxRecDepth 8000 in
theorem k_874 : Cond.fieldLink "BackBayModel" 179 "BackBayModel" "nodes" "I" ∈ gT := gT_tb (tb4 (List.mem_of_getElem? (i := 154) rfl)) rfl
set_option maxRecDepth 8000 in
theorem k_875 : Cond.fieldLink "BackBayModel" 22 "BackBayModel" "stencilFrom" "[I" ∈ gT := gT_tb (tb4 (List.mem_of_getElem? (i := 155) rfl)) rfl
set_option maxRecDepth 8000 in
theorem k_876 : Cond.fieldLink "BackBayModel" 25 "BackBayModel" "kinds" "[I" ∈ gT := gT_tb (tb4 (List.mem_of_getElem? (i := 156) rfl)) rfl
set_option maxRecDepth 8000 in
theorem k_877 : Cond.fieldLink "BackBayModel" 28 "BackBayModel" "marks" "[I" ∈ gT := gT_tb (tb4 (List.mem_of_getElem? (i := 157) rfl)) rfl
set_option maxRecDepth 8000 in
theorem k_878 : Cond.fieldLink "BackBayModel" 31 "BackBayModel" "sizes" "[I" ∈ gT := gT_tb (tb4 (List.mem_of_getElem? (i := 158) rfl)) rfl
set_option maxRecDepth 8000 in
theorem k_879 : Cond.fieldLink "BackBayModel" 185 "BackBayModel" "fault" "I" ∈ gT := gT_tb (tb4 (List.mem_of_getElem? (i := 159) rfl)) rfl
set_option maxRecDepth 8000 in
theorem k_880 : Cond.fieldLink "BackBayModel" 143 "BackBayModel" "at" "I" ∈ gT := gT_tb (tb4 (List.mem_of_getElem? (i := 160) rfl)) rfl
set_option maxRecDepth 8000 in
theorem k_881 : Cond.fieldLink "BackBayModel" 146 "BackBayModel" "from" "I" ∈ gT := gT_tb (tb4 (List.mem_of_getElem? (i := 161) rfl)) rfl
set_option maxRecDepth 8000 in
theorem k_882 : Cond.fieldLink "BackBayModel" 149 "BackBayModel" "word" "I" ∈ gT := gT_tb (tb4 (List.mem_of_getElem? (i := 162) rfl)) rfl
set_option maxRecDepth 8000 in
theorem k_883 : Cond.fieldLink "BackBayModel" 34 "BackBayModel" "open" "[I" ∈ gT := gT_tb (tb4 (List.mem_of_getElem? (i := 163) rfl)) rfl
set_option maxRecDepth 8000 in
theorem k_884 : Cond.fieldLink "BackBayModel" 162 "BackBayModel" "readNodes" "I" ∈ gT := gT_tb (tb4 (List.mem_of_getElem? (i := 164) rfl)) rfl
set_option maxRecDepth 8000 in
theorem k_885 : Cond.fieldLink "BackBayModel" 165 "BackBayModel" "readStencils" "I" ∈ gT := gT_tb (tb4 (List.mem_of_getElem? (i := 165) rfl)) rfl
set_option maxRecDepth 8000 in
theorem k_886 : Cond.fieldLink "BackBayModel" 37 "BackBayModel" "cells" "I" ∈ gT := gT_tb (tb4 (List.mem_of_getElem? (i := 166) rfl)) rfl
set_option maxRecDepth 8000 in
theorem k_887 : Cond.fieldLink "BackBayModel" 41 "BackBayModel" "start" "[I" ∈ gT := gT_tb (tb4 (List.mem_of_getElem? (i := 167) rfl)) rfl
set_option maxRecDepth 8000 in
theorem k_888 : Cond.fieldLink "BackBayModel" 44 "BackBayModel" "strips" "[I" ∈ gT := gT_tb (tb4 (List.mem_of_getElem? (i := 168) rfl)) rfl
set_option maxRecDepth 8000 in
theorem k_889 : Cond.fieldLink "BackBayModel" 47 "BackBayModel" "edges" "[I" ∈ gT := gT_tb (tb4 (List.mem_of_getElem? (i := 169) rfl)) rfl
set_option maxRecDepth 8000 in
theorem k_890 : Cond.fieldLink "BackBayModel" 50 "BackBayModel" "states" "[I" ∈ gT := gT_tb (tb4 (List.mem_of_getElem? (i := 170) rfl)) rfl
set_option maxRecDepth 8000 in
theorem k_891 : Cond.fieldLink "BackBayModel" 53 "BackBayModel" "values" "[I" ∈ gT := gT_tb (tb4 (List.mem_of_getElem? (i := 171) rfl)) rfl
set_option maxRecDepth 8000 in
theorem k_892 : Cond.fieldLink "BackBayModel" 56 "BackBayModel" "isDone" "[Z" ∈ gT := gT_tb (tb4 (List.mem_of_getElem? (i := 172) rfl)) rfl
set_option maxRecDepth 8000 in
theorem k_893 : Cond.fieldLink "BackBayModel" 60 "BackBayModel" "given" "[I" ∈ gT := gT_tb (tb4 (List.mem_of_getElem? (i := 173) rfl)) rfl
set_option maxRecDepth 8000 in
theorem k_894 : Cond.fieldLink "BackBayModel" 218 "BackBayModel" "knots" "I" ∈ gT := gT_tb (tb4 (List.mem_of_getElem? (i := 174) rfl)) rfl
set_option maxRecDepth 8000 in
theorem k_895 : Cond.fieldLink "BackBayModel" 234 "BackBayModel" "gauges" "I" ∈ gT := gT_tb (tb4 (List.mem_of_getElem? (i := 175) rfl)) rfl
set_option maxRecDepth 8000 in
theorem k_896 : Cond.fieldLink "BackBayModel" 63 "BackBayModel" "gaugeCell" "[I" ∈ gT := gT_tb (tb4 (List.mem_of_getElem? (i := 176) rfl)) rfl
set_option maxRecDepth 8000 in
theorem k_897 : Cond.fieldLink "BackBayModel" 66 "BackBayModel" "gaugeStep" "[I" ∈ gT := gT_tb (tb4 (List.mem_of_getElem? (i := 177) rfl)) rfl
set_option maxRecDepth 8000 in
theorem k_898 : Cond.fieldLink "BackBayModel" 69 "BackBayModel" "gaugeWeight" "[I" ∈ gT := gT_tb (tb4 (List.mem_of_getElem? (i := 178) rfl)) rfl
set_option maxRecDepth 8000 in
theorem k_899 : Cond.fieldLink "BackBayModel" 72 "BackBayModel" "wanted" "[I" ∈ gT := gT_tb (tb4 (List.mem_of_getElem? (i := 179) rfl)) rfl
set_option maxRecDepth 8000 in
theorem k_900 : Cond.fieldLink "BackBayModel" 75 "BackBayModel" "isOut" "[Z" ∈ gT := gT_tb (tb4 (List.mem_of_getElem? (i := 180) rfl)) rfl
set_option maxRecDepth 8000 in
theorem k_901 : Cond.fieldLink "BackBayModel" 78 "BackBayModel" "stripSlopes" "[I" ∈ gT := gT_tb (tb4 (List.mem_of_getElem? (i := 181) rfl)) rfl
set_option maxRecDepth 8000 in
theorem k_902 : Cond.fieldLink "BackBayModel" 81 "BackBayModel" "slopes" "[I" ∈ gT := gT_tb (tb4 (List.mem_of_getElem? (i := 182) rfl)) rfl
set_option maxRecDepth 8000 in
theorem k_903 : Cond.fieldLink "BackBayModel" 84 "BackBayModel" "ahead" "[I" ∈ gT := gT_tb (tb4 (List.mem_of_getElem? (i := 183) rfl)) rfl
set_option maxRecDepth 8000 in
theorem k_904 : Cond.fieldLink "BackBayModel" 87 "BackBayModel" "edgeSlopes" "[I" ∈ gT := gT_tb (tb4 (List.mem_of_getElem? (i := 184) rfl)) rfl
set_option maxRecDepth 8000 in
theorem k_905 : Cond.fieldLink "BackBayModel" 90 "BackBayModel" "fewest" "[I" ∈ gT := gT_tb (tb4 (List.mem_of_getElem? (i := 185) rfl)) rfl
set_option maxRecDepth 8000 in
theorem k_906 : Cond.fieldLink "BackBayModel" 93 "BackBayModel" "where" "[I" ∈ gT := gT_tb (tb4 (List.mem_of_getElem? (i := 186) rfl)) rfl
set_option maxRecDepth 8000 in
theorem k_907 : Cond.fieldLink "BackBayModel" 96 "BackBayModel" "isTried" "[Z" ∈ gT := gT_tb (tb4 (List.mem_of_getElem? (i := 187) rfl)) rfl
set_option maxRecDepth 8000 in
theorem k_908 : Cond.fieldLink "BackBayModel" 99 "BackBayModel" "kept" "[I" ∈ gT := gT_tb (tb4 (List.mem_of_getElem? (i := 188) rfl)) rfl
set_option maxRecDepth 8000 in
theorem k_909 : Cond.fieldLink "BackBayModel" 270 "BackBayModel" "strippings" "I" ∈ gT := gT_tb (tb4 (List.mem_of_getElem? (i := 189) rfl)) rfl
set_option maxRecDepth 8000 in
theorem k_910 : Cond.fieldLink "BackBayModel" 102 "BackBayModel" "stripped" "[I" ∈ gT := gT_tb (tb4 (List.mem_of_getElem? (i := 190) rfl)) rfl
set_option maxRecDepth 8000 in
theorem k_911 : Cond.fieldLink "BackBayModel" 105 "BackBayModel" "strippedCells" "[I" ∈ gT := gT_tb (tb4 (List.mem_of_getElem? (i := 191) rfl)) rfl
set_option maxRecDepth 8000 in
theorem k_912 : Cond.fieldLink "BackBayModel" 108 "BackBayModel" "first" "[I" ∈ gT := gT_tb (tb4 (List.mem_of_getElem? (i := 192) rfl)) rfl
set_option maxRecDepth 8000 in
theorem k_913 : Cond.fieldLink "BackBayModel" 111 "BackBayModel" "traced" "[I" ∈ gT := gT_tb (tb4 (List.mem_of_getElem? (i := 193) rfl)) rfl
set_option maxRecDepth 8000 in
theorem k_914 : Cond.fieldLink "BackBayModel" 279 "BackBayModel" "tracedMany" "I" ∈ gT := gT_tb (tb4 (List.mem_of_getElem? (i := 194) rfl)) rfl
set_option maxRecDepth 8000 in
theorem k_1012 : Cond.methodLink "BackBayLaw" 17 ⟨"BackBayModel","row","(III)J"⟩ ∈ gT := gT_tb (tb5 (List.mem_of_getElem? (i := 52) rfl)) rfl
set_option maxRecDepth 8000 in
theorem k_1013 : Cond.instanceMethod ⟨"BackBayModel","row","(III)J"⟩ ∈ gT := gT_tb (tb5 (List.mem_of_getElem? (i := 53) rfl)) rfl
set_option maxRecDepth 8000 in
theorem k_1014 : Cond.selects "BackBayModel" ⟨"BackBayModel","row","(III)J"⟩ ⟨"BackBayModel","row","(III)J"⟩ ∈ gT := gT_tb (tb5 (List.mem_of_getElem? (i := 54) rfl)) rfl
set_option maxRecDepth 8000 in
theorem k_1015 : Cond.code ⟨"BackBayModel","row","(III)J"⟩ prog_14_method_7_code 5 (some .long) ∈ gT := gT_tb (tb5 (List.mem_of_getElem? (i := 55) rfl)) rfl
set_option maxRecDepth 8000 in
theorem k_1016 : Cond.methodLink "BackBayModel" 125 ⟨"BackBayModel","isRow","(I)Z"⟩ ∈ gT := gT_tb (tb5 (List.mem_of_getElem? (i := 56) rfl)) rfl
set_option maxRecDepth 8000 in
theorem k_1017 : Cond.static ⟨"BackBayModel","isRow","(I)Z"⟩ ∈ gT := gT_tb (tb5 (List.mem_of_getElem? (i := 57) rfl)) rfl
set_option maxRecDepth 8000 in
theorem k_1018 : Cond.code ⟨"BackBayModel","isRow","(I)Z"⟩ prog_14_method_6_code 1 (some .boolean) ∈ gT := gT_tb (tb5 (List.mem_of_getElem? (i := 58) rfl)) rfl
set_option maxRecDepth 8000 in
theorem k_1019 : Cond.methodLink "BackBayModel" 121 ⟨"BackBayModel","within","(III)Z"⟩ ∈ gT := gT_tb (tb5 (List.mem_of_getElem? (i := 59) rfl)) rfl
set_option maxRecDepth 8000 in
theorem k_1020 : Cond.static ⟨"BackBayModel","within","(III)Z"⟩ ∈ gT := gT_tb (tb5 (List.mem_of_getElem? (i := 60) rfl)) rfl
set_option maxRecDepth 8000 in
theorem k_1021 : Cond.code ⟨"BackBayModel","within","(III)Z"⟩ prog_14_method_3_code 3 (some .boolean) ∈ gT := gT_tb (tb5 (List.mem_of_getElem? (i := 61) rfl)) rfl
set_option maxRecDepth 8000 in
theorem k_1022 : Cond.methodLink "BackBayModel" 129 ⟨"BackBayModel","refused","(I)J"⟩ ∈ gT := gT_tb (tb5 (List.mem_of_getElem? (i := 62) rfl)) rfl
set_option maxRecDepth 8000 in
theorem k_1023 : Cond.static ⟨"BackBayModel","refused","(I)J"⟩ ∈ gT := gT_tb (tb5 (List.mem_of_getElem? (i := 63) rfl)) rfl
set_option maxRecDepth 8000 in
theorem k_1024 : Cond.code ⟨"BackBayModel","refused","(I)J"⟩ prog_14_method_4_code 1 (some .long) ∈ gT := gT_tb (tb5 (List.mem_of_getElem? (i := 64) rfl)) rfl
set_option maxRecDepth 8000 in
theorem k_1025 : Cond.constantLong "BackBayModel" 114 (-9000000000000000000) ∈ gT := gT_tb (tb5 (List.mem_of_getElem? (i := 65) rfl)) rfl
set_option maxRecDepth 8000 in
theorem k_1026 : Cond.methodLink "BackBayModel" 133 ⟨"BackBayModel","finds","(I)J"⟩ ∈ gT := gT_tb (tb5 (List.mem_of_getElem? (i := 66) rfl)) rfl
set_option maxRecDepth 8000 in
theorem k_1028 : Cond.instanceMethod ⟨"BackBayModel","finds","(I)J"⟩ ∈ gT := gT_tb (tb5 (List.mem_of_getElem? (i := 68) rfl)) rfl
set_option maxRecDepth 8000 in
theorem k_1029 : Cond.code ⟨"BackBayModel","finds","(I)J"⟩ prog_14_method_5_code 2 (some .long) ∈ gT := gT_tb (tb5 (List.mem_of_getElem? (i := 69) rfl)) rfl
set_option maxRecDepth 8000 in
theorem k_1030 : Cond.constantLong "BackBayModel" 119 (-9000000000000000010) ∈ gT := gT_tb (tb5 (List.mem_of_getElem? (i := 70) rfl)) rfl
set_option maxRecDepth 8000 in
theorem k_1031 : Cond.methodLink "BackBayLaw" 21 ⟨"BackBayModel","set","(III)J"⟩ ∈ gT := gT_tb (tb5 (List.mem_of_getElem? (i := 71) rfl)) rfl
set_option maxRecDepth 8000 in
theorem k_1032 : Cond.instanceMethod ⟨"BackBayModel","set","(III)J"⟩ ∈ gT := gT_tb (tb5 (List.mem_of_getElem? (i := 72) rfl)) rfl
set_option maxRecDepth 8000 in
theorem k_1033 : Cond.selects "BackBayModel" ⟨"BackBayModel","set","(III)J"⟩ ⟨"BackBayModel","set","(III)J"⟩ ∈ gT := gT_tb (tb5 (List.mem_of_getElem? (i := 73) rfl)) rfl
set_option maxRecDepth 8000 in
theorem k_1034 : Cond.code ⟨"BackBayModel","set","(III)J"⟩ prog_14_method_9_code 4 (some .long) ∈ gT := gT_tb (tb5 (List.mem_of_getElem? (i := 74) rfl)) rfl
set_option maxRecDepth 8000 in
theorem k_1035 : Cond.methodLink "BackBayModel" 136 ⟨"BackBayModel","cut","(II)I"⟩ ∈ gT := gT_tb (tb5 (List.mem_of_getElem? (i := 75) rfl)) rfl
set_option maxRecDepth 8000 in
theorem k_1036 : Cond.static ⟨"BackBayModel","cut","(II)I"⟩ ∈ gT := gT_tb (tb5 (List.mem_of_getElem? (i := 76) rfl)) rfl
set_option maxRecDepth 8000 in
theorem k_1037 : Cond.code ⟨"BackBayModel","cut","(II)I"⟩ prog_14_method_8_code 2 (some .int) ∈ gT := gT_tb (tb5 (List.mem_of_getElem? (i := 77) rfl)) rfl
set_option maxRecDepth 8000 in
theorem k_1038 : Cond.methodLink "BackBayLaw" 26 ⟨"BackBayModel","copy","(IIIII)J"⟩ ∈ gT := gT_tb (tb5 (List.mem_of_getElem? (i := 78) rfl)) rfl
set_option maxRecDepth 8000 in
theorem k_1039 : Cond.instanceMethod ⟨"BackBayModel","copy","(IIIII)J"⟩ ∈ gT := gT_tb (tb5 (List.mem_of_getElem? (i := 79) rfl)) rfl
set_option maxRecDepth 8000 in
theorem k_1040 : Cond.selects "BackBayModel" ⟨"BackBayModel","copy","(IIIII)J"⟩ ⟨"BackBayModel","copy","(IIIII)J"⟩ ∈ gT := gT_tb (tb5 (List.mem_of_getElem? (i := 80) rfl)) rfl
set_option maxRecDepth 8000 in
theorem k_1041 : Cond.code ⟨"BackBayModel","copy","(IIIII)J"⟩ prog_14_method_10_code 10 (some .long) ∈ gT := gT_tb (tb5 (List.mem_of_getElem? (i := 81) rfl)) rfl
set_option maxRecDepth 8000 in
theorem k_1042 : Cond.methodLink "BackBayLaw" 31 ⟨"BackBayModel","drop","(I)J"⟩ ∈ gT := gT_tb (tb5 (List.mem_of_getElem? (i := 82) rfl)) rfl
set_option maxRecDepth 8000 in
theorem k_1043 : Cond.instanceMethod ⟨"BackBayModel","drop","(I)J"⟩ ∈ gT := gT_tb (tb5 (List.mem_of_getElem? (i := 83) rfl)) rfl
set_option maxRecDepth 8000 in
theorem k_1044 : Cond.selects "BackBayModel" ⟨"BackBayModel","drop","(I)J"⟩ ⟨"BackBayModel","drop","(I)J"⟩ ∈ gT := gT_tb (tb5 (List.mem_of_getElem? (i := 84) rfl)) rfl
set_option maxRecDepth 8000 in
theorem k_1045 : Cond.code ⟨"BackBayModel","drop","(I)J"⟩ prog_14_method_11_code 2 (some .long) ∈ gT := gT_tb (tb5 (List.mem_of_getElem? (i := 85) rfl)) rfl
set_option maxRecDepth 8000 in
theorem k_1046 : Cond.methodLink "BackBayLaw" 38 ⟨"BackBayModel","feed","(JI)J"⟩ ∈ gT := gT_tb (tb5 (List.mem_of_getElem? (i := 86) rfl)) rfl
set_option maxRecDepth 8000 in
theorem k_1047 : Cond.instanceMethod ⟨"BackBayModel","feed","(JI)J"⟩ ∈ gT := gT_tb (tb5 (List.mem_of_getElem? (i := 87) rfl)) rfl
set_option maxRecDepth 8000 in
theorem k_1048 : Cond.selects "BackBayModel" ⟨"BackBayModel","feed","(JI)J"⟩ ⟨"BackBayModel","feed","(JI)J"⟩ ∈ gT := gT_tb (tb5 (List.mem_of_getElem? (i := 88) rfl)) rfl
set_option maxRecDepth 8000 in
theorem k_1049 : Cond.code ⟨"BackBayModel","feed","(JI)J"⟩ prog_14_method_12_code 5 (some .long) ∈ gT := gT_tb (tb5 (List.mem_of_getElem? (i := 89) rfl)) rfl
set_option maxRecDepth 8000 in
theorem k_1050 : Cond.methodLink "BackBayLaw" 43 ⟨"BackBayModel","stencils","()J"⟩ ∈ gT := gT_tb (tb5 (List.mem_of_getElem? (i := 90) rfl)) rfl
set_option maxRecDepth 8000 in
theorem k_1051 : Cond.instanceMethod ⟨"BackBayModel","stencils","()J"⟩ ∈ gT := gT_tb (tb5 (List.mem_of_getElem? (i := 91) rfl)) rfl
set_option maxRecDepth 8000 in
theorem k_1052 : Cond.selects "BackBayModel" ⟨"BackBayModel","stencils","()J"⟩ ⟨"BackBayModel","stencils","()J"⟩ ∈ gT := gT_tb (tb5 (List.mem_of_getElem? (i := 92) rfl)) rfl
set_option maxRecDepth 8000 in
theorem k_1053 : Cond.code ⟨"BackBayModel","stencils","()J"⟩ prog_14_method_21_code 3 (some .long) ∈ gT := gT_tb (tb5 (List.mem_of_getElem? (i := 93) rfl)) rfl
set_option maxRecDepth 8000 in
theorem k_1054 : Cond.methodLink "BackBayModel" 182 ⟨"BackBayModel","readAll","()I"⟩ ∈ gT := gT_tb (tb5 (List.mem_of_getElem? (i := 94) rfl)) rfl
set_option maxRecDepth 8000 in
theorem k_1056 : Cond.instanceMethod ⟨"BackBayModel","readAll","()I"⟩ ∈ gT := gT_tb (tb5 (List.mem_of_getElem? (i := 96) rfl)) rfl
set_option maxRecDepth 8000 in
theorem k_1057 : Cond.code ⟨"BackBayModel","readAll","()I"⟩ prog_14_method_19_code 5 (some .int) ∈ gT := gT_tb (tb5 (List.mem_of_getElem? (i := 97) rfl)) rfl
set_option maxRecDepth 8000 in
theorem k_1058 : Cond.methodLink "BackBayModel" 168 ⟨"BackBayModel","token","()I"⟩ ∈ gT := gT_tb (tb5 (List.mem_of_getElem? (i := 98) rfl)) rfl
set_option maxRecDepth 8000 in
theorem k_1060 : Cond.instanceMethod ⟨"BackBayModel","token","()I"⟩ ∈ gT := gT_tb (tb5 (List.mem_of_getElem? (i := 100) rfl)) rfl
set_option maxRecDepth 8000 in
theorem k_1061 : Cond.code ⟨"BackBayModel","token","()I"⟩ prog_14_method_15_code 3 (some .int) ∈ gT := gT_tb (tb5 (List.mem_of_getElem? (i := 101) rfl)) rfl
set_option maxRecDepth 8000 in
theorem k_1062 : Cond.methodLink "BackBayModel" 152 ⟨"BackBayModel","isLetter","(I)Z"⟩ ∈ gT := gT_tb (tb5 (List.mem_of_getElem? (i := 102) rfl)) rfl
set_option maxRecDepth 8000 in
theorem k_1063 : Cond.static ⟨"BackBayModel","isLetter","(I)Z"⟩ ∈ gT := gT_tb (tb5 (List.mem_of_getElem? (i := 103) rfl)) rfl
set_option maxRecDepth 8000 in
theorem k_1064 : Cond.code ⟨"BackBayModel","isLetter","(I)Z"⟩ prog_14_method_13_code 1 (some .boolean) ∈ gT := gT_tb (tb5 (List.mem_of_getElem? (i := 104) rfl)) rfl
set_option maxRecDepth 8000 in
theorem k_1065 : Cond.methodLink "BackBayModel" 155 ⟨"BackBayModel","isDigit","(I)Z"⟩ ∈ gT := gT_tb (tb5 (List.mem_of_getElem? (i := 105) rfl)) rfl
set_option maxRecDepth 8000 in
theorem k_1066 : Cond.static ⟨"BackBayModel","isDigit","(I)Z"⟩ ∈ gT := gT_tb (tb5 (List.mem_of_getElem? (i := 106) rfl)) rfl
set_option maxRecDepth 8000 in
theorem k_1067 : Cond.code ⟨"BackBayModel","isDigit","(I)Z"⟩ prog_14_method_14_code 1 (some .boolean) ∈ gT := gT_tb (tb5 (List.mem_of_getElem? (i := 107) rfl)) rfl
set_option maxRecDepth 8000 in
theorem k_1068 : Cond.methodLink "BackBayModel" 158 ⟨"BackBayModel","wordOf","(IIII)I"⟩ ∈ gT := gT_tb (tb5 (List.mem_of_getElem? (i := 108) rfl)) rfl
set_option maxRecDepth 8000 in
theorem k_1069 : Cond.static ⟨"BackBayModel","wordOf","(IIII)I"⟩ ∈ gT := gT_tb (tb5 (List.mem_of_getElem? (i := 109) rfl)) rfl
set_option maxRecDepth 8000 in
theorem k_1070 : Cond.code ⟨"BackBayModel","wordOf","(IIII)I"⟩ prog_14_method_16_code 5 (some .int) ∈ gT := gT_tb (tb5 (List.mem_of_getElem? (i := 110) rfl)) rfl
set_option maxRecDepth 8000 in
theorem k_1071 : Cond.methodLink "BackBayModel" 172 ⟨"BackBayModel","kindOf","(II)I"⟩ ∈ gT := gT_tb (tb5 (List.mem_of_getElem? (i := 111) rfl)) rfl
set_option maxRecDepth 8000 in
theorem k_1073 : Cond.instanceMethod ⟨"BackBayModel","kindOf","(II)I"⟩ ∈ gT := gT_tb (tb5 (List.mem_of_getElem? (i := 113) rfl)) rfl
set_option maxRecDepth 8000 in
theorem k_1074 : Cond.code ⟨"BackBayModel","kindOf","(II)I"⟩ prog_14_method_17_code 4 (some .int) ∈ gT := gT_tb (tb5 (List.mem_of_getElem? (i := 114) rfl)) rfl
set_option maxRecDepth 8000 in
theorem k_1075 : Cond.methodLink "BackBayModel" 175 ⟨"BackBayModel","children","(I)I"⟩ ∈ gT := gT_tb (tb5 (List.mem_of_getElem? (i := 115) rfl)) rfl
set_option maxRecDepth 8000 in
theorem k_1076 : Cond.static ⟨"BackBayModel","children","(I)I"⟩ ∈ gT := gT_tb (tb5 (List.mem_of_getElem? (i := 116) rfl)) rfl
set_option maxRecDepth 8000 in
theorem k_1077 : Cond.code ⟨"BackBayModel","children","(I)I"⟩ prog_14_method_18_code 1 (some .int) ∈ gT := gT_tb (tb5 (List.mem_of_getElem? (i := 117) rfl)) rfl
set_option maxRecDepth 8000 in
theorem k_1078 : Cond.constantLong "BackBayModel" 188 (-9000000000000000100) ∈ gT := gT_tb (tb5 (List.mem_of_getElem? (i := 118) rfl)) rfl
set_option maxRecDepth 8000 in
theorem k_1079 : Cond.methodLink "BackBayModel" 193 ⟨"BackBayModel","laySizes","()V"⟩ ∈ gT := gT_tb (tb5 (List.mem_of_getElem? (i := 119) rfl)) rfl
set_option maxRecDepth 8000 in
theorem k_1081 : Cond.instanceMethod ⟨"BackBayModel","laySizes","()V"⟩ ∈ gT := gT_tb (tb5 (List.mem_of_getElem? (i := 121) rfl)) rfl
set_option maxRecDepth 8000 in
theorem k_1082 : Cond.code ⟨"BackBayModel","laySizes","()V"⟩ prog_14_method_20_code 4 none ∈ gT := gT_tb (tb5 (List.mem_of_getElem? (i := 122) rfl)) rfl
set_option maxRecDepth 8000 in
theorem k_1083 : Cond.methodLink "BackBayLaw" 48 ⟨"BackBayModel","fault","()I"⟩ ∈ gT := gT_tb (tb5 (List.mem_of_getElem? (i := 123) rfl)) rfl
set_option maxRecDepth 8000 in
theorem k_1084 : Cond.instanceMethod ⟨"BackBayModel","fault","()I"⟩ ∈ gT := gT_tb (tb5 (List.mem_of_getElem? (i := 124) rfl)) rfl
set_option maxRecDepth 8000 in
theorem k_1085 : Cond.selects "BackBayModel" ⟨"BackBayModel","fault","()I"⟩ ⟨"BackBayModel","fault","()I"⟩ ∈ gT := gT_tb (tb5 (List.mem_of_getElem? (i := 125) rfl)) rfl
set_option maxRecDepth 8000 in
theorem k_1086 : Cond.code ⟨"BackBayModel","fault","()I"⟩ prog_14_method_22_code 1 (some .int) ∈ gT := gT_tb (tb5 (List.mem_of_getElem? (i := 126) rfl)) rfl
set_option maxRecDepth 8000 in
theorem k_1087 : Cond.methodLink "BackBayLaw" 52 ⟨"BackBayModel","bay","(I)J"⟩ ∈ gT := gT_tb (tb5 (List.mem_of_getElem? (i := 127) rfl)) rfl
set_option maxRecDepth 8000 in
theorem k_1088 : Cond.instanceMethod ⟨"BackBayModel","bay","(I)J"⟩ ∈ gT := gT_tb (tb5 (List.mem_of_getElem? (i := 128) rfl)) rfl
set_option maxRecDepth 8000 in
theorem k_1089 : Cond.selects "BackBayModel" ⟨"BackBayModel","bay","(I)J"⟩ ⟨"BackBayModel","bay","(I)J"⟩ ∈ gT := gT_tb (tb5 (List.mem_of_getElem? (i := 129) rfl)) rfl
set_option maxRecDepth 8000 in
theorem k_1090 : Cond.code ⟨"BackBayModel","bay","(I)J"⟩ prog_14_method_24_code 4 (some .long) ∈ gT := gT_tb (tb5 (List.mem_of_getElem? (i := 130) rfl)) rfl
set_option maxRecDepth 8000 in
theorem k_1091 : Cond.methodLink "BackBayLaw" 57 ⟨"BackBayModel","start","(II)J"⟩ ∈ gT := gT_tb (tb5 (List.mem_of_getElem? (i := 131) rfl)) rfl
set_option maxRecDepth 8000 in
theorem k_1092 : Cond.instanceMethod ⟨"BackBayModel","start","(II)J"⟩ ∈ gT := gT_tb (tb5 (List.mem_of_getElem? (i := 132) rfl)) rfl
set_option maxRecDepth 8000 in
theorem k_1093 : Cond.selects "BackBayModel" ⟨"BackBayModel","start","(II)J"⟩ ⟨"BackBayModel","start","(II)J"⟩ ∈ gT := gT_tb (tb5 (List.mem_of_getElem? (i := 133) rfl)) rfl
set_option maxRecDepth 8000 in
theorem k_1094 : Cond.code ⟨"BackBayModel","start","(II)J"⟩ prog_14_method_25_code 4 (some .long) ∈ gT := gT_tb (tb5 (List.mem_of_getElem? (i := 134) rfl)) rfl
set_option maxRecDepth 8000 in
theorem k_1095 : Cond.methodLink "BackBayLaw" 61 ⟨"BackBayModel","strip","(II)J"⟩ ∈ gT := gT_tb (tb5 (List.mem_of_getElem? (i := 135) rfl)) rfl
set_option maxRecDepth 8000 in
theorem k_1096 : Cond.instanceMethod ⟨"BackBayModel","strip","(II)J"⟩ ∈ gT := gT_tb (tb5 (List.mem_of_getElem? (i := 136) rfl)) rfl
set_option maxRecDepth 8000 in
theorem k_1097 : Cond.selects "BackBayModel" ⟨"BackBayModel","strip","(II)J"⟩ ⟨"BackBayModel","strip","(II)J"⟩ ∈ gT := gT_tb (tb5 (List.mem_of_getElem? (i := 137) rfl)) rfl
set_option maxRecDepth 8000 in
theorem k_1098 : Cond.code ⟨"BackBayModel","strip","(II)J"⟩ prog_14_method_26_code 4 (some .long) ∈ gT := gT_tb (tb5 (List.mem_of_getElem? (i := 138) rfl)) rfl
set_option maxRecDepth 8000 in
theorem k_1099 : Cond.methodLink "BackBayModel" 196 ⟨"BackBayModel","isCell","(I)Z"⟩ ∈ gT := gT_tb (tb5 (List.mem_of_getElem? (i := 139) rfl)) rfl
set_option maxRecDepth 8000 in
theorem k_1101 : Cond.instanceMethod ⟨"BackBayModel","isCell","(I)Z"⟩ ∈ gT := gT_tb (tb5 (List.mem_of_getElem? (i := 141) rfl)) rfl
set_option maxRecDepth 8000 in
theorem k_1102 : Cond.code ⟨"BackBayModel","isCell","(I)Z"⟩ prog_14_method_23_code 2 (some .boolean) ∈ gT := gT_tb (tb5 (List.mem_of_getElem? (i := 142) rfl)) rfl
set_option maxRecDepth 8000 in
theorem k_1103 : Cond.methodLink "BackBayLaw" 65 ⟨"BackBayModel","edge","(II)J"⟩ ∈ gT := gT_tb (tb5 (List.mem_of_getElem? (i := 143) rfl)) rfl
set_option maxRecDepth 8000 in
theorem k_1104 : Cond.instanceMethod ⟨"BackBayModel","edge","(II)J"⟩ ∈ gT := gT_tb (tb5 (List.mem_of_getElem? (i := 144) rfl)) rfl
set_option maxRecDepth 8000 in
theorem k_1105 : Cond.selects "BackBayModel" ⟨"BackBayModel","edge","(II)J"⟩ ⟨"BackBayModel","edge","(II)J"⟩ ∈ gT := gT_tb (tb5 (List.mem_of_getElem? (i := 145) rfl)) rfl
set_option maxRecDepth 8000 in
theorem k_1106 : Cond.code ⟨"BackBayModel","edge","(II)J"⟩ prog_14_method_27_code 4 (some .long) ∈ gT := gT_tb (tb5 (List.mem_of_getElem? (i := 146) rfl)) rfl
set_option maxRecDepth 8000 in
theorem k_1107 : Cond.methodLink "BackBayLaw" 69 ⟨"BackBayModel","cell","(II)J"⟩ ∈ gT := gT_tb (tb5 (List.mem_of_getElem? (i := 147) rfl)) rfl
set_option maxRecDepth 8000 in
theorem k_1108 : Cond.instanceMethod ⟨"BackBayModel","cell","(II)J"⟩ ∈ gT := gT_tb (tb5 (List.mem_of_getElem? (i := 148) rfl)) rfl
set_option maxRecDepth 8000 in
theorem k_1109 : Cond.selects "BackBayModel" ⟨"BackBayModel","cell","(II)J"⟩ ⟨"BackBayModel","cell","(II)J"⟩ ∈ gT := gT_tb (tb5 (List.mem_of_getElem? (i := 149) rfl)) rfl
set_option maxRecDepth 8000 in
theorem k_1110 : Cond.code ⟨"BackBayModel","cell","(II)J"⟩ prog_14_method_38_code 3 (some .long) ∈ gT := gT_tb (tb5 (List.mem_of_getElem? (i := 150) rfl)) rfl
set_option maxRecDepth 8000 in
theorem k_1111 : Cond.methodLink "BackBayModel" 228 ⟨"BackBayModel","go","(I)V"⟩ ∈ gT := gT_tb (tb5 (List.mem_of_getElem? (i := 151) rfl)) rfl
set_option maxRecDepth 8000 in
theorem k_1113 : Cond.instanceMethod ⟨"BackBayModel","go","(I)V"⟩ ∈ gT := gT_tb (tb5 (List.mem_of_getElem? (i := 153) rfl)) rfl
set_option maxRecDepth 8000 in
theorem k_1114 : Cond.code ⟨"BackBayModel","go","(I)V"⟩ prog_14_method_36_code 4 none ∈ gT := gT_tb (tb5 (List.mem_of_getElem? (i := 154) rfl)) rfl
set_option maxRecDepth 8000 in
theorem k_1115 : Cond.methodLink "BackBayModel" 221 ⟨"BackBayModel","work","(III)I"⟩ ∈ gT := gT_tb (tb5 (List.mem_of_getElem? (i := 155) rfl)) rfl
set_option maxRecDepth 8000 in
theorem k_1117 : Cond.instanceMethod ⟨"BackBayModel","work","(III)I"⟩ ∈ gT := gT_tb (tb5 (List.mem_of_getElem? (i := 157) rfl)) rfl
set_option maxRecDepth 8000 in
theorem k_1118 : Cond.code ⟨"BackBayModel","work","(III)I"⟩ prog_14_method_34_code 5 (some .int) ∈ gT := gT_tb (tb5 (List.mem_of_getElem? (i := 158) rfl)) rfl
set_option maxRecDepth 8000 in
theorem k_1119 : Cond.methodLink "BackBayModel" 215 ⟨"BackBayModel","valueOf","(III)I"⟩ ∈ gT := gT_tb (tb5 (List.mem_of_getElem? (i := 159) rfl)) rfl
set_option maxRecDepth 8000 in
theorem k_1121 : Cond.instanceMethod ⟨"BackBayModel","valueOf","(III)I"⟩ ∈ gT := gT_tb (tb5 (List.mem_of_getElem? (i := 161) rfl)) rfl
set_option maxRecDepth 8000 in
theorem k_1122 : Cond.code ⟨"BackBayModel","valueOf","(III)I"⟩ prog_14_method_33_code 6 (some .int) ∈ gT := gT_tb (tb5 (List.mem_of_getElem? (i := 162) rfl)) rfl
set_option maxRecDepth 8000 in
theorem k_1123 : Cond.methodLink "BackBayModel" 208 ⟨"BackBayModel","seenAt","(III)I"⟩ ∈ gT := gT_tb (tb5 (List.mem_of_getElem? (i := 163) rfl)) rfl
set_option maxRecDepth 8000 in
theorem k_1125 : Cond.instanceMethod ⟨"BackBayModel","seenAt","(III)I"⟩ ∈ gT := gT_tb (tb5 (List.mem_of_getElem? (i := 165) rfl)) rfl
set_option maxRecDepth 8000 in
theorem k_1126 : Cond.code ⟨"BackBayModel","seenAt","(III)I"⟩ prog_14_method_28_code 4 (some .int) ∈ gT := gT_tb (tb5 (List.mem_of_getElem? (i := 166) rfl)) rfl
set_option maxRecDepth 8000 in
theorem k_1127 : Cond.methodLink "BackBayModel" 199 ⟨"BackBayModel","second","(I)I"⟩ ∈ gT := gT_tb (tb5 (List.mem_of_getElem? (i := 167) rfl)) rfl
set_option maxRecDepth 8000 in
theorem k_1129 : Cond.instanceMethod ⟨"BackBayModel","second","(I)I"⟩ ∈ gT := gT_tb (tb5 (List.mem_of_getElem? (i := 169) rfl)) rfl
set_option maxRecDepth 8000 in
theorem k_1130 : Cond.code ⟨"BackBayModel","second","(I)I"⟩ prog_14_method_29_code 2 (some .int) ∈ gT := gT_tb (tb5 (List.mem_of_getElem? (i := 170) rfl)) rfl
set_option maxRecDepth 8000 in
theorem k_1131 : Cond.methodLink "BackBayModel" 212 ⟨"BackBayModel","takenOf","(I)I"⟩ ∈ gT := gT_tb (tb5 (List.mem_of_getElem? (i := 171) rfl)) rfl
set_option maxRecDepth 8000 in
theorem k_1133 : Cond.instanceMethod ⟨"BackBayModel","takenOf","(I)I"⟩ ∈ gT := gT_tb (tb5 (List.mem_of_getElem? (i := 173) rfl)) rfl
set_option maxRecDepth 8000 in
theorem k_1134 : Cond.code ⟨"BackBayModel","takenOf","(I)I"⟩ prog_14_method_32_code 5 (some .int) ∈ gT := gT_tb (tb5 (List.mem_of_getElem? (i := 174) rfl)) rfl
set_option maxRecDepth 8000 in
theorem k_1135 : Cond.methodLink "BackBayModel" 202 ⟨"BackBayModel","third","(I)I"⟩ ∈ gT := gT_tb (tb5 (List.mem_of_getElem? (i := 175) rfl)) rfl
set_option maxRecDepth 8000 in
theorem k_1137 : Cond.instanceMethod ⟨"BackBayModel","third","(I)I"⟩ ∈ gT := gT_tb (tb5 (List.mem_of_getElem? (i := 177) rfl)) rfl
set_option maxRecDepth 8000 in
theorem k_1138 : Cond.code ⟨"BackBayModel","third","(I)I"⟩ prog_14_method_30_code 2 (some .int) ∈ gT := gT_tb (tb5 (List.mem_of_getElem? (i := 178) rfl)) rfl
set_option maxRecDepth 8000 in
theorem k_1139 : Cond.methodLink "BackBayModel" 205 ⟨"BackBayModel","fourth","(I)I"⟩ ∈ gT := gT_tb (tb5 (List.mem_of_getElem? (i := 179) rfl)) rfl
set_option maxRecDepth 8000 in
theorem k_1141 : Cond.instanceMethod ⟨"BackBayModel","fourth","(I)I"⟩ ∈ gT := gT_tb (tb5 (List.mem_of_getElem? (i := 181) rfl)) rfl
set_option maxRecDepth 8000 in
theorem k_1142 : Cond.code ⟨"BackBayModel","fourth","(I)I"⟩ prog_14_method_31_code 2 (some .int) ∈ gT := gT_tb (tb5 (List.mem_of_getElem? (i := 182) rfl)) rfl
set_option maxRecDepth 8000 in
theorem k_1143 : Cond.methodLink "BackBayModel" 224 ⟨"BackBayModel","countKnots","(I)V"⟩ ∈ gT := gT_tb (tb5 (List.mem_of_getElem? (i := 183) rfl)) rfl
set_option maxRecDepth 8000 in
theorem k_1145 : Cond.instanceMethod ⟨"BackBayModel","countKnots","(I)V"⟩ ∈ gT := gT_tb (tb5 (List.mem_of_getElem? (i := 185) rfl)) rfl
set_option maxRecDepth 8000 in
theorem k_1146 : Cond.code ⟨"BackBayModel","countKnots","(I)V"⟩ prog_14_method_35_code 4 none ∈ gT := gT_tb (tb5 (List.mem_of_getElem? (i := 186) rfl)) rfl
set_option maxRecDepth 8000 in
theorem k_1147 : Cond.methodLink "BackBayModel" 231 ⟨"BackBayModel","stateAt","(II)I"⟩ ∈ gT := gT_tb (tb5 (List.mem_of_getElem? (i := 187) rfl)) rfl
set_option maxRecDepth 8000 in
theorem k_1149 : Cond.instanceMethod ⟨"BackBayModel","stateAt","(II)I"⟩ ∈ gT := gT_tb (tb5 (List.mem_of_getElem? (i := 189) rfl)) rfl
set_option maxRecDepth 8000 in
theorem k_1150 : Cond.code ⟨"BackBayModel","stateAt","(II)I"⟩ prog_14_method_37_code 3 (some .int) ∈ gT := gT_tb (tb5 (List.mem_of_getElem? (i := 190) rfl)) rfl
set_option maxRecDepth 8000 in
theorem k_1151 : Cond.methodLink "BackBayLaw" 74 ⟨"BackBayModel","gauge","(IIII)J"⟩ ∈ gT := gT_tb (tb5 (List.mem_of_getElem? (i := 191) rfl)) rfl
set_option maxRecDepth 8000 in
theorem k_1152 : Cond.instanceMethod ⟨"BackBayModel","gauge","(IIII)J"⟩ ∈ gT := gT_tb (tb5 (List.mem_of_getElem? (i := 192) rfl)) rfl
set_option maxRecDepth 8000 in
theorem k_1153 : Cond.selects "BackBayModel" ⟨"BackBayModel","gauge","(IIII)J"⟩ ⟨"BackBayModel","gauge","(IIII)J"⟩ ∈ gT := gT_tb (tb5 (List.mem_of_getElem? (i := 193) rfl)) rfl
set_option maxRecDepth 8000 in
theorem k_1154 : Cond.code ⟨"BackBayModel","gauge","(IIII)J"⟩ prog_14_method_39_code 5 (some .long) ∈ gT := gT_tb (tb5 (List.mem_of_getElem? (i := 194) rfl)) rfl
set_option maxRecDepth 8000 in
theorem k_1155 : Cond.methodLink "BackBayLaw" 78 ⟨"BackBayModel","out","(II)J"⟩ ∈ gT := gT_tb (tb5 (List.mem_of_getElem? (i := 195) rfl)) rfl
set_option maxRecDepth 8000 in
theorem k_1156 : Cond.instanceMethod ⟨"BackBayModel","out","(II)J"⟩ ∈ gT := gT_tb (tb5 (List.mem_of_getElem? (i := 196) rfl)) rfl
set_option maxRecDepth 8000 in
theorem k_1157 : Cond.selects "BackBayModel" ⟨"BackBayModel","out","(II)J"⟩ ⟨"BackBayModel","out","(II)J"⟩ ∈ gT := gT_tb (tb5 (List.mem_of_getElem? (i := 197) rfl)) rfl
set_option maxRecDepth 8000 in
theorem k_1158 : Cond.code ⟨"BackBayModel","out","(II)J"⟩ prog_14_method_40_code 3 (some .long) ∈ gT := gT_tb (tb5 (List.mem_of_getElem? (i := 198) rfl)) rfl
set_option maxRecDepth 8000 in
theorem k_1159 : Cond.methodLink "BackBayLaw" 82 ⟨"BackBayModel","wish","(I)J"⟩ ∈ gT := gT_tb (tb5 (List.mem_of_getElem? (i := 199) rfl)) rfl
set_option maxRecDepth 8000 in
theorem k_1160 : Cond.instanceMethod ⟨"BackBayModel","wish","(I)J"⟩ ∈ gT := gT_tb (tb5 (List.mem_of_getElem? (i := 200) rfl)) rfl
set_option maxRecDepth 8000 in
theorem k_1161 : Cond.selects "BackBayModel" ⟨"BackBayModel","wish","(I)J"⟩ ⟨"BackBayModel","wish","(I)J"⟩ ∈ gT := gT_tb (tb5 (List.mem_of_getElem? (i := 201) rfl)) rfl
set_option maxRecDepth 8000 in
theorem k_1162 : Cond.code ⟨"BackBayModel","wish","(I)J"⟩ prog_14_method_44_code 2 (some .long) ∈ gT := gT_tb (tb5 (List.mem_of_getElem? (i := 202) rfl)) rfl
set_option maxRecDepth 8000 in
theorem k_1163 : Cond.methodLink "BackBayModel" 243 ⟨"BackBayModel","wishNow","()I"⟩ ∈ gT := gT_tb (tb5 (List.mem_of_getElem? (i := 203) rfl)) rfl
set_option maxRecDepth 8000 in
theorem k_1165 : Cond.instanceMethod ⟨"BackBayModel","wishNow","()I"⟩ ∈ gT := gT_tb (tb5 (List.mem_of_getElem? (i := 205) rfl)) rfl
set_option maxRecDepth 8000 in
theorem k_1166 : Cond.code ⟨"BackBayModel","wishNow","()I"⟩ prog_14_method_43_code 4 (some .int) ∈ gT := gT_tb (tb5 (List.mem_of_getElem? (i := 206) rfl)) rfl
set_option maxRecDepth 8000 in
theorem k_1167 : Cond.methodLink "BackBayModel" 240 ⟨"BackBayModel","last","()I"⟩ ∈ gT := gT_tb (tb5 (List.mem_of_getElem? (i := 207) rfl)) rfl
set_option maxRecDepth 8000 in
theorem k_1169 : Cond.instanceMethod ⟨"BackBayModel","last","()I"⟩ ∈ gT := gT_tb (tb5 (List.mem_of_getElem? (i := 209) rfl)) rfl
set_option maxRecDepth 8000 in
theorem k_1170 : Cond.code ⟨"BackBayModel","last","()I"⟩ prog_14_method_42_code 3 (some .int) ∈ gT := gT_tb (tb5 (List.mem_of_getElem? (i := 210) rfl)) rfl
set_option maxRecDepth 8000 in
theorem k_1171 : Cond.methodLink "BackBayModel" 237 ⟨"BackBayModel","counts","(I)Z"⟩ ∈ gT := gT_tb (tb5 (List.mem_of_getElem? (i := 211) rfl)) rfl
set_option maxRecDepth 8000 in
theorem k_1173 : Cond.instanceMethod ⟨"BackBayModel","counts","(I)Z"⟩ ∈ gT := gT_tb (tb5 (List.mem_of_getElem? (i := 213) rfl)) rfl
set_option maxRecDepth 8000 in
theorem k_1174 : Cond.code ⟨"BackBayModel","counts","(I)Z"⟩ prog_14_method_41_code 2 (some .boolean) ∈ gT := gT_tb (tb5 (List.mem_of_getElem? (i := 214) rfl)) rfl
set_option maxRecDepth 8000 in
theorem k_1175 : Cond.methodLink "BackBayLaw" 86 ⟨"BackBayModel","slope","(II)J"⟩ ∈ gT := gT_tb (tb5 (List.mem_of_getElem? (i := 215) rfl)) rfl
set_option maxRecDepth 8000 in
theorem k_1176 : Cond.instanceMethod ⟨"BackBayModel","slope","(II)J"⟩ ∈ gT := gT_tb (tb5 (List.mem_of_getElem? (i := 216) rfl)) rfl
set_option maxRecDepth 8000 in
theorem k_1177 : Cond.selects "BackBayModel" ⟨"BackBayModel","slope","(II)J"⟩ ⟨"BackBayModel","slope","(II)J"⟩ ∈ gT := gT_tb (tb5 (List.mem_of_getElem? (i := 217) rfl)) rfl
set_option maxRecDepth 8000 in
theorem k_1178 : Cond.code ⟨"BackBayModel","slope","(II)J"⟩ prog_14_method_49_code 3 (some .long) ∈ gT := gT_tb (tb5 (List.mem_of_getElem? (i := 218) rfl)) rfl
set_option maxRecDepth 8000 in
theorem k_1179 : Cond.methodLink "BackBayModel" 256 ⟨"BackBayModel","findSlopes","()V"⟩ ∈ gT := gT_tb (tb5 (List.mem_of_getElem? (i := 219) rfl)) rfl
set_option maxRecDepth 8000 in
theorem k_1181 : Cond.instanceMethod ⟨"BackBayModel","findSlopes","()V"⟩ ∈ gT := gT_tb (tb5 (List.mem_of_getElem? (i := 221) rfl)) rfl
set_option maxRecDepth 8000 in
theorem k_1182 : Cond.code ⟨"BackBayModel","findSlopes","()V"⟩ prog_14_method_48_code 6 none ∈ gT := gT_tb (tb5 (List.mem_of_getElem? (i := 222) rfl)) rfl
set_option maxRecDepth 8000 in
theorem k_1183 : Cond.methodLink "BackBayModel" 250 ⟨"BackBayModel","addGauges","(I)V"⟩ ∈ gT := gT_tb (tb5 (List.mem_of_getElem? (i := 223) rfl)) rfl
set_option maxRecDepth 8000 in
theorem k_1185 : Cond.instanceMethod ⟨"BackBayModel","addGauges","(I)V"⟩ ∈ gT := gT_tb (tb5 (List.mem_of_getElem? (i := 225) rfl)) rfl
set_option maxRecDepth 8000 in
theorem k_1186 : Cond.code ⟨"BackBayModel","addGauges","(I)V"⟩ prog_14_method_47_code 3 none ∈ gT := gT_tb (tb5 (List.mem_of_getElem? (i := 226) rfl)) rfl
set_option maxRecDepth 8000 in
theorem k_1187 : Cond.methodLink "BackBayModel" 253 ⟨"BackBayModel","giveBack","(III)V"⟩ ∈ gT := gT_tb (tb5 (List.mem_of_getElem? (i := 227) rfl)) rfl
set_option maxRecDepth 8000 in
theorem k_1189 : Cond.instanceMethod ⟨"BackBayModel","giveBack","(III)V"⟩ ∈ gT := gT_tb (tb5 (List.mem_of_getElem? (i := 229) rfl)) rfl
set_option maxRecDepth 8000 in
theorem k_1190 : Cond.code ⟨"BackBayModel","giveBack","(III)V"⟩ prog_14_method_45_code 9 none ∈ gT := gT_tb (tb5 (List.mem_of_getElem? (i := 230) rfl)) rfl
set_option maxRecDepth 8000 in
theorem k_1191 : Cond.methodLink "BackBayModel" 246 ⟨"BackBayModel","giveSeen","(III)V"⟩ ∈ gT := gT_tb (tb5 (List.mem_of_getElem? (i := 231) rfl)) rfl
set_option maxRecDepth 8000 in
theorem k_1193 : Cond.instanceMethod ⟨"BackBayModel","giveSeen","(III)V"⟩ ∈ gT := gT_tb (tb5 (List.mem_of_getElem? (i := 233) rfl)) rfl
set_option maxRecDepth 8000 in
theorem k_1194 : Cond.code ⟨"BackBayModel","giveSeen","(III)V"⟩ prog_14_method_46_code 4 none ∈ gT := gT_tb (tb5 (List.mem_of_getElem? (i := 234) rfl)) rfl
set_option maxRecDepth 8000 in
theorem k_1195 : Cond.methodLink "BackBayLaw" 90 ⟨"BackBayModel","push","(II)J"⟩ ∈ gT := gT_tb (tb5 (List.mem_of_getElem? (i := 235) rfl)) rfl
set_option maxRecDepth 8000 in
theorem k_1196 : Cond.instanceMethod ⟨"BackBayModel","push","(II)J"⟩ ∈ gT := gT_tb (tb5 (List.mem_of_getElem? (i := 236) rfl)) rfl
set_option maxRecDepth 8000 in
theorem k_1197 : Cond.selects "BackBayModel" ⟨"BackBayModel","push","(II)J"⟩ ⟨"BackBayModel","push","(II)J"⟩ ∈ gT := gT_tb (tb5 (List.mem_of_getElem? (i := 237) rfl)) rfl
set_option maxRecDepth 8000 in
theorem k_1198 : Cond.code ⟨"BackBayModel","push","(II)J"⟩ prog_14_method_50_code 5 (some .long) ∈ gT := gT_tb (tb5 (List.mem_of_getElem? (i := 238) rfl)) rfl
set_option maxRecDepth 8000 in
theorem k_1199 : Cond.methodLink "BackBayLaw" 94 ⟨"BackBayModel","again","(III)J"⟩ ∈ gT := gT_tb (tb5 (List.mem_of_getElem? (i := 239) rfl)) rfl
set_option maxRecDepth 8000 in
theorem k_1200 : Cond.instanceMethod ⟨"BackBayModel","again","(III)J"⟩ ∈ gT := gT_tb (tb6 (List.mem_of_getElem? (i := 0) rfl)) rfl
set_option maxRecDepth 8000 in
theorem k_1201 : Cond.selects "BackBayModel" ⟨"BackBayModel","again","(III)J"⟩ ⟨"BackBayModel","again","(III)J"⟩ ∈ gT := gT_tb (tb6 (List.mem_of_getElem? (i := 1) rfl)) rfl
set_option maxRecDepth 8000 in
theorem k_1202 : Cond.code ⟨"BackBayModel","again","(III)J"⟩ prog_14_method_52_code 4 (some .long) ∈ gT := gT_tb (tb6 (List.mem_of_getElem? (i := 2) rfl)) rfl
set_option maxRecDepth 8000 in
theorem k_1203 : Cond.methodLink "BackBayModel" 260 ⟨"BackBayModel","layFewest","(I)V"⟩ ∈ gT := gT_tb (tb6 (List.mem_of_getElem? (i := 3) rfl)) rfl
set_option maxRecDepth 8000 in
theorem k_1205 : Cond.instanceMethod ⟨"BackBayModel","layFewest","(I)V"⟩ ∈ gT := gT_tb (tb6 (List.mem_of_getElem? (i := 5) rfl)) rfl
set_option maxRecDepth 8000 in
theorem k_1206 : Cond.code ⟨"BackBayModel","layFewest","(I)V"⟩ prog_14_method_51_code 8 none ∈ gT := gT_tb (tb6 (List.mem_of_getElem? (i := 6) rfl)) rfl
set_option maxRecDepth 8000 in
theorem k_1207 : Cond.constant "BackBayModel" 259 (-1000000) ∈ gT := gT_tb (tb6 (List.mem_of_getElem? (i := 7) rfl)) rfl
set_option maxRecDepth 8000 in
theorem k_1208 : Cond.methodLink "BackBayLaw" 98 ⟨"BackBayModel","move","()I"⟩ ∈ gT := gT_tb (tb6 (List.mem_of_getElem? (i := 8) rfl)) rfl
set_option maxRecDepth 8000 in
theorem k_1209 : Cond.instanceMethod ⟨"BackBayModel","move","()I"⟩ ∈ gT := gT_tb (tb6 (List.mem_of_getElem? (i := 9) rfl)) rfl
set_option maxRecDepth 8000 in
theorem k_1210 : Cond.selects "BackBayModel" ⟨"BackBayModel","move","()I"⟩ ⟨"BackBayModel","move","()I"⟩ ∈ gT := gT_tb (tb6 (List.mem_of_getElem? (i := 10) rfl)) rfl
set_option maxRecDepth 8000 in
theorem k_1211 : Cond.code ⟨"BackBayModel","move","()I"⟩ prog_14_method_55_code 4 (some .int) ∈ gT := gT_tb (tb6 (List.mem_of_getElem? (i := 11) rfl)) rfl
set_option maxRecDepth 8000 in
theorem k_1212 : Cond.methodLink "BackBayModel" 267 ⟨"BackBayModel","steepest","()I"⟩ ∈ gT := gT_tb (tb6 (List.mem_of_getElem? (i := 12) rfl)) rfl
set_option maxRecDepth 8000 in
theorem k_1214 : Cond.instanceMethod ⟨"BackBayModel","steepest","()I"⟩ ∈ gT := gT_tb (tb6 (List.mem_of_getElem? (i := 14) rfl)) rfl
set_option maxRecDepth 8000 in
theorem k_1215 : Cond.code ⟨"BackBayModel","steepest","()I"⟩ prog_14_method_54_code 3 (some .int) ∈ gT := gT_tb (tb6 (List.mem_of_getElem? (i := 15) rfl)) rfl
set_option maxRecDepth 8000 in
theorem k_1216 : Cond.methodLink "BackBayModel" 263 ⟨"BackBayModel","isGreater","(II)Z"⟩ ∈ gT := gT_tb (tb6 (List.mem_of_getElem? (i := 16) rfl)) rfl
set_option maxRecDepth 8000 in
theorem k_1217 : Cond.static ⟨"BackBayModel","isGreater","(II)Z"⟩ ∈ gT := gT_tb (tb6 (List.mem_of_getElem? (i := 17) rfl)) rfl
set_option maxRecDepth 8000 in
theorem k_1218 : Cond.code ⟨"BackBayModel","isGreater","(II)Z"⟩ prog_14_method_53_code 6 (some .boolean) ∈ gT := gT_tb (tb6 (List.mem_of_getElem? (i := 18) rfl)) rfl
set_option maxRecDepth 8000 in
theorem k_1219 : Cond.methodLink "BackBayLaw" 102 ⟨"BackBayModel","rest","()I"⟩ ∈ gT := gT_tb (tb6 (List.mem_of_getElem? (i := 19) rfl)) rfl
set_option maxRecDepth 8000 in
theorem k_1220 : Cond.instanceMethod ⟨"BackBayModel","rest","()I"⟩ ∈ gT := gT_tb (tb6 (List.mem_of_getElem? (i := 20) rfl)) rfl
set_option maxRecDepth 8000 in
theorem k_1221 : Cond.selects "BackBayModel" ⟨"BackBayModel","rest","()I"⟩ ⟨"BackBayModel","rest","()I"⟩ ∈ gT := gT_tb (tb6 (List.mem_of_getElem? (i := 21) rfl)) rfl
set_option maxRecDepth 8000 in
theorem k_1222 : Cond.code ⟨"BackBayModel","rest","()I"⟩ prog_14_method_56_code 5 (some .int) ∈ gT := gT_tb (tb6 (List.mem_of_getElem? (i := 22) rfl)) rfl
set_option maxRecDepth 8000 in
theorem k_1223 : Cond.methodLink "BackBayLaw" 106 ⟨"BackBayModel","keep","()J"⟩ ∈ gT := gT_tb (tb6 (List.mem_of_getElem? (i := 23) rfl)) rfl
set_option maxRecDepth 8000 in
theorem k_1224 : Cond.instanceMethod ⟨"BackBayModel","keep","()J"⟩ ∈ gT := gT_tb (tb6 (List.mem_of_getElem? (i := 24) rfl)) rfl
set_option maxRecDepth 8000 in
theorem k_1225 : Cond.selects "BackBayModel" ⟨"BackBayModel","keep","()J"⟩ ⟨"BackBayModel","keep","()J"⟩ ∈ gT := gT_tb (tb6 (List.mem_of_getElem? (i := 25) rfl)) rfl
set_option maxRecDepth 8000 in
theorem k_1226 : Cond.code ⟨"BackBayModel","keep","()J"⟩ prog_14_method_57_code 2 (some .long) ∈ gT := gT_tb (tb6 (List.mem_of_getElem? (i := 26) rfl)) rfl
set_option maxRecDepth 8000 in
theorem k_1227 : Cond.methodLink "BackBayLaw" 110 ⟨"BackBayModel","lay","(I)J"⟩ ∈ gT := gT_tb (tb6 (List.mem_of_getElem? (i := 27) rfl)) rfl
set_option maxRecDepth 8000 in
theorem k_1228 : Cond.instanceMethod ⟨"BackBayModel","lay","(I)J"⟩ ∈ gT := gT_tb (tb6 (List.mem_of_getElem? (i := 28) rfl)) rfl
set_option maxRecDepth 8000 in
theorem k_1229 : Cond.selects "BackBayModel" ⟨"BackBayModel","lay","(I)J"⟩ ⟨"BackBayModel","lay","(I)J"⟩ ∈ gT := gT_tb (tb6 (List.mem_of_getElem? (i := 29) rfl)) rfl
set_option maxRecDepth 8000 in
theorem k_1230 : Cond.code ⟨"BackBayModel","lay","(I)J"⟩ prog_14_method_60_code 2 (some .long) ∈ gT := gT_tb (tb6 (List.mem_of_getElem? (i := 30) rfl)) rfl
set_option maxRecDepth 8000 in
theorem k_1231 : Cond.methodLink "BackBayModel" 273 ⟨"BackBayModel","isStripping","(I)Z"⟩ ∈ gT := gT_tb (tb6 (List.mem_of_getElem? (i := 31) rfl)) rfl
set_option maxRecDepth 8000 in
theorem k_1233 : Cond.instanceMethod ⟨"BackBayModel","isStripping","(I)Z"⟩ ∈ gT := gT_tb (tb6 (List.mem_of_getElem? (i := 33) rfl)) rfl
set_option maxRecDepth 8000 in
theorem k_1234 : Cond.code ⟨"BackBayModel","isStripping","(I)Z"⟩ prog_14_method_58_code 2 (some .boolean) ∈ gT := gT_tb (tb6 (List.mem_of_getElem? (i := 34) rfl)) rfl
set_option maxRecDepth 8000 in
theorem k_1235 : Cond.methodLink "BackBayModel" 276 ⟨"BackBayModel","layStripping","(I)V"⟩ ∈ gT := gT_tb (tb6 (List.mem_of_getElem? (i := 35) rfl)) rfl
set_option maxRecDepth 8000 in
theorem k_1237 : Cond.instanceMethod ⟨"BackBayModel","layStripping","(I)V"⟩ ∈ gT := gT_tb (tb6 (List.mem_of_getElem? (i := 37) rfl)) rfl
set_option maxRecDepth 8000 in
theorem k_1238 : Cond.code ⟨"BackBayModel","layStripping","(I)V"⟩ prog_14_method_59_code 3 none ∈ gT := gT_tb (tb6 (List.mem_of_getElem? (i := 38) rfl)) rfl
set_option maxRecDepth 8000 in
theorem k_1239 : Cond.methodLink "BackBayLaw" 114 ⟨"BackBayModel","apart","(II)J"⟩ ∈ gT := gT_tb (tb6 (List.mem_of_getElem? (i := 39) rfl)) rfl
set_option maxRecDepth 8000 in
theorem k_1240 : Cond.instanceMethod ⟨"BackBayModel","apart","(II)J"⟩ ∈ gT := gT_tb (tb6 (List.mem_of_getElem? (i := 40) rfl)) rfl
set_option maxRecDepth 8000 in
theorem k_1241 : Cond.selects "BackBayModel" ⟨"BackBayModel","apart","(II)J"⟩ ⟨"BackBayModel","apart","(II)J"⟩ ∈ gT := gT_tb (tb6 (List.mem_of_getElem? (i := 41) rfl)) rfl
set_option maxRecDepth 8000 in
theorem k_1242 : Cond.code ⟨"BackBayModel","apart","(II)J"⟩ prog_14_method_61_code 11 (some .long) ∈ gT := gT_tb (tb6 (List.mem_of_getElem? (i := 42) rfl)) rfl
set_option maxRecDepth 8000 in
theorem k_1243 : Cond.methodLink "BackBayLaw" 118 ⟨"BackBayModel","kind","(I)J"⟩ ∈ gT := gT_tb (tb6 (List.mem_of_getElem? (i := 43) rfl)) rfl
set_option maxRecDepth 8000 in
theorem k_1244 : Cond.instanceMethod ⟨"BackBayModel","kind","(I)J"⟩ ∈ gT := gT_tb (tb6 (List.mem_of_getElem? (i := 44) rfl)) rfl
set_option maxRecDepth 8000 in
theorem k_1245 : Cond.selects "BackBayModel" ⟨"BackBayModel","kind","(I)J"⟩ ⟨"BackBayModel","kind","(I)J"⟩ ∈ gT := gT_tb (tb6 (List.mem_of_getElem? (i := 45) rfl)) rfl
set_option maxRecDepth 8000 in
theorem k_1246 : Cond.code ⟨"BackBayModel","kind","(I)J"⟩ prog_14_method_64_code 2 (some .long) ∈ gT := gT_tb (tb6 (List.mem_of_getElem? (i := 46) rfl)) rfl
set_option maxRecDepth 8000 in
theorem k_1247 : Cond.methodLink "BackBayModel" 282 ⟨"BackBayModel","isNode","(I)Z"⟩ ∈ gT := gT_tb (tb6 (List.mem_of_getElem? (i := 47) rfl)) rfl
set_option maxRecDepth 8000 in
theorem k_1249 : Cond.instanceMethod ⟨"BackBayModel","isNode","(I)Z"⟩ ∈ gT := gT_tb (tb6 (List.mem_of_getElem? (i := 49) rfl)) rfl
set_option maxRecDepth 8000 in
theorem k_1250 : Cond.code ⟨"BackBayModel","isNode","(I)Z"⟩ prog_14_method_63_code 2 (some .boolean) ∈ gT := gT_tb (tb6 (List.mem_of_getElem? (i := 50) rfl)) rfl
set_option maxRecDepth 8000 in
theorem k_1251 : Cond.methodLink "BackBayLaw" 122 ⟨"BackBayModel","as","(II)J"⟩ ∈ gT := gT_tb (tb6 (List.mem_of_getElem? (i := 51) rfl)) rfl
set_option maxRecDepth 8000 in
theorem k_1252 : Cond.instanceMethod ⟨"BackBayModel","as","(II)J"⟩ ∈ gT := gT_tb (tb6 (List.mem_of_getElem? (i := 52) rfl)) rfl
set_option maxRecDepth 8000 in
theorem k_1253 : Cond.selects "BackBayModel" ⟨"BackBayModel","as","(II)J"⟩ ⟨"BackBayModel","as","(II)J"⟩ ∈ gT := gT_tb (tb6 (List.mem_of_getElem? (i := 53) rfl)) rfl
set_option maxRecDepth 8000 in
theorem k_1254 : Cond.code ⟨"BackBayModel","as","(II)J"⟩ prog_14_method_66_code 3 (some .long) ∈ gT := gT_tb (tb6 (List.mem_of_getElem? (i := 54) rfl)) rfl
set_option maxRecDepth 8000 in
theorem k_1255 : Cond.methodLink "BackBayModel" 285 ⟨"BackBayModel","isKind","(II)Z"⟩ ∈ gT := gT_tb (tb6 (List.mem_of_getElem? (i := 55) rfl)) rfl
set_option maxRecDepth 8000 in
theorem k_1256 : Cond.static ⟨"BackBayModel","isKind","(II)Z"⟩ ∈ gT := gT_tb (tb6 (List.mem_of_getElem? (i := 56) rfl)) rfl
set_option maxRecDepth 8000 in
theorem k_1257 : Cond.code ⟨"BackBayModel","isKind","(II)Z"⟩ prog_14_method_65_code 2 (some .boolean) ∈ gT := gT_tb (tb6 (List.mem_of_getElem? (i := 57) rfl)) rfl
set_option maxRecDepth 8000 in
theorem k_1258 : Cond.methodLink "BackBayLaw" 126 ⟨"BackBayModel","ask","(II)J"⟩ ∈ gT := gT_tb (tb6 (List.mem_of_getElem? (i := 58) rfl)) rfl
set_option maxRecDepth 8000 in
theorem k_1259 : Cond.instanceMethod ⟨"BackBayModel","ask","(II)J"⟩ ∈ gT := gT_tb (tb6 (List.mem_of_getElem? (i := 59) rfl)) rfl
set_option maxRecDepth 8000 in
theorem k_1260 : Cond.selects "BackBayModel" ⟨"BackBayModel","ask","(II)J"⟩ ⟨"BackBayModel","ask","(II)J"⟩ ∈ gT := gT_tb (tb6 (List.mem_of_getElem? (i := 60) rfl)) rfl
set_option maxRecDepth 8000 in
theorem k_1261 : Cond.code ⟨"BackBayModel","ask","(II)J"⟩ prog_14_method_69_code 3 (some .long) ∈ gT := gT_tb (tb6 (List.mem_of_getElem? (i := 61) rfl)) rfl
set_option maxRecDepth 8000 in
theorem k_1262 : Cond.methodLink "BackBayModel" 298 ⟨"BackBayModel","sizeOf","(I)J"⟩ ∈ gT := gT_tb (tb6 (List.mem_of_getElem? (i := 62) rfl)) rfl
set_option maxRecDepth 8000 in
theorem k_1264 : Cond.instanceMethod ⟨"BackBayModel","sizeOf","(I)J"⟩ ∈ gT := gT_tb (tb6 (List.mem_of_getElem? (i := 64) rfl)) rfl
set_option maxRecDepth 8000 in
theorem k_1265 : Cond.code ⟨"BackBayModel","sizeOf","(I)J"⟩ prog_14_method_68_code 2 (some .long) ∈ gT := gT_tb (tb6 (List.mem_of_getElem? (i := 65) rfl)) rfl
set_option maxRecDepth 8000 in
theorem k_1266 : Cond.methodLink "BackBayModel" 288 ⟨"BackBayModel","begins","(I)V"⟩ ∈ gT := gT_tb (tb6 (List.mem_of_getElem? (i := 66) rfl)) rfl
set_option maxRecDepth 8000 in
theorem k_1268 : Cond.instanceMethod ⟨"BackBayModel","begins","(I)V"⟩ ∈ gT := gT_tb (tb6 (List.mem_of_getElem? (i := 68) rfl)) rfl
set_option maxRecDepth 8000 in
theorem k_1269 : Cond.code ⟨"BackBayModel","begins","(I)V"⟩ prog_14_method_62_code 2 none ∈ gT := gT_tb (tb6 (List.mem_of_getElem? (i := 69) rfl)) rfl
set_option maxRecDepth 8000 in
theorem k_1270 : Cond.methodLink "BackBayModel" 295 ⟨"BackBayModel","markOf","(I)J"⟩ ∈ gT := gT_tb (tb6 (List.mem_of_getElem? (i := 70) rfl)) rfl
set_option maxRecDepth 8000 in
theorem k_1272 : Cond.instanceMethod ⟨"BackBayModel","markOf","(I)J"⟩ ∈ gT := gT_tb (tb6 (List.mem_of_getElem? (i := 72) rfl)) rfl
set_option maxRecDepth 8000 in
theorem k_1273 : Cond.code ⟨"BackBayModel","markOf","(I)J"⟩ prog_14_method_67_code 2 (some .long) ∈ gT := gT_tb (tb6 (List.mem_of_getElem? (i := 73) rfl)) rfl
set_option maxRecDepth 8000 in
theorem k_1274 : Cond.constantLong "BackBayModel" 291 100 ∈ gT := gT_tb (tb6 (List.mem_of_getElem? (i := 74) rfl)) rfl
set_option maxRecDepth 8000 in
theorem k_1275 : Cond.constantLong "BackBayModel" 293 2 ∈ gT := gT_tb (tb6 (List.mem_of_getElem? (i := 75) rfl)) rfl
set_option maxRecDepth 8000 in
theorem k_1276 : Cond.methodLink "BackBayLaw" 131 ⟨"BackBayModel","trace","(I)I"⟩ ∈ gT := gT_tb (tb6 (List.mem_of_getElem? (i := 76) rfl)) rfl
set_option maxRecDepth 8000 in
theorem k_1277 : Cond.instanceMethod ⟨"BackBayModel","trace","(I)I"⟩ ∈ gT := gT_tb (tb6 (List.mem_of_getElem? (i := 77) rfl)) rfl
set_option maxRecDepth 8000 in
theorem k_1278 : Cond.selects "BackBayModel" ⟨"BackBayModel","trace","(I)I"⟩ ⟨"BackBayModel","trace","(I)I"⟩ ∈ gT := gT_tb (tb6 (List.mem_of_getElem? (i := 78) rfl)) rfl
set_option maxRecDepth 8000 in
theorem k_1279 : Cond.code ⟨"BackBayModel","trace","(I)I"⟩ prog_14_method_70_code 2 (some .int) ∈ gT := gT_tb (tb6 (List.mem_of_getElem? (i := 79) rfl)) rfl
set_option maxRecDepth 8000 in
theorem k_1280 : Cond.methodLink "BackBayLaw" 135 ⟨"BackBayModel","count","(I)J"⟩ ∈ gT := gT_tb (tb6 (List.mem_of_getElem? (i := 80) rfl)) rfl
set_option maxRecDepth 8000 in
theorem k_1281 : Cond.instanceMethod ⟨"BackBayModel","count","(I)J"⟩ ∈ gT := gT_tb (tb6 (List.mem_of_getElem? (i := 81) rfl)) rfl
set_option maxRecDepth 8000 in
theorem k_1282 : Cond.selects "BackBayModel" ⟨"BackBayModel","count","(I)J"⟩ ⟨"BackBayModel","count","(I)J"⟩ ∈ gT := gT_tb (tb6 (List.mem_of_getElem? (i := 82) rfl)) rfl
set_option maxRecDepth 8000 in
theorem k_1283 : Cond.code ⟨"BackBayModel","count","(I)J"⟩ prog_14_method_73_code 2 (some .long) ∈ gT := gT_tb (tb6 (List.mem_of_getElem? (i := 83) rfl)) rfl
set_option maxRecDepth 8000 in
theorem k_1284 : Cond.methodLink "BackBayModel" 301 ⟨"BackBayModel","manyRows","()I"⟩ ∈ gT := gT_tb (tb6 (List.mem_of_getElem? (i := 84) rfl)) rfl
set_option maxRecDepth 8000 in
theorem k_1286 : Cond.instanceMethod ⟨"BackBayModel","manyRows","()I"⟩ ∈ gT := gT_tb (tb6 (List.mem_of_getElem? (i := 86) rfl)) rfl
set_option maxRecDepth 8000 in
theorem k_1287 : Cond.code ⟨"BackBayModel","manyRows","()I"⟩ prog_14_method_71_code 3 (some .int) ∈ gT := gT_tb (tb6 (List.mem_of_getElem? (i := 87) rfl)) rfl
set_option maxRecDepth 8000 in
theorem k_1288 : Cond.methodLink "BackBayModel" 304 ⟨"BackBayModel","manyOut","()I"⟩ ∈ gT := gT_tb (tb6 (List.mem_of_getElem? (i := 88) rfl)) rfl
set_option maxRecDepth 8000 in
theorem k_1290 : Cond.instanceMethod ⟨"BackBayModel","manyOut","()I"⟩ ∈ gT := gT_tb (tb6 (List.mem_of_getElem? (i := 90) rfl)) rfl
set_option maxRecDepth 8000 in
theorem k_1291 : Cond.code ⟨"BackBayModel","manyOut","()I"⟩ prog_14_method_72_code 3 (some .int) ∈ gT := gT_tb (tb6 (List.mem_of_getElem? (i := 91) rfl)) rfl
set_option maxRecDepth 8000 in
theorem k_1292 : Cond.methodLink "BackBayLaw" 139 ⟨"BackBayModel","status","()I"⟩ ∈ gT := gT_tb (tb6 (List.mem_of_getElem? (i := 92) rfl)) rfl
set_option maxRecDepth 8000 in
theorem k_1293 : Cond.instanceMethod ⟨"BackBayModel","status","()I"⟩ ∈ gT := gT_tb (tb6 (List.mem_of_getElem? (i := 93) rfl)) rfl
set_option maxRecDepth 8000 in
theorem k_1294 : Cond.selects "BackBayModel" ⟨"BackBayModel","status","()I"⟩ ⟨"BackBayModel","status","()I"⟩ ∈ gT := gT_tb (tb6 (List.mem_of_getElem? (i := 94) rfl)) rfl
set_option maxRecDepth 8000 in
theorem k_1295 : Cond.code ⟨"BackBayModel","status","()I"⟩ prog_14_method_74_code 1 (some .int) ∈ gT := gT_tb (tb6 (List.mem_of_getElem? (i := 95) rfl)) rfl
set_option maxRecDepth 8000 in
theorem k_1296 : Cond.constantLong "BackBayLaw" 32 4294967295 ∈ gT := gT_tb (tb6 (List.mem_of_getElem? (i := 96) rfl)) rfl
set_option maxRecDepth 8000 in
theorem k_1297 : Cond.fieldLink "java/lang/String" 9 "java/lang/String" "value" "[B" ∈ gT := gT_tb (tb6 (List.mem_of_getElem? (i := 97) rfl)) rfl
set_option maxRecDepth 8000 in
theorem k_1298 : Cond.fieldLink "java/lang/String" 15 "java/lang/String" "coder" "B" ∈ gT := gT_tb (tb6 (List.mem_of_getElem? (i := 98) rfl)) rfl
theorem ks_0 : Cond.selects "BackBay" ⟨"BackBay", "found", "(I)J"⟩ ⟨"BackBay", "found", "(I)J"⟩ ∈ gT := gT_of (List.mem_append_left _ (by decide +kernel)) (by decide +kernel)
theorem ks_1 : Cond.selects "BackBay" ⟨"BackBay", "foundNothing", "(J)J"⟩ ⟨"BackBay", "foundNothing", "(J)J"⟩ ∈ gT := gT_of (List.mem_append_left _ (by decide +kernel)) (by decide +kernel)
theorem ks_2 : Cond.selects "BackBay$Tape" ⟨"BackBay$Tape", "advance", "()V"⟩ ⟨"BackBay$Tape", "advance", "()V"⟩ ∈ gT := gT_of (List.mem_append_left _ (by decide +kernel)) (by decide +kernel)
theorem ks_3 : Cond.selects "BackBay$Tape" ⟨"BackBay$Tape", "endOf", "(II)I"⟩ ⟨"BackBay$Tape", "endOf", "(II)I"⟩ ∈ gT := gT_of (List.mem_append_left _ (by decide +kernel)) (by decide +kernel)
theorem ks_4 : Cond.selects "BackBay$Tape" ⟨"BackBay$Tape", "nameToken", "()I"⟩ ⟨"BackBay$Tape", "nameToken", "()I"⟩ ∈ gT := gT_of (List.mem_append_left _ (by decide +kernel)) (by decide +kernel)
theorem ks_5 : Cond.selects "BackBay$Tape" ⟨"BackBay$Tape", "isName", "(Ljava/lang/String;)Z"⟩ ⟨"BackBay$Tape", "isName", "(Ljava/lang/String;)Z"⟩ ∈ gT := gT_of (List.mem_append_left _ (by decide +kernel)) (by decide +kernel)
theorem ks_6 : Cond.selects "BackBay$Tape" ⟨"BackBay$Tape", "numberToken", "()I"⟩ ⟨"BackBay$Tape", "numberToken", "()I"⟩ ∈ gT := gT_of (List.mem_append_left _ (by decide +kernel)) (by decide +kernel)
theorem ks_7 : Cond.selects "BackBay$Tape" ⟨"BackBay$Tape", "readStencil", "(LBackBay$Stencils;)Z"⟩ ⟨"BackBay$Tape", "readStencil", "(LBackBay$Stencils;)Z"⟩ ∈ gT := gT_of (List.mem_append_left _ (by decide +kernel)) (by decide +kernel)
theorem ks_8 : Cond.selects "BackBay$Tape" ⟨"BackBay$Tape", "fail", "(I)Z"⟩ ⟨"BackBay$Tape", "fail", "(I)Z"⟩ ∈ gT := gT_of (List.mem_append_left _ (by decide +kernel)) (by decide +kernel)
theorem ks_9 : Cond.selects "BackBay$Tape" ⟨"BackBay$Tape", "readNode", "(LBackBay$Stencils;I)Z"⟩ ⟨"BackBay$Tape", "readNode", "(LBackBay$Stencils;I)Z"⟩ ∈ gT := gT_of (List.mem_append_left _ (by decide +kernel)) (by decide +kernel)
theorem ks_10 : Cond.selects "BackBay$Stencils" ⟨"BackBay$Stencils", "behind", "(I)I"⟩ ⟨"BackBay$Stencils", "behind", "(I)I"⟩ ∈ gT := gT_of (List.mem_append_left _ (by decide +kernel)) (by decide +kernel)
theorem ks_11 : Cond.selects "BackBay$Desk" ⟨"BackBay$Desk", "worthOf", "(LBackBay$Stencils;I)I"⟩ ⟨"BackBay$Desk", "worthOf", "(LBackBay$Stencils;I)I"⟩ ∈ gT := gT_of (List.mem_append_left _ (by decide +kernel)) (by decide +kernel)
theorem ks_12 : Cond.selects "BackBay$Desk" ⟨"BackBay$Desk", "taken", "(LBackBay$Stencils;I)I"⟩ ⟨"BackBay$Desk", "taken", "(LBackBay$Stencils;I)I"⟩ ∈ gT := gT_of (List.mem_append_left _ (by decide +kernel)) (by decide +kernel)
theorem ks_13 : Cond.selects "BackBay" ⟨"BackBay", "wishNow", "()I"⟩ ⟨"BackBay", "wishNow", "()I"⟩ ∈ gT := gT_of (List.mem_append_left _ (by decide +kernel)) (by decide +kernel)
theorem ks_14 : Cond.selects "BackBay" ⟨"BackBay", "wishWith", "(II)I"⟩ ⟨"BackBay", "wishWith", "(II)I"⟩ ∈ gT := gT_of (List.mem_append_left _ (by decide +kernel)) (by decide +kernel)
theorem ks_15 : Cond.selects "BackBay$Gauges" ⟨"BackBay$Gauges", "counts", "(II)Z"⟩ ⟨"BackBay$Gauges", "counts", "(II)Z"⟩ ∈ gT := gT_of (List.mem_append_left _ (by decide +kernel)) (by decide +kernel)
theorem ks_16 : Cond.selects "BackBay$Gauges" ⟨"BackBay$Gauges", "offBy", "(ILBackBay$Course;)I"⟩ ⟨"BackBay$Gauges", "offBy", "(ILBackBay$Course;)I"⟩ ∈ gT := gT_of (List.mem_append_left _ (by decide +kernel)) (by decide +kernel)
theorem ks_17 : Cond.selects "BackBay" ⟨"BackBay", "knotsNow", "()I"⟩ ⟨"BackBay", "knotsNow", "()I"⟩ ∈ gT := gT_of (List.mem_append_left _ (by decide +kernel)) (by decide +kernel)
theorem ks_18 : Cond.selects "BackBay$Slopes" ⟨"BackBay$Slopes", "goBackOver", "(LBackBay$Stencils;LBackBay$Bay;LBackBay$Course;II)V"⟩ ⟨"BackBay$Slopes", "goBackOver", "(LBackBay$Stencils;LBackBay$Bay;LBackBay$Course;II)V"⟩ ∈ gT := gT_of (List.mem_append_left _ (by decide +kernel)) (by decide +kernel)
theorem ks_19 : Cond.selects "BackBay$Desk" ⟨"BackBay$Desk", "handDown", "(LBackBay$Stencils;I)V"⟩ ⟨"BackBay$Desk", "handDown", "(LBackBay$Stencils;I)V"⟩ ∈ gT := gT_of (List.mem_append_left _ (by decide +kernel)) (by decide +kernel)
theorem ks_20 : Cond.selects "BackBay$Slopes" ⟨"BackBay$Slopes", "handOut", "([III)V"⟩ ⟨"BackBay$Slopes", "handOut", "([III)V"⟩ ∈ gT := gT_of (List.mem_append_left _ (by decide +kernel)) (by decide +kernel)
theorem ks_21 : Cond.selects "BackBay$Redoing" ⟨"BackBay$Redoing", "fillOne", "(II)V"⟩ ⟨"BackBay$Redoing", "fillOne", "(II)V"⟩ ∈ gT := gT_of (List.mem_append_left _ (by decide +kernel)) (by decide +kernel)
theorem ks_22 : Cond.selects "BackBay" ⟨"BackBay", "helps", "(III)Z"⟩ ⟨"BackBay", "helps", "(III)Z"⟩ ∈ gT := gT_of (List.mem_append_left _ (by decide +kernel)) (by decide +kernel)
theorem ks_23 : Cond.selects "BackBay$Asks" ⟨"BackBay$Asks", "sizeOfSeen", "(LBackBay$Stencils;I)I"⟩ ⟨"BackBay$Asks", "sizeOfSeen", "(LBackBay$Stencils;I)I"⟩ ∈ gT := gT_of (List.mem_append_left _ (by decide +kernel)) (by decide +kernel)
theorem ks_24 : Cond.selects "BackBay$Asks" ⟨"BackBay$Asks", "begin", "(I)V"⟩ ⟨"BackBay$Asks", "begin", "(I)V"⟩ ∈ gT := gT_of (List.mem_append_left _ (by decide +kernel)) (by decide +kernel)
theorem ks_25 : Cond.selects "BackBay$Asks" ⟨"BackBay$Asks", "sizeLent", "(LBackBay$Stencils;I)I"⟩ ⟨"BackBay$Asks", "sizeLent", "(LBackBay$Stencils;I)I"⟩ ∈ gT := gT_of (List.mem_append_left _ (by decide +kernel)) (by decide +kernel)
theorem ks_26 : Cond.selects "BackBay$Asks" ⟨"BackBay$Asks", "markOfLeaf", "(I)I"⟩ ⟨"BackBay$Asks", "markOfLeaf", "(I)I"⟩ ∈ gT := gT_of (List.mem_append_left _ (by decide +kernel)) (by decide +kernel)
theorem ks_27 : Cond.selects "BackBay$Asks" ⟨"BackBay$Asks", "markLent", "(I)I"⟩ ⟨"BackBay$Asks", "markLent", "(I)I"⟩ ∈ gT := gT_of (List.mem_append_left _ (by decide +kernel)) (by decide +kernel)
theorem ks_28 : Cond.selects "BackBay$Asks" ⟨"BackBay$Asks", "markOfSeen", "(I)I"⟩ ⟨"BackBay$Asks", "markOfSeen", "(I)I"⟩ ∈ gT := gT_of (List.mem_append_left _ (by decide +kernel)) (by decide +kernel)
theorem ks_29 : Cond.selects "BackBay$Asks" ⟨"BackBay$Asks", "markOfChosen", "(LBackBay$Stencils;I)I"⟩ ⟨"BackBay$Asks", "markOfChosen", "(LBackBay$Stencils;I)I"⟩ ∈ gT := gT_of (List.mem_append_left _ (by decide +kernel)) (by decide +kernel)
theorem ks_30 : Cond.selects "BackBay$Asks" ⟨"BackBay$Asks", "sizeOfPair", "(LBackBay$Stencils;I)I"⟩ ⟨"BackBay$Asks", "sizeOfPair", "(LBackBay$Stencils;I)I"⟩ ∈ gT := gT_of (List.mem_append_left _ (by decide +kernel)) (by decide +kernel)
theorem ks_31 : Cond.selects "BackBay$Asks" ⟨"BackBay$Asks", "sizeOfChosen", "(LBackBay$Stencils;I)I"⟩ ⟨"BackBay$Asks", "sizeOfChosen", "(LBackBay$Stencils;I)I"⟩ ∈ gT := gT_of (List.mem_append_left _ (by decide +kernel)) (by decide +kernel)
theorem ks_32 : Cond.selects "BackBay$Asks" ⟨"BackBay$Asks", "sizeOfFork", "(LBackBay$Stencils;I)I"⟩ ⟨"BackBay$Asks", "sizeOfFork", "(LBackBay$Stencils;I)I"⟩ ∈ gT := gT_of (List.mem_append_left _ (by decide +kernel)) (by decide +kernel)
theorem ks_33 : Cond.selects "BackBay" ⟨"BackBay", "rowsThere", "()I"⟩ ⟨"BackBay", "rowsThere", "()I"⟩ ∈ gT := gT_of (List.mem_append_left _ (by decide +kernel)) (by decide +kernel)
theorem ks_34 : Cond.selects "BackBayModel" ⟨"BackBayModel", "finds", "(I)J"⟩ ⟨"BackBayModel", "finds", "(I)J"⟩ ∈ gT := gT_of (List.mem_append_left _ (by decide +kernel)) (by decide +kernel)
theorem ks_35 : Cond.selects "BackBayModel" ⟨"BackBayModel", "readAll", "()I"⟩ ⟨"BackBayModel", "readAll", "()I"⟩ ∈ gT := gT_of (List.mem_append_left _ (by decide +kernel)) (by decide +kernel)
theorem ks_36 : Cond.selects "BackBayModel" ⟨"BackBayModel", "token", "()I"⟩ ⟨"BackBayModel", "token", "()I"⟩ ∈ gT := gT_of (List.mem_append_left _ (by decide +kernel)) (by decide +kernel)
theorem ks_37 : Cond.selects "BackBayModel" ⟨"BackBayModel", "kindOf", "(II)I"⟩ ⟨"BackBayModel", "kindOf", "(II)I"⟩ ∈ gT := gT_of (List.mem_append_left _ (by decide +kernel)) (by decide +kernel)
theorem ks_38 : Cond.selects "BackBayModel" ⟨"BackBayModel", "laySizes", "()V"⟩ ⟨"BackBayModel", "laySizes", "()V"⟩ ∈ gT := gT_of (List.mem_append_left _ (by decide +kernel)) (by decide +kernel)
theorem ks_39 : Cond.selects "BackBayModel" ⟨"BackBayModel", "isCell", "(I)Z"⟩ ⟨"BackBayModel", "isCell", "(I)Z"⟩ ∈ gT := gT_of (List.mem_append_left _ (by decide +kernel)) (by decide +kernel)
theorem ks_40 : Cond.selects "BackBayModel" ⟨"BackBayModel", "go", "(I)V"⟩ ⟨"BackBayModel", "go", "(I)V"⟩ ∈ gT := gT_of (List.mem_append_left _ (by decide +kernel)) (by decide +kernel)
theorem ks_41 : Cond.selects "BackBayModel" ⟨"BackBayModel", "work", "(III)I"⟩ ⟨"BackBayModel", "work", "(III)I"⟩ ∈ gT := gT_of (List.mem_append_left _ (by decide +kernel)) (by decide +kernel)
theorem ks_42 : Cond.selects "BackBayModel" ⟨"BackBayModel", "valueOf", "(III)I"⟩ ⟨"BackBayModel", "valueOf", "(III)I"⟩ ∈ gT := gT_of (List.mem_append_left _ (by decide +kernel)) (by decide +kernel)
theorem ks_43 : Cond.selects "BackBayModel" ⟨"BackBayModel", "seenAt", "(III)I"⟩ ⟨"BackBayModel", "seenAt", "(III)I"⟩ ∈ gT := gT_of (List.mem_append_left _ (by decide +kernel)) (by decide +kernel)
theorem ks_44 : Cond.selects "BackBayModel" ⟨"BackBayModel", "second", "(I)I"⟩ ⟨"BackBayModel", "second", "(I)I"⟩ ∈ gT := gT_of (List.mem_append_left _ (by decide +kernel)) (by decide +kernel)
theorem ks_45 : Cond.selects "BackBayModel" ⟨"BackBayModel", "takenOf", "(I)I"⟩ ⟨"BackBayModel", "takenOf", "(I)I"⟩ ∈ gT := gT_of (List.mem_append_left _ (by decide +kernel)) (by decide +kernel)
theorem ks_46 : Cond.selects "BackBayModel" ⟨"BackBayModel", "third", "(I)I"⟩ ⟨"BackBayModel", "third", "(I)I"⟩ ∈ gT := gT_of (List.mem_append_left _ (by decide +kernel)) (by decide +kernel)
theorem ks_47 : Cond.selects "BackBayModel" ⟨"BackBayModel", "fourth", "(I)I"⟩ ⟨"BackBayModel", "fourth", "(I)I"⟩ ∈ gT := gT_of (List.mem_append_left _ (by decide +kernel)) (by decide +kernel)
theorem ks_48 : Cond.selects "BackBayModel" ⟨"BackBayModel", "countKnots", "(I)V"⟩ ⟨"BackBayModel", "countKnots", "(I)V"⟩ ∈ gT := gT_of (List.mem_append_left _ (by decide +kernel)) (by decide +kernel)
theorem ks_49 : Cond.selects "BackBayModel" ⟨"BackBayModel", "stateAt", "(II)I"⟩ ⟨"BackBayModel", "stateAt", "(II)I"⟩ ∈ gT := gT_of (List.mem_append_left _ (by decide +kernel)) (by decide +kernel)
theorem ks_50 : Cond.selects "BackBayModel" ⟨"BackBayModel", "wishNow", "()I"⟩ ⟨"BackBayModel", "wishNow", "()I"⟩ ∈ gT := gT_of (List.mem_append_left _ (by decide +kernel)) (by decide +kernel)
theorem ks_51 : Cond.selects "BackBayModel" ⟨"BackBayModel", "last", "()I"⟩ ⟨"BackBayModel", "last", "()I"⟩ ∈ gT := gT_of (List.mem_append_left _ (by decide +kernel)) (by decide +kernel)
theorem ks_52 : Cond.selects "BackBayModel" ⟨"BackBayModel", "counts", "(I)Z"⟩ ⟨"BackBayModel", "counts", "(I)Z"⟩ ∈ gT := gT_of (List.mem_append_left _ (by decide +kernel)) (by decide +kernel)
theorem ks_53 : Cond.selects "BackBayModel" ⟨"BackBayModel", "findSlopes", "()V"⟩ ⟨"BackBayModel", "findSlopes", "()V"⟩ ∈ gT := gT_of (List.mem_append_left _ (by decide +kernel)) (by decide +kernel)
theorem ks_54 : Cond.selects "BackBayModel" ⟨"BackBayModel", "addGauges", "(I)V"⟩ ⟨"BackBayModel", "addGauges", "(I)V"⟩ ∈ gT := gT_of (List.mem_append_left _ (by decide +kernel)) (by decide +kernel)
theorem ks_55 : Cond.selects "BackBayModel" ⟨"BackBayModel", "giveBack", "(III)V"⟩ ⟨"BackBayModel", "giveBack", "(III)V"⟩ ∈ gT := gT_of (List.mem_append_left _ (by decide +kernel)) (by decide +kernel)
theorem ks_56 : Cond.selects "BackBayModel" ⟨"BackBayModel", "giveSeen", "(III)V"⟩ ⟨"BackBayModel", "giveSeen", "(III)V"⟩ ∈ gT := gT_of (List.mem_append_left _ (by decide +kernel)) (by decide +kernel)
theorem ks_57 : Cond.selects "BackBayModel" ⟨"BackBayModel", "layFewest", "(I)V"⟩ ⟨"BackBayModel", "layFewest", "(I)V"⟩ ∈ gT := gT_of (List.mem_append_left _ (by decide +kernel)) (by decide +kernel)
theorem ks_58 : Cond.selects "BackBayModel" ⟨"BackBayModel", "steepest", "()I"⟩ ⟨"BackBayModel", "steepest", "()I"⟩ ∈ gT := gT_of (List.mem_append_left _ (by decide +kernel)) (by decide +kernel)
theorem ks_59 : Cond.selects "BackBayModel" ⟨"BackBayModel", "isStripping", "(I)Z"⟩ ⟨"BackBayModel", "isStripping", "(I)Z"⟩ ∈ gT := gT_of (List.mem_append_left _ (by decide +kernel)) (by decide +kernel)
theorem ks_60 : Cond.selects "BackBayModel" ⟨"BackBayModel", "layStripping", "(I)V"⟩ ⟨"BackBayModel", "layStripping", "(I)V"⟩ ∈ gT := gT_of (List.mem_append_left _ (by decide +kernel)) (by decide +kernel)
theorem ks_61 : Cond.selects "BackBayModel" ⟨"BackBayModel", "isNode", "(I)Z"⟩ ⟨"BackBayModel", "isNode", "(I)Z"⟩ ∈ gT := gT_of (List.mem_append_left _ (by decide +kernel)) (by decide +kernel)
theorem ks_62 : Cond.selects "BackBayModel" ⟨"BackBayModel", "sizeOf", "(I)J"⟩ ⟨"BackBayModel", "sizeOf", "(I)J"⟩ ∈ gT := gT_of (List.mem_append_left _ (by decide +kernel)) (by decide +kernel)
theorem ks_63 : Cond.selects "BackBayModel" ⟨"BackBayModel", "begins", "(I)V"⟩ ⟨"BackBayModel", "begins", "(I)V"⟩ ∈ gT := gT_of (List.mem_append_left _ (by decide +kernel)) (by decide +kernel)
theorem ks_64 : Cond.selects "BackBayModel" ⟨"BackBayModel", "markOf", "(I)J"⟩ ⟨"BackBayModel", "markOf", "(I)J"⟩ ∈ gT := gT_of (List.mem_append_left _ (by decide +kernel)) (by decide +kernel)
theorem ks_65 : Cond.selects "BackBayModel" ⟨"BackBayModel", "manyRows", "()I"⟩ ⟨"BackBayModel", "manyRows", "()I"⟩ ∈ gT := gT_of (List.mem_append_left _ (by decide +kernel)) (by decide +kernel)
theorem ks_66 : Cond.selects "BackBayModel" ⟨"BackBayModel", "manyOut", "()I"⟩ ⟨"BackBayModel", "manyOut", "()I"⟩ ∈ gT := gT_of (List.mem_append_left _ (by decide +kernel)) (by decide +kernel)
theorem in_0 : ∀ w ∈ u_ws RX0 TX0 2, w ∈ gT := fun w h => gT_of ((by decide +kernel : ∀ w ∈ u_ws RX0 TX0 2, w ∈ lw_tbl) w h) ((by decide +kernel : ∀ w ∈ u_ws RX0 TX0 2, goodWord w = true) w h)
theorem in_1 : ∀ w ∈ u_ws RX1 TX1 4, w ∈ gT := fun w h => gT_of ((by decide +kernel : ∀ w ∈ u_ws RX1 TX1 4, w ∈ lw_tbl) w h) ((by decide +kernel : ∀ w ∈ u_ws RX1 TX1 4, goodWord w = true) w h)
theorem in_2 : ∀ w ∈ u_ws RX2 TX2 4, w ∈ gT := fun w h => gT_of ((by decide +kernel : ∀ w ∈ u_ws RX2 TX2 4, w ∈ lw_tbl) w h) ((by decide +kernel : ∀ w ∈ u_ws RX2 TX2 4, goodWord w = true) w h)
theorem in_3 : ∀ w ∈ u_ws RX3 TX3 5, w ∈ gT := fun w h => gT_of ((by decide +kernel : ∀ w ∈ u_ws RX3 TX3 5, w ∈ lw_tbl) w h) ((by decide +kernel : ∀ w ∈ u_ws RX3 TX3 5, goodWord w = true) w h)
theorem in_4 : ∀ w ∈ u_ws RX4 TX4 6, w ∈ gT := fun w h => gT_of ((by decide +kernel : ∀ w ∈ u_ws RX4 TX4 6, w ∈ lw_tbl) w h) ((by decide +kernel : ∀ w ∈ u_ws RX4 TX4 6, goodWord w = true) w h)
theorem in_5 : ∀ w ∈ u_ws RX5 TX5 3, w ∈ gT := fun w h => gT_of ((by decide +kernel : ∀ w ∈ u_ws RX5 TX5 3, w ∈ lw_tbl) w h) ((by decide +kernel : ∀ w ∈ u_ws RX5 TX5 3, goodWord w = true) w h)
theorem in_6 : ∀ w ∈ u_ws RX6 TX6 4, w ∈ gT := fun w h => gT_of ((by decide +kernel : ∀ w ∈ u_ws RX6 TX6 4, w ∈ lw_tbl) w h) ((by decide +kernel : ∀ w ∈ u_ws RX6 TX6 4, goodWord w = true) w h)
theorem in_7 : ∀ w ∈ u_ws RX7 TX7 4, w ∈ gT := fun w h => gT_of ((by decide +kernel : ∀ w ∈ u_ws RX7 TX7 4, w ∈ lw_tbl) w h) ((by decide +kernel : ∀ w ∈ u_ws RX7 TX7 4, goodWord w = true) w h)
theorem in_8 : ∀ w ∈ u_ws RX8 TX8 9, w ∈ gT := fun w h => gT_of ((by decide +kernel : ∀ w ∈ u_ws RX8 TX8 9, w ∈ lw_tbl) w h) ((by decide +kernel : ∀ w ∈ u_ws RX8 TX8 9, goodWord w = true) w h)
theorem in_9 : ∀ w ∈ u_ws RX9 TX9 3, w ∈ gT := fun w h => gT_of ((by decide +kernel : ∀ w ∈ u_ws RX9 TX9 3, w ∈ lw_tbl) w h) ((by decide +kernel : ∀ w ∈ u_ws RX9 TX9 3, goodWord w = true) w h)
theorem in_10 : ∀ w ∈ u_ws RX10 TX10 8, w ∈ gT := fun w h => gT_of ((by decide +kernel : ∀ w ∈ u_ws RX10 TX10 8, w ∈ lw_tbl) w h) ((by decide +kernel : ∀ w ∈ u_ws RX10 TX10 8, goodWord w = true) w h)
theorem in_11 : ∀ w ∈ u_ws RX11 TX11 14, w ∈ gT := fun w h => gT_of ((by decide +kernel : ∀ w ∈ u_ws RX11 TX11 14, w ∈ lw_tbl) w h) ((by decide +kernel : ∀ w ∈ u_ws RX11 TX11 14, goodWord w = true) w h)
theorem in_12 : ∀ w ∈ u_ws RX12 TX12 48, w ∈ gT := fun w h => gT_of ((by decide +kernel : ∀ w ∈ u_ws RX12 TX12 48, w ∈ lw_tbl) w h) ((by decide +kernel : ∀ w ∈ u_ws RX12 TX12 48, goodWord w = true) w h)
