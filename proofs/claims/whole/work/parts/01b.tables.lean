theorem tc_1_0 : (Jvm.Cond.initialized "ThinAirLaw") ∈ tb := tb_of (in_t1 (List.mem_of_getElem? (i := 0) rfl)) rfl
theorem tc_1_1 : (Jvm.Cond.initialized "ThinAir") ∈ tb := tb_of (in_t1 (List.mem_of_getElem? (i := 1) rfl)) rfl
theorem tc_1_2 : (Jvm.Cond.initialized "ThinAir$Strip") ∈ tb := tb_of (in_t1 (List.mem_of_getElem? (i := 2) rfl)) rfl
theorem tc_1_3 : (Jvm.Cond.initialized "ThinAir$Row") ∈ tb := tb_of (in_t1 (List.mem_of_getElem? (i := 3) rfl)) rfl
theorem tc_1_4 : (Jvm.Cond.initialized "ThinAir$Text") ∈ tb := tb_of (in_t1 (List.mem_of_getElem? (i := 4) rfl)) rfl
theorem tc_1_5 : (Jvm.Cond.initialized "ThinAir$Ranking") ∈ tb := tb_of (in_t1 (List.mem_of_getElem? (i := 5) rfl)) rfl
theorem tc_1_6 : (Jvm.Cond.initialized "ThinAirModel") ∈ tb := tb_of (in_t1 (List.mem_of_getElem? (i := 6) rfl)) rfl
theorem tc_1_7 : (Jvm.Cond.initialized "java/util/Arrays") ∈ tb := tb_of (in_t1 (List.mem_of_getElem? (i := 7) rfl)) rfl
theorem tc_1_8 : (Jvm.Cond.initialized "java/lang/System") ∈ tb := tb_of (in_t1 (List.mem_of_getElem? (i := 8) rfl)) rfl
theorem tc_1_9 : (Jvm.Cond.initialized "ThinAir$Place") ∈ tb := tb_of (in_t1 (List.mem_of_getElem? (i := 9) rfl)) rfl
theorem tc_1_10 : (Jvm.Cond.initialized "ThinAir$Mark") ∈ tb := tb_of (in_t1 (List.mem_of_getElem? (i := 10) rfl)) rfl
theorem tc_1_11 : (Jvm.Cond.initialized "ThinAir$Reader") ∈ tb := tb_of (in_t1 (List.mem_of_getElem? (i := 11) rfl)) rfl
theorem tc_1_12 : (Jvm.Cond.initialized "ThinAir$Items") ∈ tb := tb_of (in_t1 (List.mem_of_getElem? (i := 12) rfl)) rfl
theorem tc_1_13 : (Jvm.Cond.initialized "ThinAir$Rules") ∈ tb := tb_of (in_t1 (List.mem_of_getElem? (i := 13) rfl)) rfl
theorem tc_1_14 : (Jvm.Cond.initialized "java/lang/Math") ∈ tb := tb_of (in_t1 (List.mem_of_getElem? (i := 14) rfl)) rfl
theorem tc_1_15 : (Jvm.Cond.initialized "ThinAir$Laws") ∈ tb := tb_of (in_t1 (List.mem_of_getElem? (i := 15) rfl)) rfl
theorem tc_1_16 : (Jvm.Cond.initialized "java/lang/Integer") ∈ tb := tb_of (in_t1 (List.mem_of_getElem? (i := 16) rfl)) rfl
theorem tc_1_17 : (Jvm.Cond.classLink "ThinAirLaw" (7 : Nat) "ThinAir") ∈ tb := tb_of (in_t1 (List.mem_of_getElem? (i := 17) rfl)) rfl
theorem tc_1_18 : (Jvm.Cond.instantiable "ThinAir" (15 : Nat)) ∈ tb := tb_of (in_t1 (List.mem_of_getElem? (i := 18) rfl)) rfl
theorem tc_1_19 : (Jvm.Cond.methodLink "ThinAirLaw" (9 : Nat) ({ cls := "ThinAir", name := "<init>", desc := "()V" } : Jvm.MethodName)) ∈ tb := tb_of (in_t1 (List.mem_of_getElem? (i := 19) rfl)) rfl
theorem tc_1_20 : (Jvm.Cond.instanceMethod ({ cls := "ThinAir", name := "<init>", desc := "()V" } : Jvm.MethodName)) ∈ tb := tb_of (in_t1 (List.mem_of_getElem? (i := 20) rfl)) rfl
theorem tc_1_21 : (Jvm.Cond.code ({ cls := "ThinAir", name := "<init>", desc := "()V" } : Jvm.MethodName) prog_1_method_1_code (2 : Nat) (Option.none : Option Jvm.ClassFile.FieldType)) ∈ tb := tb_of (in_t1 (List.mem_of_getElem? (i := 21) rfl)) rfl
theorem tc_1_22 : (Jvm.Cond.methodLink "ThinAir" (1 : Nat) ({ cls := "java/lang/Object", name := "<init>", desc := "()V" } : Jvm.MethodName)) ∈ tb := tb_of (in_t1 (List.mem_of_getElem? (i := 22) rfl)) rfl
theorem tc_1_23 : (Jvm.Cond.instanceMethod ({ cls := "java/lang/Object", name := "<init>", desc := "()V" } : Jvm.MethodName)) ∈ tb := tb_of (in_t1 (List.mem_of_getElem? (i := 23) rfl)) rfl
theorem tc_1_24 : (Jvm.Cond.code ({ cls := "java/lang/Object", name := "<init>", desc := "()V" } : Jvm.MethodName) object_method_1_code (1 : Nat) (Option.none : Option Jvm.ClassFile.FieldType)) ∈ tb := tb_of (in_t1 (List.mem_of_getElem? (i := 24) rfl)) rfl
theorem tc_1_25 : (Jvm.Cond.classLink "ThinAir" (9 : Nat) "ThinAir$Row") ∈ tb := tb_of (in_t1 (List.mem_of_getElem? (i := 25) rfl)) rfl
theorem tc_1_27 : (Jvm.Cond.instantiable "ThinAir$Row" (2 : Nat)) ∈ tb := tb_of (in_t1 (List.mem_of_getElem? (i := 27) rfl)) rfl
theorem tc_1_29 : (Jvm.Cond.instanceMethod ({ cls := "ThinAir$Row", name := "<init>", desc := "()V" } : Jvm.MethodName)) ∈ tb := tb_of (in_t1 (List.mem_of_getElem? (i := 29) rfl)) rfl
theorem tc_1_30 : (Jvm.Cond.code ({ cls := "ThinAir$Row", name := "<init>", desc := "()V" } : Jvm.MethodName) prog_8_method_1_code (1 : Nat) (Option.none : Option Jvm.ClassFile.FieldType)) ∈ tb := tb_of (in_t1 (List.mem_of_getElem? (i := 30) rfl)) rfl
theorem tc_1_32 : (Jvm.Cond.instanceMethod ({ cls := "ThinAir$Strip", name := "<init>", desc := "()V" } : Jvm.MethodName)) ∈ tb := tb_of (in_t1 (List.mem_of_getElem? (i := 32) rfl)) rfl
theorem tc_1_33 : (Jvm.Cond.code ({ cls := "ThinAir$Strip", name := "<init>", desc := "()V" } : Jvm.MethodName) prog_10_method_1_code (1 : Nat) (Option.none : Option Jvm.ClassFile.FieldType)) ∈ tb := tb_of (in_t1 (List.mem_of_getElem? (i := 33) rfl)) rfl
theorem tc_1_34 : (Jvm.Cond.methodLink "ThinAir$Strip" (1 : Nat) ({ cls := "java/lang/Object", name := "<init>", desc := "()V" } : Jvm.MethodName)) ∈ tb := tb_of (in_t1 (List.mem_of_getElem? (i := 34) rfl)) rfl
theorem tc_1_35 : (Jvm.Cond.fieldLink "ThinAir$Row" (9 : Nat) "ThinAir$Row" "cells" "[I") ∈ tb := tb_of (in_t1 (List.mem_of_getElem? (i := 35) rfl)) rfl
theorem tc_1_36 : (Jvm.Cond.fieldLink "ThinAir" (79 : Nat) "ThinAir$Row" "cells" "[I") ∈ tb := tb_of (in_t1 (List.mem_of_getElem? (i := 36) rfl)) rfl
theorem tc_1_37 : (Jvm.Cond.fieldLink "ThinAir$Strip" (7 : Nat) "ThinAir$Strip" "size" "I") ∈ tb := tb_of (in_t1 (List.mem_of_getElem? (i := 37) rfl)) rfl
theorem tc_1_38 : (Jvm.Cond.fieldLink "ThinAir$Reader" (18 : Nat) "ThinAir$Text" "size" "I") ∈ tb := tb_of (in_t1 (List.mem_of_getElem? (i := 38) rfl)) rfl
theorem tc_1_39 : (Jvm.Cond.sameField "ThinAir$Text" "ThinAir$Strip" "size" "I") ∈ tb := tb_of (in_t1 (List.mem_of_getElem? (i := 39) rfl)) rfl
theorem tc_1_40 : (Jvm.Cond.fieldLink "ThinAir$Row" (19 : Nat) "ThinAir$Row" "size" "I") ∈ tb := tb_of (in_t1 (List.mem_of_getElem? (i := 40) rfl)) rfl
theorem tc_1_41 : (Jvm.Cond.sameField "ThinAir$Row" "ThinAir$Strip" "size" "I") ∈ tb := tb_of (in_t1 (List.mem_of_getElem? (i := 41) rfl)) rfl
theorem tc_1_42 : (Jvm.Cond.fieldLink "ThinAir$Text" (19 : Nat) "ThinAir$Text" "size" "I") ∈ tb := tb_of (in_t1 (List.mem_of_getElem? (i := 42) rfl)) rfl
theorem tc_1_43 : (Jvm.Cond.fieldLink "ThinAir" (85 : Nat) "ThinAir$Row" "size" "I") ∈ tb := tb_of (in_t1 (List.mem_of_getElem? (i := 43) rfl)) rfl
theorem tc_1_44 : (Jvm.Cond.laysFinal "ThinAir$Row" "ThinAir$Row" "cells" "[I") ∈ tb := tb_of (in_t1 (List.mem_of_getElem? (i := 44) rfl)) rfl
theorem tc_1_46 : (Jvm.Cond.lays "ThinAir$Row" "ThinAir$Strip" "size" "I") ∈ tb := tb_of (in_t1 (List.mem_of_getElem? (i := 46) rfl)) rfl
theorem tc_1_49 : (Jvm.Cond.arrayClass Jvm.ClassFile.FieldType.int) ∈ tb := tb_of (in_t1 (List.mem_of_getElem? (i := 49) rfl)) rfl
theorem tc_1_50 : (Jvm.Cond.classLink "ThinAir" (16 : Nat) "ThinAir$Text") ∈ tb := tb_of (in_t1 (List.mem_of_getElem? (i := 50) rfl)) rfl
theorem tc_1_52 : (Jvm.Cond.instantiable "ThinAir$Text" (2 : Nat)) ∈ tb := tb_of (in_t1 (List.mem_of_getElem? (i := 52) rfl)) rfl
theorem tc_1_54 : (Jvm.Cond.instanceMethod ({ cls := "ThinAir$Text", name := "<init>", desc := "()V" } : Jvm.MethodName)) ∈ tb := tb_of (in_t1 (List.mem_of_getElem? (i := 54) rfl)) rfl
theorem tc_1_55 : (Jvm.Cond.code ({ cls := "ThinAir$Text", name := "<init>", desc := "()V" } : Jvm.MethodName) prog_11_method_1_code (1 : Nat) (Option.none : Option Jvm.ClassFile.FieldType)) ∈ tb := tb_of (in_t1 (List.mem_of_getElem? (i := 55) rfl)) rfl
theorem tc_1_57 : (Jvm.Cond.fieldLink "ThinAir$Reader" (9 : Nat) "ThinAir$Text" "signs" "[B") ∈ tb := tb_of (in_t1 (List.mem_of_getElem? (i := 57) rfl)) rfl
theorem tc_1_58 : (Jvm.Cond.fieldLink "ThinAir$Text" (9 : Nat) "ThinAir$Text" "signs" "[B") ∈ tb := tb_of (in_t1 (List.mem_of_getElem? (i := 58) rfl)) rfl
theorem tc_1_59 : (Jvm.Cond.fieldLink "ThinAir" (110 : Nat) "ThinAir$Text" "signs" "[B") ∈ tb := tb_of (in_t1 (List.mem_of_getElem? (i := 59) rfl)) rfl
theorem tc_1_60 : (Jvm.Cond.laysFinal "ThinAir$Text" "ThinAir$Text" "signs" "[B") ∈ tb := tb_of (in_t1 (List.mem_of_getElem? (i := 60) rfl)) rfl
theorem tc_1_62 : (Jvm.Cond.lays "ThinAir$Text" "ThinAir$Strip" "size" "I") ∈ tb := tb_of (in_t1 (List.mem_of_getElem? (i := 62) rfl)) rfl
theorem tc_1_64 : (Jvm.Cond.arrayClass Jvm.ClassFile.FieldType.byte) ∈ tb := tb_of (in_t1 (List.mem_of_getElem? (i := 64) rfl)) rfl
theorem tc_1_65 : (Jvm.Cond.classLink "ThinAir" (23 : Nat) "ThinAir$Place") ∈ tb := tb_of (in_t1 (List.mem_of_getElem? (i := 65) rfl)) rfl
theorem tc_1_67 : (Jvm.Cond.classLink "ThinAir" (29 : Nat) "ThinAir$Mark") ∈ tb := tb_of (in_t1 (List.mem_of_getElem? (i := 67) rfl)) rfl
theorem tc_1_69 : (Jvm.Cond.classLink "ThinAir" (35 : Nat) "ThinAir$Laws") ∈ tb := tb_of (in_t1 (List.mem_of_getElem? (i := 69) rfl)) rfl
theorem tc_1_71 : (Jvm.Cond.classLink "ThinAir" (41 : Nat) "ThinAir$Ranking") ∈ tb := tb_of (in_t1 (List.mem_of_getElem? (i := 71) rfl)) rfl
theorem tc_1_72 : (Jvm.Cond.instantiable "ThinAir$Ranking" (4 : Nat)) ∈ tb := tb_of (in_t1 (List.mem_of_getElem? (i := 72) rfl)) rfl
theorem tc_1_74 : (Jvm.Cond.instanceMethod ({ cls := "ThinAir$Ranking", name := "<init>", desc := "()V" } : Jvm.MethodName)) ∈ tb := tb_of (in_t1 (List.mem_of_getElem? (i := 74) rfl)) rfl
theorem tc_1_75 : (Jvm.Cond.code ({ cls := "ThinAir$Ranking", name := "<init>", desc := "()V" } : Jvm.MethodName) prog_6_method_1_code (1 : Nat) (Option.none : Option Jvm.ClassFile.FieldType)) ∈ tb := tb_of (in_t1 (List.mem_of_getElem? (i := 75) rfl)) rfl
theorem tc_1_76 : (Jvm.Cond.methodLink "ThinAir$Ranking" (3 : Nat) ({ cls := "java/lang/Object", name := "<init>", desc := "()V" } : Jvm.MethodName)) ∈ tb := tb_of (in_t1 (List.mem_of_getElem? (i := 76) rfl)) rfl
theorem tc_1_77 : (Jvm.Cond.fieldLink "ThinAir$Ranking" (9 : Nat) "ThinAir$Ranking" "who" "[I") ∈ tb := tb_of (in_t1 (List.mem_of_getElem? (i := 77) rfl)) rfl
theorem tc_1_78 : (Jvm.Cond.fieldLink "ThinAir" (237 : Nat) "ThinAir$Ranking" "who" "[I") ∈ tb := tb_of (in_t1 (List.mem_of_getElem? (i := 78) rfl)) rfl
theorem tc_1_79 : (Jvm.Cond.fieldLink "ThinAir$Ranking" (15 : Nat) "ThinAir$Ranking" "worth" "[I") ∈ tb := tb_of (in_t1 (List.mem_of_getElem? (i := 79) rfl)) rfl
theorem tc_1_80 : (Jvm.Cond.fieldLink "ThinAir" (240 : Nat) "ThinAir$Ranking" "worth" "[I") ∈ tb := tb_of (in_t1 (List.mem_of_getElem? (i := 80) rfl)) rfl
theorem tc_1_81 : (Jvm.Cond.fieldLink "ThinAir$Ranking" (18 : Nat) "ThinAir$Ranking" "seats" "[I") ∈ tb := tb_of (in_t1 (List.mem_of_getElem? (i := 81) rfl)) rfl
theorem tc_1_82 : (Jvm.Cond.fieldLink "ThinAir" (246 : Nat) "ThinAir$Ranking" "seats" "[I") ∈ tb := tb_of (in_t1 (List.mem_of_getElem? (i := 82) rfl)) rfl
theorem tc_1_83 : (Jvm.Cond.fieldLink "ThinAir$Ranking" (21 : Nat) "ThinAir$Ranking" "size" "I") ∈ tb := tb_of (in_t1 (List.mem_of_getElem? (i := 83) rfl)) rfl
theorem tc_1_84 : (Jvm.Cond.fieldLink "ThinAir" (236 : Nat) "ThinAir$Ranking" "size" "I") ∈ tb := tb_of (in_t1 (List.mem_of_getElem? (i := 84) rfl)) rfl
theorem tc_1_85 : (Jvm.Cond.laysFinal "ThinAir$Ranking" "ThinAir$Ranking" "who" "[I") ∈ tb := tb_of (in_t1 (List.mem_of_getElem? (i := 85) rfl)) rfl
theorem tc_1_87 : (Jvm.Cond.laysFinal "ThinAir$Ranking" "ThinAir$Ranking" "worth" "[I") ∈ tb := tb_of (in_t1 (List.mem_of_getElem? (i := 87) rfl)) rfl
theorem tc_1_89 : (Jvm.Cond.laysFinal "ThinAir$Ranking" "ThinAir$Ranking" "seats" "[I") ∈ tb := tb_of (in_t1 (List.mem_of_getElem? (i := 89) rfl)) rfl
theorem tc_1_91 : (Jvm.Cond.lays "ThinAir$Ranking" "ThinAir$Ranking" "size" "I") ∈ tb := tb_of (in_t1 (List.mem_of_getElem? (i := 91) rfl)) rfl
theorem tc_1_94 : (Jvm.Cond.fieldLink "ThinAir" (11 : Nat) "ThinAir" "theRows" "[LThinAir$Row;") ∈ tb := tb_of (in_t1 (List.mem_of_getElem? (i := 94) rfl)) rfl
theorem tc_1_95 : (Jvm.Cond.fieldLink "ThinAir" (18 : Nat) "ThinAir" "theTexts" "[LThinAir$Text;") ∈ tb := tb_of (in_t1 (List.mem_of_getElem? (i := 95) rfl)) rfl
theorem tc_1_96 : (Jvm.Cond.fieldLink "ThinAir" (25 : Nat) "ThinAir" "thePlaces" "[LThinAir$Place;") ∈ tb := tb_of (in_t1 (List.mem_of_getElem? (i := 96) rfl)) rfl
theorem tc_1_97 : (Jvm.Cond.fieldLink "ThinAir" (31 : Nat) "ThinAir" "theMarks" "[LThinAir$Mark;") ∈ tb := tb_of (in_t1 (List.mem_of_getElem? (i := 97) rfl)) rfl
theorem tc_1_98 : (Jvm.Cond.fieldLink "ThinAir" (37 : Nat) "ThinAir" "theLaws" "[LThinAir$Laws;") ∈ tb := tb_of (in_t1 (List.mem_of_getElem? (i := 98) rfl)) rfl
theorem tc_1_99 : (Jvm.Cond.fieldLink "ThinAir" (44 : Nat) "ThinAir" "ranking" "LThinAir$Ranking;") ∈ tb := tb_of (in_t1 (List.mem_of_getElem? (i := 99) rfl)) rfl
theorem tc_1_100 : (Jvm.Cond.fieldLink "ThinAir" (48 : Nat) "ThinAir" "otherRanking" "LThinAir$Ranking;") ∈ tb := tb_of (in_t1 (List.mem_of_getElem? (i := 100) rfl)) rfl
theorem tc_1_101 : (Jvm.Cond.fieldLink "ThinAir" (51 : Nat) "ThinAir" "timesFound" "[I") ∈ tb := tb_of (in_t1 (List.mem_of_getElem? (i := 101) rfl)) rfl
theorem tc_1_102 : (Jvm.Cond.fieldLink "ThinAir" (114 : Nat) "ThinAir" "today" "I") ∈ tb := tb_of (in_t1 (List.mem_of_getElem? (i := 102) rfl)) rfl
theorem tc_1_103 : (Jvm.Cond.fieldLink "ThinAir" (121 : Nat) "ThinAir" "placesTold" "I") ∈ tb := tb_of (in_t1 (List.mem_of_getElem? (i := 103) rfl)) rfl
theorem tc_1_104 : (Jvm.Cond.fieldLink "ThinAir" (134 : Nat) "ThinAir" "marksTold" "I") ∈ tb := tb_of (in_t1 (List.mem_of_getElem? (i := 104) rfl)) rfl
theorem tc_1_105 : (Jvm.Cond.fieldLink "ThinAir" (270 : Nat) "ThinAir" "answer" "I") ∈ tb := tb_of (in_t1 (List.mem_of_getElem? (i := 105) rfl)) rfl
theorem tc_1_106 : (Jvm.Cond.fieldLink "ThinAir" (290 : Nat) "ThinAir" "latestFinding" "I") ∈ tb := tb_of (in_t1 (List.mem_of_getElem? (i := 106) rfl)) rfl
theorem tc_1_107 : (Jvm.Cond.fieldLink "ThinAir" (273 : Nat) "ThinAir" "upperNumber" "J") ∈ tb := tb_of (in_t1 (List.mem_of_getElem? (i := 107) rfl)) rfl
theorem tc_1_108 : (Jvm.Cond.fieldLink "ThinAir" (55 : Nat) "ThinAir" "lowerNumber" "J") ∈ tb := tb_of (in_t1 (List.mem_of_getElem? (i := 108) rfl)) rfl
theorem tc_1_109 : (Jvm.Cond.laysFinal "ThinAir" "ThinAir" "theRows" "[LThinAir$Row;") ∈ tb := tb_of (in_t1 (List.mem_of_getElem? (i := 109) rfl)) rfl
theorem tc_1_111 : (Jvm.Cond.laysFinal "ThinAir" "ThinAir" "theTexts" "[LThinAir$Text;") ∈ tb := tb_of (in_t1 (List.mem_of_getElem? (i := 111) rfl)) rfl
theorem tc_1_113 : (Jvm.Cond.laysFinal "ThinAir" "ThinAir" "thePlaces" "[LThinAir$Place;") ∈ tb := tb_of (in_t1 (List.mem_of_getElem? (i := 113) rfl)) rfl
theorem tc_1_115 : (Jvm.Cond.laysFinal "ThinAir" "ThinAir" "theMarks" "[LThinAir$Mark;") ∈ tb := tb_of (in_t1 (List.mem_of_getElem? (i := 115) rfl)) rfl
theorem tc_1_117 : (Jvm.Cond.laysFinal "ThinAir" "ThinAir" "theLaws" "[LThinAir$Laws;") ∈ tb := tb_of (in_t1 (List.mem_of_getElem? (i := 117) rfl)) rfl
theorem tc_1_119 : (Jvm.Cond.laysFinal "ThinAir" "ThinAir" "ranking" "LThinAir$Ranking;") ∈ tb := tb_of (in_t1 (List.mem_of_getElem? (i := 119) rfl)) rfl
theorem tc_1_121 : (Jvm.Cond.laysFinal "ThinAir" "ThinAir" "otherRanking" "LThinAir$Ranking;") ∈ tb := tb_of (in_t1 (List.mem_of_getElem? (i := 121) rfl)) rfl
theorem tc_1_123 : (Jvm.Cond.laysFinal "ThinAir" "ThinAir" "timesFound" "[I") ∈ tb := tb_of (in_t1 (List.mem_of_getElem? (i := 123) rfl)) rfl
theorem tc_1_125 : (Jvm.Cond.lays "ThinAir" "ThinAir" "today" "I") ∈ tb := tb_of (in_t1 (List.mem_of_getElem? (i := 125) rfl)) rfl
theorem tc_1_127 : (Jvm.Cond.lays "ThinAir" "ThinAir" "placesTold" "I") ∈ tb := tb_of (in_t1 (List.mem_of_getElem? (i := 127) rfl)) rfl
theorem tc_1_129 : (Jvm.Cond.lays "ThinAir" "ThinAir" "marksTold" "I") ∈ tb := tb_of (in_t1 (List.mem_of_getElem? (i := 129) rfl)) rfl
theorem tc_1_131 : (Jvm.Cond.lays "ThinAir" "ThinAir" "answer" "I") ∈ tb := tb_of (in_t1 (List.mem_of_getElem? (i := 131) rfl)) rfl
theorem tc_1_133 : (Jvm.Cond.lays "ThinAir" "ThinAir" "latestFinding" "I") ∈ tb := tb_of (in_t1 (List.mem_of_getElem? (i := 133) rfl)) rfl
theorem tc_1_135 : (Jvm.Cond.lays "ThinAir" "ThinAir" "upperNumber" "J") ∈ tb := tb_of (in_t1 (List.mem_of_getElem? (i := 135) rfl)) rfl
theorem tc_1_137 : (Jvm.Cond.lays "ThinAir" "ThinAir" "lowerNumber" "J") ∈ tb := tb_of (in_t1 (List.mem_of_getElem? (i := 137) rfl)) rfl
theorem tc_1_140 : (Jvm.Cond.methodLink "ThinAirLaw" (13 : Nat) ({ cls := "ThinAir", name := "row", desc := "(II)I" } : Jvm.MethodName)) ∈ tb := tb_of (in_t1 (List.mem_of_getElem? (i := 140) rfl)) rfl
theorem tc_1_141 : (Jvm.Cond.instanceMethod ({ cls := "ThinAir", name := "row", desc := "(II)I" } : Jvm.MethodName)) ∈ tb := tb_of (in_t1 (List.mem_of_getElem? (i := 141) rfl)) rfl
theorem tc_1_142 : (Jvm.Cond.selects "ThinAir" ({ cls := "ThinAir", name := "row", desc := "(II)I" } : Jvm.MethodName) ({ cls := "ThinAir", name := "row", desc := "(II)I" } : Jvm.MethodName)) ∈ tb := tb_of (in_t1 (List.mem_of_getElem? (i := 142) rfl)) rfl
theorem tc_1_143 : (Jvm.Cond.code ({ cls := "ThinAir", name := "row", desc := "(II)I" } : Jvm.MethodName) prog_1_method_2_code (4 : Nat) (Option.some Jvm.ClassFile.FieldType.int)) ∈ tb := tb_of (in_t1 (List.mem_of_getElem? (i := 143) rfl)) rfl
theorem tc_1_144 : (Jvm.Cond.methodLink "ThinAir" (59 : Nat) ({ cls := "ThinAir", name := "rowAt", desc := "(I)LThinAir$Row;" } : Jvm.MethodName)) ∈ tb := tb_of (in_t1 (List.mem_of_getElem? (i := 144) rfl)) rfl
theorem tc_1_146 : (Jvm.Cond.instanceMethod ({ cls := "ThinAir", name := "rowAt", desc := "(I)LThinAir$Row;" } : Jvm.MethodName)) ∈ tb := tb_of (in_t1 (List.mem_of_getElem? (i := 146) rfl)) rfl
theorem tc_1_147 : (Jvm.Cond.code ({ cls := "ThinAir", name := "rowAt", desc := "(I)LThinAir$Row;" } : Jvm.MethodName) prog_1_method_46_code (2 : Nat) (Option.some (Jvm.ClassFile.FieldType.object "ThinAir$Row"))) ∈ tb := tb_of (in_t1 (List.mem_of_getElem? (i := 147) rfl)) rfl
theorem tc_1_148 : (Jvm.Cond.methodLink "ThinAir" (117 : Nat) ({ cls := "ThinAir", name := "within", desc := "(III)Z" } : Jvm.MethodName)) ∈ tb := tb_of (in_t1 (List.mem_of_getElem? (i := 148) rfl)) rfl
theorem tc_1_149 : (Jvm.Cond.static ({ cls := "ThinAir", name := "within", desc := "(III)Z" } : Jvm.MethodName)) ∈ tb := tb_of (in_t1 (List.mem_of_getElem? (i := 149) rfl)) rfl
theorem tc_1_150 : (Jvm.Cond.code ({ cls := "ThinAir", name := "within", desc := "(III)Z" } : Jvm.MethodName) prog_1_method_45_code (3 : Nat) (Option.some Jvm.ClassFile.FieldType.boolean)) ∈ tb := tb_of (in_t1 (List.mem_of_getElem? (i := 150) rfl)) rfl
theorem tc_1_151 : (Jvm.Cond.methodLink "ThinAir" (63 : Nat) ({ cls := "ThinAir", name := "found", desc := "(I)I" } : Jvm.MethodName)) ∈ tb := tb_of (in_t1 (List.mem_of_getElem? (i := 151) rfl)) rfl
theorem tc_1_153 : (Jvm.Cond.instanceMethod ({ cls := "ThinAir", name := "found", desc := "(I)I" } : Jvm.MethodName)) ∈ tb := tb_of (in_t1 (List.mem_of_getElem? (i := 153) rfl)) rfl
theorem tc_1_154 : (Jvm.Cond.code ({ cls := "ThinAir", name := "found", desc := "(I)I" } : Jvm.MethodName) prog_1_method_50_code (2 : Nat) (Option.some Jvm.ClassFile.FieldType.int)) ∈ tb := tb_of (in_t1 (List.mem_of_getElem? (i := 154) rfl)) rfl
theorem tc_1_155 : (Jvm.Cond.methodLink "ThinAir" (67 : Nat) ({ cls := "ThinAir$Row", name := "begin", desc := "(I)V" } : Jvm.MethodName)) ∈ tb := tb_of (in_t1 (List.mem_of_getElem? (i := 155) rfl)) rfl
theorem tc_1_156 : (Jvm.Cond.instanceMethod ({ cls := "ThinAir$Row", name := "begin", desc := "(I)V" } : Jvm.MethodName)) ∈ tb := tb_of (in_t1 (List.mem_of_getElem? (i := 156) rfl)) rfl
theorem tc_1_157 : (Jvm.Cond.selects "ThinAir$Row" ({ cls := "ThinAir$Row", name := "begin", desc := "(I)V" } : Jvm.MethodName) ({ cls := "ThinAir$Row", name := "begin", desc := "(I)V" } : Jvm.MethodName)) ∈ tb := tb_of (in_t1 (List.mem_of_getElem? (i := 157) rfl)) rfl
theorem tc_1_158 : (Jvm.Cond.code ({ cls := "ThinAir$Row", name := "begin", desc := "(I)V" } : Jvm.MethodName) prog_8_method_3_code (2 : Nat) (Option.none : Option Jvm.ClassFile.FieldType)) ∈ tb := tb_of (in_t1 (List.mem_of_getElem? (i := 158) rfl)) rfl
theorem tc_1_159 : (Jvm.Cond.methodLink "ThinAir$Row" (23 : Nat) ({ cls := "java/util/Arrays", name := "fill", desc := "([II)V" } : Jvm.MethodName)) ∈ tb := tb_of (in_t1 (List.mem_of_getElem? (i := 159) rfl)) rfl
theorem tc_1_160 : (Jvm.Cond.static ({ cls := "java/util/Arrays", name := "fill", desc := "([II)V" } : Jvm.MethodName)) ∈ tb := tb_of (in_t1 (List.mem_of_getElem? (i := 160) rfl)) rfl
theorem tc_1_161 : (Jvm.Cond.code ({ cls := "java/util/Arrays", name := "fill", desc := "([II)V" } : Jvm.MethodName) prog_17_method_103_code (4 : Nat) (Option.none : Option Jvm.ClassFile.FieldType)) ∈ tb := tb_of (in_t1 (List.mem_of_getElem? (i := 161) rfl)) rfl
theorem tc_1_162 : (Jvm.Cond.methodLink "ThinAirLaw" (18 : Nat) ({ cls := "ThinAir", name := "lay", desc := "(III)I" } : Jvm.MethodName)) ∈ tb := tb_of (in_t1 (List.mem_of_getElem? (i := 162) rfl)) rfl
theorem tc_1_163 : (Jvm.Cond.instanceMethod ({ cls := "ThinAir", name := "lay", desc := "(III)I" } : Jvm.MethodName)) ∈ tb := tb_of (in_t1 (List.mem_of_getElem? (i := 163) rfl)) rfl
theorem tc_1_164 : (Jvm.Cond.selects "ThinAir" ({ cls := "ThinAir", name := "lay", desc := "(III)I" } : Jvm.MethodName) ({ cls := "ThinAir", name := "lay", desc := "(III)I" } : Jvm.MethodName)) ∈ tb := tb_of (in_t1 (List.mem_of_getElem? (i := 164) rfl)) rfl
theorem tc_1_165 : (Jvm.Cond.code ({ cls := "ThinAir", name := "lay", desc := "(III)I" } : Jvm.MethodName) prog_1_method_3_code (6 : Nat) (Option.some Jvm.ClassFile.FieldType.int)) ∈ tb := tb_of (in_t1 (List.mem_of_getElem? (i := 165) rfl)) rfl
theorem tc_1_166 : (Jvm.Cond.methodLink "ThinAir" (71 : Nat) ({ cls := "ThinAir$Row", name := "isMissing", desc := "()Z" } : Jvm.MethodName)) ∈ tb := tb_of (in_t1 (List.mem_of_getElem? (i := 166) rfl)) rfl
theorem tc_1_167 : (Jvm.Cond.sameMethod "ThinAir$Row" "ThinAir$Strip" "isMissing" "()Z") ∈ tb := tb_of (in_t1 (List.mem_of_getElem? (i := 167) rfl)) rfl
theorem tc_1_169 : (Jvm.Cond.selects "ThinAir$Row" ({ cls := "ThinAir$Row", name := "isMissing", desc := "()Z" } : Jvm.MethodName) ({ cls := "ThinAir$Strip", name := "isMissing", desc := "()Z" } : Jvm.MethodName)) ∈ tb := tb_of (in_t1 (List.mem_of_getElem? (i := 169) rfl)) rfl
theorem tc_1_170 : (Jvm.Cond.instanceMethod ({ cls := "ThinAir$Strip", name := "isMissing", desc := "()Z" } : Jvm.MethodName)) ∈ tb := tb_of (in_t1 (List.mem_of_getElem? (i := 170) rfl)) rfl
theorem tc_1_171 : (Jvm.Cond.code ({ cls := "ThinAir$Strip", name := "isMissing", desc := "()Z" } : Jvm.MethodName) prog_10_method_3_code (1 : Nat) (Option.some Jvm.ClassFile.FieldType.boolean)) ∈ tb := tb_of (in_t1 (List.mem_of_getElem? (i := 171) rfl)) rfl
theorem tc_1_172 : (Jvm.Cond.methodLink "ThinAir" (75 : Nat) ({ cls := "ThinAir$Row", name := "has", desc := "(I)Z" } : Jvm.MethodName)) ∈ tb := tb_of (in_t1 (List.mem_of_getElem? (i := 172) rfl)) rfl
theorem tc_1_173 : (Jvm.Cond.sameMethod "ThinAir$Row" "ThinAir$Strip" "has" "(I)Z") ∈ tb := tb_of (in_t1 (List.mem_of_getElem? (i := 173) rfl)) rfl
theorem tc_1_175 : (Jvm.Cond.selects "ThinAir$Row" ({ cls := "ThinAir$Row", name := "has", desc := "(I)Z" } : Jvm.MethodName) ({ cls := "ThinAir$Strip", name := "has", desc := "(I)Z" } : Jvm.MethodName)) ∈ tb := tb_of (in_t1 (List.mem_of_getElem? (i := 175) rfl)) rfl
theorem tc_1_176 : (Jvm.Cond.instanceMethod ({ cls := "ThinAir$Strip", name := "has", desc := "(I)Z" } : Jvm.MethodName)) ∈ tb := tb_of (in_t1 (List.mem_of_getElem? (i := 176) rfl)) rfl
theorem tc_1_177 : (Jvm.Cond.code ({ cls := "ThinAir$Strip", name := "has", desc := "(I)Z" } : Jvm.MethodName) prog_10_method_4_code (2 : Nat) (Option.some Jvm.ClassFile.FieldType.boolean)) ∈ tb := tb_of (in_t1 (List.mem_of_getElem? (i := 177) rfl)) rfl
theorem tc_1_178 : (Jvm.Cond.methodLink "ThinAir" (82 : Nat) ({ cls := "ThinAir", name := "tell", desc := "(I)I" } : Jvm.MethodName)) ∈ tb := tb_of (in_t1 (List.mem_of_getElem? (i := 178) rfl)) rfl
theorem tc_1_180 : (Jvm.Cond.instanceMethod ({ cls := "ThinAir", name := "tell", desc := "(I)I" } : Jvm.MethodName)) ∈ tb := tb_of (in_t1 (List.mem_of_getElem? (i := 180) rfl)) rfl
theorem tc_1_181 : (Jvm.Cond.code ({ cls := "ThinAir", name := "tell", desc := "(I)I" } : Jvm.MethodName) prog_1_method_51_code (2 : Nat) (Option.some Jvm.ClassFile.FieldType.int)) ∈ tb := tb_of (in_t1 (List.mem_of_getElem? (i := 181) rfl)) rfl
theorem tc_1_182 : (Jvm.Cond.methodLink "ThinAirLaw" (23 : Nat) ({ cls := "ThinAir", name := "tear", desc := "(I)I" } : Jvm.MethodName)) ∈ tb := tb_of (in_t1 (List.mem_of_getElem? (i := 182) rfl)) rfl
theorem tc_1_183 : (Jvm.Cond.instanceMethod ({ cls := "ThinAir", name := "tear", desc := "(I)I" } : Jvm.MethodName)) ∈ tb := tb_of (in_t1 (List.mem_of_getElem? (i := 183) rfl)) rfl
theorem tc_1_184 : (Jvm.Cond.selects "ThinAir" ({ cls := "ThinAir", name := "tear", desc := "(I)I" } : Jvm.MethodName) ({ cls := "ThinAir", name := "tear", desc := "(I)I" } : Jvm.MethodName)) ∈ tb := tb_of (in_t1 (List.mem_of_getElem? (i := 184) rfl)) rfl
theorem tc_1_185 : (Jvm.Cond.code ({ cls := "ThinAir", name := "tear", desc := "(I)I" } : Jvm.MethodName) prog_1_method_4_code (3 : Nat) (Option.some Jvm.ClassFile.FieldType.int)) ∈ tb := tb_of (in_t1 (List.mem_of_getElem? (i := 185) rfl)) rfl
theorem tc_1_186 : (Jvm.Cond.methodLink "ThinAirLaw" (28 : Nat) ({ cls := "ThinAir", name := "copy", desc := "(IIIII)I" } : Jvm.MethodName)) ∈ tb := tb_of (in_t1 (List.mem_of_getElem? (i := 186) rfl)) rfl
theorem tc_1_187 : (Jvm.Cond.instanceMethod ({ cls := "ThinAir", name := "copy", desc := "(IIIII)I" } : Jvm.MethodName)) ∈ tb := tb_of (in_t1 (List.mem_of_getElem? (i := 187) rfl)) rfl
theorem tc_1_188 : (Jvm.Cond.selects "ThinAir" ({ cls := "ThinAir", name := "copy", desc := "(IIIII)I" } : Jvm.MethodName) ({ cls := "ThinAir", name := "copy", desc := "(IIIII)I" } : Jvm.MethodName)) ∈ tb := tb_of (in_t1 (List.mem_of_getElem? (i := 188) rfl)) rfl
theorem tc_1_189 : (Jvm.Cond.code ({ cls := "ThinAir", name := "copy", desc := "(IIIII)I" } : Jvm.MethodName) prog_1_method_5_code (8 : Nat) (Option.some Jvm.ClassFile.FieldType.int)) ∈ tb := tb_of (in_t1 (List.mem_of_getElem? (i := 189) rfl)) rfl
theorem tc_1_190 : (Jvm.Cond.methodLink "ThinAir" (89 : Nat) ({ cls := "ThinAir$Row", name := "hasRun", desc := "(II)Z" } : Jvm.MethodName)) ∈ tb := tb_of (in_t1 (List.mem_of_getElem? (i := 190) rfl)) rfl
theorem tc_1_191 : (Jvm.Cond.sameMethod "ThinAir$Row" "ThinAir$Strip" "hasRun" "(II)Z") ∈ tb := tb_of (in_t1 (List.mem_of_getElem? (i := 191) rfl)) rfl
theorem tc_1_193 : (Jvm.Cond.selects "ThinAir$Row" ({ cls := "ThinAir$Row", name := "hasRun", desc := "(II)Z" } : Jvm.MethodName) ({ cls := "ThinAir$Strip", name := "hasRun", desc := "(II)Z" } : Jvm.MethodName)) ∈ tb := tb_of (in_t1 (List.mem_of_getElem? (i := 193) rfl)) rfl
theorem tc_1_194 : (Jvm.Cond.instanceMethod ({ cls := "ThinAir$Strip", name := "hasRun", desc := "(II)Z" } : Jvm.MethodName)) ∈ tb := tb_of (in_t1 (List.mem_of_getElem? (i := 194) rfl)) rfl
theorem tc_1_195 : (Jvm.Cond.code ({ cls := "ThinAir$Strip", name := "hasRun", desc := "(II)Z" } : Jvm.MethodName) prog_10_method_5_code (3 : Nat) (Option.some Jvm.ClassFile.FieldType.boolean)) ∈ tb := tb_of (in_t1 (List.mem_of_getElem? (i := 195) rfl)) rfl
theorem tc_1_196 : (Jvm.Cond.methodLink "ThinAir" (93 : Nat) ({ cls := "java/lang/System", name := "arraycopy", desc := "(Ljava/lang/Object;ILjava/lang/Object;II)V" } : Jvm.MethodName)) ∈ tb := tb_of (in_t1 (List.mem_of_getElem? (i := 196) rfl)) rfl
theorem tc_1_197 : (Jvm.Cond.static ({ cls := "java/lang/System", name := "arraycopy", desc := "(Ljava/lang/Object;ILjava/lang/Object;II)V" } : Jvm.MethodName)) ∈ tb := tb_of (in_t1 (List.mem_of_getElem? (i := 197) rfl)) rfl
theorem tc_1_198 : (Jvm.Cond.native ({ cls := "java/lang/System", name := "arraycopy", desc := "(Ljava/lang/Object;ILjava/lang/Object;II)V" } : Jvm.MethodName)) ∈ tb := tb_of (in_t1 (List.mem_of_getElem? (i := 198) rfl)) rfl
theorem tc_1_199 : (Jvm.Cond.methodLink "ThinAirLaw" (33 : Nat) ({ cls := "ThinAir", name := "mean", desc := "(I)I" } : Jvm.MethodName)) ∈ tb := tb_of (in_t1 (List.mem_of_getElem? (i := 199) rfl)) rfl
theorem tc_1_200 : (Jvm.Cond.instanceMethod ({ cls := "ThinAir", name := "mean", desc := "(I)I" } : Jvm.MethodName)) ∈ tb := tb_of (in_t1 (List.mem_of_getElem? (i := 200) rfl)) rfl
theorem tc_1_201 : (Jvm.Cond.selects "ThinAir" ({ cls := "ThinAir", name := "mean", desc := "(I)I" } : Jvm.MethodName) ({ cls := "ThinAir", name := "mean", desc := "(I)I" } : Jvm.MethodName)) ∈ tb := tb_of (in_t1 (List.mem_of_getElem? (i := 201) rfl)) rfl
theorem tc_1_202 : (Jvm.Cond.code ({ cls := "ThinAir", name := "mean", desc := "(I)I" } : Jvm.MethodName) prog_1_method_6_code (3 : Nat) (Option.some Jvm.ClassFile.FieldType.int)) ∈ tb := tb_of (in_t1 (List.mem_of_getElem? (i := 202) rfl)) rfl
theorem tc_1_203 : (Jvm.Cond.methodLink "ThinAir" (99 : Nat) ({ cls := "ThinAir$Row", name := "sum", desc := "()J" } : Jvm.MethodName)) ∈ tb := tb_of (in_t1 (List.mem_of_getElem? (i := 203) rfl)) rfl
theorem tc_1_204 : (Jvm.Cond.instanceMethod ({ cls := "ThinAir$Row", name := "sum", desc := "()J" } : Jvm.MethodName)) ∈ tb := tb_of (in_t1 (List.mem_of_getElem? (i := 204) rfl)) rfl
theorem tc_1_205 : (Jvm.Cond.selects "ThinAir$Row" ({ cls := "ThinAir$Row", name := "sum", desc := "()J" } : Jvm.MethodName) ({ cls := "ThinAir$Row", name := "sum", desc := "()J" } : Jvm.MethodName)) ∈ tb := tb_of (in_t1 (List.mem_of_getElem? (i := 205) rfl)) rfl
theorem tc_1_206 : (Jvm.Cond.code ({ cls := "ThinAir$Row", name := "sum", desc := "()J" } : Jvm.MethodName) prog_8_method_4_code (4 : Nat) (Option.some Jvm.ClassFile.FieldType.long)) ∈ tb := tb_of (in_t1 (List.mem_of_getElem? (i := 206) rfl)) rfl
theorem tc_1_207 : (Jvm.Cond.methodLink "ThinAir$Row" (29 : Nat) ({ cls := "ThinAir$Row", name := "cell", desc := "(I)I" } : Jvm.MethodName)) ∈ tb := tb_of (in_t1 (List.mem_of_getElem? (i := 207) rfl)) rfl
theorem tc_1_208 : (Jvm.Cond.instanceMethod ({ cls := "ThinAir$Row", name := "cell", desc := "(I)I" } : Jvm.MethodName)) ∈ tb := tb_of (in_t1 (List.mem_of_getElem? (i := 208) rfl)) rfl
theorem tc_1_209 : (Jvm.Cond.selects "ThinAir$Row" ({ cls := "ThinAir$Row", name := "cell", desc := "(I)I" } : Jvm.MethodName) ({ cls := "ThinAir$Row", name := "cell", desc := "(I)I" } : Jvm.MethodName)) ∈ tb := tb_of (in_t1 (List.mem_of_getElem? (i := 209) rfl)) rfl
theorem tc_1_210 : (Jvm.Cond.code ({ cls := "ThinAir$Row", name := "cell", desc := "(I)I" } : Jvm.MethodName) prog_8_method_2_code (2 : Nat) (Option.some Jvm.ClassFile.FieldType.int)) ∈ tb := tb_of (in_t1 (List.mem_of_getElem? (i := 210) rfl)) rfl
theorem tc_1_211 : (Jvm.Cond.methodLink "ThinAir$Row" (15 : Nat) ({ cls := "ThinAir$Row", name := "has", desc := "(I)Z" } : Jvm.MethodName)) ∈ tb := tb_of (in_t1 (List.mem_of_getElem? (i := 211) rfl)) rfl
theorem tc_1_212 : (Jvm.Cond.methodLink "ThinAirLaw" (37 : Nat) ({ cls := "ThinAir", name := "text", desc := "(II)I" } : Jvm.MethodName)) ∈ tb := tb_of (in_t1 (List.mem_of_getElem? (i := 212) rfl)) rfl
theorem tc_1_213 : (Jvm.Cond.instanceMethod ({ cls := "ThinAir", name := "text", desc := "(II)I" } : Jvm.MethodName)) ∈ tb := tb_of (in_t1 (List.mem_of_getElem? (i := 213) rfl)) rfl
theorem tc_1_214 : (Jvm.Cond.selects "ThinAir" ({ cls := "ThinAir", name := "text", desc := "(II)I" } : Jvm.MethodName) ({ cls := "ThinAir", name := "text", desc := "(II)I" } : Jvm.MethodName)) ∈ tb := tb_of (in_t1 (List.mem_of_getElem? (i := 214) rfl)) rfl
theorem tc_1_215 : (Jvm.Cond.code ({ cls := "ThinAir", name := "text", desc := "(II)I" } : Jvm.MethodName) prog_1_method_7_code (4 : Nat) (Option.some Jvm.ClassFile.FieldType.int)) ∈ tb := tb_of (in_t1 (List.mem_of_getElem? (i := 215) rfl)) rfl
theorem tc_1_216 : (Jvm.Cond.methodLink "ThinAir" (103 : Nat) ({ cls := "ThinAir", name := "textAt", desc := "(I)LThinAir$Text;" } : Jvm.MethodName)) ∈ tb := tb_of (in_t1 (List.mem_of_getElem? (i := 216) rfl)) rfl
theorem tc_1_218 : (Jvm.Cond.instanceMethod ({ cls := "ThinAir", name := "textAt", desc := "(I)LThinAir$Text;" } : Jvm.MethodName)) ∈ tb := tb_of (in_t1 (List.mem_of_getElem? (i := 218) rfl)) rfl
theorem tc_1_219 : (Jvm.Cond.code ({ cls := "ThinAir", name := "textAt", desc := "(I)LThinAir$Text;" } : Jvm.MethodName) prog_1_method_47_code (2 : Nat) (Option.some (Jvm.ClassFile.FieldType.object "ThinAir$Text"))) ∈ tb := tb_of (in_t1 (List.mem_of_getElem? (i := 219) rfl)) rfl
theorem tc_1_220 : (Jvm.Cond.methodLink "ThinAir" (107 : Nat) ({ cls := "ThinAir$Text", name := "begin", desc := "(I)V" } : Jvm.MethodName)) ∈ tb := tb_of (in_t1 (List.mem_of_getElem? (i := 220) rfl)) rfl
theorem tc_1_221 : (Jvm.Cond.instanceMethod ({ cls := "ThinAir$Text", name := "begin", desc := "(I)V" } : Jvm.MethodName)) ∈ tb := tb_of (in_t1 (List.mem_of_getElem? (i := 221) rfl)) rfl
theorem tc_1_222 : (Jvm.Cond.selects "ThinAir$Text" ({ cls := "ThinAir$Text", name := "begin", desc := "(I)V" } : Jvm.MethodName) ({ cls := "ThinAir$Text", name := "begin", desc := "(I)V" } : Jvm.MethodName)) ∈ tb := tb_of (in_t1 (List.mem_of_getElem? (i := 222) rfl)) rfl
theorem tc_1_223 : (Jvm.Cond.code ({ cls := "ThinAir$Text", name := "begin", desc := "(I)V" } : Jvm.MethodName) prog_11_method_3_code (2 : Nat) (Option.none : Option Jvm.ClassFile.FieldType)) ∈ tb := tb_of (in_t1 (List.mem_of_getElem? (i := 223) rfl)) rfl
theorem tc_1_224 : (Jvm.Cond.methodLink "ThinAir$Text" (23 : Nat) ({ cls := "java/util/Arrays", name := "fill", desc := "([BB)V" } : Jvm.MethodName)) ∈ tb := tb_of (in_t1 (List.mem_of_getElem? (i := 224) rfl)) rfl
theorem tc_1_225 : (Jvm.Cond.static ({ cls := "java/util/Arrays", name := "fill", desc := "([BB)V" } : Jvm.MethodName)) ∈ tb := tb_of (in_t1 (List.mem_of_getElem? (i := 225) rfl)) rfl
theorem tc_1_226 : (Jvm.Cond.code ({ cls := "java/util/Arrays", name := "fill", desc := "([BB)V" } : Jvm.MethodName) prog_17_method_109_code (4 : Nat) (Option.none : Option Jvm.ClassFile.FieldType)) ∈ tb := tb_of (in_t1 (List.mem_of_getElem? (i := 226) rfl)) rfl
theorem tc_1_227 : (Jvm.Cond.methodLink "ThinAirLaw" (41 : Nat) ({ cls := "ThinAir", name := "put", desc := "(III)I" } : Jvm.MethodName)) ∈ tb := tb_of (in_t1 (List.mem_of_getElem? (i := 227) rfl)) rfl
theorem tc_1_228 : (Jvm.Cond.instanceMethod ({ cls := "ThinAir", name := "put", desc := "(III)I" } : Jvm.MethodName)) ∈ tb := tb_of (in_t1 (List.mem_of_getElem? (i := 228) rfl)) rfl
theorem tc_1_229 : (Jvm.Cond.selects "ThinAir" ({ cls := "ThinAir", name := "put", desc := "(III)I" } : Jvm.MethodName) ({ cls := "ThinAir", name := "put", desc := "(III)I" } : Jvm.MethodName)) ∈ tb := tb_of (in_t1 (List.mem_of_getElem? (i := 229) rfl)) rfl
theorem tc_1_230 : (Jvm.Cond.code ({ cls := "ThinAir", name := "put", desc := "(III)I" } : Jvm.MethodName) prog_1_method_8_code (6 : Nat) (Option.some Jvm.ClassFile.FieldType.int)) ∈ tb := tb_of (in_t1 (List.mem_of_getElem? (i := 230) rfl)) rfl
theorem tc_1_231 : (Jvm.Cond.methodLink "ThinAir" (108 : Nat) ({ cls := "ThinAir$Text", name := "isMissing", desc := "()Z" } : Jvm.MethodName)) ∈ tb := tb_of (in_t1 (List.mem_of_getElem? (i := 231) rfl)) rfl
theorem tc_1_232 : (Jvm.Cond.sameMethod "ThinAir$Text" "ThinAir$Strip" "isMissing" "()Z") ∈ tb := tb_of (in_t1 (List.mem_of_getElem? (i := 232) rfl)) rfl
theorem tc_1_233 : (Jvm.Cond.selects "ThinAir$Text" ({ cls := "ThinAir$Text", name := "isMissing", desc := "()Z" } : Jvm.MethodName) ({ cls := "ThinAir$Strip", name := "isMissing", desc := "()Z" } : Jvm.MethodName)) ∈ tb := tb_of (in_t1 (List.mem_of_getElem? (i := 233) rfl)) rfl
theorem tc_1_234 : (Jvm.Cond.methodLink "ThinAir" (109 : Nat) ({ cls := "ThinAir$Text", name := "has", desc := "(I)Z" } : Jvm.MethodName)) ∈ tb := tb_of (in_t1 (List.mem_of_getElem? (i := 234) rfl)) rfl
theorem tc_1_235 : (Jvm.Cond.sameMethod "ThinAir$Text" "ThinAir$Strip" "has" "(I)Z") ∈ tb := tb_of (in_t1 (List.mem_of_getElem? (i := 235) rfl)) rfl
theorem tc_1_236 : (Jvm.Cond.selects "ThinAir$Text" ({ cls := "ThinAir$Text", name := "has", desc := "(I)Z" } : Jvm.MethodName) ({ cls := "ThinAir$Strip", name := "has", desc := "(I)Z" } : Jvm.MethodName)) ∈ tb := tb_of (in_t1 (List.mem_of_getElem? (i := 236) rfl)) rfl
theorem tc_1_237 : (Jvm.Cond.methodLink "ThinAirLaw" (45 : Nat) ({ cls := "ThinAir", name := "later", desc := "(I)I" } : Jvm.MethodName)) ∈ tb := tb_of (in_t1 (List.mem_of_getElem? (i := 237) rfl)) rfl
theorem tc_1_238 : (Jvm.Cond.instanceMethod ({ cls := "ThinAir", name := "later", desc := "(I)I" } : Jvm.MethodName)) ∈ tb := tb_of (in_t1 (List.mem_of_getElem? (i := 238) rfl)) rfl
theorem tc_1_239 : (Jvm.Cond.selects "ThinAir" ({ cls := "ThinAir", name := "later", desc := "(I)I" } : Jvm.MethodName) ({ cls := "ThinAir", name := "later", desc := "(I)I" } : Jvm.MethodName)) ∈ tb := tb_of (in_t1 (List.mem_of_getElem? (i := 239) rfl)) rfl
theorem tc_2_0 : (Jvm.Cond.code ({ cls := "ThinAir", name := "later", desc := "(I)I" } : Jvm.MethodName) prog_1_method_9_code (2 : Nat) (Option.some Jvm.ClassFile.FieldType.int)) ∈ tb := tb_of (in_t2 (List.mem_of_getElem? (i := 0) rfl)) rfl
theorem tc_2_1 : (Jvm.Cond.methodLink "ThinAirLaw" (49 : Nat) ({ cls := "ThinAir", name := "place", desc := "(IIII)I" } : Jvm.MethodName)) ∈ tb := tb_of (in_t2 (List.mem_of_getElem? (i := 1) rfl)) rfl
theorem tc_2_2 : (Jvm.Cond.instanceMethod ({ cls := "ThinAir", name := "place", desc := "(IIII)I" } : Jvm.MethodName)) ∈ tb := tb_of (in_t2 (List.mem_of_getElem? (i := 2) rfl)) rfl
theorem tc_2_3 : (Jvm.Cond.selects "ThinAir" ({ cls := "ThinAir", name := "place", desc := "(IIII)I" } : Jvm.MethodName) ({ cls := "ThinAir", name := "place", desc := "(IIII)I" } : Jvm.MethodName)) ∈ tb := tb_of (in_t2 (List.mem_of_getElem? (i := 3) rfl)) rfl
theorem tc_2_4 : (Jvm.Cond.code ({ cls := "ThinAir", name := "place", desc := "(IIII)I" } : Jvm.MethodName) prog_1_method_10_code (5 : Nat) (Option.some Jvm.ClassFile.FieldType.int)) ∈ tb := tb_of (in_t2 (List.mem_of_getElem? (i := 4) rfl)) rfl
theorem tc_2_5 : (Jvm.Cond.instantiable "ThinAir$Place" (4 : Nat)) ∈ tb := tb_of (in_t2 (List.mem_of_getElem? (i := 5) rfl)) rfl
theorem tc_2_6 : (Jvm.Cond.methodLink "ThinAir" (124 : Nat) ({ cls := "ThinAir$Place", name := "<init>", desc := "(IIII)V" } : Jvm.MethodName)) ∈ tb := tb_of (in_t2 (List.mem_of_getElem? (i := 6) rfl)) rfl
theorem tc_2_7 : (Jvm.Cond.instanceMethod ({ cls := "ThinAir$Place", name := "<init>", desc := "(IIII)V" } : Jvm.MethodName)) ∈ tb := tb_of (in_t2 (List.mem_of_getElem? (i := 7) rfl)) rfl
theorem tc_2_8 : (Jvm.Cond.code ({ cls := "ThinAir$Place", name := "<init>", desc := "(IIII)V" } : Jvm.MethodName) prog_5_method_1_code (5 : Nat) (Option.none : Option Jvm.ClassFile.FieldType)) ∈ tb := tb_of (in_t2 (List.mem_of_getElem? (i := 8) rfl)) rfl
theorem tc_2_9 : (Jvm.Cond.methodLink "ThinAir$Place" (1 : Nat) ({ cls := "java/lang/Object", name := "<init>", desc := "()V" } : Jvm.MethodName)) ∈ tb := tb_of (in_t2 (List.mem_of_getElem? (i := 9) rfl)) rfl
theorem tc_2_10 : (Jvm.Cond.fieldLink "ThinAir$Place" (7 : Nat) "ThinAir$Place" "height" "I") ∈ tb := tb_of (in_t2 (List.mem_of_getElem? (i := 10) rfl)) rfl
theorem tc_2_11 : (Jvm.Cond.fieldLink "ThinAir$Mark" (43 : Nat) "ThinAir$Place" "height" "I") ∈ tb := tb_of (in_t2 (List.mem_of_getElem? (i := 11) rfl)) rfl
theorem tc_2_12 : (Jvm.Cond.fieldLink "ThinAir$Laws" (57 : Nat) "ThinAir$Place" "height" "I") ∈ tb := tb_of (in_t2 (List.mem_of_getElem? (i := 12) rfl)) rfl
theorem tc_2_13 : (Jvm.Cond.fieldLink "ThinAir$Rules" (89 : Nat) "ThinAir$Place" "height" "I") ∈ tb := tb_of (in_t2 (List.mem_of_getElem? (i := 13) rfl)) rfl
theorem tc_2_14 : (Jvm.Cond.fieldLink "ThinAir$Place" (13 : Nat) "ThinAir$Place" "heat" "I") ∈ tb := tb_of (in_t2 (List.mem_of_getElem? (i := 14) rfl)) rfl
theorem tc_2_15 : (Jvm.Cond.fieldLink "ThinAir$Mark" (48 : Nat) "ThinAir$Place" "heat" "I") ∈ tb := tb_of (in_t2 (List.mem_of_getElem? (i := 15) rfl)) rfl
theorem tc_2_16 : (Jvm.Cond.fieldLink "ThinAir$Laws" (62 : Nat) "ThinAir$Place" "heat" "I") ∈ tb := tb_of (in_t2 (List.mem_of_getElem? (i := 16) rfl)) rfl
theorem tc_2_17 : (Jvm.Cond.fieldLink "ThinAir$Place" (16 : Nat) "ThinAir$Place" "floor" "I") ∈ tb := tb_of (in_t2 (List.mem_of_getElem? (i := 17) rfl)) rfl
theorem tc_2_18 : (Jvm.Cond.fieldLink "ThinAir$Mark" (51 : Nat) "ThinAir$Place" "floor" "I") ∈ tb := tb_of (in_t2 (List.mem_of_getElem? (i := 18) rfl)) rfl
theorem tc_2_19 : (Jvm.Cond.fieldLink "ThinAir$Laws" (65 : Nat) "ThinAir$Place" "floor" "I") ∈ tb := tb_of (in_t2 (List.mem_of_getElem? (i := 19) rfl)) rfl
theorem tc_2_20 : (Jvm.Cond.fieldLink "ThinAir$Place" (19 : Nat) "ThinAir$Place" "land" "I") ∈ tb := tb_of (in_t2 (List.mem_of_getElem? (i := 20) rfl)) rfl
theorem tc_2_21 : (Jvm.Cond.fieldLink "ThinAir" (258 : Nat) "ThinAir$Place" "land" "I") ∈ tb := tb_of (in_t2 (List.mem_of_getElem? (i := 21) rfl)) rfl
theorem tc_2_22 : (Jvm.Cond.laysFinal "ThinAir$Place" "ThinAir$Place" "height" "I") ∈ tb := tb_of (in_t2 (List.mem_of_getElem? (i := 22) rfl)) rfl
theorem tc_2_24 : (Jvm.Cond.laysFinal "ThinAir$Place" "ThinAir$Place" "heat" "I") ∈ tb := tb_of (in_t2 (List.mem_of_getElem? (i := 24) rfl)) rfl
theorem tc_2_26 : (Jvm.Cond.laysFinal "ThinAir$Place" "ThinAir$Place" "floor" "I") ∈ tb := tb_of (in_t2 (List.mem_of_getElem? (i := 26) rfl)) rfl
theorem tc_2_28 : (Jvm.Cond.laysFinal "ThinAir$Place" "ThinAir$Place" "land" "I") ∈ tb := tb_of (in_t2 (List.mem_of_getElem? (i := 28) rfl)) rfl
theorem tc_2_31 : (Jvm.Cond.methodLink "ThinAirLaw" (54 : Nat) ({ cls := "ThinAir", name := "mark", desc := "(IIIII)I" } : Jvm.MethodName)) ∈ tb := tb_of (in_t2 (List.mem_of_getElem? (i := 31) rfl)) rfl
theorem tc_2_32 : (Jvm.Cond.instanceMethod ({ cls := "ThinAir", name := "mark", desc := "(IIIII)I" } : Jvm.MethodName)) ∈ tb := tb_of (in_t2 (List.mem_of_getElem? (i := 32) rfl)) rfl
theorem tc_2_33 : (Jvm.Cond.selects "ThinAir" ({ cls := "ThinAir", name := "mark", desc := "(IIIII)I" } : Jvm.MethodName) ({ cls := "ThinAir", name := "mark", desc := "(IIIII)I" } : Jvm.MethodName)) ∈ tb := tb_of (in_t2 (List.mem_of_getElem? (i := 33) rfl)) rfl
theorem tc_2_34 : (Jvm.Cond.code ({ cls := "ThinAir", name := "mark", desc := "(IIIII)I" } : Jvm.MethodName) prog_1_method_11_code (6 : Nat) (Option.some Jvm.ClassFile.FieldType.int)) ∈ tb := tb_of (in_t2 (List.mem_of_getElem? (i := 34) rfl)) rfl
theorem tc_2_35 : (Jvm.Cond.methodLink "ThinAir" (127 : Nat) ({ cls := "ThinAir", name := "placeAt", desc := "(I)LThinAir$Place;" } : Jvm.MethodName)) ∈ tb := tb_of (in_t2 (List.mem_of_getElem? (i := 35) rfl)) rfl
theorem tc_2_37 : (Jvm.Cond.instanceMethod ({ cls := "ThinAir", name := "placeAt", desc := "(I)LThinAir$Place;" } : Jvm.MethodName)) ∈ tb := tb_of (in_t2 (List.mem_of_getElem? (i := 37) rfl)) rfl
theorem tc_2_38 : (Jvm.Cond.code ({ cls := "ThinAir", name := "placeAt", desc := "(I)LThinAir$Place;" } : Jvm.MethodName) prog_1_method_48_code (2 : Nat) (Option.some (Jvm.ClassFile.FieldType.object "ThinAir$Place"))) ∈ tb := tb_of (in_t2 (List.mem_of_getElem? (i := 38) rfl)) rfl
theorem tc_2_39 : (Jvm.Cond.methodLink "ThinAir" (131 : Nat) ({ cls := "ThinAir", name := "canBeMark", desc := "(III)Z" } : Jvm.MethodName)) ∈ tb := tb_of (in_t2 (List.mem_of_getElem? (i := 39) rfl)) rfl
theorem tc_2_40 : (Jvm.Cond.static ({ cls := "ThinAir", name := "canBeMark", desc := "(III)Z" } : Jvm.MethodName)) ∈ tb := tb_of (in_t2 (List.mem_of_getElem? (i := 40) rfl)) rfl
theorem tc_2_41 : (Jvm.Cond.code ({ cls := "ThinAir", name := "canBeMark", desc := "(III)Z" } : Jvm.MethodName) prog_1_method_58_code (3 : Nat) (Option.some Jvm.ClassFile.FieldType.boolean)) ∈ tb := tb_of (in_t2 (List.mem_of_getElem? (i := 41) rfl)) rfl
theorem tc_2_42 : (Jvm.Cond.methodLink "ThinAir" (137 : Nat) ({ cls := "ThinAir", name := "addMark", desc := "(IIIII)I" } : Jvm.MethodName)) ∈ tb := tb_of (in_t2 (List.mem_of_getElem? (i := 42) rfl)) rfl
theorem tc_2_44 : (Jvm.Cond.instanceMethod ({ cls := "ThinAir", name := "addMark", desc := "(IIIII)I" } : Jvm.MethodName)) ∈ tb := tb_of (in_t2 (List.mem_of_getElem? (i := 44) rfl)) rfl
theorem tc_2_45 : (Jvm.Cond.code ({ cls := "ThinAir", name := "addMark", desc := "(IIIII)I" } : Jvm.MethodName) prog_1_method_59_code (7 : Nat) (Option.some Jvm.ClassFile.FieldType.int)) ∈ tb := tb_of (in_t2 (List.mem_of_getElem? (i := 45) rfl)) rfl
theorem tc_2_46 : (Jvm.Cond.instantiable "ThinAir$Mark" (10 : Nat)) ∈ tb := tb_of (in_t2 (List.mem_of_getElem? (i := 46) rfl)) rfl
theorem tc_2_47 : (Jvm.Cond.methodLink "ThinAir" (321 : Nat) ({ cls := "ThinAir$Mark", name := "<init>", desc := "(IILThinAir$Place;IIII)V" } : Jvm.MethodName)) ∈ tb := tb_of (in_t2 (List.mem_of_getElem? (i := 47) rfl)) rfl
theorem tc_2_48 : (Jvm.Cond.instanceMethod ({ cls := "ThinAir$Mark", name := "<init>", desc := "(IILThinAir$Place;IIII)V" } : Jvm.MethodName)) ∈ tb := tb_of (in_t2 (List.mem_of_getElem? (i := 48) rfl)) rfl
theorem tc_2_49 : (Jvm.Cond.code ({ cls := "ThinAir$Mark", name := "<init>", desc := "(IILThinAir$Place;IIII)V" } : Jvm.MethodName) prog_4_method_1_code (8 : Nat) (Option.none : Option Jvm.ClassFile.FieldType)) ∈ tb := tb_of (in_t2 (List.mem_of_getElem? (i := 49) rfl)) rfl
theorem tc_2_50 : (Jvm.Cond.methodLink "ThinAir$Mark" (3 : Nat) ({ cls := "java/lang/Object", name := "<init>", desc := "()V" } : Jvm.MethodName)) ∈ tb := tb_of (in_t2 (List.mem_of_getElem? (i := 50) rfl)) rfl
theorem tc_2_51 : (Jvm.Cond.fieldLink "ThinAir$Mark" (9 : Nat) "ThinAir$Mark" "person" "I") ∈ tb := tb_of (in_t2 (List.mem_of_getElem? (i := 51) rfl)) rfl
theorem tc_2_52 : (Jvm.Cond.fieldLink "ThinAir$Ranking" (31 : Nat) "ThinAir$Mark" "person" "I") ∈ tb := tb_of (in_t2 (List.mem_of_getElem? (i := 52) rfl)) rfl
theorem tc_2_53 : (Jvm.Cond.fieldLink "ThinAir" (324 : Nat) "ThinAir$Mark" "person" "I") ∈ tb := tb_of (in_t2 (List.mem_of_getElem? (i := 53) rfl)) rfl
theorem tc_2_54 : (Jvm.Cond.fieldLink "ThinAir$Mark" (15 : Nat) "ThinAir$Mark" "place" "I") ∈ tb := tb_of (in_t2 (List.mem_of_getElem? (i := 54) rfl)) rfl
theorem tc_2_55 : (Jvm.Cond.fieldLink "ThinAir" (350 : Nat) "ThinAir$Mark" "place" "I") ∈ tb := tb_of (in_t2 (List.mem_of_getElem? (i := 55) rfl)) rfl
theorem tc_2_56 : (Jvm.Cond.fieldLink "ThinAir$Mark" (18 : Nat) "ThinAir$Mark" "where" "LThinAir$Place;") ∈ tb := tb_of (in_t2 (List.mem_of_getElem? (i := 56) rfl)) rfl
theorem tc_2_57 : (Jvm.Cond.fieldLink "ThinAir$Laws" (43 : Nat) "ThinAir$Mark" "where" "LThinAir$Place;") ∈ tb := tb_of (in_t2 (List.mem_of_getElem? (i := 57) rfl)) rfl
theorem tc_2_58 : (Jvm.Cond.fieldLink "ThinAir$Rules" (85 : Nat) "ThinAir$Mark" "where" "LThinAir$Place;") ∈ tb := tb_of (in_t2 (List.mem_of_getElem? (i := 58) rfl)) rfl
theorem tc_2_59 : (Jvm.Cond.fieldLink "ThinAir" (254 : Nat) "ThinAir$Mark" "where" "LThinAir$Place;") ∈ tb := tb_of (in_t2 (List.mem_of_getElem? (i := 59) rfl)) rfl
theorem tc_2_60 : (Jvm.Cond.fieldLink "ThinAir$Mark" (22 : Nat) "ThinAir$Mark" "day" "I") ∈ tb := tb_of (in_t2 (List.mem_of_getElem? (i := 60) rfl)) rfl
theorem tc_2_61 : (Jvm.Cond.fieldLink "ThinAir$Rules" (94 : Nat) "ThinAir$Mark" "day" "I") ∈ tb := tb_of (in_t2 (List.mem_of_getElem? (i := 61) rfl)) rfl
theorem tc_2_62 : (Jvm.Cond.fieldLink "ThinAir" (261 : Nat) "ThinAir$Mark" "day" "I") ∈ tb := tb_of (in_t2 (List.mem_of_getElem? (i := 62) rfl)) rfl
theorem tc_2_63 : (Jvm.Cond.fieldLink "ThinAir$Mark" (25 : Nat) "ThinAir$Mark" "value" "I") ∈ tb := tb_of (in_t2 (List.mem_of_getElem? (i := 63) rfl)) rfl
theorem tc_2_64 : (Jvm.Cond.fieldLink "ThinAir$Laws" (71 : Nat) "ThinAir$Mark" "value" "I") ∈ tb := tb_of (in_t2 (List.mem_of_getElem? (i := 64) rfl)) rfl
theorem tc_2_65 : (Jvm.Cond.fieldLink "ThinAir" (213 : Nat) "ThinAir$Mark" "value" "I") ∈ tb := tb_of (in_t2 (List.mem_of_getElem? (i := 65) rfl)) rfl
theorem tc_2_66 : (Jvm.Cond.fieldLink "ThinAir$Mark" (28 : Nat) "ThinAir$Mark" "wind" "I") ∈ tb := tb_of (in_t2 (List.mem_of_getElem? (i := 66) rfl)) rfl
theorem tc_2_67 : (Jvm.Cond.fieldLink "ThinAir$Laws" (49 : Nat) "ThinAir$Mark" "wind" "I") ∈ tb := tb_of (in_t2 (List.mem_of_getElem? (i := 67) rfl)) rfl
theorem tc_2_68 : (Jvm.Cond.fieldLink "ThinAir$Rules" (80 : Nat) "ThinAir$Mark" "wind" "I") ∈ tb := tb_of (in_t2 (List.mem_of_getElem? (i := 68) rfl)) rfl
theorem tc_2_69 : (Jvm.Cond.fieldLink "ThinAir" (225 : Nat) "ThinAir$Mark" "wind" "I") ∈ tb := tb_of (in_t2 (List.mem_of_getElem? (i := 69) rfl)) rfl
theorem tc_2_70 : (Jvm.Cond.fieldLink "ThinAir$Mark" (31 : Nat) "ThinAir$Mark" "shoe" "I") ∈ tb := tb_of (in_t2 (List.mem_of_getElem? (i := 70) rfl)) rfl
theorem tc_2_71 : (Jvm.Cond.fieldLink "ThinAir$Laws" (68 : Nat) "ThinAir$Mark" "shoe" "I") ∈ tb := tb_of (in_t2 (List.mem_of_getElem? (i := 71) rfl)) rfl
theorem tc_2_72 : (Jvm.Cond.fieldLink "ThinAir$Rules" (97 : Nat) "ThinAir$Mark" "shoe" "I") ∈ tb := tb_of (in_t2 (List.mem_of_getElem? (i := 72) rfl)) rfl
theorem tc_2_73 : (Jvm.Cond.fieldLink "ThinAir$Mark" (34 : Nat) "ThinAir$Mark" "kind" "I") ∈ tb := tb_of (in_t2 (List.mem_of_getElem? (i := 73) rfl)) rfl
theorem tc_2_74 : (Jvm.Cond.fieldLink "ThinAir$Rules" (100 : Nat) "ThinAir$Mark" "kind" "I") ∈ tb := tb_of (in_t2 (List.mem_of_getElem? (i := 74) rfl)) rfl
theorem tc_2_75 : (Jvm.Cond.fieldLink "ThinAir" (149 : Nat) "ThinAir$Mark" "kind" "I") ∈ tb := tb_of (in_t2 (List.mem_of_getElem? (i := 75) rfl)) rfl
theorem tc_2_76 : (Jvm.Cond.fieldLink "ThinAir$Mark" (37 : Nat) "ThinAir$Mark" "much" "I") ∈ tb := tb_of (in_t2 (List.mem_of_getElem? (i := 76) rfl)) rfl
theorem tc_2_77 : (Jvm.Cond.fieldLink "ThinAir$Laws" (78 : Nat) "ThinAir$Mark" "much" "I") ∈ tb := tb_of (in_t2 (List.mem_of_getElem? (i := 77) rfl)) rfl
theorem tc_2_78 : (Jvm.Cond.fieldLink "ThinAir" (165 : Nat) "ThinAir$Mark" "much" "I") ∈ tb := tb_of (in_t2 (List.mem_of_getElem? (i := 78) rfl)) rfl
theorem tc_2_79 : (Jvm.Cond.fieldLink "ThinAir$Mark" (40 : Nat) "ThinAir$Mark" "ownTale" "I") ∈ tb := tb_of (in_t2 (List.mem_of_getElem? (i := 79) rfl)) rfl
theorem tc_2_80 : (Jvm.Cond.fieldLink "ThinAir" (159 : Nat) "ThinAir$Mark" "ownTale" "I") ∈ tb := tb_of (in_t2 (List.mem_of_getElem? (i := 80) rfl)) rfl
theorem tc_2_81 : (Jvm.Cond.laysFinal "ThinAir$Mark" "ThinAir$Mark" "person" "I") ∈ tb := tb_of (in_t2 (List.mem_of_getElem? (i := 81) rfl)) rfl
theorem tc_2_83 : (Jvm.Cond.laysFinal "ThinAir$Mark" "ThinAir$Mark" "place" "I") ∈ tb := tb_of (in_t2 (List.mem_of_getElem? (i := 83) rfl)) rfl
theorem tc_2_85 : (Jvm.Cond.laysFinal "ThinAir$Mark" "ThinAir$Mark" "where" "LThinAir$Place;") ∈ tb := tb_of (in_t2 (List.mem_of_getElem? (i := 85) rfl)) rfl
theorem tc_2_87 : (Jvm.Cond.laysFinal "ThinAir$Mark" "ThinAir$Mark" "day" "I") ∈ tb := tb_of (in_t2 (List.mem_of_getElem? (i := 87) rfl)) rfl
theorem tc_2_89 : (Jvm.Cond.laysFinal "ThinAir$Mark" "ThinAir$Mark" "value" "I") ∈ tb := tb_of (in_t2 (List.mem_of_getElem? (i := 89) rfl)) rfl
theorem tc_2_91 : (Jvm.Cond.laysFinal "ThinAir$Mark" "ThinAir$Mark" "wind" "I") ∈ tb := tb_of (in_t2 (List.mem_of_getElem? (i := 91) rfl)) rfl
theorem tc_2_93 : (Jvm.Cond.laysFinal "ThinAir$Mark" "ThinAir$Mark" "shoe" "I") ∈ tb := tb_of (in_t2 (List.mem_of_getElem? (i := 93) rfl)) rfl
theorem tc_2_95 : (Jvm.Cond.lays "ThinAir$Mark" "ThinAir$Mark" "kind" "I") ∈ tb := tb_of (in_t2 (List.mem_of_getElem? (i := 95) rfl)) rfl
theorem tc_2_97 : (Jvm.Cond.lays "ThinAir$Mark" "ThinAir$Mark" "much" "I") ∈ tb := tb_of (in_t2 (List.mem_of_getElem? (i := 97) rfl)) rfl
theorem tc_2_99 : (Jvm.Cond.lays "ThinAir$Mark" "ThinAir$Mark" "ownTale" "I") ∈ tb := tb_of (in_t2 (List.mem_of_getElem? (i := 99) rfl)) rfl
theorem tc_2_102 : (Jvm.Cond.methodLink "ThinAirLaw" (58 : Nat) ({ cls := "ThinAir", name := "marks", desc := "(III)I" } : Jvm.MethodName)) ∈ tb := tb_of (in_t2 (List.mem_of_getElem? (i := 102) rfl)) rfl
theorem tc_2_103 : (Jvm.Cond.instanceMethod ({ cls := "ThinAir", name := "marks", desc := "(III)I" } : Jvm.MethodName)) ∈ tb := tb_of (in_t2 (List.mem_of_getElem? (i := 103) rfl)) rfl
theorem tc_2_104 : (Jvm.Cond.selects "ThinAir" ({ cls := "ThinAir", name := "marks", desc := "(III)I" } : Jvm.MethodName) ({ cls := "ThinAir", name := "marks", desc := "(III)I" } : Jvm.MethodName)) ∈ tb := tb_of (in_t2 (List.mem_of_getElem? (i := 104) rfl)) rfl
theorem tc_2_105 : (Jvm.Cond.code ({ cls := "ThinAir", name := "marks", desc := "(III)I" } : Jvm.MethodName) prog_1_method_12_code (6 : Nat) (Option.some Jvm.ClassFile.FieldType.int)) ∈ tb := tb_of (in_t2 (List.mem_of_getElem? (i := 105) rfl)) rfl
theorem tc_2_106 : (Jvm.Cond.methodLink "ThinAirLaw" (62 : Nat) ({ cls := "ThinAir", name := "help", desc := "(III)I" } : Jvm.MethodName)) ∈ tb := tb_of (in_t2 (List.mem_of_getElem? (i := 106) rfl)) rfl
theorem tc_2_107 : (Jvm.Cond.instanceMethod ({ cls := "ThinAir", name := "help", desc := "(III)I" } : Jvm.MethodName)) ∈ tb := tb_of (in_t2 (List.mem_of_getElem? (i := 107) rfl)) rfl
theorem tc_2_108 : (Jvm.Cond.selects "ThinAir" ({ cls := "ThinAir", name := "help", desc := "(III)I" } : Jvm.MethodName) ({ cls := "ThinAir", name := "help", desc := "(III)I" } : Jvm.MethodName)) ∈ tb := tb_of (in_t2 (List.mem_of_getElem? (i := 108) rfl)) rfl
theorem tc_2_109 : (Jvm.Cond.code ({ cls := "ThinAir", name := "help", desc := "(III)I" } : Jvm.MethodName) prog_1_method_13_code (4 : Nat) (Option.some Jvm.ClassFile.FieldType.int)) ∈ tb := tb_of (in_t2 (List.mem_of_getElem? (i := 109) rfl)) rfl
theorem tc_2_110 : (Jvm.Cond.methodLink "ThinAir" (141 : Nat) ({ cls := "ThinAir", name := "becomes", desc := "(IIII)I" } : Jvm.MethodName)) ∈ tb := tb_of (in_t2 (List.mem_of_getElem? (i := 110) rfl)) rfl
theorem tc_2_112 : (Jvm.Cond.instanceMethod ({ cls := "ThinAir", name := "becomes", desc := "(IIII)I" } : Jvm.MethodName)) ∈ tb := tb_of (in_t2 (List.mem_of_getElem? (i := 112) rfl)) rfl
theorem tc_2_113 : (Jvm.Cond.code ({ cls := "ThinAir", name := "becomes", desc := "(IIII)I" } : Jvm.MethodName) prog_1_method_60_code (6 : Nat) (Option.some Jvm.ClassFile.FieldType.int)) ∈ tb := tb_of (in_t2 (List.mem_of_getElem? (i := 113) rfl)) rfl
theorem tc_2_114 : (Jvm.Cond.methodLink "ThinAir" (145 : Nat) ({ cls := "ThinAir", name := "markAt", desc := "(I)LThinAir$Mark;" } : Jvm.MethodName)) ∈ tb := tb_of (in_t2 (List.mem_of_getElem? (i := 114) rfl)) rfl
theorem tc_2_116 : (Jvm.Cond.instanceMethod ({ cls := "ThinAir", name := "markAt", desc := "(I)LThinAir$Mark;" } : Jvm.MethodName)) ∈ tb := tb_of (in_t2 (List.mem_of_getElem? (i := 116) rfl)) rfl
theorem tc_2_117 : (Jvm.Cond.code ({ cls := "ThinAir", name := "markAt", desc := "(I)LThinAir$Mark;" } : Jvm.MethodName) prog_1_method_49_code (2 : Nat) (Option.some (Jvm.ClassFile.FieldType.object "ThinAir$Mark"))) ∈ tb := tb_of (in_t2 (List.mem_of_getElem? (i := 117) rfl)) rfl
theorem tc_2_118 : (Jvm.Cond.methodLink "ThinAir" (152 : Nat) ({ cls := "ThinAir$Mark", name := "turnInto", desc := "(III)V" } : Jvm.MethodName)) ∈ tb := tb_of (in_t2 (List.mem_of_getElem? (i := 118) rfl)) rfl
theorem tc_2_119 : (Jvm.Cond.instanceMethod ({ cls := "ThinAir$Mark", name := "turnInto", desc := "(III)V" } : Jvm.MethodName)) ∈ tb := tb_of (in_t2 (List.mem_of_getElem? (i := 119) rfl)) rfl
theorem tc_2_120 : (Jvm.Cond.selects "ThinAir$Mark" ({ cls := "ThinAir$Mark", name := "turnInto", desc := "(III)V" } : Jvm.MethodName) ({ cls := "ThinAir$Mark", name := "turnInto", desc := "(III)V" } : Jvm.MethodName)) ∈ tb := tb_of (in_t2 (List.mem_of_getElem? (i := 120) rfl)) rfl
theorem tc_2_121 : (Jvm.Cond.code ({ cls := "ThinAir$Mark", name := "turnInto", desc := "(III)V" } : Jvm.MethodName) prog_4_method_2_code (4 : Nat) (Option.none : Option Jvm.ClassFile.FieldType)) ∈ tb := tb_of (in_t2 (List.mem_of_getElem? (i := 121) rfl)) rfl
theorem tc_2_122 : (Jvm.Cond.methodLink "ThinAirLaw" (66 : Nat) ({ cls := "ThinAir", name := "paper", desc := "(II)I" } : Jvm.MethodName)) ∈ tb := tb_of (in_t2 (List.mem_of_getElem? (i := 122) rfl)) rfl
theorem tc_2_123 : (Jvm.Cond.instanceMethod ({ cls := "ThinAir", name := "paper", desc := "(II)I" } : Jvm.MethodName)) ∈ tb := tb_of (in_t2 (List.mem_of_getElem? (i := 123) rfl)) rfl
theorem tc_2_124 : (Jvm.Cond.selects "ThinAir" ({ cls := "ThinAir", name := "paper", desc := "(II)I" } : Jvm.MethodName) ({ cls := "ThinAir", name := "paper", desc := "(II)I" } : Jvm.MethodName)) ∈ tb := tb_of (in_t2 (List.mem_of_getElem? (i := 124) rfl)) rfl
theorem tc_2_125 : (Jvm.Cond.code ({ cls := "ThinAir", name := "paper", desc := "(II)I" } : Jvm.MethodName) prog_1_method_14_code (3 : Nat) (Option.some Jvm.ClassFile.FieldType.int)) ∈ tb := tb_of (in_t2 (List.mem_of_getElem? (i := 125) rfl)) rfl
theorem tc_2_126 : (Jvm.Cond.methodLink "ThinAirLaw" (70 : Nat) ({ cls := "ThinAir", name := "cut", desc := "(II)I" } : Jvm.MethodName)) ∈ tb := tb_of (in_t2 (List.mem_of_getElem? (i := 126) rfl)) rfl
theorem tc_2_127 : (Jvm.Cond.instanceMethod ({ cls := "ThinAir", name := "cut", desc := "(II)I" } : Jvm.MethodName)) ∈ tb := tb_of (in_t2 (List.mem_of_getElem? (i := 127) rfl)) rfl
theorem tc_2_128 : (Jvm.Cond.selects "ThinAir" ({ cls := "ThinAir", name := "cut", desc := "(II)I" } : Jvm.MethodName) ({ cls := "ThinAir", name := "cut", desc := "(II)I" } : Jvm.MethodName)) ∈ tb := tb_of (in_t2 (List.mem_of_getElem? (i := 128) rfl)) rfl
theorem tc_2_129 : (Jvm.Cond.code ({ cls := "ThinAir", name := "cut", desc := "(II)I" } : Jvm.MethodName) prog_1_method_15_code (3 : Nat) (Option.some Jvm.ClassFile.FieldType.int)) ∈ tb := tb_of (in_t2 (List.mem_of_getElem? (i := 129) rfl)) rfl
theorem tc_2_130 : (Jvm.Cond.methodLink "ThinAirLaw" (74 : Nat) ({ cls := "ThinAir", name := "strike", desc := "(II)I" } : Jvm.MethodName)) ∈ tb := tb_of (in_t2 (List.mem_of_getElem? (i := 130) rfl)) rfl
theorem tc_2_131 : (Jvm.Cond.instanceMethod ({ cls := "ThinAir", name := "strike", desc := "(II)I" } : Jvm.MethodName)) ∈ tb := tb_of (in_t2 (List.mem_of_getElem? (i := 131) rfl)) rfl
theorem tc_2_132 : (Jvm.Cond.selects "ThinAir" ({ cls := "ThinAir", name := "strike", desc := "(II)I" } : Jvm.MethodName) ({ cls := "ThinAir", name := "strike", desc := "(II)I" } : Jvm.MethodName)) ∈ tb := tb_of (in_t2 (List.mem_of_getElem? (i := 132) rfl)) rfl
theorem tc_2_133 : (Jvm.Cond.code ({ cls := "ThinAir", name := "strike", desc := "(II)I" } : Jvm.MethodName) prog_1_method_16_code (5 : Nat) (Option.some Jvm.ClassFile.FieldType.int)) ∈ tb := tb_of (in_t2 (List.mem_of_getElem? (i := 133) rfl)) rfl
theorem tc_2_134 : (Jvm.Cond.methodLink "ThinAirLaw" (78 : Nat) ({ cls := "ThinAir", name := "told", desc := "(II)I" } : Jvm.MethodName)) ∈ tb := tb_of (in_t2 (List.mem_of_getElem? (i := 134) rfl)) rfl
theorem tc_2_135 : (Jvm.Cond.instanceMethod ({ cls := "ThinAir", name := "told", desc := "(II)I" } : Jvm.MethodName)) ∈ tb := tb_of (in_t2 (List.mem_of_getElem? (i := 135) rfl)) rfl
theorem tc_2_136 : (Jvm.Cond.selects "ThinAir" ({ cls := "ThinAir", name := "told", desc := "(II)I" } : Jvm.MethodName) ({ cls := "ThinAir", name := "told", desc := "(II)I" } : Jvm.MethodName)) ∈ tb := tb_of (in_t2 (List.mem_of_getElem? (i := 136) rfl)) rfl
theorem tc_2_137 : (Jvm.Cond.code ({ cls := "ThinAir", name := "told", desc := "(II)I" } : Jvm.MethodName) prog_1_method_17_code (4 : Nat) (Option.some Jvm.ClassFile.FieldType.int)) ∈ tb := tb_of (in_t2 (List.mem_of_getElem? (i := 137) rfl)) rfl
theorem tc_2_138 : (Jvm.Cond.methodLink "ThinAir" (156 : Nat) ({ cls := "ThinAir$Mark", name := "part", desc := "(I)I" } : Jvm.MethodName)) ∈ tb := tb_of (in_t2 (List.mem_of_getElem? (i := 138) rfl)) rfl
theorem tc_2_139 : (Jvm.Cond.instanceMethod ({ cls := "ThinAir$Mark", name := "part", desc := "(I)I" } : Jvm.MethodName)) ∈ tb := tb_of (in_t2 (List.mem_of_getElem? (i := 139) rfl)) rfl
theorem tc_2_140 : (Jvm.Cond.selects "ThinAir$Mark" ({ cls := "ThinAir$Mark", name := "part", desc := "(I)I" } : Jvm.MethodName) ({ cls := "ThinAir$Mark", name := "part", desc := "(I)I" } : Jvm.MethodName)) ∈ tb := tb_of (in_t2 (List.mem_of_getElem? (i := 140) rfl)) rfl
theorem tc_2_141 : (Jvm.Cond.code ({ cls := "ThinAir$Mark", name := "part", desc := "(I)I" } : Jvm.MethodName) prog_4_method_4_code (2 : Nat) (Option.some Jvm.ClassFile.FieldType.int)) ∈ tb := tb_of (in_t2 (List.mem_of_getElem? (i := 141) rfl)) rfl
theorem tc_2_142 : (Jvm.Cond.methodLink "ThinAirLaw" (82 : Nat) ({ cls := "ThinAir", name := "tells", desc := "(II)I" } : Jvm.MethodName)) ∈ tb := tb_of (in_t2 (List.mem_of_getElem? (i := 142) rfl)) rfl
theorem tc_2_143 : (Jvm.Cond.instanceMethod ({ cls := "ThinAir", name := "tells", desc := "(II)I" } : Jvm.MethodName)) ∈ tb := tb_of (in_t2 (List.mem_of_getElem? (i := 143) rfl)) rfl
theorem tc_2_144 : (Jvm.Cond.selects "ThinAir" ({ cls := "ThinAir", name := "tells", desc := "(II)I" } : Jvm.MethodName) ({ cls := "ThinAir", name := "tells", desc := "(II)I" } : Jvm.MethodName)) ∈ tb := tb_of (in_t2 (List.mem_of_getElem? (i := 144) rfl)) rfl
theorem tc_2_145 : (Jvm.Cond.code ({ cls := "ThinAir", name := "tells", desc := "(II)I" } : Jvm.MethodName) prog_1_method_18_code (4 : Nat) (Option.some Jvm.ClassFile.FieldType.int)) ∈ tb := tb_of (in_t2 (List.mem_of_getElem? (i := 145) rfl)) rfl
theorem tc_2_146 : (Jvm.Cond.methodLink "ThinAir" (162 : Nat) ({ cls := "ThinAir$Mark", name := "isHelped", desc := "()Z" } : Jvm.MethodName)) ∈ tb := tb_of (in_t2 (List.mem_of_getElem? (i := 146) rfl)) rfl
theorem tc_2_147 : (Jvm.Cond.instanceMethod ({ cls := "ThinAir$Mark", name := "isHelped", desc := "()Z" } : Jvm.MethodName)) ∈ tb := tb_of (in_t2 (List.mem_of_getElem? (i := 147) rfl)) rfl
theorem tc_2_148 : (Jvm.Cond.selects "ThinAir$Mark" ({ cls := "ThinAir$Mark", name := "isHelped", desc := "()Z" } : Jvm.MethodName) ({ cls := "ThinAir$Mark", name := "isHelped", desc := "()Z" } : Jvm.MethodName)) ∈ tb := tb_of (in_t2 (List.mem_of_getElem? (i := 148) rfl)) rfl
theorem tc_2_149 : (Jvm.Cond.code ({ cls := "ThinAir$Mark", name := "isHelped", desc := "()Z" } : Jvm.MethodName) prog_4_method_3_code (1 : Nat) (Option.some Jvm.ClassFile.FieldType.boolean)) ∈ tb := tb_of (in_t2 (List.mem_of_getElem? (i := 149) rfl)) rfl
theorem tc_2_150 : (Jvm.Cond.methodLink "ThinAirLaw" (86 : Nat) ({ cls := "ThinAir", name := "about", desc := "(II)I" } : Jvm.MethodName)) ∈ tb := tb_of (in_t2 (List.mem_of_getElem? (i := 150) rfl)) rfl
theorem tc_2_151 : (Jvm.Cond.instanceMethod ({ cls := "ThinAir", name := "about", desc := "(II)I" } : Jvm.MethodName)) ∈ tb := tb_of (in_t2 (List.mem_of_getElem? (i := 151) rfl)) rfl
theorem tc_2_152 : (Jvm.Cond.selects "ThinAir" ({ cls := "ThinAir", name := "about", desc := "(II)I" } : Jvm.MethodName) ({ cls := "ThinAir", name := "about", desc := "(II)I" } : Jvm.MethodName)) ∈ tb := tb_of (in_t2 (List.mem_of_getElem? (i := 152) rfl)) rfl
theorem tc_2_153 : (Jvm.Cond.code ({ cls := "ThinAir", name := "about", desc := "(II)I" } : Jvm.MethodName) prog_1_method_19_code (4 : Nat) (Option.some Jvm.ClassFile.FieldType.int)) ∈ tb := tb_of (in_t2 (List.mem_of_getElem? (i := 153) rfl)) rfl
theorem tc_2_154 : (Jvm.Cond.methodLink "ThinAir" (168 : Nat) ({ cls := "ThinAir$Place", name := "part", desc := "(I)I" } : Jvm.MethodName)) ∈ tb := tb_of (in_t2 (List.mem_of_getElem? (i := 154) rfl)) rfl
theorem tc_2_155 : (Jvm.Cond.instanceMethod ({ cls := "ThinAir$Place", name := "part", desc := "(I)I" } : Jvm.MethodName)) ∈ tb := tb_of (in_t2 (List.mem_of_getElem? (i := 155) rfl)) rfl
theorem tc_2_156 : (Jvm.Cond.selects "ThinAir$Place" ({ cls := "ThinAir$Place", name := "part", desc := "(I)I" } : Jvm.MethodName) ({ cls := "ThinAir$Place", name := "part", desc := "(I)I" } : Jvm.MethodName)) ∈ tb := tb_of (in_t2 (List.mem_of_getElem? (i := 156) rfl)) rfl
theorem tc_2_157 : (Jvm.Cond.code ({ cls := "ThinAir$Place", name := "part", desc := "(I)I" } : Jvm.MethodName) prog_5_method_2_code (2 : Nat) (Option.some Jvm.ClassFile.FieldType.int)) ∈ tb := tb_of (in_t2 (List.mem_of_getElem? (i := 157) rfl)) rfl
theorem tc_2_158 : (Jvm.Cond.methodLink "ThinAirLaw" (90 : Nat) ({ cls := "ThinAir", name := "fault", desc := "(IZ)I" } : Jvm.MethodName)) ∈ tb := tb_of (in_t2 (List.mem_of_getElem? (i := 158) rfl)) rfl
theorem tc_2_159 : (Jvm.Cond.instanceMethod ({ cls := "ThinAir", name := "fault", desc := "(IZ)I" } : Jvm.MethodName)) ∈ tb := tb_of (in_t2 (List.mem_of_getElem? (i := 159) rfl)) rfl
theorem tc_2_160 : (Jvm.Cond.selects "ThinAir" ({ cls := "ThinAir", name := "fault", desc := "(IZ)I" } : Jvm.MethodName) ({ cls := "ThinAir", name := "fault", desc := "(IZ)I" } : Jvm.MethodName)) ∈ tb := tb_of (in_t2 (List.mem_of_getElem? (i := 160) rfl)) rfl
theorem tc_2_161 : (Jvm.Cond.code ({ cls := "ThinAir", name := "fault", desc := "(IZ)I" } : Jvm.MethodName) prog_1_method_20_code (6 : Nat) (Option.some Jvm.ClassFile.FieldType.int)) ∈ tb := tb_of (in_t2 (List.mem_of_getElem? (i := 161) rfl)) rfl
theorem tc_2_162 : (Jvm.Cond.classLink "ThinAir" (169 : Nat) "ThinAir$Reader") ∈ tb := tb_of (in_t2 (List.mem_of_getElem? (i := 162) rfl)) rfl
theorem tc_2_163 : (Jvm.Cond.instantiable "ThinAir$Reader" (3 : Nat)) ∈ tb := tb_of (in_t2 (List.mem_of_getElem? (i := 163) rfl)) rfl
theorem tc_2_164 : (Jvm.Cond.methodLink "ThinAir" (171 : Nat) ({ cls := "ThinAir$Reader", name := "<init>", desc := "(LThinAir$Text;)V" } : Jvm.MethodName)) ∈ tb := tb_of (in_t2 (List.mem_of_getElem? (i := 164) rfl)) rfl
theorem tc_2_165 : (Jvm.Cond.instanceMethod ({ cls := "ThinAir$Reader", name := "<init>", desc := "(LThinAir$Text;)V" } : Jvm.MethodName)) ∈ tb := tb_of (in_t2 (List.mem_of_getElem? (i := 165) rfl)) rfl
theorem tc_2_166 : (Jvm.Cond.code ({ cls := "ThinAir$Reader", name := "<init>", desc := "(LThinAir$Text;)V" } : Jvm.MethodName) prog_7_method_1_code (2 : Nat) (Option.none : Option Jvm.ClassFile.FieldType)) ∈ tb := tb_of (in_t2 (List.mem_of_getElem? (i := 166) rfl)) rfl
theorem tc_2_167 : (Jvm.Cond.methodLink "ThinAir$Reader" (3 : Nat) ({ cls := "java/lang/Object", name := "<init>", desc := "()V" } : Jvm.MethodName)) ∈ tb := tb_of (in_t2 (List.mem_of_getElem? (i := 167) rfl)) rfl
theorem tc_2_168 : (Jvm.Cond.fieldLink "ThinAir$Reader" (15 : Nat) "ThinAir$Reader" "signs" "[B") ∈ tb := tb_of (in_t2 (List.mem_of_getElem? (i := 168) rfl)) rfl
theorem tc_2_169 : (Jvm.Cond.fieldLink "ThinAir$Reader" (22 : Nat) "ThinAir$Reader" "size" "I") ∈ tb := tb_of (in_t2 (List.mem_of_getElem? (i := 169) rfl)) rfl
theorem tc_2_170 : (Jvm.Cond.fieldLink "ThinAir$Reader" (23 : Nat) "ThinAir$Reader" "at" "I") ∈ tb := tb_of (in_t2 (List.mem_of_getElem? (i := 170) rfl)) rfl
theorem tc_2_171 : (Jvm.Cond.fieldLink "ThinAir" (183 : Nat) "ThinAir$Reader" "at" "I") ∈ tb := tb_of (in_t2 (List.mem_of_getElem? (i := 171) rfl)) rfl
theorem tc_2_172 : (Jvm.Cond.laysFinal "ThinAir$Reader" "ThinAir$Reader" "signs" "[B") ∈ tb := tb_of (in_t2 (List.mem_of_getElem? (i := 172) rfl)) rfl
theorem tc_2_174 : (Jvm.Cond.laysFinal "ThinAir$Reader" "ThinAir$Reader" "size" "I") ∈ tb := tb_of (in_t2 (List.mem_of_getElem? (i := 174) rfl)) rfl
theorem tc_2_176 : (Jvm.Cond.lays "ThinAir$Reader" "ThinAir$Reader" "at" "I") ∈ tb := tb_of (in_t2 (List.mem_of_getElem? (i := 176) rfl)) rfl
theorem tc_2_179 : (Jvm.Cond.classLink "ThinAir" (174 : Nat) "ThinAir$Rules") ∈ tb := tb_of (in_t2 (List.mem_of_getElem? (i := 179) rfl)) rfl
theorem tc_2_180 : (Jvm.Cond.instantiable "ThinAir$Rules" (9 : Nat)) ∈ tb := tb_of (in_t2 (List.mem_of_getElem? (i := 180) rfl)) rfl
theorem tc_2_182 : (Jvm.Cond.instanceMethod ({ cls := "ThinAir$Rules", name := "<init>", desc := "()V" } : Jvm.MethodName)) ∈ tb := tb_of (in_t2 (List.mem_of_getElem? (i := 182) rfl)) rfl
theorem tc_2_183 : (Jvm.Cond.code ({ cls := "ThinAir$Rules", name := "<init>", desc := "()V" } : Jvm.MethodName) prog_9_method_1_code (1 : Nat) (Option.none : Option Jvm.ClassFile.FieldType)) ∈ tb := tb_of (in_t2 (List.mem_of_getElem? (i := 183) rfl)) rfl
theorem tc_2_185 : (Jvm.Cond.instanceMethod ({ cls := "ThinAir$Items", name := "<init>", desc := "()V" } : Jvm.MethodName)) ∈ tb := tb_of (in_t2 (List.mem_of_getElem? (i := 185) rfl)) rfl
theorem tc_2_186 : (Jvm.Cond.code ({ cls := "ThinAir$Items", name := "<init>", desc := "()V" } : Jvm.MethodName) prog_2_method_1_code (1 : Nat) (Option.none : Option Jvm.ClassFile.FieldType)) ∈ tb := tb_of (in_t2 (List.mem_of_getElem? (i := 186) rfl)) rfl
theorem tc_2_187 : (Jvm.Cond.methodLink "ThinAir$Items" (3 : Nat) ({ cls := "java/lang/Object", name := "<init>", desc := "()V" } : Jvm.MethodName)) ∈ tb := tb_of (in_t2 (List.mem_of_getElem? (i := 187) rfl)) rfl
theorem tc_2_188 : (Jvm.Cond.fieldLink "ThinAir$Rules" (45 : Nat) "ThinAir$Rules" "windGauged" "Z") ∈ tb := tb_of (in_t2 (List.mem_of_getElem? (i := 188) rfl)) rfl
theorem tc_2_189 : (Jvm.Cond.fieldLink "ThinAir$Rules" (9 : Nat) "ThinAir$Rules" "mostWind" "I") ∈ tb := tb_of (in_t2 (List.mem_of_getElem? (i := 189) rfl)) rfl
theorem tc_2_190 : (Jvm.Cond.fieldLink "ThinAir$Rules" (15 : Nat) "ThinAir$Rules" "mostHeight" "I") ∈ tb := tb_of (in_t2 (List.mem_of_getElem? (i := 190) rfl)) rfl
theorem tc_2_191 : (Jvm.Cond.fieldLink "ThinAir$Rules" (65 : Nat) "ThinAir$Rules" "shoesOut" "I") ∈ tb := tb_of (in_t2 (List.mem_of_getElem? (i := 191) rfl)) rfl
theorem tc_2_192 : (Jvm.Cond.fieldLink "ThinAir$Rules" (55 : Nat) "ThinAir$Rules" "firstYear" "I") ∈ tb := tb_of (in_t2 (List.mem_of_getElem? (i := 192) rfl)) rfl
theorem tc_2_193 : (Jvm.Cond.fieldLink "ThinAir$Rules" (68 : Nat) "ThinAir$Rules" "struckOut" "Z") ∈ tb := tb_of (in_t2 (List.mem_of_getElem? (i := 193) rfl)) rfl
theorem tc_2_194 : (Jvm.Cond.fieldLink "ThinAir$Rules" (71 : Nat) "ThinAir$Rules" "laterOut" "Z") ∈ tb := tb_of (in_t2 (List.mem_of_getElem? (i := 194) rfl)) rfl
theorem tc_2_195 : (Jvm.Cond.fieldLink "ThinAir$Rules" (74 : Nat) "ThinAir$Rules" "shortOut" "Z") ∈ tb := tb_of (in_t2 (List.mem_of_getElem? (i := 195) rfl)) rfl
theorem tc_2_196 : (Jvm.Cond.fieldLink "ThinAir$Rules" (77 : Nat) "ThinAir$Rules" "homeCounts" "Z") ∈ tb := tb_of (in_t2 (List.mem_of_getElem? (i := 196) rfl)) rfl
theorem tc_2_197 : (Jvm.Cond.fieldLink "ThinAir" (339 : Nat) "ThinAir$Rules" "homeCounts" "Z") ∈ tb := tb_of (in_t2 (List.mem_of_getElem? (i := 197) rfl)) rfl
theorem tc_2_198 : (Jvm.Cond.lays "ThinAir$Rules" "ThinAir$Rules" "windGauged" "Z") ∈ tb := tb_of (in_t2 (List.mem_of_getElem? (i := 198) rfl)) rfl
theorem tc_2_200 : (Jvm.Cond.lays "ThinAir$Rules" "ThinAir$Rules" "mostWind" "I") ∈ tb := tb_of (in_t2 (List.mem_of_getElem? (i := 200) rfl)) rfl
theorem tc_2_202 : (Jvm.Cond.lays "ThinAir$Rules" "ThinAir$Rules" "mostHeight" "I") ∈ tb := tb_of (in_t2 (List.mem_of_getElem? (i := 202) rfl)) rfl
theorem tc_2_204 : (Jvm.Cond.lays "ThinAir$Rules" "ThinAir$Rules" "shoesOut" "I") ∈ tb := tb_of (in_t2 (List.mem_of_getElem? (i := 204) rfl)) rfl
theorem tc_2_206 : (Jvm.Cond.lays "ThinAir$Rules" "ThinAir$Rules" "firstYear" "I") ∈ tb := tb_of (in_t2 (List.mem_of_getElem? (i := 206) rfl)) rfl
theorem tc_2_208 : (Jvm.Cond.lays "ThinAir$Rules" "ThinAir$Rules" "struckOut" "Z") ∈ tb := tb_of (in_t2 (List.mem_of_getElem? (i := 208) rfl)) rfl
theorem tc_2_210 : (Jvm.Cond.lays "ThinAir$Rules" "ThinAir$Rules" "laterOut" "Z") ∈ tb := tb_of (in_t2 (List.mem_of_getElem? (i := 210) rfl)) rfl
theorem tc_2_212 : (Jvm.Cond.lays "ThinAir$Rules" "ThinAir$Rules" "shortOut" "Z") ∈ tb := tb_of (in_t2 (List.mem_of_getElem? (i := 212) rfl)) rfl
theorem tc_2_214 : (Jvm.Cond.lays "ThinAir$Rules" "ThinAir$Rules" "homeCounts" "Z") ∈ tb := tb_of (in_t2 (List.mem_of_getElem? (i := 214) rfl)) rfl
theorem tc_2_217 : (Jvm.Cond.methodLink "ThinAir" (177 : Nat) ({ cls := "ThinAir$Rules", name := "readAll", desc := "(LThinAir$Reader;)I" } : Jvm.MethodName)) ∈ tb := tb_of (in_t2 (List.mem_of_getElem? (i := 217) rfl)) rfl
theorem tc_2_218 : (Jvm.Cond.sameMethod "ThinAir$Rules" "ThinAir$Items" "readAll" "(LThinAir$Reader;)I") ∈ tb := tb_of (in_t2 (List.mem_of_getElem? (i := 218) rfl)) rfl
theorem tc_2_220 : (Jvm.Cond.selects "ThinAir$Rules" ({ cls := "ThinAir$Rules", name := "readAll", desc := "(LThinAir$Reader;)I" } : Jvm.MethodName) ({ cls := "ThinAir$Items", name := "readAll", desc := "(LThinAir$Reader;)I" } : Jvm.MethodName)) ∈ tb := tb_of (in_t2 (List.mem_of_getElem? (i := 220) rfl)) rfl
theorem tc_2_221 : (Jvm.Cond.instanceMethod ({ cls := "ThinAir$Items", name := "readAll", desc := "(LThinAir$Reader;)I" } : Jvm.MethodName)) ∈ tb := tb_of (in_t2 (List.mem_of_getElem? (i := 221) rfl)) rfl
theorem tc_2_222 : (Jvm.Cond.code ({ cls := "ThinAir$Items", name := "readAll", desc := "(LThinAir$Reader;)I" } : Jvm.MethodName) prog_2_method_3_code (3 : Nat) (Option.some Jvm.ClassFile.FieldType.int)) ∈ tb := tb_of (in_t2 (List.mem_of_getElem? (i := 222) rfl)) rfl
theorem tc_2_223 : (Jvm.Cond.methodLink "ThinAir$Items" (9 : Nat) ({ cls := "ThinAir$Reader", name := "endsBehindBlanks", desc := "()Z" } : Jvm.MethodName)) ∈ tb := tb_of (in_t2 (List.mem_of_getElem? (i := 223) rfl)) rfl
theorem tc_2_224 : (Jvm.Cond.instanceMethod ({ cls := "ThinAir$Reader", name := "endsBehindBlanks", desc := "()Z" } : Jvm.MethodName)) ∈ tb := tb_of (in_t2 (List.mem_of_getElem? (i := 224) rfl)) rfl
theorem tc_2_225 : (Jvm.Cond.selects "ThinAir$Reader" ({ cls := "ThinAir$Reader", name := "endsBehindBlanks", desc := "()Z" } : Jvm.MethodName) ({ cls := "ThinAir$Reader", name := "endsBehindBlanks", desc := "()Z" } : Jvm.MethodName)) ∈ tb := tb_of (in_t2 (List.mem_of_getElem? (i := 225) rfl)) rfl
theorem tc_2_226 : (Jvm.Cond.code ({ cls := "ThinAir$Reader", name := "endsBehindBlanks", desc := "()Z" } : Jvm.MethodName) prog_7_method_2_code (1 : Nat) (Option.some Jvm.ClassFile.FieldType.boolean)) ∈ tb := tb_of (in_t2 (List.mem_of_getElem? (i := 226) rfl)) rfl
theorem tc_2_227 : (Jvm.Cond.methodLink "ThinAir$Items" (15 : Nat) ({ cls := "ThinAir$Items", name := "readItem", desc := "(LThinAir$Reader;)Z" } : Jvm.MethodName)) ∈ tb := tb_of (in_t2 (List.mem_of_getElem? (i := 227) rfl)) rfl
theorem tc_2_229 : (Jvm.Cond.sameMethod "ThinAir$Items" "ThinAir$Items" "readItem" "(LThinAir$Reader;)Z") ∈ tb := tb_of (in_t2 (List.mem_of_getElem? (i := 229) rfl)) rfl
theorem tc_2_230 : (Jvm.Cond.selects "ThinAir$Laws" ({ cls := "ThinAir$Items", name := "readItem", desc := "(LThinAir$Reader;)Z" } : Jvm.MethodName) ({ cls := "ThinAir$Laws", name := "readItem", desc := "(LThinAir$Reader;)Z" } : Jvm.MethodName)) ∈ tb := tb_of (in_t2 (List.mem_of_getElem? (i := 230) rfl)) rfl
theorem tc_2_231 : (Jvm.Cond.instanceMethod ({ cls := "ThinAir$Laws", name := "readItem", desc := "(LThinAir$Reader;)Z" } : Jvm.MethodName)) ∈ tb := tb_of (in_t2 (List.mem_of_getElem? (i := 231) rfl)) rfl
theorem tc_2_232 : (Jvm.Cond.code ({ cls := "ThinAir$Laws", name := "readItem", desc := "(LThinAir$Reader;)Z" } : Jvm.MethodName) prog_3_method_2_code (2 : Nat) (Option.some Jvm.ClassFile.FieldType.boolean)) ∈ tb := tb_of (in_t2 (List.mem_of_getElem? (i := 232) rfl)) rfl
theorem tc_2_233 : (Jvm.Cond.methodLink "ThinAir$Laws" (15 : Nat) ({ cls := "ThinAir$Reader", name := "passes", desc := "(C)Z" } : Jvm.MethodName)) ∈ tb := tb_of (in_t2 (List.mem_of_getElem? (i := 233) rfl)) rfl
theorem tc_2_234 : (Jvm.Cond.instanceMethod ({ cls := "ThinAir$Reader", name := "passes", desc := "(C)Z" } : Jvm.MethodName)) ∈ tb := tb_of (in_t2 (List.mem_of_getElem? (i := 234) rfl)) rfl
theorem tc_2_235 : (Jvm.Cond.selects "ThinAir$Reader" ({ cls := "ThinAir$Reader", name := "passes", desc := "(C)Z" } : Jvm.MethodName) ({ cls := "ThinAir$Reader", name := "passes", desc := "(C)Z" } : Jvm.MethodName)) ∈ tb := tb_of (in_t2 (List.mem_of_getElem? (i := 235) rfl)) rfl
theorem tc_2_236 : (Jvm.Cond.code ({ cls := "ThinAir$Reader", name := "passes", desc := "(C)Z" } : Jvm.MethodName) prog_7_method_3_code (2 : Nat) (Option.some Jvm.ClassFile.FieldType.boolean)) ∈ tb := tb_of (in_t2 (List.mem_of_getElem? (i := 236) rfl)) rfl
theorem tc_2_237 : (Jvm.Cond.methodLink "ThinAir$Laws" (21 : Nat) ({ cls := "ThinAir$Laws", name := "readFalling", desc := "(LThinAir$Reader;I)Z" } : Jvm.MethodName)) ∈ tb := tb_of (in_t2 (List.mem_of_getElem? (i := 237) rfl)) rfl
theorem tc_2_239 : (Jvm.Cond.instanceMethod ({ cls := "ThinAir$Laws", name := "readFalling", desc := "(LThinAir$Reader;I)Z" } : Jvm.MethodName)) ∈ tb := tb_of (in_t2 (List.mem_of_getElem? (i := 239) rfl)) rfl
theorem tc_3_0 : (Jvm.Cond.instantiable "ThinAir$Laws" (1 : Nat)) ∈ tb := tb_of (in_t3 (List.mem_of_getElem? (i := 0) rfl)) rfl
theorem tc_3_1 : (Jvm.Cond.code ({ cls := "ThinAir$Laws", name := "readFalling", desc := "(LThinAir$Reader;I)Z" } : Jvm.MethodName) prog_3_method_3_code (3 : Nat) (Option.some Jvm.ClassFile.FieldType.boolean)) ∈ tb := tb_of (in_t3 (List.mem_of_getElem? (i := 1) rfl)) rfl
theorem tc_3_2 : (Jvm.Cond.methodLink "ThinAir$Laws" (32 : Nat) ({ cls := "ThinAir$Reader", name := "signedFigures", desc := "()I" } : Jvm.MethodName)) ∈ tb := tb_of (in_t3 (List.mem_of_getElem? (i := 2) rfl)) rfl
theorem tc_3_3 : (Jvm.Cond.instanceMethod ({ cls := "ThinAir$Reader", name := "signedFigures", desc := "()I" } : Jvm.MethodName)) ∈ tb := tb_of (in_t3 (List.mem_of_getElem? (i := 3) rfl)) rfl
theorem tc_3_4 : (Jvm.Cond.selects "ThinAir$Reader" ({ cls := "ThinAir$Reader", name := "signedFigures", desc := "()I" } : Jvm.MethodName) ({ cls := "ThinAir$Reader", name := "signedFigures", desc := "()I" } : Jvm.MethodName)) ∈ tb := tb_of (in_t3 (List.mem_of_getElem? (i := 4) rfl)) rfl
theorem tc_3_5 : (Jvm.Cond.code ({ cls := "ThinAir$Reader", name := "signedFigures", desc := "()I" } : Jvm.MethodName) prog_7_method_5_code (3 : Nat) (Option.some Jvm.ClassFile.FieldType.int)) ∈ tb := tb_of (in_t3 (List.mem_of_getElem? (i := 5) rfl)) rfl
theorem tc_3_6 : (Jvm.Cond.methodLink "ThinAir$Reader" (32 : Nat) ({ cls := "ThinAir$Reader", name := "passes", desc := "(C)Z" } : Jvm.MethodName)) ∈ tb := tb_of (in_t3 (List.mem_of_getElem? (i := 6) rfl)) rfl
theorem tc_3_7 : (Jvm.Cond.methodLink "ThinAir$Reader" (36 : Nat) ({ cls := "ThinAir$Reader", name := "figures", desc := "(I)I" } : Jvm.MethodName)) ∈ tb := tb_of (in_t3 (List.mem_of_getElem? (i := 7) rfl)) rfl
theorem tc_3_8 : (Jvm.Cond.instanceMethod ({ cls := "ThinAir$Reader", name := "figures", desc := "(I)I" } : Jvm.MethodName)) ∈ tb := tb_of (in_t3 (List.mem_of_getElem? (i := 8) rfl)) rfl
theorem tc_3_9 : (Jvm.Cond.selects "ThinAir$Reader" ({ cls := "ThinAir$Reader", name := "figures", desc := "(I)I" } : Jvm.MethodName) ({ cls := "ThinAir$Reader", name := "figures", desc := "(I)I" } : Jvm.MethodName)) ∈ tb := tb_of (in_t3 (List.mem_of_getElem? (i := 9) rfl)) rfl
theorem tc_3_10 : (Jvm.Cond.code ({ cls := "ThinAir$Reader", name := "figures", desc := "(I)I" } : Jvm.MethodName) prog_7_method_4_code (5 : Nat) (Option.some Jvm.ClassFile.FieldType.int)) ∈ tb := tb_of (in_t3 (List.mem_of_getElem? (i := 10) rfl)) rfl
theorem tc_3_11 : (Jvm.Cond.methodLink "ThinAir$Reader" (26 : Nat) ({ cls := "java/lang/Math", name := "min", desc := "(II)I" } : Jvm.MethodName)) ∈ tb := tb_of (in_t3 (List.mem_of_getElem? (i := 11) rfl)) rfl
theorem tc_3_12 : (Jvm.Cond.static ({ cls := "java/lang/Math", name := "min", desc := "(II)I" } : Jvm.MethodName)) ∈ tb := tb_of (in_t3 (List.mem_of_getElem? (i := 12) rfl)) rfl
theorem tc_3_13 : (Jvm.Cond.code ({ cls := "java/lang/Math", name := "min", desc := "(II)I" } : Jvm.MethodName) prog_15_method_69_code (2 : Nat) (Option.some Jvm.ClassFile.FieldType.int)) ∈ tb := tb_of (in_t3 (List.mem_of_getElem? (i := 13) rfl)) rfl
theorem tc_3_14 : (Jvm.Cond.methodLink "ThinAir$Laws" (25 : Nat) ({ cls := "ThinAir$Laws", name := "readSingle", desc := "(LThinAir$Reader;I)Z" } : Jvm.MethodName)) ∈ tb := tb_of (in_t3 (List.mem_of_getElem? (i := 14) rfl)) rfl
theorem tc_3_16 : (Jvm.Cond.instanceMethod ({ cls := "ThinAir$Laws", name := "readSingle", desc := "(LThinAir$Reader;I)Z" } : Jvm.MethodName)) ∈ tb := tb_of (in_t3 (List.mem_of_getElem? (i := 16) rfl)) rfl
theorem tc_3_17 : (Jvm.Cond.code ({ cls := "ThinAir$Laws", name := "readSingle", desc := "(LThinAir$Reader;I)Z" } : Jvm.MethodName) prog_3_method_4_code (3 : Nat) (Option.some Jvm.ClassFile.FieldType.boolean)) ∈ tb := tb_of (in_t3 (List.mem_of_getElem? (i := 17) rfl)) rfl
theorem tc_3_18 : (Jvm.Cond.methodLink "ThinAir$Laws" (28 : Nat) ({ cls := "ThinAir$Laws", name := "readShoe", desc := "(LThinAir$Reader;)Z" } : Jvm.MethodName)) ∈ tb := tb_of (in_t3 (List.mem_of_getElem? (i := 18) rfl)) rfl
theorem tc_3_20 : (Jvm.Cond.instanceMethod ({ cls := "ThinAir$Laws", name := "readShoe", desc := "(LThinAir$Reader;)Z" } : Jvm.MethodName)) ∈ tb := tb_of (in_t3 (List.mem_of_getElem? (i := 20) rfl)) rfl
theorem tc_3_21 : (Jvm.Cond.code ({ cls := "ThinAir$Laws", name := "readShoe", desc := "(LThinAir$Reader;)Z" } : Jvm.MethodName) prog_3_method_5_code (3 : Nat) (Option.some Jvm.ClassFile.FieldType.boolean)) ∈ tb := tb_of (in_t3 (List.mem_of_getElem? (i := 21) rfl)) rfl
theorem tc_3_22 : (Jvm.Cond.methodLink "ThinAir$Laws" (36 : Nat) ({ cls := "ThinAir$Reader", name := "shoeFigure", desc := "()I" } : Jvm.MethodName)) ∈ tb := tb_of (in_t3 (List.mem_of_getElem? (i := 22) rfl)) rfl
theorem tc_3_23 : (Jvm.Cond.instanceMethod ({ cls := "ThinAir$Reader", name := "shoeFigure", desc := "()I" } : Jvm.MethodName)) ∈ tb := tb_of (in_t3 (List.mem_of_getElem? (i := 23) rfl)) rfl
theorem tc_3_24 : (Jvm.Cond.selects "ThinAir$Reader" ({ cls := "ThinAir$Reader", name := "shoeFigure", desc := "()I" } : Jvm.MethodName) ({ cls := "ThinAir$Reader", name := "shoeFigure", desc := "()I" } : Jvm.MethodName)) ∈ tb := tb_of (in_t3 (List.mem_of_getElem? (i := 24) rfl)) rfl
theorem tc_3_25 : (Jvm.Cond.code ({ cls := "ThinAir$Reader", name := "shoeFigure", desc := "()I" } : Jvm.MethodName) prog_7_method_6_code (1 : Nat) (Option.some Jvm.ClassFile.FieldType.int)) ∈ tb := tb_of (in_t3 (List.mem_of_getElem? (i := 25) rfl)) rfl
theorem tc_3_26 : (Jvm.Cond.selects "ThinAir$Rules" ({ cls := "ThinAir$Items", name := "readItem", desc := "(LThinAir$Reader;)Z" } : Jvm.MethodName) ({ cls := "ThinAir$Rules", name := "readItem", desc := "(LThinAir$Reader;)Z" } : Jvm.MethodName)) ∈ tb := tb_of (in_t3 (List.mem_of_getElem? (i := 26) rfl)) rfl
theorem tc_3_27 : (Jvm.Cond.instanceMethod ({ cls := "ThinAir$Rules", name := "readItem", desc := "(LThinAir$Reader;)Z" } : Jvm.MethodName)) ∈ tb := tb_of (in_t3 (List.mem_of_getElem? (i := 27) rfl)) rfl
theorem tc_3_28 : (Jvm.Cond.code ({ cls := "ThinAir$Rules", name := "readItem", desc := "(LThinAir$Reader;)Z" } : Jvm.MethodName) prog_9_method_2_code (2 : Nat) (Option.some Jvm.ClassFile.FieldType.boolean)) ∈ tb := tb_of (in_t3 (List.mem_of_getElem? (i := 28) rfl)) rfl
theorem tc_3_29 : (Jvm.Cond.methodLink "ThinAir$Rules" (18 : Nat) ({ cls := "ThinAir$Reader", name := "passes", desc := "(C)Z" } : Jvm.MethodName)) ∈ tb := tb_of (in_t3 (List.mem_of_getElem? (i := 29) rfl)) rfl
theorem tc_3_30 : (Jvm.Cond.methodLink "ThinAir$Rules" (24 : Nat) ({ cls := "ThinAir$Reader", name := "figures", desc := "(I)I" } : Jvm.MethodName)) ∈ tb := tb_of (in_t3 (List.mem_of_getElem? (i := 30) rfl)) rfl
theorem tc_3_31 : (Jvm.Cond.methodLink "ThinAir$Rules" (28 : Nat) ({ cls := "ThinAir$Rules", name := "readWind", desc := "(I)Z" } : Jvm.MethodName)) ∈ tb := tb_of (in_t3 (List.mem_of_getElem? (i := 31) rfl)) rfl
theorem tc_3_33 : (Jvm.Cond.instanceMethod ({ cls := "ThinAir$Rules", name := "readWind", desc := "(I)Z" } : Jvm.MethodName)) ∈ tb := tb_of (in_t3 (List.mem_of_getElem? (i := 33) rfl)) rfl
theorem tc_3_34 : (Jvm.Cond.code ({ cls := "ThinAir$Rules", name := "readWind", desc := "(I)Z" } : Jvm.MethodName) prog_9_method_3_code (2 : Nat) (Option.some Jvm.ClassFile.FieldType.boolean)) ∈ tb := tb_of (in_t3 (List.mem_of_getElem? (i := 34) rfl)) rfl
theorem tc_3_35 : (Jvm.Cond.methodLink "ThinAir$Rules" (49 : Nat) ({ cls := "java/lang/Math", name := "min", desc := "(II)I" } : Jvm.MethodName)) ∈ tb := tb_of (in_t3 (List.mem_of_getElem? (i := 35) rfl)) rfl
theorem tc_3_36 : (Jvm.Cond.methodLink "ThinAir$Rules" (32 : Nat) ({ cls := "ThinAir$Rules", name := "readHeight", desc := "(I)Z" } : Jvm.MethodName)) ∈ tb := tb_of (in_t3 (List.mem_of_getElem? (i := 36) rfl)) rfl
theorem tc_3_38 : (Jvm.Cond.instanceMethod ({ cls := "ThinAir$Rules", name := "readHeight", desc := "(I)Z" } : Jvm.MethodName)) ∈ tb := tb_of (in_t3 (List.mem_of_getElem? (i := 38) rfl)) rfl
theorem tc_3_39 : (Jvm.Cond.code ({ cls := "ThinAir$Rules", name := "readHeight", desc := "(I)Z" } : Jvm.MethodName) prog_9_method_4_code (2 : Nat) (Option.some Jvm.ClassFile.FieldType.boolean)) ∈ tb := tb_of (in_t3 (List.mem_of_getElem? (i := 39) rfl)) rfl
theorem tc_3_40 : (Jvm.Cond.methodLink "ThinAir$Rules" (35 : Nat) ({ cls := "ThinAir$Rules", name := "readYear", desc := "(I)Z" } : Jvm.MethodName)) ∈ tb := tb_of (in_t3 (List.mem_of_getElem? (i := 40) rfl)) rfl
theorem tc_3_42 : (Jvm.Cond.instanceMethod ({ cls := "ThinAir$Rules", name := "readYear", desc := "(I)Z" } : Jvm.MethodName)) ∈ tb := tb_of (in_t3 (List.mem_of_getElem? (i := 42) rfl)) rfl
theorem tc_3_43 : (Jvm.Cond.code ({ cls := "ThinAir$Rules", name := "readYear", desc := "(I)Z" } : Jvm.MethodName) prog_9_method_5_code (2 : Nat) (Option.some Jvm.ClassFile.FieldType.boolean)) ∈ tb := tb_of (in_t3 (List.mem_of_getElem? (i := 43) rfl)) rfl
theorem tc_3_44 : (Jvm.Cond.methodLink "ThinAir$Rules" (58 : Nat) ({ cls := "java/lang/Math", name := "max", desc := "(II)I" } : Jvm.MethodName)) ∈ tb := tb_of (in_t3 (List.mem_of_getElem? (i := 44) rfl)) rfl
theorem tc_3_45 : (Jvm.Cond.static ({ cls := "java/lang/Math", name := "max", desc := "(II)I" } : Jvm.MethodName)) ∈ tb := tb_of (in_t3 (List.mem_of_getElem? (i := 45) rfl)) rfl
theorem tc_3_46 : (Jvm.Cond.code ({ cls := "java/lang/Math", name := "max", desc := "(II)I" } : Jvm.MethodName) prog_15_method_65_code (2 : Nat) (Option.some Jvm.ClassFile.FieldType.int)) ∈ tb := tb_of (in_t3 (List.mem_of_getElem? (i := 46) rfl)) rfl
theorem tc_3_47 : (Jvm.Cond.methodLink "ThinAir$Rules" (38 : Nat) ({ cls := "ThinAir$Rules", name := "readShoe", desc := "(I)Z" } : Jvm.MethodName)) ∈ tb := tb_of (in_t3 (List.mem_of_getElem? (i := 47) rfl)) rfl
theorem tc_3_49 : (Jvm.Cond.instanceMethod ({ cls := "ThinAir$Rules", name := "readShoe", desc := "(I)Z" } : Jvm.MethodName)) ∈ tb := tb_of (in_t3 (List.mem_of_getElem? (i := 49) rfl)) rfl
theorem tc_3_50 : (Jvm.Cond.code ({ cls := "ThinAir$Rules", name := "readShoe", desc := "(I)Z" } : Jvm.MethodName) prog_9_method_6_code (2 : Nat) (Option.some Jvm.ClassFile.FieldType.boolean)) ∈ tb := tb_of (in_t3 (List.mem_of_getElem? (i := 50) rfl)) rfl
theorem tc_3_52 : (Jvm.Cond.methodLink "ThinAir$Rules" (41 : Nat) ({ cls := "ThinAir$Rules", name := "readBare", desc := "(LThinAir$Reader;)Z" } : Jvm.MethodName)) ∈ tb := tb_of (in_t3 (List.mem_of_getElem? (i := 52) rfl)) rfl
theorem tc_3_54 : (Jvm.Cond.instanceMethod ({ cls := "ThinAir$Rules", name := "readBare", desc := "(LThinAir$Reader;)Z" } : Jvm.MethodName)) ∈ tb := tb_of (in_t3 (List.mem_of_getElem? (i := 54) rfl)) rfl
theorem tc_3_55 : (Jvm.Cond.code ({ cls := "ThinAir$Rules", name := "readBare", desc := "(LThinAir$Reader;)Z" } : Jvm.MethodName) prog_9_method_7_code (2 : Nat) (Option.some Jvm.ClassFile.FieldType.boolean)) ∈ tb := tb_of (in_t3 (List.mem_of_getElem? (i := 55) rfl)) rfl
theorem tc_3_57 : (Jvm.Cond.instanceMethod ({ cls := "ThinAir$Laws", name := "<init>", desc := "()V" } : Jvm.MethodName)) ∈ tb := tb_of (in_t3 (List.mem_of_getElem? (i := 57) rfl)) rfl
theorem tc_3_58 : (Jvm.Cond.code ({ cls := "ThinAir$Laws", name := "<init>", desc := "()V" } : Jvm.MethodName) prog_3_method_1_code (1 : Nat) (Option.none : Option Jvm.ClassFile.FieldType)) ∈ tb := tb_of (in_t3 (List.mem_of_getElem? (i := 58) rfl)) rfl
theorem tc_3_60 : (Jvm.Cond.fieldLink "ThinAir$Laws" (11 : Nat) "ThinAir$Laws" "numbers" "[I") ∈ tb := tb_of (in_t3 (List.mem_of_getElem? (i := 60) rfl)) rfl
theorem tc_3_61 : (Jvm.Cond.fieldLink "ThinAir" (186 : Nat) "ThinAir$Laws" "numbers" "[I") ∈ tb := tb_of (in_t3 (List.mem_of_getElem? (i := 61) rfl)) rfl
theorem tc_3_62 : (Jvm.Cond.laysFinal "ThinAir$Laws" "ThinAir$Laws" "numbers" "[I") ∈ tb := tb_of (in_t3 (List.mem_of_getElem? (i := 62) rfl)) rfl
theorem tc_3_65 : (Jvm.Cond.methodLink "ThinAir" (182 : Nat) ({ cls := "ThinAir$Laws", name := "readAll", desc := "(LThinAir$Reader;)I" } : Jvm.MethodName)) ∈ tb := tb_of (in_t3 (List.mem_of_getElem? (i := 65) rfl)) rfl
theorem tc_3_66 : (Jvm.Cond.sameMethod "ThinAir$Laws" "ThinAir$Items" "readAll" "(LThinAir$Reader;)I") ∈ tb := tb_of (in_t3 (List.mem_of_getElem? (i := 66) rfl)) rfl
theorem tc_3_67 : (Jvm.Cond.selects "ThinAir$Laws" ({ cls := "ThinAir$Laws", name := "readAll", desc := "(LThinAir$Reader;)I" } : Jvm.MethodName) ({ cls := "ThinAir$Items", name := "readAll", desc := "(LThinAir$Reader;)I" } : Jvm.MethodName)) ∈ tb := tb_of (in_t3 (List.mem_of_getElem? (i := 67) rfl)) rfl
theorem tc_3_68 : (Jvm.Cond.methodLink "ThinAirLaw" (95 : Nat) ({ cls := "ThinAir", name := "laws", desc := "(II)I" } : Jvm.MethodName)) ∈ tb := tb_of (in_t3 (List.mem_of_getElem? (i := 68) rfl)) rfl
theorem tc_3_69 : (Jvm.Cond.instanceMethod ({ cls := "ThinAir", name := "laws", desc := "(II)I" } : Jvm.MethodName)) ∈ tb := tb_of (in_t3 (List.mem_of_getElem? (i := 69) rfl)) rfl
theorem tc_3_70 : (Jvm.Cond.selects "ThinAir" ({ cls := "ThinAir", name := "laws", desc := "(II)I" } : Jvm.MethodName) ({ cls := "ThinAir", name := "laws", desc := "(II)I" } : Jvm.MethodName)) ∈ tb := tb_of (in_t3 (List.mem_of_getElem? (i := 70) rfl)) rfl
theorem tc_3_71 : (Jvm.Cond.code ({ cls := "ThinAir", name := "laws", desc := "(II)I" } : Jvm.MethodName) prog_1_method_21_code (6 : Nat) (Option.some Jvm.ClassFile.FieldType.int)) ∈ tb := tb_of (in_t3 (List.mem_of_getElem? (i := 71) rfl)) rfl
theorem tc_3_72 : (Jvm.Cond.methodLink "ThinAirLaw" (99 : Nat) ({ cls := "ThinAir", name := "number", desc := "(II)I" } : Jvm.MethodName)) ∈ tb := tb_of (in_t3 (List.mem_of_getElem? (i := 72) rfl)) rfl
theorem tc_3_73 : (Jvm.Cond.instanceMethod ({ cls := "ThinAir", name := "number", desc := "(II)I" } : Jvm.MethodName)) ∈ tb := tb_of (in_t3 (List.mem_of_getElem? (i := 73) rfl)) rfl
theorem tc_3_74 : (Jvm.Cond.selects "ThinAir" ({ cls := "ThinAir", name := "number", desc := "(II)I" } : Jvm.MethodName) ({ cls := "ThinAir", name := "number", desc := "(II)I" } : Jvm.MethodName)) ∈ tb := tb_of (in_t3 (List.mem_of_getElem? (i := 74) rfl)) rfl
theorem tc_3_75 : (Jvm.Cond.code ({ cls := "ThinAir", name := "number", desc := "(II)I" } : Jvm.MethodName) prog_1_method_22_code (4 : Nat) (Option.some Jvm.ClassFile.FieldType.int)) ∈ tb := tb_of (in_t3 (List.mem_of_getElem? (i := 75) rfl)) rfl
theorem tc_3_76 : (Jvm.Cond.methodLink "ThinAirLaw" (103 : Nat) ({ cls := "ThinAir", name := "gives", desc := "(II)I" } : Jvm.MethodName)) ∈ tb := tb_of (in_t3 (List.mem_of_getElem? (i := 76) rfl)) rfl
theorem tc_3_77 : (Jvm.Cond.instanceMethod ({ cls := "ThinAir", name := "gives", desc := "(II)I" } : Jvm.MethodName)) ∈ tb := tb_of (in_t3 (List.mem_of_getElem? (i := 77) rfl)) rfl
theorem tc_3_78 : (Jvm.Cond.selects "ThinAir" ({ cls := "ThinAir", name := "gives", desc := "(II)I" } : Jvm.MethodName) ({ cls := "ThinAir", name := "gives", desc := "(II)I" } : Jvm.MethodName)) ∈ tb := tb_of (in_t3 (List.mem_of_getElem? (i := 78) rfl)) rfl
theorem tc_3_79 : (Jvm.Cond.code ({ cls := "ThinAir", name := "gives", desc := "(II)I" } : Jvm.MethodName) prog_1_method_23_code (5 : Nat) (Option.some Jvm.ClassFile.FieldType.int)) ∈ tb := tb_of (in_t3 (List.mem_of_getElem? (i := 79) rfl)) rfl
theorem tc_3_80 : (Jvm.Cond.methodLink "ThinAir" (189 : Nat) ({ cls := "ThinAir$Laws", name := "allGiven", desc := "(LThinAir$Mark;)I" } : Jvm.MethodName)) ∈ tb := tb_of (in_t3 (List.mem_of_getElem? (i := 80) rfl)) rfl
theorem tc_3_81 : (Jvm.Cond.instanceMethod ({ cls := "ThinAir$Laws", name := "allGiven", desc := "(LThinAir$Mark;)I" } : Jvm.MethodName)) ∈ tb := tb_of (in_t3 (List.mem_of_getElem? (i := 81) rfl)) rfl
theorem tc_3_82 : (Jvm.Cond.selects "ThinAir$Laws" ({ cls := "ThinAir$Laws", name := "allGiven", desc := "(LThinAir$Mark;)I" } : Jvm.MethodName) ({ cls := "ThinAir$Laws", name := "allGiven", desc := "(LThinAir$Mark;)I" } : Jvm.MethodName)) ∈ tb := tb_of (in_t3 (List.mem_of_getElem? (i := 82) rfl)) rfl
theorem tc_3_83 : (Jvm.Cond.code ({ cls := "ThinAir$Laws", name := "allGiven", desc := "(LThinAir$Mark;)I" } : Jvm.MethodName) prog_3_method_8_code (3 : Nat) (Option.some Jvm.ClassFile.FieldType.int)) ∈ tb := tb_of (in_t3 (List.mem_of_getElem? (i := 83) rfl)) rfl
theorem tc_3_84 : (Jvm.Cond.methodLink "ThinAir$Laws" (53 : Nat) ({ cls := "ThinAir$Laws", name := "windGiven", desc := "(I)I" } : Jvm.MethodName)) ∈ tb := tb_of (in_t3 (List.mem_of_getElem? (i := 84) rfl)) rfl
theorem tc_3_86 : (Jvm.Cond.instanceMethod ({ cls := "ThinAir$Laws", name := "windGiven", desc := "(I)I" } : Jvm.MethodName)) ∈ tb := tb_of (in_t3 (List.mem_of_getElem? (i := 86) rfl)) rfl
theorem tc_3_87 : (Jvm.Cond.code ({ cls := "ThinAir$Laws", name := "windGiven", desc := "(I)I" } : Jvm.MethodName) prog_3_method_7_code (2 : Nat) (Option.some Jvm.ClassFile.FieldType.int)) ∈ tb := tb_of (in_t3 (List.mem_of_getElem? (i := 87) rfl)) rfl
theorem tc_3_88 : (Jvm.Cond.methodLink "ThinAir$Laws" (39 : Nat) ({ cls := "ThinAir$Laws", name := "stepsGiven", desc := "(II)I" } : Jvm.MethodName)) ∈ tb := tb_of (in_t3 (List.mem_of_getElem? (i := 88) rfl)) rfl
theorem tc_3_90 : (Jvm.Cond.instanceMethod ({ cls := "ThinAir$Laws", name := "stepsGiven", desc := "(II)I" } : Jvm.MethodName)) ∈ tb := tb_of (in_t3 (List.mem_of_getElem? (i := 90) rfl)) rfl
theorem tc_3_91 : (Jvm.Cond.code ({ cls := "ThinAir$Laws", name := "stepsGiven", desc := "(II)I" } : Jvm.MethodName) prog_3_method_6_code (6 : Nat) (Option.some Jvm.ClassFile.FieldType.int)) ∈ tb := tb_of (in_t3 (List.mem_of_getElem? (i := 91) rfl)) rfl
theorem tc_3_92 : (Jvm.Cond.methodLink "ThinAirLaw" (107 : Nat) ({ cls := "ThinAir", name := "home", desc := "(II)I" } : Jvm.MethodName)) ∈ tb := tb_of (in_t3 (List.mem_of_getElem? (i := 92) rfl)) rfl
theorem tc_3_93 : (Jvm.Cond.instanceMethod ({ cls := "ThinAir", name := "home", desc := "(II)I" } : Jvm.MethodName)) ∈ tb := tb_of (in_t3 (List.mem_of_getElem? (i := 93) rfl)) rfl
theorem tc_3_94 : (Jvm.Cond.selects "ThinAir" ({ cls := "ThinAir", name := "home", desc := "(II)I" } : Jvm.MethodName) ({ cls := "ThinAir", name := "home", desc := "(II)I" } : Jvm.MethodName)) ∈ tb := tb_of (in_t3 (List.mem_of_getElem? (i := 94) rfl)) rfl
theorem tc_3_95 : (Jvm.Cond.code ({ cls := "ThinAir", name := "home", desc := "(II)I" } : Jvm.MethodName) prog_1_method_24_code (5 : Nat) (Option.some Jvm.ClassFile.FieldType.int)) ∈ tb := tb_of (in_t3 (List.mem_of_getElem? (i := 95) rfl)) rfl
theorem tc_3_96 : (Jvm.Cond.methodLink "ThinAir" (193 : Nat) ({ cls := "ThinAir$Laws", name := "valueAtHome", desc := "(LThinAir$Mark;)I" } : Jvm.MethodName)) ∈ tb := tb_of (in_t3 (List.mem_of_getElem? (i := 96) rfl)) rfl
theorem tc_3_97 : (Jvm.Cond.instanceMethod ({ cls := "ThinAir$Laws", name := "valueAtHome", desc := "(LThinAir$Mark;)I" } : Jvm.MethodName)) ∈ tb := tb_of (in_t3 (List.mem_of_getElem? (i := 97) rfl)) rfl
theorem tc_3_98 : (Jvm.Cond.selects "ThinAir$Laws" ({ cls := "ThinAir$Laws", name := "valueAtHome", desc := "(LThinAir$Mark;)I" } : Jvm.MethodName) ({ cls := "ThinAir$Laws", name := "valueAtHome", desc := "(LThinAir$Mark;)I" } : Jvm.MethodName)) ∈ tb := tb_of (in_t3 (List.mem_of_getElem? (i := 98) rfl)) rfl
theorem tc_3_99 : (Jvm.Cond.code ({ cls := "ThinAir$Laws", name := "valueAtHome", desc := "(LThinAir$Mark;)I" } : Jvm.MethodName) prog_3_method_9_code (2 : Nat) (Option.some Jvm.ClassFile.FieldType.int)) ∈ tb := tb_of (in_t3 (List.mem_of_getElem? (i := 99) rfl)) rfl
theorem tc_3_100 : (Jvm.Cond.methodLink "ThinAir$Laws" (74 : Nat) ({ cls := "ThinAir$Laws", name := "allGiven", desc := "(LThinAir$Mark;)I" } : Jvm.MethodName)) ∈ tb := tb_of (in_t3 (List.mem_of_getElem? (i := 100) rfl)) rfl
theorem tc_3_101 : (Jvm.Cond.methodLink "ThinAirLaw" (111 : Nat) ({ cls := "ThinAir", name := "span", desc := "(II)I" } : Jvm.MethodName)) ∈ tb := tb_of (in_t3 (List.mem_of_getElem? (i := 101) rfl)) rfl
theorem tc_3_102 : (Jvm.Cond.instanceMethod ({ cls := "ThinAir", name := "span", desc := "(II)I" } : Jvm.MethodName)) ∈ tb := tb_of (in_t3 (List.mem_of_getElem? (i := 102) rfl)) rfl
theorem tc_3_103 : (Jvm.Cond.selects "ThinAir" ({ cls := "ThinAir", name := "span", desc := "(II)I" } : Jvm.MethodName) ({ cls := "ThinAir", name := "span", desc := "(II)I" } : Jvm.MethodName)) ∈ tb := tb_of (in_t3 (List.mem_of_getElem? (i := 103) rfl)) rfl
theorem tc_3_104 : (Jvm.Cond.code ({ cls := "ThinAir", name := "span", desc := "(II)I" } : Jvm.MethodName) prog_1_method_25_code (6 : Nat) (Option.some Jvm.ClassFile.FieldType.int)) ∈ tb := tb_of (in_t3 (List.mem_of_getElem? (i := 104) rfl)) rfl
theorem tc_3_105 : (Jvm.Cond.methodLink "ThinAir" (196 : Nat) ({ cls := "ThinAir$Laws", name := "leastAtHome", desc := "(LThinAir$Mark;)I" } : Jvm.MethodName)) ∈ tb := tb_of (in_t3 (List.mem_of_getElem? (i := 105) rfl)) rfl
theorem tc_3_106 : (Jvm.Cond.instanceMethod ({ cls := "ThinAir$Laws", name := "leastAtHome", desc := "(LThinAir$Mark;)I" } : Jvm.MethodName)) ∈ tb := tb_of (in_t3 (List.mem_of_getElem? (i := 106) rfl)) rfl
theorem tc_3_107 : (Jvm.Cond.selects "ThinAir$Laws" ({ cls := "ThinAir$Laws", name := "leastAtHome", desc := "(LThinAir$Mark;)I" } : Jvm.MethodName) ({ cls := "ThinAir$Laws", name := "leastAtHome", desc := "(LThinAir$Mark;)I" } : Jvm.MethodName)) ∈ tb := tb_of (in_t3 (List.mem_of_getElem? (i := 107) rfl)) rfl
theorem tc_3_108 : (Jvm.Cond.code ({ cls := "ThinAir$Laws", name := "leastAtHome", desc := "(LThinAir$Mark;)I" } : Jvm.MethodName) prog_3_method_10_code (5 : Nat) (Option.some Jvm.ClassFile.FieldType.int)) ∈ tb := tb_of (in_t3 (List.mem_of_getElem? (i := 108) rfl)) rfl
theorem tc_3_109 : (Jvm.Cond.methodLink "ThinAir$Laws" (81 : Nat) ({ cls := "ThinAir$Laws", name := "valueAtHome", desc := "(LThinAir$Mark;)I" } : Jvm.MethodName)) ∈ tb := tb_of (in_t3 (List.mem_of_getElem? (i := 109) rfl)) rfl
theorem tc_3_110 : (Jvm.Cond.methodLink "ThinAir$Laws" (84 : Nat) ({ cls := "java/lang/Math", name := "min", desc := "(II)I" } : Jvm.MethodName)) ∈ tb := tb_of (in_t3 (List.mem_of_getElem? (i := 110) rfl)) rfl
theorem tc_3_111 : (Jvm.Cond.methodLink "ThinAir" (199 : Nat) ({ cls := "ThinAir$Laws", name := "greatestAtHome", desc := "(LThinAir$Mark;)I" } : Jvm.MethodName)) ∈ tb := tb_of (in_t3 (List.mem_of_getElem? (i := 111) rfl)) rfl
theorem tc_3_112 : (Jvm.Cond.instanceMethod ({ cls := "ThinAir$Laws", name := "greatestAtHome", desc := "(LThinAir$Mark;)I" } : Jvm.MethodName)) ∈ tb := tb_of (in_t3 (List.mem_of_getElem? (i := 112) rfl)) rfl
theorem tc_3_113 : (Jvm.Cond.selects "ThinAir$Laws" ({ cls := "ThinAir$Laws", name := "greatestAtHome", desc := "(LThinAir$Mark;)I" } : Jvm.MethodName) ({ cls := "ThinAir$Laws", name := "greatestAtHome", desc := "(LThinAir$Mark;)I" } : Jvm.MethodName)) ∈ tb := tb_of (in_t3 (List.mem_of_getElem? (i := 113) rfl)) rfl
theorem tc_3_114 : (Jvm.Cond.code ({ cls := "ThinAir$Laws", name := "greatestAtHome", desc := "(LThinAir$Mark;)I" } : Jvm.MethodName) prog_3_method_11_code (5 : Nat) (Option.some Jvm.ClassFile.FieldType.int)) ∈ tb := tb_of (in_t3 (List.mem_of_getElem? (i := 114) rfl)) rfl
theorem tc_3_115 : (Jvm.Cond.methodLink "ThinAir$Laws" (89 : Nat) ({ cls := "java/lang/Math", name := "max", desc := "(II)I" } : Jvm.MethodName)) ∈ tb := tb_of (in_t3 (List.mem_of_getElem? (i := 115) rfl)) rfl
theorem tc_3_116 : (Jvm.Cond.methodLink "ThinAirLaw" (115 : Nat) ({ cls := "ThinAir", name := "sure", desc := "(III)I" } : Jvm.MethodName)) ∈ tb := tb_of (in_t3 (List.mem_of_getElem? (i := 116) rfl)) rfl
theorem tc_3_117 : (Jvm.Cond.instanceMethod ({ cls := "ThinAir", name := "sure", desc := "(III)I" } : Jvm.MethodName)) ∈ tb := tb_of (in_t3 (List.mem_of_getElem? (i := 117) rfl)) rfl
theorem tc_3_118 : (Jvm.Cond.selects "ThinAir" ({ cls := "ThinAir", name := "sure", desc := "(III)I" } : Jvm.MethodName) ({ cls := "ThinAir", name := "sure", desc := "(III)I" } : Jvm.MethodName)) ∈ tb := tb_of (in_t3 (List.mem_of_getElem? (i := 118) rfl)) rfl
theorem tc_3_119 : (Jvm.Cond.code ({ cls := "ThinAir", name := "sure", desc := "(III)I" } : Jvm.MethodName) prog_1_method_26_code (7 : Nat) (Option.some Jvm.ClassFile.FieldType.int)) ∈ tb := tb_of (in_t3 (List.mem_of_getElem? (i := 119) rfl)) rfl
theorem tc_3_120 : (Jvm.Cond.methodLink "ThinAirLaw" (119 : Nat) ({ cls := "ThinAir", name := "turns", desc := "(II)I" } : Jvm.MethodName)) ∈ tb := tb_of (in_t3 (List.mem_of_getElem? (i := 120) rfl)) rfl
theorem tc_3_121 : (Jvm.Cond.instanceMethod ({ cls := "ThinAir", name := "turns", desc := "(II)I" } : Jvm.MethodName)) ∈ tb := tb_of (in_t3 (List.mem_of_getElem? (i := 121) rfl)) rfl
theorem tc_3_122 : (Jvm.Cond.selects "ThinAir" ({ cls := "ThinAir", name := "turns", desc := "(II)I" } : Jvm.MethodName) ({ cls := "ThinAir", name := "turns", desc := "(II)I" } : Jvm.MethodName)) ∈ tb := tb_of (in_t3 (List.mem_of_getElem? (i := 122) rfl)) rfl
theorem tc_3_123 : (Jvm.Cond.code ({ cls := "ThinAir", name := "turns", desc := "(II)I" } : Jvm.MethodName) prog_1_method_27_code (4 : Nat) (Option.some Jvm.ClassFile.FieldType.int)) ∈ tb := tb_of (in_t3 (List.mem_of_getElem? (i := 123) rfl)) rfl
theorem tc_3_124 : (Jvm.Cond.methodLink "ThinAir" (202 : Nat) ({ cls := "ThinAir$Laws", name := "firstBelowNought", desc := "(II)I" } : Jvm.MethodName)) ∈ tb := tb_of (in_t3 (List.mem_of_getElem? (i := 124) rfl)) rfl
theorem tc_3_125 : (Jvm.Cond.instanceMethod ({ cls := "ThinAir$Laws", name := "firstBelowNought", desc := "(II)I" } : Jvm.MethodName)) ∈ tb := tb_of (in_t3 (List.mem_of_getElem? (i := 125) rfl)) rfl
theorem tc_3_126 : (Jvm.Cond.selects "ThinAir$Laws" ({ cls := "ThinAir$Laws", name := "firstBelowNought", desc := "(II)I" } : Jvm.MethodName) ({ cls := "ThinAir$Laws", name := "firstBelowNought", desc := "(II)I" } : Jvm.MethodName)) ∈ tb := tb_of (in_t3 (List.mem_of_getElem? (i := 126) rfl)) rfl
theorem tc_3_127 : (Jvm.Cond.code ({ cls := "ThinAir$Laws", name := "firstBelowNought", desc := "(II)I" } : Jvm.MethodName) prog_3_method_12_code (5 : Nat) (Option.some Jvm.ClassFile.FieldType.int)) ∈ tb := tb_of (in_t3 (List.mem_of_getElem? (i := 127) rfl)) rfl
theorem tc_3_128 : (Jvm.Cond.methodLink "ThinAirLaw" (123 : Nat) ({ cls := "ThinAir", name := "pairs", desc := "(I)I" } : Jvm.MethodName)) ∈ tb := tb_of (in_t3 (List.mem_of_getElem? (i := 128) rfl)) rfl
theorem tc_3_129 : (Jvm.Cond.instanceMethod ({ cls := "ThinAir", name := "pairs", desc := "(I)I" } : Jvm.MethodName)) ∈ tb := tb_of (in_t3 (List.mem_of_getElem? (i := 129) rfl)) rfl
theorem tc_3_130 : (Jvm.Cond.selects "ThinAir" ({ cls := "ThinAir", name := "pairs", desc := "(I)I" } : Jvm.MethodName) ({ cls := "ThinAir", name := "pairs", desc := "(I)I" } : Jvm.MethodName)) ∈ tb := tb_of (in_t3 (List.mem_of_getElem? (i := 130) rfl)) rfl
theorem tc_3_131 : (Jvm.Cond.code ({ cls := "ThinAir", name := "pairs", desc := "(I)I" } : Jvm.MethodName) prog_1_method_28_code (6 : Nat) (Option.some Jvm.ClassFile.FieldType.int)) ∈ tb := tb_of (in_t3 (List.mem_of_getElem? (i := 131) rfl)) rfl
theorem tc_3_132 : (Jvm.Cond.methodLink "ThinAir" (206 : Nat) ({ cls := "ThinAir", name := "unlikeIn", desc := "(LThinAir$Mark;LThinAir$Mark;)I" } : Jvm.MethodName)) ∈ tb := tb_of (in_t3 (List.mem_of_getElem? (i := 132) rfl)) rfl
theorem tc_3_133 : (Jvm.Cond.static ({ cls := "ThinAir", name := "unlikeIn", desc := "(LThinAir$Mark;LThinAir$Mark;)I" } : Jvm.MethodName)) ∈ tb := tb_of (in_t3 (List.mem_of_getElem? (i := 133) rfl)) rfl
theorem tc_3_134 : (Jvm.Cond.code ({ cls := "ThinAir", name := "unlikeIn", desc := "(LThinAir$Mark;LThinAir$Mark;)I" } : Jvm.MethodName) prog_1_method_61_code (4 : Nat) (Option.some Jvm.ClassFile.FieldType.int)) ∈ tb := tb_of (in_t3 (List.mem_of_getElem? (i := 134) rfl)) rfl
theorem tc_3_135 : (Jvm.Cond.methodLink "ThinAir" (216 : Nat) ({ cls := "java/lang/Math", name := "abs", desc := "(I)I" } : Jvm.MethodName)) ∈ tb := tb_of (in_t3 (List.mem_of_getElem? (i := 135) rfl)) rfl
theorem tc_3_136 : (Jvm.Cond.static ({ cls := "java/lang/Math", name := "abs", desc := "(I)I" } : Jvm.MethodName)) ∈ tb := tb_of (in_t3 (List.mem_of_getElem? (i := 136) rfl)) rfl
theorem tc_3_137 : (Jvm.Cond.code ({ cls := "java/lang/Math", name := "abs", desc := "(I)I" } : Jvm.MethodName) prog_15_method_59_code (1 : Nat) (Option.some Jvm.ClassFile.FieldType.int)) ∈ tb := tb_of (in_t3 (List.mem_of_getElem? (i := 137) rfl)) rfl
theorem tc_3_138 : (Jvm.Cond.methodLink "ThinAir" (210 : Nat) ({ cls := "ThinAir$Mark", name := "measure", desc := "(I)I" } : Jvm.MethodName)) ∈ tb := tb_of (in_t3 (List.mem_of_getElem? (i := 138) rfl)) rfl
theorem tc_3_139 : (Jvm.Cond.instanceMethod ({ cls := "ThinAir$Mark", name := "measure", desc := "(I)I" } : Jvm.MethodName)) ∈ tb := tb_of (in_t3 (List.mem_of_getElem? (i := 139) rfl)) rfl
theorem tc_3_140 : (Jvm.Cond.selects "ThinAir$Mark" ({ cls := "ThinAir$Mark", name := "measure", desc := "(I)I" } : Jvm.MethodName) ({ cls := "ThinAir$Mark", name := "measure", desc := "(I)I" } : Jvm.MethodName)) ∈ tb := tb_of (in_t3 (List.mem_of_getElem? (i := 140) rfl)) rfl
theorem tc_3_141 : (Jvm.Cond.code ({ cls := "ThinAir$Mark", name := "measure", desc := "(I)I" } : Jvm.MethodName) prog_4_method_5_code (2 : Nat) (Option.some Jvm.ClassFile.FieldType.int)) ∈ tb := tb_of (in_t3 (List.mem_of_getElem? (i := 141) rfl)) rfl
theorem tc_3_142 : (Jvm.Cond.methodLink "ThinAirLaw" (127 : Nat) ({ cls := "ThinAir", name := "learn", desc := "(I)I" } : Jvm.MethodName)) ∈ tb := tb_of (in_t3 (List.mem_of_getElem? (i := 142) rfl)) rfl
theorem tc_3_143 : (Jvm.Cond.instanceMethod ({ cls := "ThinAir", name := "learn", desc := "(I)I" } : Jvm.MethodName)) ∈ tb := tb_of (in_t3 (List.mem_of_getElem? (i := 143) rfl)) rfl
theorem tc_3_144 : (Jvm.Cond.selects "ThinAir" ({ cls := "ThinAir", name := "learn", desc := "(I)I" } : Jvm.MethodName) ({ cls := "ThinAir", name := "learn", desc := "(I)I" } : Jvm.MethodName)) ∈ tb := tb_of (in_t3 (List.mem_of_getElem? (i := 144) rfl)) rfl
theorem tc_3_145 : (Jvm.Cond.code ({ cls := "ThinAir", name := "learn", desc := "(I)I" } : Jvm.MethodName) prog_1_method_29_code (9 : Nat) (Option.some Jvm.ClassFile.FieldType.int)) ∈ tb := tb_of (in_t3 (List.mem_of_getElem? (i := 145) rfl)) rfl
theorem tc_3_146 : (Jvm.Cond.methodLink "ThinAir" (221 : Nat) ({ cls := "ThinAir", name := "tellFraction", desc := "(JJ)V" } : Jvm.MethodName)) ∈ tb := tb_of (in_t3 (List.mem_of_getElem? (i := 146) rfl)) rfl
theorem tc_3_148 : (Jvm.Cond.instanceMethod ({ cls := "ThinAir", name := "tellFraction", desc := "(JJ)V" } : Jvm.MethodName)) ∈ tb := tb_of (in_t3 (List.mem_of_getElem? (i := 148) rfl)) rfl
theorem tc_3_149 : (Jvm.Cond.code ({ cls := "ThinAir", name := "tellFraction", desc := "(JJ)V" } : Jvm.MethodName) prog_1_method_52_code (7 : Nat) (Option.none : Option Jvm.ClassFile.FieldType)) ∈ tb := tb_of (in_t3 (List.mem_of_getElem? (i := 149) rfl)) rfl
theorem tc_3_150 : (Jvm.Cond.methodLink "ThinAir" (308 : Nat) ({ cls := "java/lang/Math", name := "abs", desc := "(J)J" } : Jvm.MethodName)) ∈ tb := tb_of (in_t3 (List.mem_of_getElem? (i := 150) rfl)) rfl
theorem tc_3_151 : (Jvm.Cond.static ({ cls := "java/lang/Math", name := "abs", desc := "(J)J" } : Jvm.MethodName)) ∈ tb := tb_of (in_t3 (List.mem_of_getElem? (i := 151) rfl)) rfl
theorem tc_3_152 : (Jvm.Cond.code ({ cls := "java/lang/Math", name := "abs", desc := "(J)J" } : Jvm.MethodName) prog_15_method_61_code (2 : Nat) (Option.some Jvm.ClassFile.FieldType.long)) ∈ tb := tb_of (in_t3 (List.mem_of_getElem? (i := 152) rfl)) rfl
theorem tc_3_153 : (Jvm.Cond.methodLink "ThinAir" (310 : Nat) ({ cls := "ThinAir", name := "commonDivisor", desc := "(JJ)J" } : Jvm.MethodName)) ∈ tb := tb_of (in_t3 (List.mem_of_getElem? (i := 153) rfl)) rfl
theorem tc_3_154 : (Jvm.Cond.static ({ cls := "ThinAir", name := "commonDivisor", desc := "(JJ)J" } : Jvm.MethodName)) ∈ tb := tb_of (in_t3 (List.mem_of_getElem? (i := 154) rfl)) rfl
theorem tc_3_155 : (Jvm.Cond.code ({ cls := "ThinAir", name := "commonDivisor", desc := "(JJ)J" } : Jvm.MethodName) prog_1_method_55_code (11 : Nat) (Option.some Jvm.ClassFile.FieldType.long)) ∈ tb := tb_of (in_t3 (List.mem_of_getElem? (i := 155) rfl)) rfl
theorem tc_3_156 : (Jvm.Cond.methodLink "ThinAirLaw" (131 : Nat) ({ cls := "ThinAir", name := "just", desc := "(I)I" } : Jvm.MethodName)) ∈ tb := tb_of (in_t3 (List.mem_of_getElem? (i := 156) rfl)) rfl
theorem tc_3_157 : (Jvm.Cond.instanceMethod ({ cls := "ThinAir", name := "just", desc := "(I)I" } : Jvm.MethodName)) ∈ tb := tb_of (in_t3 (List.mem_of_getElem? (i := 157) rfl)) rfl
theorem tc_3_158 : (Jvm.Cond.selects "ThinAir" ({ cls := "ThinAir", name := "just", desc := "(I)I" } : Jvm.MethodName) ({ cls := "ThinAir", name := "just", desc := "(I)I" } : Jvm.MethodName)) ∈ tb := tb_of (in_t3 (List.mem_of_getElem? (i := 158) rfl)) rfl
theorem tc_3_159 : (Jvm.Cond.code ({ cls := "ThinAir", name := "just", desc := "(I)I" } : Jvm.MethodName) prog_1_method_30_code (5 : Nat) (Option.some Jvm.ClassFile.FieldType.int)) ∈ tb := tb_of (in_t3 (List.mem_of_getElem? (i := 159) rfl)) rfl
theorem tc_3_160 : (Jvm.Cond.methodLink "ThinAir" (228 : Nat) ({ cls := "ThinAir", name := "tellOddsOfFive", desc := "(II)V" } : Jvm.MethodName)) ∈ tb := tb_of (in_t3 (List.mem_of_getElem? (i := 160) rfl)) rfl
theorem tc_3_162 : (Jvm.Cond.instanceMethod ({ cls := "ThinAir", name := "tellOddsOfFive", desc := "(II)V" } : Jvm.MethodName)) ∈ tb := tb_of (in_t3 (List.mem_of_getElem? (i := 162) rfl)) rfl
theorem tc_3_163 : (Jvm.Cond.code ({ cls := "ThinAir", name := "tellOddsOfFive", desc := "(II)V" } : Jvm.MethodName) prog_1_method_53_code (6 : Nat) (Option.none : Option Jvm.ClassFile.FieldType)) ∈ tb := tb_of (in_t3 (List.mem_of_getElem? (i := 163) rfl)) rfl
theorem tc_3_164 : (Jvm.Cond.methodLink "ThinAir" (314 : Nat) ({ cls := "ThinAir", name := "choose", desc := "(II)J" } : Jvm.MethodName)) ∈ tb := tb_of (in_t3 (List.mem_of_getElem? (i := 164) rfl)) rfl
theorem tc_3_165 : (Jvm.Cond.static ({ cls := "ThinAir", name := "choose", desc := "(II)J" } : Jvm.MethodName)) ∈ tb := tb_of (in_t3 (List.mem_of_getElem? (i := 165) rfl)) rfl
theorem tc_3_166 : (Jvm.Cond.code ({ cls := "ThinAir", name := "choose", desc := "(II)J" } : Jvm.MethodName) prog_1_method_56_code (5 : Nat) (Option.some Jvm.ClassFile.FieldType.long)) ∈ tb := tb_of (in_t3 (List.mem_of_getElem? (i := 166) rfl)) rfl
theorem tc_3_167 : (Jvm.Cond.methodLink "ThinAir" (318 : Nat) ({ cls := "ThinAir", name := "power", desc := "(II)J" } : Jvm.MethodName)) ∈ tb := tb_of (in_t3 (List.mem_of_getElem? (i := 167) rfl)) rfl
theorem tc_3_168 : (Jvm.Cond.static ({ cls := "ThinAir", name := "power", desc := "(II)J" } : Jvm.MethodName)) ∈ tb := tb_of (in_t3 (List.mem_of_getElem? (i := 168) rfl)) rfl
theorem tc_3_169 : (Jvm.Cond.code ({ cls := "ThinAir", name := "power", desc := "(II)J" } : Jvm.MethodName) prog_1_method_57_code (5 : Nat) (Option.some Jvm.ClassFile.FieldType.long)) ∈ tb := tb_of (in_t3 (List.mem_of_getElem? (i := 169) rfl)) rfl
theorem tc_3_170 : (Jvm.Cond.methodLink "ThinAirLaw" (135 : Nat) ({ cls := "ThinAir", name := "list", desc := "(I)I" } : Jvm.MethodName)) ∈ tb := tb_of (in_t3 (List.mem_of_getElem? (i := 170) rfl)) rfl
theorem tc_3_171 : (Jvm.Cond.instanceMethod ({ cls := "ThinAir", name := "list", desc := "(I)I" } : Jvm.MethodName)) ∈ tb := tb_of (in_t3 (List.mem_of_getElem? (i := 171) rfl)) rfl
theorem tc_3_172 : (Jvm.Cond.selects "ThinAir" ({ cls := "ThinAir", name := "list", desc := "(I)I" } : Jvm.MethodName) ({ cls := "ThinAir", name := "list", desc := "(I)I" } : Jvm.MethodName)) ∈ tb := tb_of (in_t3 (List.mem_of_getElem? (i := 172) rfl)) rfl
theorem tc_3_173 : (Jvm.Cond.code ({ cls := "ThinAir", name := "list", desc := "(I)I" } : Jvm.MethodName) prog_1_method_31_code (3 : Nat) (Option.some Jvm.ClassFile.FieldType.int)) ∈ tb := tb_of (in_t3 (List.mem_of_getElem? (i := 173) rfl)) rfl
theorem tc_3_174 : (Jvm.Cond.methodLink "ThinAir" (232 : Nat) ({ cls := "ThinAir", name := "rank", desc := "(IZ)I" } : Jvm.MethodName)) ∈ tb := tb_of (in_t3 (List.mem_of_getElem? (i := 174) rfl)) rfl
theorem tc_3_176 : (Jvm.Cond.instanceMethod ({ cls := "ThinAir", name := "rank", desc := "(IZ)I" } : Jvm.MethodName)) ∈ tb := tb_of (in_t3 (List.mem_of_getElem? (i := 176) rfl)) rfl
theorem tc_3_177 : (Jvm.Cond.code ({ cls := "ThinAir", name := "rank", desc := "(IZ)I" } : Jvm.MethodName) prog_1_method_62_code (5 : Nat) (Option.some Jvm.ClassFile.FieldType.int)) ∈ tb := tb_of (in_t3 (List.mem_of_getElem? (i := 177) rfl)) rfl
theorem tc_3_178 : (Jvm.Cond.methodLink "ThinAir" (327 : Nat) ({ cls := "ThinAir", name := "lacksLaws", desc := "(LThinAir$Rules;)Z" } : Jvm.MethodName)) ∈ tb := tb_of (in_t3 (List.mem_of_getElem? (i := 178) rfl)) rfl
theorem tc_3_180 : (Jvm.Cond.instanceMethod ({ cls := "ThinAir", name := "lacksLaws", desc := "(LThinAir$Rules;)Z" } : Jvm.MethodName)) ∈ tb := tb_of (in_t3 (List.mem_of_getElem? (i := 180) rfl)) rfl
theorem tc_3_181 : (Jvm.Cond.code ({ cls := "ThinAir", name := "lacksLaws", desc := "(LThinAir$Rules;)Z" } : Jvm.MethodName) prog_1_method_64_code (2 : Nat) (Option.some Jvm.ClassFile.FieldType.boolean)) ∈ tb := tb_of (in_t3 (List.mem_of_getElem? (i := 181) rfl)) rfl
theorem tc_3_182 : (Jvm.Cond.methodLink "ThinAir" (331 : Nat) ({ cls := "ThinAir", name := "fill", desc := "(LThinAir$Ranking;LThinAir$Rules;)V" } : Jvm.MethodName)) ∈ tb := tb_of (in_t3 (List.mem_of_getElem? (i := 182) rfl)) rfl
theorem tc_3_184 : (Jvm.Cond.instanceMethod ({ cls := "ThinAir", name := "fill", desc := "(LThinAir$Ranking;LThinAir$Rules;)V" } : Jvm.MethodName)) ∈ tb := tb_of (in_t3 (List.mem_of_getElem? (i := 184) rfl)) rfl
theorem tc_3_185 : (Jvm.Cond.code ({ cls := "ThinAir", name := "fill", desc := "(LThinAir$Ranking;LThinAir$Rules;)V" } : Jvm.MethodName) prog_1_method_65_code (6 : Nat) (Option.none : Option Jvm.ClassFile.FieldType)) ∈ tb := tb_of (in_t3 (List.mem_of_getElem? (i := 185) rfl)) rfl
theorem tc_3_186 : (Jvm.Cond.methodLink "ThinAir" (343 : Nat) ({ cls := "ThinAir$Rules", name := "let", desc := "(LThinAir$Mark;)Z" } : Jvm.MethodName)) ∈ tb := tb_of (in_t3 (List.mem_of_getElem? (i := 186) rfl)) rfl
theorem tc_3_187 : (Jvm.Cond.instanceMethod ({ cls := "ThinAir$Rules", name := "let", desc := "(LThinAir$Mark;)Z" } : Jvm.MethodName)) ∈ tb := tb_of (in_t3 (List.mem_of_getElem? (i := 187) rfl)) rfl
theorem tc_3_188 : (Jvm.Cond.selects "ThinAir$Rules" ({ cls := "ThinAir$Rules", name := "let", desc := "(LThinAir$Mark;)Z" } : Jvm.MethodName) ({ cls := "ThinAir$Rules", name := "let", desc := "(LThinAir$Mark;)Z" } : Jvm.MethodName)) ∈ tb := tb_of (in_t3 (List.mem_of_getElem? (i := 188) rfl)) rfl
theorem tc_3_189 : (Jvm.Cond.code ({ cls := "ThinAir$Rules", name := "let", desc := "(LThinAir$Mark;)Z" } : Jvm.MethodName) prog_9_method_8_code (2 : Nat) (Option.some Jvm.ClassFile.FieldType.boolean)) ∈ tb := tb_of (in_t3 (List.mem_of_getElem? (i := 189) rfl)) rfl
theorem tc_3_190 : (Jvm.Cond.methodLink "ThinAir" (347 : Nat) ({ cls := "ThinAir$Ranking", name := "add", desc := "(II)V" } : Jvm.MethodName)) ∈ tb := tb_of (in_t3 (List.mem_of_getElem? (i := 190) rfl)) rfl
theorem tc_3_191 : (Jvm.Cond.instanceMethod ({ cls := "ThinAir$Ranking", name := "add", desc := "(II)V" } : Jvm.MethodName)) ∈ tb := tb_of (in_t3 (List.mem_of_getElem? (i := 191) rfl)) rfl
theorem tc_3_192 : (Jvm.Cond.selects "ThinAir$Ranking" ({ cls := "ThinAir$Ranking", name := "add", desc := "(II)V" } : Jvm.MethodName) ({ cls := "ThinAir$Ranking", name := "add", desc := "(II)V" } : Jvm.MethodName)) ∈ tb := tb_of (in_t3 (List.mem_of_getElem? (i := 192) rfl)) rfl
theorem tc_3_193 : (Jvm.Cond.code ({ cls := "ThinAir$Ranking", name := "add", desc := "(II)V" } : Jvm.MethodName) prog_6_method_2_code (4 : Nat) (Option.none : Option Jvm.ClassFile.FieldType)) ∈ tb := tb_of (in_t3 (List.mem_of_getElem? (i := 193) rfl)) rfl
theorem tc_3_194 : (Jvm.Cond.methodLink "ThinAir" (335 : Nat) ({ cls := "ThinAir$Ranking", name := "keepBestOfEach", desc := "([LThinAir$Mark;)V" } : Jvm.MethodName)) ∈ tb := tb_of (in_t3 (List.mem_of_getElem? (i := 194) rfl)) rfl
theorem tc_3_195 : (Jvm.Cond.instanceMethod ({ cls := "ThinAir$Ranking", name := "keepBestOfEach", desc := "([LThinAir$Mark;)V" } : Jvm.MethodName)) ∈ tb := tb_of (in_t3 (List.mem_of_getElem? (i := 195) rfl)) rfl
theorem tc_3_196 : (Jvm.Cond.selects "ThinAir$Ranking" ({ cls := "ThinAir$Ranking", name := "keepBestOfEach", desc := "([LThinAir$Mark;)V" } : Jvm.MethodName) ({ cls := "ThinAir$Ranking", name := "keepBestOfEach", desc := "([LThinAir$Mark;)V" } : Jvm.MethodName)) ∈ tb := tb_of (in_t3 (List.mem_of_getElem? (i := 196) rfl)) rfl
theorem tc_3_197 : (Jvm.Cond.code ({ cls := "ThinAir$Ranking", name := "keepBestOfEach", desc := "([LThinAir$Mark;)V" } : Jvm.MethodName) prog_6_method_3_code (5 : Nat) (Option.none : Option Jvm.ClassFile.FieldType)) ∈ tb := tb_of (in_t3 (List.mem_of_getElem? (i := 197) rfl)) rfl
theorem tc_3_198 : (Jvm.Cond.methodLink "ThinAir$Ranking" (25 : Nat) ({ cls := "java/util/Arrays", name := "fill", desc := "([II)V" } : Jvm.MethodName)) ∈ tb := tb_of (in_t3 (List.mem_of_getElem? (i := 198) rfl)) rfl
theorem tc_3_199 : (Jvm.Cond.methodLink "ThinAirLaw" (139 : Nat) ({ cls := "ThinAir", name := "listed", desc := "(II)I" } : Jvm.MethodName)) ∈ tb := tb_of (in_t3 (List.mem_of_getElem? (i := 199) rfl)) rfl
theorem tc_3_200 : (Jvm.Cond.instanceMethod ({ cls := "ThinAir", name := "listed", desc := "(II)I" } : Jvm.MethodName)) ∈ tb := tb_of (in_t3 (List.mem_of_getElem? (i := 200) rfl)) rfl
theorem tc_3_201 : (Jvm.Cond.selects "ThinAir" ({ cls := "ThinAir", name := "listed", desc := "(II)I" } : Jvm.MethodName) ({ cls := "ThinAir", name := "listed", desc := "(II)I" } : Jvm.MethodName)) ∈ tb := tb_of (in_t3 (List.mem_of_getElem? (i := 201) rfl)) rfl
theorem tc_3_202 : (Jvm.Cond.code ({ cls := "ThinAir", name := "listed", desc := "(II)I" } : Jvm.MethodName) prog_1_method_32_code (4 : Nat) (Option.some Jvm.ClassFile.FieldType.int)) ∈ tb := tb_of (in_t3 (List.mem_of_getElem? (i := 202) rfl)) rfl
theorem tc_3_203 : (Jvm.Cond.methodLink "ThinAirLaw" (143 : Nat) ({ cls := "ThinAir", name := "gains", desc := "(II)I" } : Jvm.MethodName)) ∈ tb := tb_of (in_t3 (List.mem_of_getElem? (i := 203) rfl)) rfl
theorem tc_3_204 : (Jvm.Cond.instanceMethod ({ cls := "ThinAir", name := "gains", desc := "(II)I" } : Jvm.MethodName)) ∈ tb := tb_of (in_t3 (List.mem_of_getElem? (i := 204) rfl)) rfl
theorem tc_3_205 : (Jvm.Cond.selects "ThinAir" ({ cls := "ThinAir", name := "gains", desc := "(II)I" } : Jvm.MethodName) ({ cls := "ThinAir", name := "gains", desc := "(II)I" } : Jvm.MethodName)) ∈ tb := tb_of (in_t3 (List.mem_of_getElem? (i := 205) rfl)) rfl
theorem tc_3_206 : (Jvm.Cond.code ({ cls := "ThinAir", name := "gains", desc := "(II)I" } : Jvm.MethodName) prog_1_method_33_code (6 : Nat) (Option.some Jvm.ClassFile.FieldType.int)) ∈ tb := tb_of (in_t3 (List.mem_of_getElem? (i := 206) rfl)) rfl
theorem tc_3_207 : (Jvm.Cond.methodLink "ThinAir" (243 : Nat) ({ cls := "ThinAir", name := "rankBoth", desc := "(II)I" } : Jvm.MethodName)) ∈ tb := tb_of (in_t3 (List.mem_of_getElem? (i := 207) rfl)) rfl
theorem tc_3_209 : (Jvm.Cond.instanceMethod ({ cls := "ThinAir", name := "rankBoth", desc := "(II)I" } : Jvm.MethodName)) ∈ tb := tb_of (in_t3 (List.mem_of_getElem? (i := 209) rfl)) rfl
theorem tc_3_210 : (Jvm.Cond.code ({ cls := "ThinAir", name := "rankBoth", desc := "(II)I" } : Jvm.MethodName) prog_1_method_63_code (7 : Nat) (Option.some Jvm.ClassFile.FieldType.int)) ∈ tb := tb_of (in_t3 (List.mem_of_getElem? (i := 210) rfl)) rfl
theorem tc_3_211 : (Jvm.Cond.methodLink "ThinAir" (249 : Nat) ({ cls := "java/lang/Integer", name := "bitCount", desc := "(I)I" } : Jvm.MethodName)) ∈ tb := tb_of (in_t3 (List.mem_of_getElem? (i := 211) rfl)) rfl
theorem tc_3_212 : (Jvm.Cond.static ({ cls := "java/lang/Integer", name := "bitCount", desc := "(I)I" } : Jvm.MethodName)) ∈ tb := tb_of (in_t3 (List.mem_of_getElem? (i := 212) rfl)) rfl
theorem tc_3_213 : (Jvm.Cond.code ({ cls := "java/lang/Integer", name := "bitCount", desc := "(I)I" } : Jvm.MethodName) prog_14_method_49_code (1 : Nat) (Option.some Jvm.ClassFile.FieldType.int)) ∈ tb := tb_of (in_t3 (List.mem_of_getElem? (i := 213) rfl)) rfl
theorem tc_3_214 : (Jvm.Cond.constant "java/lang/Integer" (265 : Nat) (1431655765 : Int32)) ∈ tb := tb_of (in_t3 (List.mem_of_getElem? (i := 214) rfl)) rfl
theorem tc_3_215 : (Jvm.Cond.constant "java/lang/Integer" (266 : Nat) (858993459 : Int32)) ∈ tb := tb_of (in_t3 (List.mem_of_getElem? (i := 215) rfl)) rfl
theorem tc_3_216 : (Jvm.Cond.constant "java/lang/Integer" (267 : Nat) (252645135 : Int32)) ∈ tb := tb_of (in_t3 (List.mem_of_getElem? (i := 216) rfl)) rfl
theorem tc_3_217 : (Jvm.Cond.methodLink "ThinAirLaw" (147 : Nat) ({ cls := "ThinAir", name := "far", desc := "(I)I" } : Jvm.MethodName)) ∈ tb := tb_of (in_t3 (List.mem_of_getElem? (i := 217) rfl)) rfl
theorem tc_3_218 : (Jvm.Cond.instanceMethod ({ cls := "ThinAir", name := "far", desc := "(I)I" } : Jvm.MethodName)) ∈ tb := tb_of (in_t3 (List.mem_of_getElem? (i := 218) rfl)) rfl
theorem tc_3_219 : (Jvm.Cond.selects "ThinAir" ({ cls := "ThinAir", name := "far", desc := "(I)I" } : Jvm.MethodName) ({ cls := "ThinAir", name := "far", desc := "(I)I" } : Jvm.MethodName)) ∈ tb := tb_of (in_t3 (List.mem_of_getElem? (i := 219) rfl)) rfl
theorem tc_3_220 : (Jvm.Cond.code ({ cls := "ThinAir", name := "far", desc := "(I)I" } : Jvm.MethodName) prog_1_method_34_code (4 : Nat) (Option.some Jvm.ClassFile.FieldType.int)) ∈ tb := tb_of (in_t3 (List.mem_of_getElem? (i := 220) rfl)) rfl
theorem tc_3_221 : (Jvm.Cond.methodLink "ThinAirLaw" (151 : Nat) ({ cls := "ThinAir", name := "fall", desc := "(II)I" } : Jvm.MethodName)) ∈ tb := tb_of (in_t3 (List.mem_of_getElem? (i := 221) rfl)) rfl
theorem tc_3_222 : (Jvm.Cond.instanceMethod ({ cls := "ThinAir", name := "fall", desc := "(II)I" } : Jvm.MethodName)) ∈ tb := tb_of (in_t3 (List.mem_of_getElem? (i := 222) rfl)) rfl
theorem tc_3_223 : (Jvm.Cond.selects "ThinAir" ({ cls := "ThinAir", name := "fall", desc := "(II)I" } : Jvm.MethodName) ({ cls := "ThinAir", name := "fall", desc := "(II)I" } : Jvm.MethodName)) ∈ tb := tb_of (in_t3 (List.mem_of_getElem? (i := 223) rfl)) rfl
theorem tc_3_224 : (Jvm.Cond.code ({ cls := "ThinAir", name := "fall", desc := "(II)I" } : Jvm.MethodName) prog_1_method_35_code (3 : Nat) (Option.some Jvm.ClassFile.FieldType.int)) ∈ tb := tb_of (in_t3 (List.mem_of_getElem? (i := 224) rfl)) rfl
theorem tc_3_225 : (Jvm.Cond.methodLink "ThinAirLaw" (155 : Nat) ({ cls := "ThinAir", name := "crowd", desc := "(IIII)I" } : Jvm.MethodName)) ∈ tb := tb_of (in_t3 (List.mem_of_getElem? (i := 225) rfl)) rfl
theorem tc_3_226 : (Jvm.Cond.instanceMethod ({ cls := "ThinAir", name := "crowd", desc := "(IIII)I" } : Jvm.MethodName)) ∈ tb := tb_of (in_t3 (List.mem_of_getElem? (i := 226) rfl)) rfl
theorem tc_3_227 : (Jvm.Cond.selects "ThinAir" ({ cls := "ThinAir", name := "crowd", desc := "(IIII)I" } : Jvm.MethodName) ({ cls := "ThinAir", name := "crowd", desc := "(IIII)I" } : Jvm.MethodName)) ∈ tb := tb_of (in_t3 (List.mem_of_getElem? (i := 227) rfl)) rfl
theorem tc_3_228 : (Jvm.Cond.code ({ cls := "ThinAir", name := "crowd", desc := "(IIII)I" } : Jvm.MethodName) prog_1_method_36_code (10 : Nat) (Option.some Jvm.ClassFile.FieldType.int)) ∈ tb := tb_of (in_t3 (List.mem_of_getElem? (i := 228) rfl)) rfl
theorem tc_3_229 : (Jvm.Cond.methodLink "ThinAir" (264 : Nat) ({ cls := "ThinAir", name := "tellOddsOfChoice", desc := "(IIII)V" } : Jvm.MethodName)) ∈ tb := tb_of (in_t3 (List.mem_of_getElem? (i := 229) rfl)) rfl
theorem tc_3_231 : (Jvm.Cond.instanceMethod ({ cls := "ThinAir", name := "tellOddsOfChoice", desc := "(IIII)V" } : Jvm.MethodName)) ∈ tb := tb_of (in_t3 (List.mem_of_getElem? (i := 231) rfl)) rfl
theorem tc_3_232 : (Jvm.Cond.code ({ cls := "ThinAir", name := "tellOddsOfChoice", desc := "(IIII)V" } : Jvm.MethodName) prog_1_method_54_code (8 : Nat) (Option.none : Option Jvm.ClassFile.FieldType)) ∈ tb := tb_of (in_t3 (List.mem_of_getElem? (i := 232) rfl)) rfl
theorem tc_3_233 : (Jvm.Cond.methodLink "ThinAirLaw" (159 : Nat) ({ cls := "ThinAir", name := "next", desc := "()I" } : Jvm.MethodName)) ∈ tb := tb_of (in_t3 (List.mem_of_getElem? (i := 233) rfl)) rfl
theorem tc_3_234 : (Jvm.Cond.instanceMethod ({ cls := "ThinAir", name := "next", desc := "()I" } : Jvm.MethodName)) ∈ tb := tb_of (in_t3 (List.mem_of_getElem? (i := 234) rfl)) rfl
theorem tc_3_235 : (Jvm.Cond.selects "ThinAir" ({ cls := "ThinAir", name := "next", desc := "()I" } : Jvm.MethodName) ({ cls := "ThinAir", name := "next", desc := "()I" } : Jvm.MethodName)) ∈ tb := tb_of (in_t3 (List.mem_of_getElem? (i := 235) rfl)) rfl
theorem tc_3_236 : (Jvm.Cond.code ({ cls := "ThinAir", name := "next", desc := "()I" } : Jvm.MethodName) prog_1_method_37_code (5 : Nat) (Option.some Jvm.ClassFile.FieldType.int)) ∈ tb := tb_of (in_t3 (List.mem_of_getElem? (i := 236) rfl)) rfl
theorem tc_3_237 : (Jvm.Cond.methodLink "ThinAir" (267 : Nat) ({ cls := "ThinAir", name := "marksWithoutWind", desc := "(I)I" } : Jvm.MethodName)) ∈ tb := tb_of (in_t3 (List.mem_of_getElem? (i := 237) rfl)) rfl
theorem tc_3_239 : (Jvm.Cond.instanceMethod ({ cls := "ThinAir", name := "marksWithoutWind", desc := "(I)I" } : Jvm.MethodName)) ∈ tb := tb_of (in_t3 (List.mem_of_getElem? (i := 239) rfl)) rfl
theorem tc_4_0 : (Jvm.Cond.code ({ cls := "ThinAir", name := "marksWithoutWind", desc := "(I)I" } : Jvm.MethodName) prog_1_method_66_code (4 : Nat) (Option.some Jvm.ClassFile.FieldType.int)) ∈ tb := tb_of (in_t4 (List.mem_of_getElem? (i := 0) rfl)) rfl
theorem tc_4_1 : (Jvm.Cond.methodLink "ThinAirLaw" (164 : Nat) ({ cls := "ThinAir", name := "asked", desc := "()I" } : Jvm.MethodName)) ∈ tb := tb_of (in_t4 (List.mem_of_getElem? (i := 1) rfl)) rfl
theorem tc_4_2 : (Jvm.Cond.instanceMethod ({ cls := "ThinAir", name := "asked", desc := "()I" } : Jvm.MethodName)) ∈ tb := tb_of (in_t4 (List.mem_of_getElem? (i := 2) rfl)) rfl
theorem tc_4_3 : (Jvm.Cond.selects "ThinAir" ({ cls := "ThinAir", name := "asked", desc := "()I" } : Jvm.MethodName) ({ cls := "ThinAir", name := "asked", desc := "()I" } : Jvm.MethodName)) ∈ tb := tb_of (in_t4 (List.mem_of_getElem? (i := 3) rfl)) rfl
theorem tc_4_4 : (Jvm.Cond.code ({ cls := "ThinAir", name := "asked", desc := "()I" } : Jvm.MethodName) prog_1_method_38_code (1 : Nat) (Option.some Jvm.ClassFile.FieldType.int)) ∈ tb := tb_of (in_t4 (List.mem_of_getElem? (i := 4) rfl)) rfl
theorem tc_4_5 : (Jvm.Cond.methodLink "ThinAirLaw" (168 : Nat) ({ cls := "ThinAir", name := "upper", desc := "()J" } : Jvm.MethodName)) ∈ tb := tb_of (in_t4 (List.mem_of_getElem? (i := 5) rfl)) rfl
theorem tc_4_6 : (Jvm.Cond.instanceMethod ({ cls := "ThinAir", name := "upper", desc := "()J" } : Jvm.MethodName)) ∈ tb := tb_of (in_t4 (List.mem_of_getElem? (i := 6) rfl)) rfl
theorem tc_4_7 : (Jvm.Cond.selects "ThinAir" ({ cls := "ThinAir", name := "upper", desc := "()J" } : Jvm.MethodName) ({ cls := "ThinAir", name := "upper", desc := "()J" } : Jvm.MethodName)) ∈ tb := tb_of (in_t4 (List.mem_of_getElem? (i := 7) rfl)) rfl
theorem tc_4_8 : (Jvm.Cond.code ({ cls := "ThinAir", name := "upper", desc := "()J" } : Jvm.MethodName) prog_1_method_39_code (1 : Nat) (Option.some Jvm.ClassFile.FieldType.long)) ∈ tb := tb_of (in_t4 (List.mem_of_getElem? (i := 8) rfl)) rfl
theorem tc_4_9 : (Jvm.Cond.methodLink "ThinAirLaw" (173 : Nat) ({ cls := "ThinAir", name := "lower", desc := "()J" } : Jvm.MethodName)) ∈ tb := tb_of (in_t4 (List.mem_of_getElem? (i := 9) rfl)) rfl
theorem tc_4_10 : (Jvm.Cond.instanceMethod ({ cls := "ThinAir", name := "lower", desc := "()J" } : Jvm.MethodName)) ∈ tb := tb_of (in_t4 (List.mem_of_getElem? (i := 10) rfl)) rfl
theorem tc_4_11 : (Jvm.Cond.selects "ThinAir" ({ cls := "ThinAir", name := "lower", desc := "()J" } : Jvm.MethodName) ({ cls := "ThinAir", name := "lower", desc := "()J" } : Jvm.MethodName)) ∈ tb := tb_of (in_t4 (List.mem_of_getElem? (i := 11) rfl)) rfl
theorem tc_4_12 : (Jvm.Cond.code ({ cls := "ThinAir", name := "lower", desc := "()J" } : Jvm.MethodName) prog_1_method_40_code (1 : Nat) (Option.some Jvm.ClassFile.FieldType.long)) ∈ tb := tb_of (in_t4 (List.mem_of_getElem? (i := 12) rfl)) rfl
theorem tc_4_13 : (Jvm.Cond.methodLink "ThinAirLaw" (177 : Nat) ({ cls := "ThinAir", name := "count", desc := "(I)I" } : Jvm.MethodName)) ∈ tb := tb_of (in_t4 (List.mem_of_getElem? (i := 13) rfl)) rfl
theorem tc_4_14 : (Jvm.Cond.instanceMethod ({ cls := "ThinAir", name := "count", desc := "(I)I" } : Jvm.MethodName)) ∈ tb := tb_of (in_t4 (List.mem_of_getElem? (i := 14) rfl)) rfl
theorem tc_4_15 : (Jvm.Cond.selects "ThinAir" ({ cls := "ThinAir", name := "count", desc := "(I)I" } : Jvm.MethodName) ({ cls := "ThinAir", name := "count", desc := "(I)I" } : Jvm.MethodName)) ∈ tb := tb_of (in_t4 (List.mem_of_getElem? (i := 15) rfl)) rfl
theorem tc_4_16 : (Jvm.Cond.code ({ cls := "ThinAir", name := "count", desc := "(I)I" } : Jvm.MethodName) prog_1_method_41_code (2 : Nat) (Option.some Jvm.ClassFile.FieldType.int)) ∈ tb := tb_of (in_t4 (List.mem_of_getElem? (i := 16) rfl)) rfl
theorem tc_4_17 : (Jvm.Cond.methodLink "ThinAir" (276 : Nat) ({ cls := "ThinAir", name := "marksHelped", desc := "()I" } : Jvm.MethodName)) ∈ tb := tb_of (in_t4 (List.mem_of_getElem? (i := 17) rfl)) rfl
theorem tc_4_19 : (Jvm.Cond.instanceMethod ({ cls := "ThinAir", name := "marksHelped", desc := "()I" } : Jvm.MethodName)) ∈ tb := tb_of (in_t4 (List.mem_of_getElem? (i := 19) rfl)) rfl
theorem tc_4_20 : (Jvm.Cond.code ({ cls := "ThinAir", name := "marksHelped", desc := "()I" } : Jvm.MethodName) prog_1_method_67_code (3 : Nat) (Option.some Jvm.ClassFile.FieldType.int)) ∈ tb := tb_of (in_t4 (List.mem_of_getElem? (i := 20) rfl)) rfl
theorem tc_4_21 : (Jvm.Cond.methodLink "ThinAir" (280 : Nat) ({ cls := "ThinAir", name := "marksStruck", desc := "()I" } : Jvm.MethodName)) ∈ tb := tb_of (in_t4 (List.mem_of_getElem? (i := 21) rfl)) rfl
theorem tc_4_23 : (Jvm.Cond.instanceMethod ({ cls := "ThinAir", name := "marksStruck", desc := "()I" } : Jvm.MethodName)) ∈ tb := tb_of (in_t4 (List.mem_of_getElem? (i := 23) rfl)) rfl
theorem tc_4_24 : (Jvm.Cond.code ({ cls := "ThinAir", name := "marksStruck", desc := "()I" } : Jvm.MethodName) prog_1_method_68_code (3 : Nat) (Option.some Jvm.ClassFile.FieldType.int)) ∈ tb := tb_of (in_t4 (List.mem_of_getElem? (i := 24) rfl)) rfl
theorem tc_4_25 : (Jvm.Cond.methodLink "ThinAir" (283 : Nat) ({ cls := "ThinAir", name := "stripsThere", desc := "([LThinAir$Strip;)I" } : Jvm.MethodName)) ∈ tb := tb_of (in_t4 (List.mem_of_getElem? (i := 25) rfl)) rfl
theorem tc_4_26 : (Jvm.Cond.static ({ cls := "ThinAir", name := "stripsThere", desc := "([LThinAir$Strip;)I" } : Jvm.MethodName)) ∈ tb := tb_of (in_t4 (List.mem_of_getElem? (i := 26) rfl)) rfl
theorem tc_4_27 : (Jvm.Cond.code ({ cls := "ThinAir", name := "stripsThere", desc := "([LThinAir$Strip;)I" } : Jvm.MethodName) prog_1_method_69_code (3 : Nat) (Option.some Jvm.ClassFile.FieldType.int)) ∈ tb := tb_of (in_t4 (List.mem_of_getElem? (i := 27) rfl)) rfl
theorem tc_4_28 : (Jvm.Cond.methodLink "ThinAir" (353 : Nat) ({ cls := "ThinAir$Strip", name := "isMissing", desc := "()Z" } : Jvm.MethodName)) ∈ tb := tb_of (in_t4 (List.mem_of_getElem? (i := 28) rfl)) rfl
theorem tc_4_29 : (Jvm.Cond.methodLink "ThinAir" (287 : Nat) ({ cls := "ThinAir", name := "lawsThere", desc := "()I" } : Jvm.MethodName)) ∈ tb := tb_of (in_t4 (List.mem_of_getElem? (i := 29) rfl)) rfl
theorem tc_4_31 : (Jvm.Cond.instanceMethod ({ cls := "ThinAir", name := "lawsThere", desc := "()I" } : Jvm.MethodName)) ∈ tb := tb_of (in_t4 (List.mem_of_getElem? (i := 31) rfl)) rfl
theorem tc_4_32 : (Jvm.Cond.code ({ cls := "ThinAir", name := "lawsThere", desc := "()I" } : Jvm.MethodName) prog_1_method_70_code (3 : Nat) (Option.some Jvm.ClassFile.FieldType.int)) ∈ tb := tb_of (in_t4 (List.mem_of_getElem? (i := 32) rfl)) rfl
theorem tc_4_33 : (Jvm.Cond.methodLink "ThinAirLaw" (181 : Nat) ({ cls := "ThinAir", name := "finding", desc := "()I" } : Jvm.MethodName)) ∈ tb := tb_of (in_t4 (List.mem_of_getElem? (i := 33) rfl)) rfl
theorem tc_4_34 : (Jvm.Cond.instanceMethod ({ cls := "ThinAir", name := "finding", desc := "()I" } : Jvm.MethodName)) ∈ tb := tb_of (in_t4 (List.mem_of_getElem? (i := 34) rfl)) rfl
theorem tc_4_35 : (Jvm.Cond.selects "ThinAir" ({ cls := "ThinAir", name := "finding", desc := "()I" } : Jvm.MethodName) ({ cls := "ThinAir", name := "finding", desc := "()I" } : Jvm.MethodName)) ∈ tb := tb_of (in_t4 (List.mem_of_getElem? (i := 35) rfl)) rfl
theorem tc_4_36 : (Jvm.Cond.code ({ cls := "ThinAir", name := "finding", desc := "()I" } : Jvm.MethodName) prog_1_method_42_code (1 : Nat) (Option.some Jvm.ClassFile.FieldType.int)) ∈ tb := tb_of (in_t4 (List.mem_of_getElem? (i := 36) rfl)) rfl
theorem tc_4_37 : (Jvm.Cond.methodLink "ThinAirLaw" (185 : Nat) ({ cls := "ThinAir", name := "findings", desc := "(I)I" } : Jvm.MethodName)) ∈ tb := tb_of (in_t4 (List.mem_of_getElem? (i := 37) rfl)) rfl
theorem tc_4_38 : (Jvm.Cond.instanceMethod ({ cls := "ThinAir", name := "findings", desc := "(I)I" } : Jvm.MethodName)) ∈ tb := tb_of (in_t4 (List.mem_of_getElem? (i := 38) rfl)) rfl
theorem tc_4_39 : (Jvm.Cond.selects "ThinAir" ({ cls := "ThinAir", name := "findings", desc := "(I)I" } : Jvm.MethodName) ({ cls := "ThinAir", name := "findings", desc := "(I)I" } : Jvm.MethodName)) ∈ tb := tb_of (in_t4 (List.mem_of_getElem? (i := 39) rfl)) rfl
theorem tc_4_40 : (Jvm.Cond.code ({ cls := "ThinAir", name := "findings", desc := "(I)I" } : Jvm.MethodName) prog_1_method_43_code (2 : Nat) (Option.some Jvm.ClassFile.FieldType.int)) ∈ tb := tb_of (in_t4 (List.mem_of_getElem? (i := 40) rfl)) rfl
theorem tc_4_41 : (Jvm.Cond.methodLink "ThinAirLaw" (189 : Nat) ({ cls := "ThinAir", name := "digest", desc := "()J" } : Jvm.MethodName)) ∈ tb := tb_of (in_t4 (List.mem_of_getElem? (i := 41) rfl)) rfl
theorem tc_4_42 : (Jvm.Cond.instanceMethod ({ cls := "ThinAir", name := "digest", desc := "()J" } : Jvm.MethodName)) ∈ tb := tb_of (in_t4 (List.mem_of_getElem? (i := 42) rfl)) rfl
theorem tc_4_43 : (Jvm.Cond.selects "ThinAir" ({ cls := "ThinAir", name := "digest", desc := "()J" } : Jvm.MethodName) ({ cls := "ThinAir", name := "digest", desc := "()J" } : Jvm.MethodName)) ∈ tb := tb_of (in_t4 (List.mem_of_getElem? (i := 43) rfl)) rfl
theorem tc_4_44 : (Jvm.Cond.code ({ cls := "ThinAir", name := "digest", desc := "()J" } : Jvm.MethodName) prog_1_method_44_code (4 : Nat) (Option.some Jvm.ClassFile.FieldType.long)) ∈ tb := tb_of (in_t4 (List.mem_of_getElem? (i := 44) rfl)) rfl
theorem tc_4_45 : (Jvm.Cond.constantLong "ThinAir" (293 : Nat) (17 : Int64)) ∈ tb := tb_of (in_t4 (List.mem_of_getElem? (i := 45) rfl)) rfl
theorem tc_4_46 : (Jvm.Cond.constantLong "ThinAir" (295 : Nat) (31 : Int64)) ∈ tb := tb_of (in_t4 (List.mem_of_getElem? (i := 46) rfl)) rfl
theorem tc_4_47 : (Jvm.Cond.methodLink "ThinAir" (297 : Nat) ({ cls := "ThinAir", name := "count", desc := "(I)I" } : Jvm.MethodName)) ∈ tb := tb_of (in_t4 (List.mem_of_getElem? (i := 47) rfl)) rfl
theorem tc_4_48 : (Jvm.Cond.methodLink "ThinAir" (300 : Nat) ({ cls := "ThinAir$Place", name := "mixInto", desc := "(J)J" } : Jvm.MethodName)) ∈ tb := tb_of (in_t4 (List.mem_of_getElem? (i := 48) rfl)) rfl
theorem tc_4_49 : (Jvm.Cond.instanceMethod ({ cls := "ThinAir$Place", name := "mixInto", desc := "(J)J" } : Jvm.MethodName)) ∈ tb := tb_of (in_t4 (List.mem_of_getElem? (i := 49) rfl)) rfl
theorem tc_4_50 : (Jvm.Cond.selects "ThinAir$Place" ({ cls := "ThinAir$Place", name := "mixInto", desc := "(J)J" } : Jvm.MethodName) ({ cls := "ThinAir$Place", name := "mixInto", desc := "(J)J" } : Jvm.MethodName)) ∈ tb := tb_of (in_t4 (List.mem_of_getElem? (i := 50) rfl)) rfl
theorem tc_4_51 : (Jvm.Cond.code ({ cls := "ThinAir$Place", name := "mixInto", desc := "(J)J" } : Jvm.MethodName) prog_5_method_3_code (6 : Nat) (Option.some Jvm.ClassFile.FieldType.long)) ∈ tb := tb_of (in_t4 (List.mem_of_getElem? (i := 51) rfl)) rfl
theorem tc_4_52 : (Jvm.Cond.constantLong "ThinAir$Place" (22 : Nat) (31 : Int64)) ∈ tb := tb_of (in_t4 (List.mem_of_getElem? (i := 52) rfl)) rfl
theorem tc_4_53 : (Jvm.Cond.methodLink "ThinAir$Place" (24 : Nat) ({ cls := "ThinAir$Place", name := "part", desc := "(I)I" } : Jvm.MethodName)) ∈ tb := tb_of (in_t4 (List.mem_of_getElem? (i := 53) rfl)) rfl
theorem tc_4_54 : (Jvm.Cond.methodLink "ThinAir" (304 : Nat) ({ cls := "ThinAir$Mark", name := "mixInto", desc := "(J)J" } : Jvm.MethodName)) ∈ tb := tb_of (in_t4 (List.mem_of_getElem? (i := 54) rfl)) rfl
theorem tc_4_55 : (Jvm.Cond.instanceMethod ({ cls := "ThinAir$Mark", name := "mixInto", desc := "(J)J" } : Jvm.MethodName)) ∈ tb := tb_of (in_t4 (List.mem_of_getElem? (i := 55) rfl)) rfl
theorem tc_4_56 : (Jvm.Cond.selects "ThinAir$Mark" ({ cls := "ThinAir$Mark", name := "mixInto", desc := "(J)J" } : Jvm.MethodName) ({ cls := "ThinAir$Mark", name := "mixInto", desc := "(J)J" } : Jvm.MethodName)) ∈ tb := tb_of (in_t4 (List.mem_of_getElem? (i := 56) rfl)) rfl
theorem tc_4_57 : (Jvm.Cond.code ({ cls := "ThinAir$Mark", name := "mixInto", desc := "(J)J" } : Jvm.MethodName) prog_4_method_6_code (6 : Nat) (Option.some Jvm.ClassFile.FieldType.long)) ∈ tb := tb_of (in_t4 (List.mem_of_getElem? (i := 57) rfl)) rfl
theorem tc_4_58 : (Jvm.Cond.constantLong "ThinAir$Mark" (54 : Nat) (31 : Int64)) ∈ tb := tb_of (in_t4 (List.mem_of_getElem? (i := 58) rfl)) rfl
theorem tc_4_59 : (Jvm.Cond.methodLink "ThinAir$Mark" (56 : Nat) ({ cls := "ThinAir$Mark", name := "part", desc := "(I)I" } : Jvm.MethodName)) ∈ tb := tb_of (in_t4 (List.mem_of_getElem? (i := 59) rfl)) rfl
theorem tc_4_60 : (Jvm.Cond.methodLink "ThinAir" (305 : Nat) ({ cls := "ThinAir$Laws", name := "mixInto", desc := "(J)J" } : Jvm.MethodName)) ∈ tb := tb_of (in_t4 (List.mem_of_getElem? (i := 60) rfl)) rfl
theorem tc_4_61 : (Jvm.Cond.instanceMethod ({ cls := "ThinAir$Laws", name := "mixInto", desc := "(J)J" } : Jvm.MethodName)) ∈ tb := tb_of (in_t4 (List.mem_of_getElem? (i := 61) rfl)) rfl
theorem tc_4_62 : (Jvm.Cond.selects "ThinAir$Laws" ({ cls := "ThinAir$Laws", name := "mixInto", desc := "(J)J" } : Jvm.MethodName) ({ cls := "ThinAir$Laws", name := "mixInto", desc := "(J)J" } : Jvm.MethodName)) ∈ tb := tb_of (in_t4 (List.mem_of_getElem? (i := 62) rfl)) rfl
theorem tc_4_63 : (Jvm.Cond.code ({ cls := "ThinAir$Laws", name := "mixInto", desc := "(J)J" } : Jvm.MethodName) prog_3_method_13_code (6 : Nat) (Option.some Jvm.ClassFile.FieldType.long)) ∈ tb := tb_of (in_t4 (List.mem_of_getElem? (i := 63) rfl)) rfl
theorem tc_4_64 : (Jvm.Cond.constantLong "ThinAir$Laws" (92 : Nat) (31 : Int64)) ∈ tb := tb_of (in_t4 (List.mem_of_getElem? (i := 64) rfl)) rfl
theorem tc_4_65 : (Jvm.Cond.methodLink "ThinAir" (306 : Nat) ({ cls := "ThinAir$Row", name := "mixInto", desc := "(J)J" } : Jvm.MethodName)) ∈ tb := tb_of (in_t4 (List.mem_of_getElem? (i := 65) rfl)) rfl
theorem tc_4_66 : (Jvm.Cond.sameMethod "ThinAir$Row" "ThinAir$Strip" "mixInto" "(J)J") ∈ tb := tb_of (in_t4 (List.mem_of_getElem? (i := 66) rfl)) rfl
theorem tc_4_68 : (Jvm.Cond.selects "ThinAir$Row" ({ cls := "ThinAir$Row", name := "mixInto", desc := "(J)J" } : Jvm.MethodName) ({ cls := "ThinAir$Strip", name := "mixInto", desc := "(J)J" } : Jvm.MethodName)) ∈ tb := tb_of (in_t4 (List.mem_of_getElem? (i := 68) rfl)) rfl
theorem tc_4_69 : (Jvm.Cond.instanceMethod ({ cls := "ThinAir$Strip", name := "mixInto", desc := "(J)J" } : Jvm.MethodName)) ∈ tb := tb_of (in_t4 (List.mem_of_getElem? (i := 69) rfl)) rfl
theorem tc_4_70 : (Jvm.Cond.code ({ cls := "ThinAir$Strip", name := "mixInto", desc := "(J)J" } : Jvm.MethodName) prog_10_method_6_code (6 : Nat) (Option.some Jvm.ClassFile.FieldType.long)) ∈ tb := tb_of (in_t4 (List.mem_of_getElem? (i := 70) rfl)) rfl
theorem tc_4_71 : (Jvm.Cond.constantLong "ThinAir$Strip" (13 : Nat) (31 : Int64)) ∈ tb := tb_of (in_t4 (List.mem_of_getElem? (i := 71) rfl)) rfl
theorem tc_4_72 : (Jvm.Cond.methodLink "ThinAir$Strip" (15 : Nat) ({ cls := "ThinAir$Strip", name := "cell", desc := "(I)I" } : Jvm.MethodName)) ∈ tb := tb_of (in_t4 (List.mem_of_getElem? (i := 72) rfl)) rfl
theorem tc_4_74 : (Jvm.Cond.sameMethod "ThinAir$Strip" "ThinAir$Strip" "cell" "(I)I") ∈ tb := tb_of (in_t4 (List.mem_of_getElem? (i := 74) rfl)) rfl
theorem tc_4_75 : (Jvm.Cond.selects "ThinAir$Row" ({ cls := "ThinAir$Strip", name := "cell", desc := "(I)I" } : Jvm.MethodName) ({ cls := "ThinAir$Row", name := "cell", desc := "(I)I" } : Jvm.MethodName)) ∈ tb := tb_of (in_t4 (List.mem_of_getElem? (i := 75) rfl)) rfl
theorem tc_4_76 : (Jvm.Cond.selects "ThinAir$Text" ({ cls := "ThinAir$Strip", name := "cell", desc := "(I)I" } : Jvm.MethodName) ({ cls := "ThinAir$Text", name := "cell", desc := "(I)I" } : Jvm.MethodName)) ∈ tb := tb_of (in_t4 (List.mem_of_getElem? (i := 76) rfl)) rfl
theorem tc_4_77 : (Jvm.Cond.instanceMethod ({ cls := "ThinAir$Text", name := "cell", desc := "(I)I" } : Jvm.MethodName)) ∈ tb := tb_of (in_t4 (List.mem_of_getElem? (i := 77) rfl)) rfl
theorem tc_4_78 : (Jvm.Cond.code ({ cls := "ThinAir$Text", name := "cell", desc := "(I)I" } : Jvm.MethodName) prog_11_method_2_code (2 : Nat) (Option.some Jvm.ClassFile.FieldType.int)) ∈ tb := tb_of (in_t4 (List.mem_of_getElem? (i := 78) rfl)) rfl
theorem tc_4_79 : (Jvm.Cond.methodLink "ThinAir$Text" (15 : Nat) ({ cls := "ThinAir$Text", name := "has", desc := "(I)Z" } : Jvm.MethodName)) ∈ tb := tb_of (in_t4 (List.mem_of_getElem? (i := 79) rfl)) rfl
theorem tc_4_80 : (Jvm.Cond.methodLink "ThinAir" (307 : Nat) ({ cls := "ThinAir$Text", name := "mixInto", desc := "(J)J" } : Jvm.MethodName)) ∈ tb := tb_of (in_t4 (List.mem_of_getElem? (i := 80) rfl)) rfl
theorem tc_4_81 : (Jvm.Cond.sameMethod "ThinAir$Text" "ThinAir$Strip" "mixInto" "(J)J") ∈ tb := tb_of (in_t4 (List.mem_of_getElem? (i := 81) rfl)) rfl
theorem tc_4_82 : (Jvm.Cond.selects "ThinAir$Text" ({ cls := "ThinAir$Text", name := "mixInto", desc := "(J)J" } : Jvm.MethodName) ({ cls := "ThinAir$Strip", name := "mixInto", desc := "(J)J" } : Jvm.MethodName)) ∈ tb := tb_of (in_t4 (List.mem_of_getElem? (i := 82) rfl)) rfl
theorem tc_4_83 : (Jvm.Cond.classLink "ThinAirLaw" (10 : Nat) "ThinAirModel") ∈ tb := tb_of (in_t4 (List.mem_of_getElem? (i := 83) rfl)) rfl
theorem tc_4_84 : (Jvm.Cond.instantiable "ThinAirModel" (32 : Nat)) ∈ tb := tb_of (in_t4 (List.mem_of_getElem? (i := 84) rfl)) rfl
theorem tc_4_85 : (Jvm.Cond.methodLink "ThinAirLaw" (12 : Nat) ({ cls := "ThinAirModel", name := "<init>", desc := "()V" } : Jvm.MethodName)) ∈ tb := tb_of (in_t4 (List.mem_of_getElem? (i := 85) rfl)) rfl
theorem tc_4_86 : (Jvm.Cond.instanceMethod ({ cls := "ThinAirModel", name := "<init>", desc := "()V" } : Jvm.MethodName)) ∈ tb := tb_of (in_t4 (List.mem_of_getElem? (i := 86) rfl)) rfl
theorem tc_4_87 : (Jvm.Cond.code ({ cls := "ThinAirModel", name := "<init>", desc := "()V" } : Jvm.MethodName) prog_13_method_1_code (2 : Nat) (Option.none : Option Jvm.ClassFile.FieldType)) ∈ tb := tb_of (in_t4 (List.mem_of_getElem? (i := 87) rfl)) rfl
theorem tc_4_88 : (Jvm.Cond.methodLink "ThinAirModel" (1 : Nat) ({ cls := "java/lang/Object", name := "<init>", desc := "()V" } : Jvm.MethodName)) ∈ tb := tb_of (in_t4 (List.mem_of_getElem? (i := 88) rfl)) rfl
theorem tc_4_89 : (Jvm.Cond.fieldLink "ThinAirModel" (60 : Nat) "ThinAirModel" "finding" "I") ∈ tb := tb_of (in_t4 (List.mem_of_getElem? (i := 89) rfl)) rfl
theorem tc_4_90 : (Jvm.Cond.fieldLink "ThinAirModel" (7 : Nat) "ThinAirModel" "findings" "[I") ∈ tb := tb_of (in_t4 (List.mem_of_getElem? (i := 90) rfl)) rfl
theorem tc_4_91 : (Jvm.Cond.fieldLink "ThinAirModel" (64 : Nat) "ThinAirModel" "asked" "I") ∈ tb := tb_of (in_t4 (List.mem_of_getElem? (i := 91) rfl)) rfl
theorem tc_4_92 : (Jvm.Cond.fieldLink "ThinAirModel" (67 : Nat) "ThinAirModel" "upper" "J") ∈ tb := tb_of (in_t4 (List.mem_of_getElem? (i := 92) rfl)) rfl
theorem tc_4_93 : (Jvm.Cond.fieldLink "ThinAirModel" (13 : Nat) "ThinAirModel" "lower" "J") ∈ tb := tb_of (in_t4 (List.mem_of_getElem? (i := 93) rfl)) rfl
theorem tc_4_94 : (Jvm.Cond.fieldLink "ThinAirModel" (98 : Nat) "ThinAirModel" "today" "I") ∈ tb := tb_of (in_t4 (List.mem_of_getElem? (i := 94) rfl)) rfl
theorem tc_4_95 : (Jvm.Cond.fieldLink "ThinAirModel" (17 : Nat) "ThinAirModel" "sizes" "[I") ∈ tb := tb_of (in_t4 (List.mem_of_getElem? (i := 95) rfl)) rfl
theorem tc_4_96 : (Jvm.Cond.fieldLink "ThinAirModel" (20 : Nat) "ThinAirModel" "rows" "[I") ∈ tb := tb_of (in_t4 (List.mem_of_getElem? (i := 96) rfl)) rfl
theorem tc_4_97 : (Jvm.Cond.fieldLink "ThinAirModel" (23 : Nat) "ThinAirModel" "moving" "[I") ∈ tb := tb_of (in_t4 (List.mem_of_getElem? (i := 97) rfl)) rfl
theorem tc_4_98 : (Jvm.Cond.fieldLink "ThinAirModel" (26 : Nat) "ThinAirModel" "lengths" "[I") ∈ tb := tb_of (in_t4 (List.mem_of_getElem? (i := 98) rfl)) rfl
theorem tc_4_99 : (Jvm.Cond.fieldLink "ThinAirModel" (29 : Nat) "ThinAirModel" "texts" "[I") ∈ tb := tb_of (in_t4 (List.mem_of_getElem? (i := 99) rfl)) rfl
theorem tc_4_100 : (Jvm.Cond.fieldLink "ThinAirModel" (101 : Nat) "ThinAirModel" "placeMany" "I") ∈ tb := tb_of (in_t4 (List.mem_of_getElem? (i := 100) rfl)) rfl
theorem tc_4_101 : (Jvm.Cond.fieldLink "ThinAirModel" (32 : Nat) "ThinAirModel" "abouts" "[I") ∈ tb := tb_of (in_t4 (List.mem_of_getElem? (i := 101) rfl)) rfl
theorem tc_4_102 : (Jvm.Cond.fieldLink "ThinAirModel" (107 : Nat) "ThinAirModel" "markMany" "I") ∈ tb := tb_of (in_t4 (List.mem_of_getElem? (i := 102) rfl)) rfl
theorem tc_4_103 : (Jvm.Cond.fieldLink "ThinAirModel" (35 : Nat) "ThinAirModel" "parts" "[I") ∈ tb := tb_of (in_t4 (List.mem_of_getElem? (i := 103) rfl)) rfl
theorem tc_4_104 : (Jvm.Cond.fieldLink "ThinAirModel" (38 : Nat) "ThinAirModel" "much" "[I") ∈ tb := tb_of (in_t4 (List.mem_of_getElem? (i := 104) rfl)) rfl
theorem tc_4_105 : (Jvm.Cond.fieldLink "ThinAirModel" (41 : Nat) "ThinAirModel" "more" "[I") ∈ tb := tb_of (in_t4 (List.mem_of_getElem? (i := 105) rfl)) rfl
theorem tc_4_106 : (Jvm.Cond.fieldLink "ThinAirModel" (136 : Nat) "ThinAirModel" "readAt" "I") ∈ tb := tb_of (in_t4 (List.mem_of_getElem? (i := 106) rfl)) rfl
theorem tc_4_107 : (Jvm.Cond.fieldLink "ThinAirModel" (142 : Nat) "ThinAirModel" "readNumber" "I") ∈ tb := tb_of (in_t4 (List.mem_of_getElem? (i := 107) rfl)) rfl
theorem tc_4_108 : (Jvm.Cond.fieldLink "ThinAirModel" (170 : Nat) "ThinAirModel" "itemMany" "I") ∈ tb := tb_of (in_t4 (List.mem_of_getElem? (i := 108) rfl)) rfl
theorem tc_4_109 : (Jvm.Cond.fieldLink "ThinAirModel" (44 : Nat) "ThinAirModel" "readNumbers" "[I") ∈ tb := tb_of (in_t4 (List.mem_of_getElem? (i := 109) rfl)) rfl
theorem tc_4_110 : (Jvm.Cond.fieldLink "ThinAirModel" (158 : Nat) "ThinAirModel" "mostWind" "I") ∈ tb := tb_of (in_t4 (List.mem_of_getElem? (i := 110) rfl)) rfl
theorem tc_4_111 : (Jvm.Cond.fieldLink "ThinAirModel" (161 : Nat) "ThinAirModel" "mostHeight" "I") ∈ tb := tb_of (in_t4 (List.mem_of_getElem? (i := 111) rfl)) rfl
theorem tc_4_112 : (Jvm.Cond.fieldLink "ThinAirModel" (164 : Nat) "ThinAirModel" "firstYear" "I") ∈ tb := tb_of (in_t4 (List.mem_of_getElem? (i := 112) rfl)) rfl
theorem tc_4_113 : (Jvm.Cond.fieldLink "ThinAirModel" (167 : Nat) "ThinAirModel" "badShoes" "I") ∈ tb := tb_of (in_t4 (List.mem_of_getElem? (i := 113) rfl)) rfl
theorem tc_4_114 : (Jvm.Cond.fieldLink "ThinAirModel" (155 : Nat) "ThinAirModel" "marksSet" "I") ∈ tb := tb_of (in_t4 (List.mem_of_getElem? (i := 114) rfl)) rfl
theorem tc_4_115 : (Jvm.Cond.fieldLink "ThinAirModel" (47 : Nat) "ThinAirModel" "isThere" "[Z") ∈ tb := tb_of (in_t4 (List.mem_of_getElem? (i := 115) rfl)) rfl
theorem tc_4_116 : (Jvm.Cond.fieldLink "ThinAirModel" (51 : Nat) "ThinAirModel" "numbers" "[I") ∈ tb := tb_of (in_t4 (List.mem_of_getElem? (i := 116) rfl)) rfl
theorem tc_4_117 : (Jvm.Cond.fieldLink "ThinAirModel" (234 : Nat) "ThinAirModel" "listMany" "I") ∈ tb := tb_of (in_t4 (List.mem_of_getElem? (i := 117) rfl)) rfl
theorem tc_4_118 : (Jvm.Cond.fieldLink "ThinAirModel" (54 : Nat) "ThinAirModel" "list" "[I") ∈ tb := tb_of (in_t4 (List.mem_of_getElem? (i := 118) rfl)) rfl
theorem tc_4_119 : (Jvm.Cond.fieldLink "ThinAirModel" (57 : Nat) "ThinAirModel" "ranks" "[I") ∈ tb := tb_of (in_t4 (List.mem_of_getElem? (i := 119) rfl)) rfl
theorem tc_4_120 : (Jvm.Cond.fieldLink "ThinAirModel" (258 : Nat) "ThinAirModel" "h" "J") ∈ tb := tb_of (in_t4 (List.mem_of_getElem? (i := 120) rfl)) rfl
theorem tc_4_121 : (Jvm.Cond.lays "ThinAirModel" "ThinAirModel" "finding" "I") ∈ tb := tb_of (in_t4 (List.mem_of_getElem? (i := 121) rfl)) rfl
theorem tc_4_123 : (Jvm.Cond.laysFinal "ThinAirModel" "ThinAirModel" "findings" "[I") ∈ tb := tb_of (in_t4 (List.mem_of_getElem? (i := 123) rfl)) rfl
theorem tc_4_125 : (Jvm.Cond.lays "ThinAirModel" "ThinAirModel" "asked" "I") ∈ tb := tb_of (in_t4 (List.mem_of_getElem? (i := 125) rfl)) rfl
theorem tc_4_127 : (Jvm.Cond.lays "ThinAirModel" "ThinAirModel" "upper" "J") ∈ tb := tb_of (in_t4 (List.mem_of_getElem? (i := 127) rfl)) rfl
theorem tc_4_129 : (Jvm.Cond.lays "ThinAirModel" "ThinAirModel" "lower" "J") ∈ tb := tb_of (in_t4 (List.mem_of_getElem? (i := 129) rfl)) rfl
theorem tc_4_131 : (Jvm.Cond.lays "ThinAirModel" "ThinAirModel" "today" "I") ∈ tb := tb_of (in_t4 (List.mem_of_getElem? (i := 131) rfl)) rfl
theorem tc_4_133 : (Jvm.Cond.laysFinal "ThinAirModel" "ThinAirModel" "sizes" "[I") ∈ tb := tb_of (in_t4 (List.mem_of_getElem? (i := 133) rfl)) rfl
theorem tc_4_135 : (Jvm.Cond.laysFinal "ThinAirModel" "ThinAirModel" "rows" "[I") ∈ tb := tb_of (in_t4 (List.mem_of_getElem? (i := 135) rfl)) rfl
theorem tc_4_137 : (Jvm.Cond.laysFinal "ThinAirModel" "ThinAirModel" "moving" "[I") ∈ tb := tb_of (in_t4 (List.mem_of_getElem? (i := 137) rfl)) rfl
theorem tc_4_139 : (Jvm.Cond.laysFinal "ThinAirModel" "ThinAirModel" "lengths" "[I") ∈ tb := tb_of (in_t4 (List.mem_of_getElem? (i := 139) rfl)) rfl
theorem tc_4_141 : (Jvm.Cond.laysFinal "ThinAirModel" "ThinAirModel" "texts" "[I") ∈ tb := tb_of (in_t4 (List.mem_of_getElem? (i := 141) rfl)) rfl
theorem tc_4_143 : (Jvm.Cond.lays "ThinAirModel" "ThinAirModel" "placeMany" "I") ∈ tb := tb_of (in_t4 (List.mem_of_getElem? (i := 143) rfl)) rfl
theorem tc_4_145 : (Jvm.Cond.laysFinal "ThinAirModel" "ThinAirModel" "abouts" "[I") ∈ tb := tb_of (in_t4 (List.mem_of_getElem? (i := 145) rfl)) rfl
theorem tc_4_147 : (Jvm.Cond.lays "ThinAirModel" "ThinAirModel" "markMany" "I") ∈ tb := tb_of (in_t4 (List.mem_of_getElem? (i := 147) rfl)) rfl
theorem tc_4_149 : (Jvm.Cond.laysFinal "ThinAirModel" "ThinAirModel" "parts" "[I") ∈ tb := tb_of (in_t4 (List.mem_of_getElem? (i := 149) rfl)) rfl
theorem tc_4_151 : (Jvm.Cond.laysFinal "ThinAirModel" "ThinAirModel" "much" "[I") ∈ tb := tb_of (in_t4 (List.mem_of_getElem? (i := 151) rfl)) rfl
theorem tc_4_153 : (Jvm.Cond.laysFinal "ThinAirModel" "ThinAirModel" "more" "[I") ∈ tb := tb_of (in_t4 (List.mem_of_getElem? (i := 153) rfl)) rfl
theorem tc_4_155 : (Jvm.Cond.lays "ThinAirModel" "ThinAirModel" "readAt" "I") ∈ tb := tb_of (in_t4 (List.mem_of_getElem? (i := 155) rfl)) rfl
theorem tc_4_157 : (Jvm.Cond.lays "ThinAirModel" "ThinAirModel" "readNumber" "I") ∈ tb := tb_of (in_t4 (List.mem_of_getElem? (i := 157) rfl)) rfl
theorem tc_4_159 : (Jvm.Cond.lays "ThinAirModel" "ThinAirModel" "itemMany" "I") ∈ tb := tb_of (in_t4 (List.mem_of_getElem? (i := 159) rfl)) rfl
theorem tc_4_161 : (Jvm.Cond.laysFinal "ThinAirModel" "ThinAirModel" "readNumbers" "[I") ∈ tb := tb_of (in_t4 (List.mem_of_getElem? (i := 161) rfl)) rfl
theorem tc_4_163 : (Jvm.Cond.lays "ThinAirModel" "ThinAirModel" "mostWind" "I") ∈ tb := tb_of (in_t4 (List.mem_of_getElem? (i := 163) rfl)) rfl
theorem tc_4_165 : (Jvm.Cond.lays "ThinAirModel" "ThinAirModel" "mostHeight" "I") ∈ tb := tb_of (in_t4 (List.mem_of_getElem? (i := 165) rfl)) rfl
theorem tc_4_167 : (Jvm.Cond.lays "ThinAirModel" "ThinAirModel" "firstYear" "I") ∈ tb := tb_of (in_t4 (List.mem_of_getElem? (i := 167) rfl)) rfl
theorem tc_4_169 : (Jvm.Cond.lays "ThinAirModel" "ThinAirModel" "badShoes" "I") ∈ tb := tb_of (in_t4 (List.mem_of_getElem? (i := 169) rfl)) rfl
theorem tc_4_171 : (Jvm.Cond.lays "ThinAirModel" "ThinAirModel" "marksSet" "I") ∈ tb := tb_of (in_t4 (List.mem_of_getElem? (i := 171) rfl)) rfl
theorem tc_4_173 : (Jvm.Cond.laysFinal "ThinAirModel" "ThinAirModel" "isThere" "[Z") ∈ tb := tb_of (in_t4 (List.mem_of_getElem? (i := 173) rfl)) rfl
theorem tc_4_175 : (Jvm.Cond.laysFinal "ThinAirModel" "ThinAirModel" "numbers" "[I") ∈ tb := tb_of (in_t4 (List.mem_of_getElem? (i := 175) rfl)) rfl
theorem tc_4_177 : (Jvm.Cond.lays "ThinAirModel" "ThinAirModel" "listMany" "I") ∈ tb := tb_of (in_t4 (List.mem_of_getElem? (i := 177) rfl)) rfl
theorem tc_4_179 : (Jvm.Cond.laysFinal "ThinAirModel" "ThinAirModel" "list" "[I") ∈ tb := tb_of (in_t4 (List.mem_of_getElem? (i := 179) rfl)) rfl
theorem tc_4_181 : (Jvm.Cond.laysFinal "ThinAirModel" "ThinAirModel" "ranks" "[I") ∈ tb := tb_of (in_t4 (List.mem_of_getElem? (i := 181) rfl)) rfl
theorem tc_4_183 : (Jvm.Cond.lays "ThinAirModel" "ThinAirModel" "h" "J") ∈ tb := tb_of (in_t4 (List.mem_of_getElem? (i := 183) rfl)) rfl
theorem tc_4_186 : (Jvm.Cond.arrayClass Jvm.ClassFile.FieldType.boolean) ∈ tb := tb_of (in_t4 (List.mem_of_getElem? (i := 186) rfl)) rfl
theorem tc_4_187 : (Jvm.Cond.methodLink "ThinAirLaw" (17 : Nat) ({ cls := "ThinAirModel", name := "row", desc := "(II)I" } : Jvm.MethodName)) ∈ tb := tb_of (in_t4 (List.mem_of_getElem? (i := 187) rfl)) rfl
theorem tc_4_188 : (Jvm.Cond.instanceMethod ({ cls := "ThinAirModel", name := "row", desc := "(II)I" } : Jvm.MethodName)) ∈ tb := tb_of (in_t4 (List.mem_of_getElem? (i := 188) rfl)) rfl
theorem tc_4_189 : (Jvm.Cond.selects "ThinAirModel" ({ cls := "ThinAirModel", name := "row", desc := "(II)I" } : Jvm.MethodName) ({ cls := "ThinAirModel", name := "row", desc := "(II)I" } : Jvm.MethodName)) ∈ tb := tb_of (in_t4 (List.mem_of_getElem? (i := 189) rfl)) rfl
theorem tc_4_190 : (Jvm.Cond.code ({ cls := "ThinAirModel", name := "row", desc := "(II)I" } : Jvm.MethodName) prog_13_method_12_code (4 : Nat) (Option.some Jvm.ClassFile.FieldType.int)) ∈ tb := tb_of (in_t4 (List.mem_of_getElem? (i := 190) rfl)) rfl
theorem tc_4_191 : (Jvm.Cond.methodLink "ThinAirModel" (74 : Nat) ({ cls := "ThinAirModel", name := "isRow", desc := "(I)Z" } : Jvm.MethodName)) ∈ tb := tb_of (in_t4 (List.mem_of_getElem? (i := 191) rfl)) rfl
theorem tc_4_192 : (Jvm.Cond.static ({ cls := "ThinAirModel", name := "isRow", desc := "(I)Z" } : Jvm.MethodName)) ∈ tb := tb_of (in_t4 (List.mem_of_getElem? (i := 192) rfl)) rfl
theorem tc_4_193 : (Jvm.Cond.code ({ cls := "ThinAirModel", name := "isRow", desc := "(I)Z" } : Jvm.MethodName) prog_13_method_7_code (1 : Nat) (Option.some Jvm.ClassFile.FieldType.boolean)) ∈ tb := tb_of (in_t4 (List.mem_of_getElem? (i := 193) rfl)) rfl
theorem tc_4_194 : (Jvm.Cond.methodLink "ThinAirModel" (70 : Nat) ({ cls := "ThinAirModel", name := "in", desc := "(III)Z" } : Jvm.MethodName)) ∈ tb := tb_of (in_t4 (List.mem_of_getElem? (i := 194) rfl)) rfl
theorem tc_4_195 : (Jvm.Cond.static ({ cls := "ThinAirModel", name := "in", desc := "(III)Z" } : Jvm.MethodName)) ∈ tb := tb_of (in_t4 (List.mem_of_getElem? (i := 195) rfl)) rfl
theorem tc_4_196 : (Jvm.Cond.code ({ cls := "ThinAirModel", name := "in", desc := "(III)Z" } : Jvm.MethodName) prog_13_method_3_code (3 : Nat) (Option.some Jvm.ClassFile.FieldType.boolean)) ∈ tb := tb_of (in_t4 (List.mem_of_getElem? (i := 196) rfl)) rfl
theorem tc_4_197 : (Jvm.Cond.methodLink "ThinAirModel" (78 : Nat) ({ cls := "ThinAirModel", name := "meets", desc := "(I)I" } : Jvm.MethodName)) ∈ tb := tb_of (in_t4 (List.mem_of_getElem? (i := 197) rfl)) rfl
theorem tc_4_199 : (Jvm.Cond.instanceMethod ({ cls := "ThinAirModel", name := "meets", desc := "(I)I" } : Jvm.MethodName)) ∈ tb := tb_of (in_t4 (List.mem_of_getElem? (i := 199) rfl)) rfl
theorem tc_4_200 : (Jvm.Cond.code ({ cls := "ThinAirModel", name := "meets", desc := "(I)I" } : Jvm.MethodName) prog_13_method_4_code (2 : Nat) (Option.some Jvm.ClassFile.FieldType.int)) ∈ tb := tb_of (in_t4 (List.mem_of_getElem? (i := 200) rfl)) rfl
theorem tc_4_201 : (Jvm.Cond.methodLink "ThinAirLaw" (22 : Nat) ({ cls := "ThinAirModel", name := "lay", desc := "(III)I" } : Jvm.MethodName)) ∈ tb := tb_of (in_t4 (List.mem_of_getElem? (i := 201) rfl)) rfl
theorem tc_4_202 : (Jvm.Cond.instanceMethod ({ cls := "ThinAirModel", name := "lay", desc := "(III)I" } : Jvm.MethodName)) ∈ tb := tb_of (in_t4 (List.mem_of_getElem? (i := 202) rfl)) rfl
theorem tc_4_203 : (Jvm.Cond.selects "ThinAirModel" ({ cls := "ThinAirModel", name := "lay", desc := "(III)I" } : Jvm.MethodName) ({ cls := "ThinAirModel", name := "lay", desc := "(III)I" } : Jvm.MethodName)) ∈ tb := tb_of (in_t4 (List.mem_of_getElem? (i := 203) rfl)) rfl
theorem tc_4_204 : (Jvm.Cond.code ({ cls := "ThinAirModel", name := "lay", desc := "(III)I" } : Jvm.MethodName) prog_13_method_13_code (5 : Nat) (Option.some Jvm.ClassFile.FieldType.int)) ∈ tb := tb_of (in_t4 (List.mem_of_getElem? (i := 204) rfl)) rfl
theorem tc_4_205 : (Jvm.Cond.methodLink "ThinAirModel" (85 : Nat) ({ cls := "ThinAirModel", name := "askedRow", desc := "(I)I" } : Jvm.MethodName)) ∈ tb := tb_of (in_t4 (List.mem_of_getElem? (i := 205) rfl)) rfl
theorem tc_4_207 : (Jvm.Cond.instanceMethod ({ cls := "ThinAirModel", name := "askedRow", desc := "(I)I" } : Jvm.MethodName)) ∈ tb := tb_of (in_t4 (List.mem_of_getElem? (i := 207) rfl)) rfl
theorem tc_4_208 : (Jvm.Cond.code ({ cls := "ThinAirModel", name := "askedRow", desc := "(I)I" } : Jvm.MethodName) prog_13_method_9_code (2 : Nat) (Option.some Jvm.ClassFile.FieldType.int)) ∈ tb := tb_of (in_t4 (List.mem_of_getElem? (i := 208) rfl)) rfl
theorem tc_4_209 : (Jvm.Cond.methodLink "ThinAirModel" (88 : Nat) ({ cls := "ThinAirModel", name := "rowAt", desc := "(II)I" } : Jvm.MethodName)) ∈ tb := tb_of (in_t4 (List.mem_of_getElem? (i := 209) rfl)) rfl
theorem tc_4_211 : (Jvm.Cond.instanceMethod ({ cls := "ThinAirModel", name := "rowAt", desc := "(II)I" } : Jvm.MethodName)) ∈ tb := tb_of (in_t4 (List.mem_of_getElem? (i := 211) rfl)) rfl
theorem tc_4_212 : (Jvm.Cond.code ({ cls := "ThinAirModel", name := "rowAt", desc := "(II)I" } : Jvm.MethodName) prog_13_method_11_code (3 : Nat) (Option.some Jvm.ClassFile.FieldType.int)) ∈ tb := tb_of (in_t4 (List.mem_of_getElem? (i := 212) rfl)) rfl
theorem tc_4_213 : (Jvm.Cond.methodLink "ThinAirLaw" (27 : Nat) ({ cls := "ThinAirModel", name := "tear", desc := "(I)I" } : Jvm.MethodName)) ∈ tb := tb_of (in_t4 (List.mem_of_getElem? (i := 213) rfl)) rfl
theorem tc_4_214 : (Jvm.Cond.instanceMethod ({ cls := "ThinAirModel", name := "tear", desc := "(I)I" } : Jvm.MethodName)) ∈ tb := tb_of (in_t4 (List.mem_of_getElem? (i := 214) rfl)) rfl
theorem tc_4_215 : (Jvm.Cond.selects "ThinAirModel" ({ cls := "ThinAirModel", name := "tear", desc := "(I)I" } : Jvm.MethodName) ({ cls := "ThinAirModel", name := "tear", desc := "(I)I" } : Jvm.MethodName)) ∈ tb := tb_of (in_t4 (List.mem_of_getElem? (i := 215) rfl)) rfl
theorem tc_4_216 : (Jvm.Cond.code ({ cls := "ThinAirModel", name := "tear", desc := "(I)I" } : Jvm.MethodName) prog_13_method_14_code (3 : Nat) (Option.some Jvm.ClassFile.FieldType.int)) ∈ tb := tb_of (in_t4 (List.mem_of_getElem? (i := 216) rfl)) rfl
theorem tc_4_217 : (Jvm.Cond.methodLink "ThinAirLaw" (32 : Nat) ({ cls := "ThinAirModel", name := "copy", desc := "(IIIII)I" } : Jvm.MethodName)) ∈ tb := tb_of (in_t4 (List.mem_of_getElem? (i := 217) rfl)) rfl
theorem tc_4_218 : (Jvm.Cond.instanceMethod ({ cls := "ThinAirModel", name := "copy", desc := "(IIIII)I" } : Jvm.MethodName)) ∈ tb := tb_of (in_t4 (List.mem_of_getElem? (i := 218) rfl)) rfl
theorem tc_4_219 : (Jvm.Cond.selects "ThinAirModel" ({ cls := "ThinAirModel", name := "copy", desc := "(IIIII)I" } : Jvm.MethodName) ({ cls := "ThinAirModel", name := "copy", desc := "(IIIII)I" } : Jvm.MethodName)) ∈ tb := tb_of (in_t4 (List.mem_of_getElem? (i := 219) rfl)) rfl
theorem tc_4_220 : (Jvm.Cond.code ({ cls := "ThinAirModel", name := "copy", desc := "(IIIII)I" } : Jvm.MethodName) prog_13_method_15_code (7 : Nat) (Option.some Jvm.ClassFile.FieldType.int)) ∈ tb := tb_of (in_t4 (List.mem_of_getElem? (i := 220) rfl)) rfl
theorem tc_4_221 : (Jvm.Cond.methodLink "ThinAirLaw" (36 : Nat) ({ cls := "ThinAirModel", name := "mean", desc := "(I)I" } : Jvm.MethodName)) ∈ tb := tb_of (in_t4 (List.mem_of_getElem? (i := 221) rfl)) rfl
theorem tc_4_222 : (Jvm.Cond.instanceMethod ({ cls := "ThinAirModel", name := "mean", desc := "(I)I" } : Jvm.MethodName)) ∈ tb := tb_of (in_t4 (List.mem_of_getElem? (i := 222) rfl)) rfl
theorem tc_4_223 : (Jvm.Cond.selects "ThinAirModel" ({ cls := "ThinAirModel", name := "mean", desc := "(I)I" } : Jvm.MethodName) ({ cls := "ThinAirModel", name := "mean", desc := "(I)I" } : Jvm.MethodName)) ∈ tb := tb_of (in_t4 (List.mem_of_getElem? (i := 223) rfl)) rfl
theorem tc_4_224 : (Jvm.Cond.code ({ cls := "ThinAirModel", name := "mean", desc := "(I)I" } : Jvm.MethodName) prog_13_method_16_code (6 : Nat) (Option.some Jvm.ClassFile.FieldType.int)) ∈ tb := tb_of (in_t4 (List.mem_of_getElem? (i := 224) rfl)) rfl
theorem tc_4_225 : (Jvm.Cond.methodLink "ThinAirModel" (92 : Nat) ({ cls := "ThinAirModel", name := "ask", desc := "(II)I" } : Jvm.MethodName)) ∈ tb := tb_of (in_t4 (List.mem_of_getElem? (i := 225) rfl)) rfl
theorem tc_4_227 : (Jvm.Cond.instanceMethod ({ cls := "ThinAirModel", name := "ask", desc := "(II)I" } : Jvm.MethodName)) ∈ tb := tb_of (in_t4 (List.mem_of_getElem? (i := 227) rfl)) rfl
theorem tc_4_228 : (Jvm.Cond.code ({ cls := "ThinAirModel", name := "ask", desc := "(II)I" } : Jvm.MethodName) prog_13_method_5_code (3 : Nat) (Option.some Jvm.ClassFile.FieldType.int)) ∈ tb := tb_of (in_t4 (List.mem_of_getElem? (i := 228) rfl)) rfl
theorem tc_4_229 : (Jvm.Cond.methodLink "ThinAirLaw" (40 : Nat) ({ cls := "ThinAirModel", name := "text", desc := "(II)I" } : Jvm.MethodName)) ∈ tb := tb_of (in_t4 (List.mem_of_getElem? (i := 229) rfl)) rfl
theorem tc_4_230 : (Jvm.Cond.instanceMethod ({ cls := "ThinAirModel", name := "text", desc := "(II)I" } : Jvm.MethodName)) ∈ tb := tb_of (in_t4 (List.mem_of_getElem? (i := 230) rfl)) rfl
theorem tc_4_231 : (Jvm.Cond.selects "ThinAirModel" ({ cls := "ThinAirModel", name := "text", desc := "(II)I" } : Jvm.MethodName) ({ cls := "ThinAirModel", name := "text", desc := "(II)I" } : Jvm.MethodName)) ∈ tb := tb_of (in_t4 (List.mem_of_getElem? (i := 231) rfl)) rfl
theorem tc_4_232 : (Jvm.Cond.code ({ cls := "ThinAirModel", name := "text", desc := "(II)I" } : Jvm.MethodName) prog_13_method_17_code (4 : Nat) (Option.some Jvm.ClassFile.FieldType.int)) ∈ tb := tb_of (in_t4 (List.mem_of_getElem? (i := 232) rfl)) rfl
theorem tc_4_233 : (Jvm.Cond.methodLink "ThinAirModel" (82 : Nat) ({ cls := "ThinAirModel", name := "isText", desc := "(I)Z" } : Jvm.MethodName)) ∈ tb := tb_of (in_t4 (List.mem_of_getElem? (i := 233) rfl)) rfl
theorem tc_4_234 : (Jvm.Cond.static ({ cls := "ThinAirModel", name := "isText", desc := "(I)Z" } : Jvm.MethodName)) ∈ tb := tb_of (in_t4 (List.mem_of_getElem? (i := 234) rfl)) rfl
theorem tc_4_235 : (Jvm.Cond.code ({ cls := "ThinAirModel", name := "isText", desc := "(I)Z" } : Jvm.MethodName) prog_13_method_8_code (1 : Nat) (Option.some Jvm.ClassFile.FieldType.boolean)) ∈ tb := tb_of (in_t4 (List.mem_of_getElem? (i := 235) rfl)) rfl
theorem tc_4_236 : (Jvm.Cond.methodLink "ThinAirLaw" (44 : Nat) ({ cls := "ThinAirModel", name := "put", desc := "(III)I" } : Jvm.MethodName)) ∈ tb := tb_of (in_t4 (List.mem_of_getElem? (i := 236) rfl)) rfl
theorem tc_4_237 : (Jvm.Cond.instanceMethod ({ cls := "ThinAirModel", name := "put", desc := "(III)I" } : Jvm.MethodName)) ∈ tb := tb_of (in_t4 (List.mem_of_getElem? (i := 237) rfl)) rfl
theorem tc_4_238 : (Jvm.Cond.selects "ThinAirModel" ({ cls := "ThinAirModel", name := "put", desc := "(III)I" } : Jvm.MethodName) ({ cls := "ThinAirModel", name := "put", desc := "(III)I" } : Jvm.MethodName)) ∈ tb := tb_of (in_t4 (List.mem_of_getElem? (i := 238) rfl)) rfl
theorem tc_4_239 : (Jvm.Cond.code ({ cls := "ThinAirModel", name := "put", desc := "(III)I" } : Jvm.MethodName) prog_13_method_18_code (6 : Nat) (Option.some Jvm.ClassFile.FieldType.int)) ∈ tb := tb_of (in_t4 (List.mem_of_getElem? (i := 239) rfl)) rfl
theorem tc_5_0 : (Jvm.Cond.methodLink "ThinAirModel" (95 : Nat) ({ cls := "ThinAirModel", name := "askedText", desc := "(I)I" } : Jvm.MethodName)) ∈ tb := tb_of (in_t5 (List.mem_of_getElem? (i := 0) rfl)) rfl
theorem tc_5_2 : (Jvm.Cond.instanceMethod ({ cls := "ThinAirModel", name := "askedText", desc := "(I)I" } : Jvm.MethodName)) ∈ tb := tb_of (in_t5 (List.mem_of_getElem? (i := 2) rfl)) rfl
theorem tc_5_3 : (Jvm.Cond.code ({ cls := "ThinAirModel", name := "askedText", desc := "(I)I" } : Jvm.MethodName) prog_13_method_10_code (2 : Nat) (Option.some Jvm.ClassFile.FieldType.int)) ∈ tb := tb_of (in_t5 (List.mem_of_getElem? (i := 3) rfl)) rfl
theorem tc_5_4 : (Jvm.Cond.methodLink "ThinAirLaw" (48 : Nat) ({ cls := "ThinAirModel", name := "later", desc := "(I)I" } : Jvm.MethodName)) ∈ tb := tb_of (in_t5 (List.mem_of_getElem? (i := 4) rfl)) rfl
theorem tc_5_5 : (Jvm.Cond.instanceMethod ({ cls := "ThinAirModel", name := "later", desc := "(I)I" } : Jvm.MethodName)) ∈ tb := tb_of (in_t5 (List.mem_of_getElem? (i := 5) rfl)) rfl
theorem tc_5_6 : (Jvm.Cond.selects "ThinAirModel" ({ cls := "ThinAirModel", name := "later", desc := "(I)I" } : Jvm.MethodName) ({ cls := "ThinAirModel", name := "later", desc := "(I)I" } : Jvm.MethodName)) ∈ tb := tb_of (in_t5 (List.mem_of_getElem? (i := 6) rfl)) rfl
theorem tc_5_7 : (Jvm.Cond.code ({ cls := "ThinAirModel", name := "later", desc := "(I)I" } : Jvm.MethodName) prog_13_method_19_code (2 : Nat) (Option.some Jvm.ClassFile.FieldType.int)) ∈ tb := tb_of (in_t5 (List.mem_of_getElem? (i := 7) rfl)) rfl
theorem tc_5_8 : (Jvm.Cond.methodLink "ThinAirLaw" (53 : Nat) ({ cls := "ThinAirModel", name := "place", desc := "(IIII)I" } : Jvm.MethodName)) ∈ tb := tb_of (in_t5 (List.mem_of_getElem? (i := 8) rfl)) rfl
theorem tc_5_9 : (Jvm.Cond.instanceMethod ({ cls := "ThinAirModel", name := "place", desc := "(IIII)I" } : Jvm.MethodName)) ∈ tb := tb_of (in_t5 (List.mem_of_getElem? (i := 9) rfl)) rfl
theorem tc_5_10 : (Jvm.Cond.selects "ThinAirModel" ({ cls := "ThinAirModel", name := "place", desc := "(IIII)I" } : Jvm.MethodName) ({ cls := "ThinAirModel", name := "place", desc := "(IIII)I" } : Jvm.MethodName)) ∈ tb := tb_of (in_t5 (List.mem_of_getElem? (i := 10) rfl)) rfl
theorem tc_5_11 : (Jvm.Cond.code ({ cls := "ThinAirModel", name := "place", desc := "(IIII)I" } : Jvm.MethodName) prog_13_method_21_code (5 : Nat) (Option.some Jvm.ClassFile.FieldType.int)) ∈ tb := tb_of (in_t5 (List.mem_of_getElem? (i := 11) rfl)) rfl
theorem tc_5_12 : (Jvm.Cond.methodLink "ThinAirLaw" (89 : Nat) ({ cls := "ThinAirModel", name := "about", desc := "(II)I" } : Jvm.MethodName)) ∈ tb := tb_of (in_t5 (List.mem_of_getElem? (i := 12) rfl)) rfl
theorem tc_5_13 : (Jvm.Cond.instanceMethod ({ cls := "ThinAirModel", name := "about", desc := "(II)I" } : Jvm.MethodName)) ∈ tb := tb_of (in_t5 (List.mem_of_getElem? (i := 13) rfl)) rfl
theorem tc_5_14 : (Jvm.Cond.selects "ThinAirModel" ({ cls := "ThinAirModel", name := "about", desc := "(II)I" } : Jvm.MethodName) ({ cls := "ThinAirModel", name := "about", desc := "(II)I" } : Jvm.MethodName)) ∈ tb := tb_of (in_t5 (List.mem_of_getElem? (i := 14) rfl)) rfl
theorem tc_5_15 : (Jvm.Cond.code ({ cls := "ThinAirModel", name := "about", desc := "(II)I" } : Jvm.MethodName) prog_13_method_22_code (3 : Nat) (Option.some Jvm.ClassFile.FieldType.int)) ∈ tb := tb_of (in_t5 (List.mem_of_getElem? (i := 15) rfl)) rfl
theorem tc_5_16 : (Jvm.Cond.methodLink "ThinAirModel" (104 : Nat) ({ cls := "ThinAirModel", name := "isPlace", desc := "(I)Z" } : Jvm.MethodName)) ∈ tb := tb_of (in_t5 (List.mem_of_getElem? (i := 16) rfl)) rfl
theorem tc_5_18 : (Jvm.Cond.instanceMethod ({ cls := "ThinAirModel", name := "isPlace", desc := "(I)Z" } : Jvm.MethodName)) ∈ tb := tb_of (in_t5 (List.mem_of_getElem? (i := 18) rfl)) rfl
theorem tc_5_19 : (Jvm.Cond.code ({ cls := "ThinAirModel", name := "isPlace", desc := "(I)Z" } : Jvm.MethodName) prog_13_method_20_code (2 : Nat) (Option.some Jvm.ClassFile.FieldType.boolean)) ∈ tb := tb_of (in_t5 (List.mem_of_getElem? (i := 19) rfl)) rfl
theorem tc_5_20 : (Jvm.Cond.methodLink "ThinAirLaw" (57 : Nat) ({ cls := "ThinAirModel", name := "mark", desc := "(IIIII)I" } : Jvm.MethodName)) ∈ tb := tb_of (in_t5 (List.mem_of_getElem? (i := 20) rfl)) rfl
theorem tc_5_21 : (Jvm.Cond.instanceMethod ({ cls := "ThinAirModel", name := "mark", desc := "(IIIII)I" } : Jvm.MethodName)) ∈ tb := tb_of (in_t5 (List.mem_of_getElem? (i := 21) rfl)) rfl
theorem tc_5_22 : (Jvm.Cond.selects "ThinAirModel" ({ cls := "ThinAirModel", name := "mark", desc := "(IIIII)I" } : Jvm.MethodName) ({ cls := "ThinAirModel", name := "mark", desc := "(IIIII)I" } : Jvm.MethodName)) ∈ tb := tb_of (in_t5 (List.mem_of_getElem? (i := 22) rfl)) rfl
theorem tc_5_23 : (Jvm.Cond.code ({ cls := "ThinAirModel", name := "mark", desc := "(IIIII)I" } : Jvm.MethodName) prog_13_method_28_code (6 : Nat) (Option.some Jvm.ClassFile.FieldType.int)) ∈ tb := tb_of (in_t5 (List.mem_of_getElem? (i := 23) rfl)) rfl
theorem tc_5_24 : (Jvm.Cond.methodLink "ThinAirModel" (110 : Nat) ({ cls := "ThinAirModel", name := "isPerson", desc := "(I)Z" } : Jvm.MethodName)) ∈ tb := tb_of (in_t5 (List.mem_of_getElem? (i := 24) rfl)) rfl
theorem tc_5_25 : (Jvm.Cond.static ({ cls := "ThinAirModel", name := "isPerson", desc := "(I)Z" } : Jvm.MethodName)) ∈ tb := tb_of (in_t5 (List.mem_of_getElem? (i := 25) rfl)) rfl
theorem tc_5_26 : (Jvm.Cond.code ({ cls := "ThinAirModel", name := "isPerson", desc := "(I)Z" } : Jvm.MethodName) prog_13_method_25_code (1 : Nat) (Option.some Jvm.ClassFile.FieldType.boolean)) ∈ tb := tb_of (in_t5 (List.mem_of_getElem? (i := 26) rfl)) rfl
theorem tc_5_27 : (Jvm.Cond.methodLink "ThinAirModel" (113 : Nat) ({ cls := "ThinAirModel", name := "isValue", desc := "(III)Z" } : Jvm.MethodName)) ∈ tb := tb_of (in_t5 (List.mem_of_getElem? (i := 27) rfl)) rfl
theorem tc_5_28 : (Jvm.Cond.static ({ cls := "ThinAirModel", name := "isValue", desc := "(III)Z" } : Jvm.MethodName)) ∈ tb := tb_of (in_t5 (List.mem_of_getElem? (i := 28) rfl)) rfl
theorem tc_5_29 : (Jvm.Cond.code ({ cls := "ThinAirModel", name := "isValue", desc := "(III)Z" } : Jvm.MethodName) prog_13_method_26_code (3 : Nat) (Option.some Jvm.ClassFile.FieldType.boolean)) ∈ tb := tb_of (in_t5 (List.mem_of_getElem? (i := 29) rfl)) rfl
theorem tc_5_30 : (Jvm.Cond.methodLink "ThinAirModel" (116 : Nat) ({ cls := "ThinAirModel", name := "newMark", desc := "(IIIII)I" } : Jvm.MethodName)) ∈ tb := tb_of (in_t5 (List.mem_of_getElem? (i := 30) rfl)) rfl
theorem tc_5_32 : (Jvm.Cond.instanceMethod ({ cls := "ThinAirModel", name := "newMark", desc := "(IIIII)I" } : Jvm.MethodName)) ∈ tb := tb_of (in_t5 (List.mem_of_getElem? (i := 32) rfl)) rfl
theorem tc_5_33 : (Jvm.Cond.code ({ cls := "ThinAirModel", name := "newMark", desc := "(IIIII)I" } : Jvm.MethodName) prog_13_method_27_code (7 : Nat) (Option.some Jvm.ClassFile.FieldType.int)) ∈ tb := tb_of (in_t5 (List.mem_of_getElem? (i := 33) rfl)) rfl
theorem tc_5_34 : (Jvm.Cond.methodLink "ThinAirLaw" (61 : Nat) ({ cls := "ThinAirModel", name := "marks", desc := "(III)I" } : Jvm.MethodName)) ∈ tb := tb_of (in_t5 (List.mem_of_getElem? (i := 34) rfl)) rfl
theorem tc_5_35 : (Jvm.Cond.instanceMethod ({ cls := "ThinAirModel", name := "marks", desc := "(III)I" } : Jvm.MethodName)) ∈ tb := tb_of (in_t5 (List.mem_of_getElem? (i := 35) rfl)) rfl
theorem tc_5_36 : (Jvm.Cond.selects "ThinAirModel" ({ cls := "ThinAirModel", name := "marks", desc := "(III)I" } : Jvm.MethodName) ({ cls := "ThinAirModel", name := "marks", desc := "(III)I" } : Jvm.MethodName)) ∈ tb := tb_of (in_t5 (List.mem_of_getElem? (i := 36) rfl)) rfl
theorem tc_5_37 : (Jvm.Cond.code ({ cls := "ThinAirModel", name := "marks", desc := "(III)I" } : Jvm.MethodName) prog_13_method_29_code (8 : Nat) (Option.some Jvm.ClassFile.FieldType.int)) ∈ tb := tb_of (in_t5 (List.mem_of_getElem? (i := 37) rfl)) rfl
theorem tc_5_38 : (Jvm.Cond.methodLink "ThinAirLaw" (65 : Nat) ({ cls := "ThinAirModel", name := "help", desc := "(III)I" } : Jvm.MethodName)) ∈ tb := tb_of (in_t5 (List.mem_of_getElem? (i := 38) rfl)) rfl
theorem tc_5_39 : (Jvm.Cond.instanceMethod ({ cls := "ThinAirModel", name := "help", desc := "(III)I" } : Jvm.MethodName)) ∈ tb := tb_of (in_t5 (List.mem_of_getElem? (i := 39) rfl)) rfl
theorem tc_5_40 : (Jvm.Cond.selects "ThinAirModel" ({ cls := "ThinAirModel", name := "help", desc := "(III)I" } : Jvm.MethodName) ({ cls := "ThinAirModel", name := "help", desc := "(III)I" } : Jvm.MethodName)) ∈ tb := tb_of (in_t5 (List.mem_of_getElem? (i := 40) rfl)) rfl
theorem tc_5_41 : (Jvm.Cond.code ({ cls := "ThinAirModel", name := "help", desc := "(III)I" } : Jvm.MethodName) prog_13_method_32_code (4 : Nat) (Option.some Jvm.ClassFile.FieldType.int)) ∈ tb := tb_of (in_t5 (List.mem_of_getElem? (i := 41) rfl)) rfl
theorem tc_5_42 : (Jvm.Cond.methodLink "ThinAirModel" (123 : Nat) ({ cls := "ThinAirModel", name := "isMark", desc := "(I)Z" } : Jvm.MethodName)) ∈ tb := tb_of (in_t5 (List.mem_of_getElem? (i := 42) rfl)) rfl
theorem tc_5_44 : (Jvm.Cond.instanceMethod ({ cls := "ThinAirModel", name := "isMark", desc := "(I)Z" } : Jvm.MethodName)) ∈ tb := tb_of (in_t5 (List.mem_of_getElem? (i := 44) rfl)) rfl
theorem tc_5_45 : (Jvm.Cond.code ({ cls := "ThinAirModel", name := "isMark", desc := "(I)Z" } : Jvm.MethodName) prog_13_method_23_code (2 : Nat) (Option.some Jvm.ClassFile.FieldType.boolean)) ∈ tb := tb_of (in_t5 (List.mem_of_getElem? (i := 45) rfl)) rfl
theorem tc_5_46 : (Jvm.Cond.methodLink "ThinAirModel" (126 : Nat) ({ cls := "ThinAirModel", name := "isMuch", desc := "(I)Z" } : Jvm.MethodName)) ∈ tb := tb_of (in_t5 (List.mem_of_getElem? (i := 46) rfl)) rfl
theorem tc_5_47 : (Jvm.Cond.static ({ cls := "ThinAirModel", name := "isMuch", desc := "(I)Z" } : Jvm.MethodName)) ∈ tb := tb_of (in_t5 (List.mem_of_getElem? (i := 47) rfl)) rfl
theorem tc_5_48 : (Jvm.Cond.code ({ cls := "ThinAirModel", name := "isMuch", desc := "(I)Z" } : Jvm.MethodName) prog_13_method_31_code (1 : Nat) (Option.some Jvm.ClassFile.FieldType.boolean)) ∈ tb := tb_of (in_t5 (List.mem_of_getElem? (i := 48) rfl)) rfl
theorem tc_5_49 : (Jvm.Cond.methodLink "ThinAirModel" (129 : Nat) ({ cls := "ThinAirModel", name := "becomes", desc := "(IIII)I" } : Jvm.MethodName)) ∈ tb := tb_of (in_t5 (List.mem_of_getElem? (i := 49) rfl)) rfl
theorem tc_5_51 : (Jvm.Cond.instanceMethod ({ cls := "ThinAirModel", name := "becomes", desc := "(IIII)I" } : Jvm.MethodName)) ∈ tb := tb_of (in_t5 (List.mem_of_getElem? (i := 51) rfl)) rfl
theorem tc_5_52 : (Jvm.Cond.code ({ cls := "ThinAirModel", name := "becomes", desc := "(IIII)I" } : Jvm.MethodName) prog_13_method_30_code (5 : Nat) (Option.some Jvm.ClassFile.FieldType.int)) ∈ tb := tb_of (in_t5 (List.mem_of_getElem? (i := 52) rfl)) rfl
theorem tc_5_53 : (Jvm.Cond.methodLink "ThinAirModel" (120 : Nat) ({ cls := "ThinAirModel", name := "part", desc := "(II)I" } : Jvm.MethodName)) ∈ tb := tb_of (in_t5 (List.mem_of_getElem? (i := 53) rfl)) rfl
theorem tc_5_55 : (Jvm.Cond.instanceMethod ({ cls := "ThinAirModel", name := "part", desc := "(II)I" } : Jvm.MethodName)) ∈ tb := tb_of (in_t5 (List.mem_of_getElem? (i := 55) rfl)) rfl
theorem tc_5_56 : (Jvm.Cond.code ({ cls := "ThinAirModel", name := "part", desc := "(II)I" } : Jvm.MethodName) prog_13_method_24_code (3 : Nat) (Option.some Jvm.ClassFile.FieldType.int)) ∈ tb := tb_of (in_t5 (List.mem_of_getElem? (i := 56) rfl)) rfl
theorem tc_5_57 : (Jvm.Cond.methodLink "ThinAirLaw" (69 : Nat) ({ cls := "ThinAirModel", name := "paper", desc := "(II)I" } : Jvm.MethodName)) ∈ tb := tb_of (in_t5 (List.mem_of_getElem? (i := 57) rfl)) rfl
theorem tc_5_58 : (Jvm.Cond.instanceMethod ({ cls := "ThinAirModel", name := "paper", desc := "(II)I" } : Jvm.MethodName)) ∈ tb := tb_of (in_t5 (List.mem_of_getElem? (i := 58) rfl)) rfl
theorem tc_5_59 : (Jvm.Cond.selects "ThinAirModel" ({ cls := "ThinAirModel", name := "paper", desc := "(II)I" } : Jvm.MethodName) ({ cls := "ThinAirModel", name := "paper", desc := "(II)I" } : Jvm.MethodName)) ∈ tb := tb_of (in_t5 (List.mem_of_getElem? (i := 59) rfl)) rfl
theorem tc_5_60 : (Jvm.Cond.code ({ cls := "ThinAirModel", name := "paper", desc := "(II)I" } : Jvm.MethodName) prog_13_method_33_code (3 : Nat) (Option.some Jvm.ClassFile.FieldType.int)) ∈ tb := tb_of (in_t5 (List.mem_of_getElem? (i := 60) rfl)) rfl
theorem tc_5_61 : (Jvm.Cond.methodLink "ThinAirLaw" (73 : Nat) ({ cls := "ThinAirModel", name := "cut", desc := "(II)I" } : Jvm.MethodName)) ∈ tb := tb_of (in_t5 (List.mem_of_getElem? (i := 61) rfl)) rfl
theorem tc_5_62 : (Jvm.Cond.instanceMethod ({ cls := "ThinAirModel", name := "cut", desc := "(II)I" } : Jvm.MethodName)) ∈ tb := tb_of (in_t5 (List.mem_of_getElem? (i := 62) rfl)) rfl
theorem tc_5_63 : (Jvm.Cond.selects "ThinAirModel" ({ cls := "ThinAirModel", name := "cut", desc := "(II)I" } : Jvm.MethodName) ({ cls := "ThinAirModel", name := "cut", desc := "(II)I" } : Jvm.MethodName)) ∈ tb := tb_of (in_t5 (List.mem_of_getElem? (i := 63) rfl)) rfl
theorem tc_5_64 : (Jvm.Cond.code ({ cls := "ThinAirModel", name := "cut", desc := "(II)I" } : Jvm.MethodName) prog_13_method_34_code (3 : Nat) (Option.some Jvm.ClassFile.FieldType.int)) ∈ tb := tb_of (in_t5 (List.mem_of_getElem? (i := 64) rfl)) rfl
theorem tc_5_65 : (Jvm.Cond.methodLink "ThinAirLaw" (77 : Nat) ({ cls := "ThinAirModel", name := "strike", desc := "(II)I" } : Jvm.MethodName)) ∈ tb := tb_of (in_t5 (List.mem_of_getElem? (i := 65) rfl)) rfl
theorem tc_5_66 : (Jvm.Cond.instanceMethod ({ cls := "ThinAirModel", name := "strike", desc := "(II)I" } : Jvm.MethodName)) ∈ tb := tb_of (in_t5 (List.mem_of_getElem? (i := 66) rfl)) rfl
theorem tc_5_67 : (Jvm.Cond.selects "ThinAirModel" ({ cls := "ThinAirModel", name := "strike", desc := "(II)I" } : Jvm.MethodName) ({ cls := "ThinAirModel", name := "strike", desc := "(II)I" } : Jvm.MethodName)) ∈ tb := tb_of (in_t5 (List.mem_of_getElem? (i := 67) rfl)) rfl
theorem tc_5_68 : (Jvm.Cond.code ({ cls := "ThinAirModel", name := "strike", desc := "(II)I" } : Jvm.MethodName) prog_13_method_35_code (4 : Nat) (Option.some Jvm.ClassFile.FieldType.int)) ∈ tb := tb_of (in_t5 (List.mem_of_getElem? (i := 68) rfl)) rfl
theorem tc_5_69 : (Jvm.Cond.methodLink "ThinAirLaw" (81 : Nat) ({ cls := "ThinAirModel", name := "told", desc := "(II)I" } : Jvm.MethodName)) ∈ tb := tb_of (in_t5 (List.mem_of_getElem? (i := 69) rfl)) rfl
theorem tc_5_70 : (Jvm.Cond.instanceMethod ({ cls := "ThinAirModel", name := "told", desc := "(II)I" } : Jvm.MethodName)) ∈ tb := tb_of (in_t5 (List.mem_of_getElem? (i := 70) rfl)) rfl
theorem tc_5_71 : (Jvm.Cond.selects "ThinAirModel" ({ cls := "ThinAirModel", name := "told", desc := "(II)I" } : Jvm.MethodName) ({ cls := "ThinAirModel", name := "told", desc := "(II)I" } : Jvm.MethodName)) ∈ tb := tb_of (in_t5 (List.mem_of_getElem? (i := 71) rfl)) rfl
theorem tc_5_72 : (Jvm.Cond.code ({ cls := "ThinAirModel", name := "told", desc := "(II)I" } : Jvm.MethodName) prog_13_method_36_code (3 : Nat) (Option.some Jvm.ClassFile.FieldType.int)) ∈ tb := tb_of (in_t5 (List.mem_of_getElem? (i := 72) rfl)) rfl
theorem tc_5_73 : (Jvm.Cond.methodLink "ThinAirLaw" (85 : Nat) ({ cls := "ThinAirModel", name := "tells", desc := "(II)I" } : Jvm.MethodName)) ∈ tb := tb_of (in_t5 (List.mem_of_getElem? (i := 73) rfl)) rfl
theorem tc_5_74 : (Jvm.Cond.instanceMethod ({ cls := "ThinAirModel", name := "tells", desc := "(II)I" } : Jvm.MethodName)) ∈ tb := tb_of (in_t5 (List.mem_of_getElem? (i := 74) rfl)) rfl
theorem tc_5_75 : (Jvm.Cond.selects "ThinAirModel" ({ cls := "ThinAirModel", name := "tells", desc := "(II)I" } : Jvm.MethodName) ({ cls := "ThinAirModel", name := "tells", desc := "(II)I" } : Jvm.MethodName)) ∈ tb := tb_of (in_t5 (List.mem_of_getElem? (i := 75) rfl)) rfl
theorem tc_5_76 : (Jvm.Cond.code ({ cls := "ThinAirModel", name := "tells", desc := "(II)I" } : Jvm.MethodName) prog_13_method_38_code (4 : Nat) (Option.some Jvm.ClassFile.FieldType.int)) ∈ tb := tb_of (in_t5 (List.mem_of_getElem? (i := 76) rfl)) rfl
theorem tc_5_77 : (Jvm.Cond.methodLink "ThinAirModel" (133 : Nat) ({ cls := "ThinAirModel", name := "tellsOf", desc := "(II)I" } : Jvm.MethodName)) ∈ tb := tb_of (in_t5 (List.mem_of_getElem? (i := 77) rfl)) rfl
theorem tc_5_79 : (Jvm.Cond.instanceMethod ({ cls := "ThinAirModel", name := "tellsOf", desc := "(II)I" } : Jvm.MethodName)) ∈ tb := tb_of (in_t5 (List.mem_of_getElem? (i := 79) rfl)) rfl
theorem tc_5_80 : (Jvm.Cond.code ({ cls := "ThinAirModel", name := "tellsOf", desc := "(II)I" } : Jvm.MethodName) prog_13_method_37_code (3 : Nat) (Option.some Jvm.ClassFile.FieldType.int)) ∈ tb := tb_of (in_t5 (List.mem_of_getElem? (i := 80) rfl)) rfl
theorem tc_5_81 : (Jvm.Cond.methodLink "ThinAirLaw" (94 : Nat) ({ cls := "ThinAirModel", name := "fault", desc := "(IZ)I" } : Jvm.MethodName)) ∈ tb := tb_of (in_t5 (List.mem_of_getElem? (i := 81) rfl)) rfl
theorem tc_5_82 : (Jvm.Cond.instanceMethod ({ cls := "ThinAirModel", name := "fault", desc := "(IZ)I" } : Jvm.MethodName)) ∈ tb := tb_of (in_t5 (List.mem_of_getElem? (i := 82) rfl)) rfl
theorem tc_5_83 : (Jvm.Cond.selects "ThinAirModel" ({ cls := "ThinAirModel", name := "fault", desc := "(IZ)I" } : Jvm.MethodName) ({ cls := "ThinAirModel", name := "fault", desc := "(IZ)I" } : Jvm.MethodName)) ∈ tb := tb_of (in_t5 (List.mem_of_getElem? (i := 83) rfl)) rfl
theorem tc_5_84 : (Jvm.Cond.code ({ cls := "ThinAirModel", name := "fault", desc := "(IZ)I" } : Jvm.MethodName) prog_13_method_47_code (4 : Nat) (Option.some Jvm.ClassFile.FieldType.int)) ∈ tb := tb_of (in_t5 (List.mem_of_getElem? (i := 84) rfl)) rfl
theorem tc_5_85 : (Jvm.Cond.methodLink "ThinAirModel" (183 : Nat) ({ cls := "ThinAirModel", name := "reads", desc := "(IZ)I" } : Jvm.MethodName)) ∈ tb := tb_of (in_t5 (List.mem_of_getElem? (i := 85) rfl)) rfl
theorem tc_5_87 : (Jvm.Cond.instanceMethod ({ cls := "ThinAirModel", name := "reads", desc := "(IZ)I" } : Jvm.MethodName)) ∈ tb := tb_of (in_t5 (List.mem_of_getElem? (i := 87) rfl)) rfl
theorem tc_5_88 : (Jvm.Cond.code ({ cls := "ThinAirModel", name := "reads", desc := "(IZ)I" } : Jvm.MethodName) prog_13_method_46_code (4 : Nat) (Option.some Jvm.ClassFile.FieldType.int)) ∈ tb := tb_of (in_t5 (List.mem_of_getElem? (i := 88) rfl)) rfl
theorem tc_5_89 : (Jvm.Cond.methodLink "ThinAirModel" (139 : Nat) ({ cls := "ThinAirModel", name := "here", desc := "(I)I" } : Jvm.MethodName)) ∈ tb := tb_of (in_t5 (List.mem_of_getElem? (i := 89) rfl)) rfl
theorem tc_5_91 : (Jvm.Cond.instanceMethod ({ cls := "ThinAirModel", name := "here", desc := "(I)I" } : Jvm.MethodName)) ∈ tb := tb_of (in_t5 (List.mem_of_getElem? (i := 91) rfl)) rfl
theorem tc_5_92 : (Jvm.Cond.code ({ cls := "ThinAirModel", name := "here", desc := "(I)I" } : Jvm.MethodName) prog_13_method_39_code (2 : Nat) (Option.some Jvm.ClassFile.FieldType.int)) ∈ tb := tb_of (in_t5 (List.mem_of_getElem? (i := 92) rfl)) rfl
theorem tc_5_93 : (Jvm.Cond.methodLink "ThinAirModel" (173 : Nat) ({ cls := "ThinAirModel", name := "isLetter", desc := "(IZ)Z" } : Jvm.MethodName)) ∈ tb := tb_of (in_t5 (List.mem_of_getElem? (i := 93) rfl)) rfl
theorem tc_5_94 : (Jvm.Cond.static ({ cls := "ThinAirModel", name := "isLetter", desc := "(IZ)Z" } : Jvm.MethodName)) ∈ tb := tb_of (in_t5 (List.mem_of_getElem? (i := 94) rfl)) rfl
theorem tc_5_95 : (Jvm.Cond.code ({ cls := "ThinAirModel", name := "isLetter", desc := "(IZ)Z" } : Jvm.MethodName) prog_13_method_45_code (2 : Nat) (Option.some Jvm.ClassFile.FieldType.boolean)) ∈ tb := tb_of (in_t5 (List.mem_of_getElem? (i := 95) rfl)) rfl
theorem tc_5_96 : (Jvm.Cond.methodLink "ThinAirModel" (177 : Nat) ({ cls := "ThinAirModel", name := "readsRule", desc := "(II)Z" } : Jvm.MethodName)) ∈ tb := tb_of (in_t5 (List.mem_of_getElem? (i := 96) rfl)) rfl
theorem tc_5_98 : (Jvm.Cond.instanceMethod ({ cls := "ThinAirModel", name := "readsRule", desc := "(II)Z" } : Jvm.MethodName)) ∈ tb := tb_of (in_t5 (List.mem_of_getElem? (i := 98) rfl)) rfl
theorem tc_5_99 : (Jvm.Cond.code ({ cls := "ThinAirModel", name := "readsRule", desc := "(II)Z" } : Jvm.MethodName) prog_13_method_44_code (4 : Nat) (Option.some Jvm.ClassFile.FieldType.boolean)) ∈ tb := tb_of (in_t5 (List.mem_of_getElem? (i := 99) rfl)) rfl
theorem tc_5_100 : (Jvm.Cond.methodLink "ThinAirModel" (149 : Nat) ({ cls := "ThinAirModel", name := "readsFigures", desc := "(II)Z" } : Jvm.MethodName)) ∈ tb := tb_of (in_t5 (List.mem_of_getElem? (i := 100) rfl)) rfl
theorem tc_5_102 : (Jvm.Cond.instanceMethod ({ cls := "ThinAirModel", name := "readsFigures", desc := "(II)Z" } : Jvm.MethodName)) ∈ tb := tb_of (in_t5 (List.mem_of_getElem? (i := 102) rfl)) rfl
theorem tc_5_103 : (Jvm.Cond.code ({ cls := "ThinAirModel", name := "readsFigures", desc := "(II)Z" } : Jvm.MethodName) prog_13_method_41_code (4 : Nat) (Option.some Jvm.ClassFile.FieldType.boolean)) ∈ tb := tb_of (in_t5 (List.mem_of_getElem? (i := 103) rfl)) rfl
theorem tc_5_104 : (Jvm.Cond.methodLink "ThinAirModel" (180 : Nat) ({ cls := "ThinAirModel", name := "readsLaw", desc := "(II)Z" } : Jvm.MethodName)) ∈ tb := tb_of (in_t5 (List.mem_of_getElem? (i := 104) rfl)) rfl
theorem tc_5_106 : (Jvm.Cond.instanceMethod ({ cls := "ThinAirModel", name := "readsLaw", desc := "(II)Z" } : Jvm.MethodName)) ∈ tb := tb_of (in_t5 (List.mem_of_getElem? (i := 106) rfl)) rfl
theorem tc_5_107 : (Jvm.Cond.code ({ cls := "ThinAirModel", name := "readsLaw", desc := "(II)Z" } : Jvm.MethodName) prog_13_method_43_code (5 : Nat) (Option.some Jvm.ClassFile.FieldType.boolean)) ∈ tb := tb_of (in_t5 (List.mem_of_getElem? (i := 107) rfl)) rfl
theorem tc_5_108 : (Jvm.Cond.methodLink "ThinAirModel" (152 : Nat) ({ cls := "ThinAirModel", name := "readsNumber", desc := "(I)Z" } : Jvm.MethodName)) ∈ tb := tb_of (in_t5 (List.mem_of_getElem? (i := 108) rfl)) rfl
theorem tc_5_110 : (Jvm.Cond.instanceMethod ({ cls := "ThinAirModel", name := "readsNumber", desc := "(I)Z" } : Jvm.MethodName)) ∈ tb := tb_of (in_t5 (List.mem_of_getElem? (i := 110) rfl)) rfl
theorem tc_5_111 : (Jvm.Cond.code ({ cls := "ThinAirModel", name := "readsNumber", desc := "(I)Z" } : Jvm.MethodName) prog_13_method_42_code (4 : Nat) (Option.some Jvm.ClassFile.FieldType.boolean)) ∈ tb := tb_of (in_t5 (List.mem_of_getElem? (i := 111) rfl)) rfl
theorem tc_5_112 : (Jvm.Cond.methodLink "ThinAirModel" (145 : Nat) ({ cls := "ThinAirModel", name := "readsByte", desc := "(II)Z" } : Jvm.MethodName)) ∈ tb := tb_of (in_t5 (List.mem_of_getElem? (i := 112) rfl)) rfl
theorem tc_5_114 : (Jvm.Cond.instanceMethod ({ cls := "ThinAirModel", name := "readsByte", desc := "(II)Z" } : Jvm.MethodName)) ∈ tb := tb_of (in_t5 (List.mem_of_getElem? (i := 114) rfl)) rfl
theorem tc_5_115 : (Jvm.Cond.code ({ cls := "ThinAirModel", name := "readsByte", desc := "(II)Z" } : Jvm.MethodName) prog_13_method_40_code (4 : Nat) (Option.some Jvm.ClassFile.FieldType.boolean)) ∈ tb := tb_of (in_t5 (List.mem_of_getElem? (i := 115) rfl)) rfl
theorem tc_5_116 : (Jvm.Cond.methodLink "ThinAirLaw" (98 : Nat) ({ cls := "ThinAirModel", name := "laws", desc := "(II)I" } : Jvm.MethodName)) ∈ tb := tb_of (in_t5 (List.mem_of_getElem? (i := 116) rfl)) rfl
theorem tc_5_117 : (Jvm.Cond.instanceMethod ({ cls := "ThinAirModel", name := "laws", desc := "(II)I" } : Jvm.MethodName)) ∈ tb := tb_of (in_t5 (List.mem_of_getElem? (i := 117) rfl)) rfl
theorem tc_5_118 : (Jvm.Cond.selects "ThinAirModel" ({ cls := "ThinAirModel", name := "laws", desc := "(II)I" } : Jvm.MethodName) ({ cls := "ThinAirModel", name := "laws", desc := "(II)I" } : Jvm.MethodName)) ∈ tb := tb_of (in_t5 (List.mem_of_getElem? (i := 118) rfl)) rfl
theorem tc_5_119 : (Jvm.Cond.code ({ cls := "ThinAirModel", name := "laws", desc := "(II)I" } : Jvm.MethodName) prog_13_method_50_code (5 : Nat) (Option.some Jvm.ClassFile.FieldType.int)) ∈ tb := tb_of (in_t5 (List.mem_of_getElem? (i := 119) rfl)) rfl
theorem tc_5_120 : (Jvm.Cond.methodLink "ThinAirModel" (187 : Nat) ({ cls := "ThinAirModel", name := "isLaws", desc := "(I)Z" } : Jvm.MethodName)) ∈ tb := tb_of (in_t5 (List.mem_of_getElem? (i := 120) rfl)) rfl
theorem tc_5_121 : (Jvm.Cond.static ({ cls := "ThinAirModel", name := "isLaws", desc := "(I)Z" } : Jvm.MethodName)) ∈ tb := tb_of (in_t5 (List.mem_of_getElem? (i := 121) rfl)) rfl
theorem tc_5_122 : (Jvm.Cond.code ({ cls := "ThinAirModel", name := "isLaws", desc := "(I)Z" } : Jvm.MethodName) prog_13_method_48_code (1 : Nat) (Option.some Jvm.ClassFile.FieldType.boolean)) ∈ tb := tb_of (in_t5 (List.mem_of_getElem? (i := 122) rfl)) rfl
theorem tc_5_123 : (Jvm.Cond.methodLink "ThinAirLaw" (102 : Nat) ({ cls := "ThinAirModel", name := "number", desc := "(II)I" } : Jvm.MethodName)) ∈ tb := tb_of (in_t5 (List.mem_of_getElem? (i := 123) rfl)) rfl
theorem tc_5_124 : (Jvm.Cond.instanceMethod ({ cls := "ThinAirModel", name := "number", desc := "(II)I" } : Jvm.MethodName)) ∈ tb := tb_of (in_t5 (List.mem_of_getElem? (i := 124) rfl)) rfl
theorem tc_5_125 : (Jvm.Cond.selects "ThinAirModel" ({ cls := "ThinAirModel", name := "number", desc := "(II)I" } : Jvm.MethodName) ({ cls := "ThinAirModel", name := "number", desc := "(II)I" } : Jvm.MethodName)) ∈ tb := tb_of (in_t5 (List.mem_of_getElem? (i := 125) rfl)) rfl
theorem tc_5_126 : (Jvm.Cond.code ({ cls := "ThinAirModel", name := "number", desc := "(II)I" } : Jvm.MethodName) prog_13_method_51_code (4 : Nat) (Option.some Jvm.ClassFile.FieldType.int)) ∈ tb := tb_of (in_t5 (List.mem_of_getElem? (i := 126) rfl)) rfl
theorem tc_5_127 : (Jvm.Cond.methodLink "ThinAirModel" (190 : Nat) ({ cls := "ThinAirModel", name := "askedLaws", desc := "(I)I" } : Jvm.MethodName)) ∈ tb := tb_of (in_t5 (List.mem_of_getElem? (i := 127) rfl)) rfl
theorem tc_5_129 : (Jvm.Cond.instanceMethod ({ cls := "ThinAirModel", name := "askedLaws", desc := "(I)I" } : Jvm.MethodName)) ∈ tb := tb_of (in_t5 (List.mem_of_getElem? (i := 129) rfl)) rfl
theorem tc_5_130 : (Jvm.Cond.code ({ cls := "ThinAirModel", name := "askedLaws", desc := "(I)I" } : Jvm.MethodName) prog_13_method_49_code (2 : Nat) (Option.some Jvm.ClassFile.FieldType.int)) ∈ tb := tb_of (in_t5 (List.mem_of_getElem? (i := 130) rfl)) rfl
theorem tc_5_131 : (Jvm.Cond.methodLink "ThinAirLaw" (106 : Nat) ({ cls := "ThinAirModel", name := "gives", desc := "(II)I" } : Jvm.MethodName)) ∈ tb := tb_of (in_t5 (List.mem_of_getElem? (i := 131) rfl)) rfl
theorem tc_5_132 : (Jvm.Cond.instanceMethod ({ cls := "ThinAirModel", name := "gives", desc := "(II)I" } : Jvm.MethodName)) ∈ tb := tb_of (in_t5 (List.mem_of_getElem? (i := 132) rfl)) rfl
theorem tc_5_133 : (Jvm.Cond.selects "ThinAirModel" ({ cls := "ThinAirModel", name := "gives", desc := "(II)I" } : Jvm.MethodName) ({ cls := "ThinAirModel", name := "gives", desc := "(II)I" } : Jvm.MethodName)) ∈ tb := tb_of (in_t5 (List.mem_of_getElem? (i := 133) rfl)) rfl
theorem tc_5_134 : (Jvm.Cond.code ({ cls := "ThinAirModel", name := "gives", desc := "(II)I" } : Jvm.MethodName) prog_13_method_58_code (4 : Nat) (Option.some Jvm.ClassFile.FieldType.int)) ∈ tb := tb_of (in_t5 (List.mem_of_getElem? (i := 134) rfl)) rfl
theorem tc_5_135 : (Jvm.Cond.methodLink "ThinAirModel" (206 : Nat) ({ cls := "ThinAirModel", name := "askedBoth", desc := "(II)I" } : Jvm.MethodName)) ∈ tb := tb_of (in_t5 (List.mem_of_getElem? (i := 135) rfl)) rfl
theorem tc_5_137 : (Jvm.Cond.instanceMethod ({ cls := "ThinAirModel", name := "askedBoth", desc := "(II)I" } : Jvm.MethodName)) ∈ tb := tb_of (in_t5 (List.mem_of_getElem? (i := 137) rfl)) rfl
theorem tc_5_138 : (Jvm.Cond.code ({ cls := "ThinAirModel", name := "askedBoth", desc := "(II)I" } : Jvm.MethodName) prog_13_method_57_code (3 : Nat) (Option.some Jvm.ClassFile.FieldType.int)) ∈ tb := tb_of (in_t5 (List.mem_of_getElem? (i := 138) rfl)) rfl
theorem tc_5_139 : (Jvm.Cond.methodLink "ThinAirModel" (203 : Nat) ({ cls := "ThinAirModel", name := "givesWith", desc := "(III)I" } : Jvm.MethodName)) ∈ tb := tb_of (in_t5 (List.mem_of_getElem? (i := 139) rfl)) rfl
theorem tc_5_141 : (Jvm.Cond.instanceMethod ({ cls := "ThinAirModel", name := "givesWith", desc := "(III)I" } : Jvm.MethodName)) ∈ tb := tb_of (in_t5 (List.mem_of_getElem? (i := 141) rfl)) rfl
theorem tc_5_142 : (Jvm.Cond.code ({ cls := "ThinAirModel", name := "givesWith", desc := "(III)I" } : Jvm.MethodName) prog_13_method_55_code (7 : Nat) (Option.some Jvm.ClassFile.FieldType.int)) ∈ tb := tb_of (in_t5 (List.mem_of_getElem? (i := 142) rfl)) rfl
theorem tc_5_143 : (Jvm.Cond.methodLink "ThinAirModel" (200 : Nat) ({ cls := "ThinAirModel", name := "byWind", desc := "(II)I" } : Jvm.MethodName)) ∈ tb := tb_of (in_t5 (List.mem_of_getElem? (i := 143) rfl)) rfl
theorem tc_5_145 : (Jvm.Cond.instanceMethod ({ cls := "ThinAirModel", name := "byWind", desc := "(II)I" } : Jvm.MethodName)) ∈ tb := tb_of (in_t5 (List.mem_of_getElem? (i := 145) rfl)) rfl
theorem tc_5_146 : (Jvm.Cond.code ({ cls := "ThinAirModel", name := "byWind", desc := "(II)I" } : Jvm.MethodName) prog_13_method_54_code (3 : Nat) (Option.some Jvm.ClassFile.FieldType.int)) ∈ tb := tb_of (in_t5 (List.mem_of_getElem? (i := 146) rfl)) rfl
theorem tc_5_147 : (Jvm.Cond.methodLink "ThinAirModel" (197 : Nat) ({ cls := "ThinAirModel", name := "steps", desc := "(III)I" } : Jvm.MethodName)) ∈ tb := tb_of (in_t5 (List.mem_of_getElem? (i := 147) rfl)) rfl
theorem tc_5_149 : (Jvm.Cond.instanceMethod ({ cls := "ThinAirModel", name := "steps", desc := "(III)I" } : Jvm.MethodName)) ∈ tb := tb_of (in_t5 (List.mem_of_getElem? (i := 149) rfl)) rfl
theorem tc_5_150 : (Jvm.Cond.code ({ cls := "ThinAirModel", name := "steps", desc := "(III)I" } : Jvm.MethodName) prog_13_method_53_code (6 : Nat) (Option.some Jvm.ClassFile.FieldType.int)) ∈ tb := tb_of (in_t5 (List.mem_of_getElem? (i := 150) rfl)) rfl
theorem tc_5_151 : (Jvm.Cond.methodLink "ThinAirModel" (193 : Nat) ({ cls := "ThinAirModel", name := "step", desc := "(III)I" } : Jvm.MethodName)) ∈ tb := tb_of (in_t5 (List.mem_of_getElem? (i := 151) rfl)) rfl
theorem tc_5_153 : (Jvm.Cond.instanceMethod ({ cls := "ThinAirModel", name := "step", desc := "(III)I" } : Jvm.MethodName)) ∈ tb := tb_of (in_t5 (List.mem_of_getElem? (i := 153) rfl)) rfl
theorem tc_5_154 : (Jvm.Cond.code ({ cls := "ThinAirModel", name := "step", desc := "(III)I" } : Jvm.MethodName) prog_13_method_52_code (5 : Nat) (Option.some Jvm.ClassFile.FieldType.int)) ∈ tb := tb_of (in_t5 (List.mem_of_getElem? (i := 154) rfl)) rfl
theorem tc_5_155 : (Jvm.Cond.methodLink "ThinAirLaw" (110 : Nat) ({ cls := "ThinAirModel", name := "home", desc := "(II)I" } : Jvm.MethodName)) ∈ tb := tb_of (in_t5 (List.mem_of_getElem? (i := 155) rfl)) rfl
theorem tc_5_156 : (Jvm.Cond.instanceMethod ({ cls := "ThinAirModel", name := "home", desc := "(II)I" } : Jvm.MethodName)) ∈ tb := tb_of (in_t5 (List.mem_of_getElem? (i := 156) rfl)) rfl
theorem tc_5_157 : (Jvm.Cond.selects "ThinAirModel" ({ cls := "ThinAirModel", name := "home", desc := "(II)I" } : Jvm.MethodName) ({ cls := "ThinAirModel", name := "home", desc := "(II)I" } : Jvm.MethodName)) ∈ tb := tb_of (in_t5 (List.mem_of_getElem? (i := 157) rfl)) rfl
theorem tc_5_158 : (Jvm.Cond.code ({ cls := "ThinAirModel", name := "home", desc := "(II)I" } : Jvm.MethodName) prog_13_method_59_code (4 : Nat) (Option.some Jvm.ClassFile.FieldType.int)) ∈ tb := tb_of (in_t5 (List.mem_of_getElem? (i := 158) rfl)) rfl
theorem tc_5_159 : (Jvm.Cond.methodLink "ThinAirModel" (209 : Nat) ({ cls := "ThinAirModel", name := "homeWith", desc := "(III)I" } : Jvm.MethodName)) ∈ tb := tb_of (in_t5 (List.mem_of_getElem? (i := 159) rfl)) rfl
theorem tc_5_161 : (Jvm.Cond.instanceMethod ({ cls := "ThinAirModel", name := "homeWith", desc := "(III)I" } : Jvm.MethodName)) ∈ tb := tb_of (in_t5 (List.mem_of_getElem? (i := 161) rfl)) rfl
theorem tc_5_162 : (Jvm.Cond.code ({ cls := "ThinAirModel", name := "homeWith", desc := "(III)I" } : Jvm.MethodName) prog_13_method_56_code (4 : Nat) (Option.some Jvm.ClassFile.FieldType.int)) ∈ tb := tb_of (in_t5 (List.mem_of_getElem? (i := 162) rfl)) rfl
theorem tc_5_163 : (Jvm.Cond.methodLink "ThinAirLaw" (114 : Nat) ({ cls := "ThinAirModel", name := "span", desc := "(II)I" } : Jvm.MethodName)) ∈ tb := tb_of (in_t5 (List.mem_of_getElem? (i := 163) rfl)) rfl
theorem tc_5_164 : (Jvm.Cond.instanceMethod ({ cls := "ThinAirModel", name := "span", desc := "(II)I" } : Jvm.MethodName)) ∈ tb := tb_of (in_t5 (List.mem_of_getElem? (i := 164) rfl)) rfl
theorem tc_5_165 : (Jvm.Cond.selects "ThinAirModel" ({ cls := "ThinAirModel", name := "span", desc := "(II)I" } : Jvm.MethodName) ({ cls := "ThinAirModel", name := "span", desc := "(II)I" } : Jvm.MethodName)) ∈ tb := tb_of (in_t5 (List.mem_of_getElem? (i := 165) rfl)) rfl
theorem tc_5_166 : (Jvm.Cond.code ({ cls := "ThinAirModel", name := "span", desc := "(II)I" } : Jvm.MethodName) prog_13_method_61_code (4 : Nat) (Option.some Jvm.ClassFile.FieldType.int)) ∈ tb := tb_of (in_t5 (List.mem_of_getElem? (i := 166) rfl)) rfl
theorem tc_5_167 : (Jvm.Cond.methodLink "ThinAirModel" (212 : Nat) ({ cls := "ThinAirModel", name := "end", desc := "(IIZ)I" } : Jvm.MethodName)) ∈ tb := tb_of (in_t5 (List.mem_of_getElem? (i := 167) rfl)) rfl
theorem tc_5_169 : (Jvm.Cond.instanceMethod ({ cls := "ThinAirModel", name := "end", desc := "(IIZ)I" } : Jvm.MethodName)) ∈ tb := tb_of (in_t5 (List.mem_of_getElem? (i := 169) rfl)) rfl
theorem tc_5_170 : (Jvm.Cond.code ({ cls := "ThinAirModel", name := "end", desc := "(IIZ)I" } : Jvm.MethodName) prog_13_method_60_code (8 : Nat) (Option.some Jvm.ClassFile.FieldType.int)) ∈ tb := tb_of (in_t5 (List.mem_of_getElem? (i := 170) rfl)) rfl
theorem tc_5_171 : (Jvm.Cond.methodLink "ThinAirLaw" (118 : Nat) ({ cls := "ThinAirModel", name := "sure", desc := "(III)I" } : Jvm.MethodName)) ∈ tb := tb_of (in_t5 (List.mem_of_getElem? (i := 171) rfl)) rfl
theorem tc_5_172 : (Jvm.Cond.instanceMethod ({ cls := "ThinAirModel", name := "sure", desc := "(III)I" } : Jvm.MethodName)) ∈ tb := tb_of (in_t5 (List.mem_of_getElem? (i := 172) rfl)) rfl
theorem tc_5_173 : (Jvm.Cond.selects "ThinAirModel" ({ cls := "ThinAirModel", name := "sure", desc := "(III)I" } : Jvm.MethodName) ({ cls := "ThinAirModel", name := "sure", desc := "(III)I" } : Jvm.MethodName)) ∈ tb := tb_of (in_t5 (List.mem_of_getElem? (i := 173) rfl)) rfl
theorem tc_5_174 : (Jvm.Cond.code ({ cls := "ThinAirModel", name := "sure", desc := "(III)I" } : Jvm.MethodName) prog_13_method_62_code (5 : Nat) (Option.some Jvm.ClassFile.FieldType.int)) ∈ tb := tb_of (in_t5 (List.mem_of_getElem? (i := 174) rfl)) rfl
theorem tc_5_175 : (Jvm.Cond.methodLink "ThinAirLaw" (122 : Nat) ({ cls := "ThinAirModel", name := "turns", desc := "(II)I" } : Jvm.MethodName)) ∈ tb := tb_of (in_t5 (List.mem_of_getElem? (i := 175) rfl)) rfl
theorem tc_5_176 : (Jvm.Cond.instanceMethod ({ cls := "ThinAirModel", name := "turns", desc := "(II)I" } : Jvm.MethodName)) ∈ tb := tb_of (in_t5 (List.mem_of_getElem? (i := 176) rfl)) rfl
theorem tc_5_177 : (Jvm.Cond.selects "ThinAirModel" ({ cls := "ThinAirModel", name := "turns", desc := "(II)I" } : Jvm.MethodName) ({ cls := "ThinAirModel", name := "turns", desc := "(II)I" } : Jvm.MethodName)) ∈ tb := tb_of (in_t5 (List.mem_of_getElem? (i := 177) rfl)) rfl
theorem tc_5_178 : (Jvm.Cond.code ({ cls := "ThinAirModel", name := "turns", desc := "(II)I" } : Jvm.MethodName) prog_13_method_63_code (5 : Nat) (Option.some Jvm.ClassFile.FieldType.int)) ∈ tb := tb_of (in_t5 (List.mem_of_getElem? (i := 178) rfl)) rfl
theorem tc_5_179 : (Jvm.Cond.methodLink "ThinAirLaw" (126 : Nat) ({ cls := "ThinAirModel", name := "pairs", desc := "(I)I" } : Jvm.MethodName)) ∈ tb := tb_of (in_t5 (List.mem_of_getElem? (i := 179) rfl)) rfl
theorem tc_5_180 : (Jvm.Cond.instanceMethod ({ cls := "ThinAirModel", name := "pairs", desc := "(I)I" } : Jvm.MethodName)) ∈ tb := tb_of (in_t5 (List.mem_of_getElem? (i := 180) rfl)) rfl
theorem tc_5_181 : (Jvm.Cond.selects "ThinAirModel" ({ cls := "ThinAirModel", name := "pairs", desc := "(I)I" } : Jvm.MethodName) ({ cls := "ThinAirModel", name := "pairs", desc := "(I)I" } : Jvm.MethodName)) ∈ tb := tb_of (in_t5 (List.mem_of_getElem? (i := 181) rfl)) rfl
theorem tc_5_182 : (Jvm.Cond.code ({ cls := "ThinAirModel", name := "pairs", desc := "(I)I" } : Jvm.MethodName) prog_13_method_66_code (6 : Nat) (Option.some Jvm.ClassFile.FieldType.int)) ∈ tb := tb_of (in_t5 (List.mem_of_getElem? (i := 182) rfl)) rfl
theorem tc_5_183 : (Jvm.Cond.methodLink "ThinAirModel" (219 : Nat) ({ cls := "ThinAirModel", name := "unlikeIn", desc := "(II)I" } : Jvm.MethodName)) ∈ tb := tb_of (in_t5 (List.mem_of_getElem? (i := 183) rfl)) rfl
theorem tc_5_185 : (Jvm.Cond.instanceMethod ({ cls := "ThinAirModel", name := "unlikeIn", desc := "(II)I" } : Jvm.MethodName)) ∈ tb := tb_of (in_t5 (List.mem_of_getElem? (i := 185) rfl)) rfl
theorem tc_5_186 : (Jvm.Cond.code ({ cls := "ThinAirModel", name := "unlikeIn", desc := "(II)I" } : Jvm.MethodName) prog_13_method_65_code (10 : Nat) (Option.some Jvm.ClassFile.FieldType.int)) ∈ tb := tb_of (in_t5 (List.mem_of_getElem? (i := 186) rfl)) rfl
theorem tc_5_187 : (Jvm.Cond.methodLink "ThinAirModel" (216 : Nat) ({ cls := "ThinAirModel", name := "aspect", desc := "(II)I" } : Jvm.MethodName)) ∈ tb := tb_of (in_t5 (List.mem_of_getElem? (i := 187) rfl)) rfl
theorem tc_5_189 : (Jvm.Cond.instanceMethod ({ cls := "ThinAirModel", name := "aspect", desc := "(II)I" } : Jvm.MethodName)) ∈ tb := tb_of (in_t5 (List.mem_of_getElem? (i := 189) rfl)) rfl
theorem tc_5_190 : (Jvm.Cond.code ({ cls := "ThinAirModel", name := "aspect", desc := "(II)I" } : Jvm.MethodName) prog_13_method_64_code (3 : Nat) (Option.some Jvm.ClassFile.FieldType.int)) ∈ tb := tb_of (in_t5 (List.mem_of_getElem? (i := 190) rfl)) rfl
theorem tc_5_191 : (Jvm.Cond.methodLink "ThinAirLaw" (130 : Nat) ({ cls := "ThinAirModel", name := "learn", desc := "(I)I" } : Jvm.MethodName)) ∈ tb := tb_of (in_t5 (List.mem_of_getElem? (i := 191) rfl)) rfl
theorem tc_5_192 : (Jvm.Cond.instanceMethod ({ cls := "ThinAirModel", name := "learn", desc := "(I)I" } : Jvm.MethodName)) ∈ tb := tb_of (in_t5 (List.mem_of_getElem? (i := 192) rfl)) rfl
theorem tc_5_193 : (Jvm.Cond.selects "ThinAirModel" ({ cls := "ThinAirModel", name := "learn", desc := "(I)I" } : Jvm.MethodName) ({ cls := "ThinAirModel", name := "learn", desc := "(I)I" } : Jvm.MethodName)) ∈ tb := tb_of (in_t5 (List.mem_of_getElem? (i := 193) rfl)) rfl
theorem tc_5_194 : (Jvm.Cond.code ({ cls := "ThinAirModel", name := "learn", desc := "(I)I" } : Jvm.MethodName) prog_13_method_67_code (11 : Nat) (Option.some Jvm.ClassFile.FieldType.int)) ∈ tb := tb_of (in_t5 (List.mem_of_getElem? (i := 194) rfl)) rfl
theorem tc_5_195 : (Jvm.Cond.methodLink "ThinAirModel" (222 : Nat) ({ cls := "ThinAirModel", name := "tell", desc := "(JJI)I" } : Jvm.MethodName)) ∈ tb := tb_of (in_t5 (List.mem_of_getElem? (i := 195) rfl)) rfl
theorem tc_5_197 : (Jvm.Cond.instanceMethod ({ cls := "ThinAirModel", name := "tell", desc := "(JJI)I" } : Jvm.MethodName)) ∈ tb := tb_of (in_t5 (List.mem_of_getElem? (i := 197) rfl)) rfl
theorem tc_5_198 : (Jvm.Cond.code ({ cls := "ThinAirModel", name := "tell", desc := "(JJI)I" } : Jvm.MethodName) prog_13_method_6_code (12 : Nat) (Option.some Jvm.ClassFile.FieldType.int)) ∈ tb := tb_of (in_t5 (List.mem_of_getElem? (i := 198) rfl)) rfl
theorem tc_5_199 : (Jvm.Cond.methodLink "ThinAirLaw" (134 : Nat) ({ cls := "ThinAirModel", name := "just", desc := "(I)I" } : Jvm.MethodName)) ∈ tb := tb_of (in_t5 (List.mem_of_getElem? (i := 199) rfl)) rfl
theorem tc_5_200 : (Jvm.Cond.instanceMethod ({ cls := "ThinAirModel", name := "just", desc := "(I)I" } : Jvm.MethodName)) ∈ tb := tb_of (in_t5 (List.mem_of_getElem? (i := 200) rfl)) rfl
theorem tc_5_201 : (Jvm.Cond.selects "ThinAirModel" ({ cls := "ThinAirModel", name := "just", desc := "(I)I" } : Jvm.MethodName) ({ cls := "ThinAirModel", name := "just", desc := "(I)I" } : Jvm.MethodName)) ∈ tb := tb_of (in_t5 (List.mem_of_getElem? (i := 201) rfl)) rfl
theorem tc_5_202 : (Jvm.Cond.code ({ cls := "ThinAirModel", name := "just", desc := "(I)I" } : Jvm.MethodName) prog_13_method_69_code (12 : Nat) (Option.some Jvm.ClassFile.FieldType.int)) ∈ tb := tb_of (in_t5 (List.mem_of_getElem? (i := 202) rfl)) rfl
theorem tc_5_203 : (Jvm.Cond.methodLink "ThinAirModel" (226 : Nat) ({ cls := "ThinAirModel", name := "ways", desc := "(II)J" } : Jvm.MethodName)) ∈ tb := tb_of (in_t5 (List.mem_of_getElem? (i := 203) rfl)) rfl
theorem tc_5_204 : (Jvm.Cond.static ({ cls := "ThinAirModel", name := "ways", desc := "(II)J" } : Jvm.MethodName)) ∈ tb := tb_of (in_t5 (List.mem_of_getElem? (i := 204) rfl)) rfl
theorem tc_5_205 : (Jvm.Cond.code ({ cls := "ThinAirModel", name := "ways", desc := "(II)J" } : Jvm.MethodName) prog_13_method_68_code (5 : Nat) (Option.some Jvm.ClassFile.FieldType.long)) ∈ tb := tb_of (in_t5 (List.mem_of_getElem? (i := 205) rfl)) rfl
theorem tc_5_206 : (Jvm.Cond.constantLong "ThinAirModel" (230 : Nat) (4 : Int64)) ∈ tb := tb_of (in_t5 (List.mem_of_getElem? (i := 206) rfl)) rfl
theorem tc_5_207 : (Jvm.Cond.constantLong "ThinAirModel" (232 : Nat) (5 : Int64)) ∈ tb := tb_of (in_t5 (List.mem_of_getElem? (i := 207) rfl)) rfl
theorem tc_5_208 : (Jvm.Cond.methodLink "ThinAirLaw" (138 : Nat) ({ cls := "ThinAirModel", name := "list", desc := "(I)I" } : Jvm.MethodName)) ∈ tb := tb_of (in_t5 (List.mem_of_getElem? (i := 208) rfl)) rfl
theorem tc_5_209 : (Jvm.Cond.instanceMethod ({ cls := "ThinAirModel", name := "list", desc := "(I)I" } : Jvm.MethodName)) ∈ tb := tb_of (in_t5 (List.mem_of_getElem? (i := 209) rfl)) rfl
theorem tc_5_210 : (Jvm.Cond.selects "ThinAirModel" ({ cls := "ThinAirModel", name := "list", desc := "(I)I" } : Jvm.MethodName) ({ cls := "ThinAirModel", name := "list", desc := "(I)I" } : Jvm.MethodName)) ∈ tb := tb_of (in_t5 (List.mem_of_getElem? (i := 210) rfl)) rfl
theorem tc_5_211 : (Jvm.Cond.code ({ cls := "ThinAirModel", name := "list", desc := "(I)I" } : Jvm.MethodName) prog_13_method_74_code (3 : Nat) (Option.some Jvm.ClassFile.FieldType.int)) ∈ tb := tb_of (in_t5 (List.mem_of_getElem? (i := 211) rfl)) rfl
theorem tc_5_212 : (Jvm.Cond.methodLink "ThinAirModel" (243 : Nat) ({ cls := "ThinAirModel", name := "askedRules", desc := "(I)I" } : Jvm.MethodName)) ∈ tb := tb_of (in_t5 (List.mem_of_getElem? (i := 212) rfl)) rfl
theorem tc_5_214 : (Jvm.Cond.instanceMethod ({ cls := "ThinAirModel", name := "askedRules", desc := "(I)I" } : Jvm.MethodName)) ∈ tb := tb_of (in_t5 (List.mem_of_getElem? (i := 214) rfl)) rfl
theorem tc_5_215 : (Jvm.Cond.code ({ cls := "ThinAirModel", name := "askedRules", desc := "(I)I" } : Jvm.MethodName) prog_13_method_73_code (3 : Nat) (Option.some Jvm.ClassFile.FieldType.int)) ∈ tb := tb_of (in_t5 (List.mem_of_getElem? (i := 215) rfl)) rfl
theorem tc_5_216 : (Jvm.Cond.methodLink "ThinAirModel" (246 : Nat) ({ cls := "ThinAirModel", name := "setList", desc := "(Z)V" } : Jvm.MethodName)) ∈ tb := tb_of (in_t5 (List.mem_of_getElem? (i := 216) rfl)) rfl
theorem tc_5_218 : (Jvm.Cond.instanceMethod ({ cls := "ThinAirModel", name := "setList", desc := "(Z)V" } : Jvm.MethodName)) ∈ tb := tb_of (in_t5 (List.mem_of_getElem? (i := 218) rfl)) rfl
theorem tc_5_219 : (Jvm.Cond.code ({ cls := "ThinAirModel", name := "setList", desc := "(Z)V" } : Jvm.MethodName) prog_13_method_72_code (6 : Nat) (Option.none : Option Jvm.ClassFile.FieldType)) ∈ tb := tb_of (in_t5 (List.mem_of_getElem? (i := 219) rfl)) rfl
theorem tc_5_220 : (Jvm.Cond.methodLink "ThinAirModel" (237 : Nat) ({ cls := "ThinAirModel", name := "isLet", desc := "(I)Z" } : Jvm.MethodName)) ∈ tb := tb_of (in_t5 (List.mem_of_getElem? (i := 220) rfl)) rfl
theorem tc_5_222 : (Jvm.Cond.instanceMethod ({ cls := "ThinAirModel", name := "isLet", desc := "(I)Z" } : Jvm.MethodName)) ∈ tb := tb_of (in_t5 (List.mem_of_getElem? (i := 222) rfl)) rfl
theorem tc_5_223 : (Jvm.Cond.code ({ cls := "ThinAirModel", name := "isLet", desc := "(I)Z" } : Jvm.MethodName) prog_13_method_70_code (5 : Nat) (Option.some Jvm.ClassFile.FieldType.boolean)) ∈ tb := tb_of (in_t5 (List.mem_of_getElem? (i := 223) rfl)) rfl
theorem tc_5_224 : (Jvm.Cond.methodLink "ThinAirModel" (240 : Nat) ({ cls := "ThinAirModel", name := "worth", desc := "(I)I" } : Jvm.MethodName)) ∈ tb := tb_of (in_t5 (List.mem_of_getElem? (i := 224) rfl)) rfl
theorem tc_5_226 : (Jvm.Cond.instanceMethod ({ cls := "ThinAirModel", name := "worth", desc := "(I)I" } : Jvm.MethodName)) ∈ tb := tb_of (in_t5 (List.mem_of_getElem? (i := 226) rfl)) rfl
theorem tc_5_227 : (Jvm.Cond.code ({ cls := "ThinAirModel", name := "worth", desc := "(I)I" } : Jvm.MethodName) prog_13_method_71_code (2 : Nat) (Option.some Jvm.ClassFile.FieldType.int)) ∈ tb := tb_of (in_t5 (List.mem_of_getElem? (i := 227) rfl)) rfl
theorem tc_5_228 : (Jvm.Cond.methodLink "ThinAirLaw" (142 : Nat) ({ cls := "ThinAirModel", name := "listed", desc := "(II)I" } : Jvm.MethodName)) ∈ tb := tb_of (in_t5 (List.mem_of_getElem? (i := 228) rfl)) rfl
theorem tc_5_229 : (Jvm.Cond.instanceMethod ({ cls := "ThinAirModel", name := "listed", desc := "(II)I" } : Jvm.MethodName)) ∈ tb := tb_of (in_t5 (List.mem_of_getElem? (i := 229) rfl)) rfl
theorem tc_5_230 : (Jvm.Cond.selects "ThinAirModel" ({ cls := "ThinAirModel", name := "listed", desc := "(II)I" } : Jvm.MethodName) ({ cls := "ThinAirModel", name := "listed", desc := "(II)I" } : Jvm.MethodName)) ∈ tb := tb_of (in_t5 (List.mem_of_getElem? (i := 230) rfl)) rfl
theorem tc_5_231 : (Jvm.Cond.code ({ cls := "ThinAirModel", name := "listed", desc := "(II)I" } : Jvm.MethodName) prog_13_method_75_code (4 : Nat) (Option.some Jvm.ClassFile.FieldType.int)) ∈ tb := tb_of (in_t5 (List.mem_of_getElem? (i := 231) rfl)) rfl
theorem tc_5_232 : (Jvm.Cond.methodLink "ThinAirLaw" (146 : Nat) ({ cls := "ThinAirModel", name := "gains", desc := "(II)I" } : Jvm.MethodName)) ∈ tb := tb_of (in_t5 (List.mem_of_getElem? (i := 232) rfl)) rfl
theorem tc_5_233 : (Jvm.Cond.instanceMethod ({ cls := "ThinAirModel", name := "gains", desc := "(II)I" } : Jvm.MethodName)) ∈ tb := tb_of (in_t5 (List.mem_of_getElem? (i := 233) rfl)) rfl
theorem tc_5_234 : (Jvm.Cond.selects "ThinAirModel" ({ cls := "ThinAirModel", name := "gains", desc := "(II)I" } : Jvm.MethodName) ({ cls := "ThinAirModel", name := "gains", desc := "(II)I" } : Jvm.MethodName)) ∈ tb := tb_of (in_t5 (List.mem_of_getElem? (i := 234) rfl)) rfl
theorem tc_5_235 : (Jvm.Cond.code ({ cls := "ThinAirModel", name := "gains", desc := "(II)I" } : Jvm.MethodName) prog_13_method_77_code (7 : Nat) (Option.some Jvm.ClassFile.FieldType.int)) ∈ tb := tb_of (in_t5 (List.mem_of_getElem? (i := 235) rfl)) rfl
theorem tc_5_236 : (Jvm.Cond.methodLink "ThinAirModel" (250 : Nat) ({ cls := "ThinAirModel", name := "setRanks", desc := "()V" } : Jvm.MethodName)) ∈ tb := tb_of (in_t5 (List.mem_of_getElem? (i := 236) rfl)) rfl
theorem tc_5_238 : (Jvm.Cond.instanceMethod ({ cls := "ThinAirModel", name := "setRanks", desc := "()V" } : Jvm.MethodName)) ∈ tb := tb_of (in_t5 (List.mem_of_getElem? (i := 238) rfl)) rfl
theorem tc_5_239 : (Jvm.Cond.code ({ cls := "ThinAirModel", name := "setRanks", desc := "()V" } : Jvm.MethodName) prog_13_method_76_code (2 : Nat) (Option.none : Option Jvm.ClassFile.FieldType)) ∈ tb := tb_of (in_t5 (List.mem_of_getElem? (i := 239) rfl)) rfl
theorem tc_6_0 : (Jvm.Cond.methodLink "ThinAirLaw" (150 : Nat) ({ cls := "ThinAirModel", name := "far", desc := "(I)I" } : Jvm.MethodName)) ∈ tb := tb_of (in_t6 (List.mem_of_getElem? (i := 0) rfl)) rfl
theorem tc_6_1 : (Jvm.Cond.instanceMethod ({ cls := "ThinAirModel", name := "far", desc := "(I)I" } : Jvm.MethodName)) ∈ tb := tb_of (in_t6 (List.mem_of_getElem? (i := 1) rfl)) rfl
theorem tc_6_2 : (Jvm.Cond.selects "ThinAirModel" ({ cls := "ThinAirModel", name := "far", desc := "(I)I" } : Jvm.MethodName) ({ cls := "ThinAirModel", name := "far", desc := "(I)I" } : Jvm.MethodName)) ∈ tb := tb_of (in_t6 (List.mem_of_getElem? (i := 2) rfl)) rfl
theorem tc_6_3 : (Jvm.Cond.code ({ cls := "ThinAirModel", name := "far", desc := "(I)I" } : Jvm.MethodName) prog_13_method_78_code (3 : Nat) (Option.some Jvm.ClassFile.FieldType.int)) ∈ tb := tb_of (in_t6 (List.mem_of_getElem? (i := 3) rfl)) rfl
theorem tc_6_4 : (Jvm.Cond.methodLink "ThinAirLaw" (154 : Nat) ({ cls := "ThinAirModel", name := "fall", desc := "(II)I" } : Jvm.MethodName)) ∈ tb := tb_of (in_t6 (List.mem_of_getElem? (i := 4) rfl)) rfl
theorem tc_6_5 : (Jvm.Cond.instanceMethod ({ cls := "ThinAirModel", name := "fall", desc := "(II)I" } : Jvm.MethodName)) ∈ tb := tb_of (in_t6 (List.mem_of_getElem? (i := 5) rfl)) rfl
theorem tc_6_6 : (Jvm.Cond.selects "ThinAirModel" ({ cls := "ThinAirModel", name := "fall", desc := "(II)I" } : Jvm.MethodName) ({ cls := "ThinAirModel", name := "fall", desc := "(II)I" } : Jvm.MethodName)) ∈ tb := tb_of (in_t6 (List.mem_of_getElem? (i := 6) rfl)) rfl
theorem tc_6_7 : (Jvm.Cond.code ({ cls := "ThinAirModel", name := "fall", desc := "(II)I" } : Jvm.MethodName) prog_13_method_79_code (3 : Nat) (Option.some Jvm.ClassFile.FieldType.int)) ∈ tb := tb_of (in_t6 (List.mem_of_getElem? (i := 7) rfl)) rfl
theorem tc_6_8 : (Jvm.Cond.methodLink "ThinAirLaw" (158 : Nat) ({ cls := "ThinAirModel", name := "crowd", desc := "(IIII)I" } : Jvm.MethodName)) ∈ tb := tb_of (in_t6 (List.mem_of_getElem? (i := 8) rfl)) rfl
theorem tc_6_9 : (Jvm.Cond.instanceMethod ({ cls := "ThinAirModel", name := "crowd", desc := "(IIII)I" } : Jvm.MethodName)) ∈ tb := tb_of (in_t6 (List.mem_of_getElem? (i := 9) rfl)) rfl
theorem tc_6_10 : (Jvm.Cond.selects "ThinAirModel" ({ cls := "ThinAirModel", name := "crowd", desc := "(IIII)I" } : Jvm.MethodName) ({ cls := "ThinAirModel", name := "crowd", desc := "(IIII)I" } : Jvm.MethodName)) ∈ tb := tb_of (in_t6 (List.mem_of_getElem? (i := 10) rfl)) rfl
theorem tc_6_11 : (Jvm.Cond.code ({ cls := "ThinAirModel", name := "crowd", desc := "(IIII)I" } : Jvm.MethodName) prog_13_method_80_code (11 : Nat) (Option.some Jvm.ClassFile.FieldType.int)) ∈ tb := tb_of (in_t6 (List.mem_of_getElem? (i := 11) rfl)) rfl
theorem tc_6_12 : (Jvm.Cond.methodLink "ThinAirLaw" (163 : Nat) ({ cls := "ThinAirModel", name := "next", desc := "()I" } : Jvm.MethodName)) ∈ tb := tb_of (in_t6 (List.mem_of_getElem? (i := 12) rfl)) rfl
theorem tc_6_13 : (Jvm.Cond.instanceMethod ({ cls := "ThinAirModel", name := "next", desc := "()I" } : Jvm.MethodName)) ∈ tb := tb_of (in_t6 (List.mem_of_getElem? (i := 13) rfl)) rfl
theorem tc_6_14 : (Jvm.Cond.selects "ThinAirModel" ({ cls := "ThinAirModel", name := "next", desc := "()I" } : Jvm.MethodName) ({ cls := "ThinAirModel", name := "next", desc := "()I" } : Jvm.MethodName)) ∈ tb := tb_of (in_t6 (List.mem_of_getElem? (i := 14) rfl)) rfl
theorem tc_6_15 : (Jvm.Cond.code ({ cls := "ThinAirModel", name := "next", desc := "()I" } : Jvm.MethodName) prog_13_method_81_code (6 : Nat) (Option.some Jvm.ClassFile.FieldType.int)) ∈ tb := tb_of (in_t6 (List.mem_of_getElem? (i := 15) rfl)) rfl
theorem tc_6_16 : (Jvm.Cond.methodLink "ThinAirLaw" (167 : Nat) ({ cls := "ThinAirModel", name := "asked", desc := "()I" } : Jvm.MethodName)) ∈ tb := tb_of (in_t6 (List.mem_of_getElem? (i := 16) rfl)) rfl
theorem tc_6_17 : (Jvm.Cond.instanceMethod ({ cls := "ThinAirModel", name := "asked", desc := "()I" } : Jvm.MethodName)) ∈ tb := tb_of (in_t6 (List.mem_of_getElem? (i := 17) rfl)) rfl
theorem tc_6_18 : (Jvm.Cond.selects "ThinAirModel" ({ cls := "ThinAirModel", name := "asked", desc := "()I" } : Jvm.MethodName) ({ cls := "ThinAirModel", name := "asked", desc := "()I" } : Jvm.MethodName)) ∈ tb := tb_of (in_t6 (List.mem_of_getElem? (i := 18) rfl)) rfl
theorem tc_6_19 : (Jvm.Cond.code ({ cls := "ThinAirModel", name := "asked", desc := "()I" } : Jvm.MethodName) prog_13_method_82_code (1 : Nat) (Option.some Jvm.ClassFile.FieldType.int)) ∈ tb := tb_of (in_t6 (List.mem_of_getElem? (i := 19) rfl)) rfl
theorem tc_6_20 : (Jvm.Cond.methodLink "ThinAirLaw" (172 : Nat) ({ cls := "ThinAirModel", name := "upper", desc := "()J" } : Jvm.MethodName)) ∈ tb := tb_of (in_t6 (List.mem_of_getElem? (i := 20) rfl)) rfl
theorem tc_6_21 : (Jvm.Cond.instanceMethod ({ cls := "ThinAirModel", name := "upper", desc := "()J" } : Jvm.MethodName)) ∈ tb := tb_of (in_t6 (List.mem_of_getElem? (i := 21) rfl)) rfl
theorem tc_6_22 : (Jvm.Cond.selects "ThinAirModel" ({ cls := "ThinAirModel", name := "upper", desc := "()J" } : Jvm.MethodName) ({ cls := "ThinAirModel", name := "upper", desc := "()J" } : Jvm.MethodName)) ∈ tb := tb_of (in_t6 (List.mem_of_getElem? (i := 22) rfl)) rfl
theorem tc_6_23 : (Jvm.Cond.code ({ cls := "ThinAirModel", name := "upper", desc := "()J" } : Jvm.MethodName) prog_13_method_83_code (1 : Nat) (Option.some Jvm.ClassFile.FieldType.long)) ∈ tb := tb_of (in_t6 (List.mem_of_getElem? (i := 23) rfl)) rfl
theorem tc_6_24 : (Jvm.Cond.methodLink "ThinAirLaw" (176 : Nat) ({ cls := "ThinAirModel", name := "lower", desc := "()J" } : Jvm.MethodName)) ∈ tb := tb_of (in_t6 (List.mem_of_getElem? (i := 24) rfl)) rfl
theorem tc_6_25 : (Jvm.Cond.instanceMethod ({ cls := "ThinAirModel", name := "lower", desc := "()J" } : Jvm.MethodName)) ∈ tb := tb_of (in_t6 (List.mem_of_getElem? (i := 25) rfl)) rfl
theorem tc_6_26 : (Jvm.Cond.selects "ThinAirModel" ({ cls := "ThinAirModel", name := "lower", desc := "()J" } : Jvm.MethodName) ({ cls := "ThinAirModel", name := "lower", desc := "()J" } : Jvm.MethodName)) ∈ tb := tb_of (in_t6 (List.mem_of_getElem? (i := 26) rfl)) rfl
theorem tc_6_27 : (Jvm.Cond.code ({ cls := "ThinAirModel", name := "lower", desc := "()J" } : Jvm.MethodName) prog_13_method_84_code (1 : Nat) (Option.some Jvm.ClassFile.FieldType.long)) ∈ tb := tb_of (in_t6 (List.mem_of_getElem? (i := 27) rfl)) rfl
theorem tc_6_28 : (Jvm.Cond.methodLink "ThinAirLaw" (180 : Nat) ({ cls := "ThinAirModel", name := "count", desc := "(I)I" } : Jvm.MethodName)) ∈ tb := tb_of (in_t6 (List.mem_of_getElem? (i := 28) rfl)) rfl
theorem tc_6_29 : (Jvm.Cond.instanceMethod ({ cls := "ThinAirModel", name := "count", desc := "(I)I" } : Jvm.MethodName)) ∈ tb := tb_of (in_t6 (List.mem_of_getElem? (i := 29) rfl)) rfl
theorem tc_6_30 : (Jvm.Cond.selects "ThinAirModel" ({ cls := "ThinAirModel", name := "count", desc := "(I)I" } : Jvm.MethodName) ({ cls := "ThinAirModel", name := "count", desc := "(I)I" } : Jvm.MethodName)) ∈ tb := tb_of (in_t6 (List.mem_of_getElem? (i := 30) rfl)) rfl
theorem tc_6_31 : (Jvm.Cond.code ({ cls := "ThinAirModel", name := "count", desc := "(I)I" } : Jvm.MethodName) prog_13_method_86_code (2 : Nat) (Option.some Jvm.ClassFile.FieldType.int)) ∈ tb := tb_of (in_t6 (List.mem_of_getElem? (i := 31) rfl)) rfl
theorem tc_6_32 : (Jvm.Cond.methodLink "ThinAirModel" (253 : Nat) ({ cls := "ThinAirModel", name := "counts", desc := "(I)I" } : Jvm.MethodName)) ∈ tb := tb_of (in_t6 (List.mem_of_getElem? (i := 32) rfl)) rfl
theorem tc_6_34 : (Jvm.Cond.instanceMethod ({ cls := "ThinAirModel", name := "counts", desc := "(I)I" } : Jvm.MethodName)) ∈ tb := tb_of (in_t6 (List.mem_of_getElem? (i := 34) rfl)) rfl
theorem tc_6_35 : (Jvm.Cond.code ({ cls := "ThinAirModel", name := "counts", desc := "(I)I" } : Jvm.MethodName) prog_13_method_85_code (4 : Nat) (Option.some Jvm.ClassFile.FieldType.int)) ∈ tb := tb_of (in_t6 (List.mem_of_getElem? (i := 35) rfl)) rfl
theorem tc_6_36 : (Jvm.Cond.methodLink "ThinAirLaw" (184 : Nat) ({ cls := "ThinAirModel", name := "finding", desc := "()I" } : Jvm.MethodName)) ∈ tb := tb_of (in_t6 (List.mem_of_getElem? (i := 36) rfl)) rfl
theorem tc_6_37 : (Jvm.Cond.instanceMethod ({ cls := "ThinAirModel", name := "finding", desc := "()I" } : Jvm.MethodName)) ∈ tb := tb_of (in_t6 (List.mem_of_getElem? (i := 37) rfl)) rfl
theorem tc_6_38 : (Jvm.Cond.selects "ThinAirModel" ({ cls := "ThinAirModel", name := "finding", desc := "()I" } : Jvm.MethodName) ({ cls := "ThinAirModel", name := "finding", desc := "()I" } : Jvm.MethodName)) ∈ tb := tb_of (in_t6 (List.mem_of_getElem? (i := 38) rfl)) rfl
theorem tc_6_39 : (Jvm.Cond.code ({ cls := "ThinAirModel", name := "finding", desc := "()I" } : Jvm.MethodName) prog_13_method_87_code (1 : Nat) (Option.some Jvm.ClassFile.FieldType.int)) ∈ tb := tb_of (in_t6 (List.mem_of_getElem? (i := 39) rfl)) rfl
theorem tc_6_40 : (Jvm.Cond.methodLink "ThinAirLaw" (188 : Nat) ({ cls := "ThinAirModel", name := "findings", desc := "(I)I" } : Jvm.MethodName)) ∈ tb := tb_of (in_t6 (List.mem_of_getElem? (i := 40) rfl)) rfl
theorem tc_6_41 : (Jvm.Cond.instanceMethod ({ cls := "ThinAirModel", name := "findings", desc := "(I)I" } : Jvm.MethodName)) ∈ tb := tb_of (in_t6 (List.mem_of_getElem? (i := 41) rfl)) rfl
theorem tc_6_42 : (Jvm.Cond.selects "ThinAirModel" ({ cls := "ThinAirModel", name := "findings", desc := "(I)I" } : Jvm.MethodName) ({ cls := "ThinAirModel", name := "findings", desc := "(I)I" } : Jvm.MethodName)) ∈ tb := tb_of (in_t6 (List.mem_of_getElem? (i := 42) rfl)) rfl
theorem tc_6_43 : (Jvm.Cond.code ({ cls := "ThinAirModel", name := "findings", desc := "(I)I" } : Jvm.MethodName) prog_13_method_88_code (2 : Nat) (Option.some Jvm.ClassFile.FieldType.int)) ∈ tb := tb_of (in_t6 (List.mem_of_getElem? (i := 43) rfl)) rfl
theorem tc_6_44 : (Jvm.Cond.methodLink "ThinAirLaw" (192 : Nat) ({ cls := "ThinAirModel", name := "digest", desc := "()J" } : Jvm.MethodName)) ∈ tb := tb_of (in_t6 (List.mem_of_getElem? (i := 44) rfl)) rfl
theorem tc_6_45 : (Jvm.Cond.instanceMethod ({ cls := "ThinAirModel", name := "digest", desc := "()J" } : Jvm.MethodName)) ∈ tb := tb_of (in_t6 (List.mem_of_getElem? (i := 45) rfl)) rfl
theorem tc_6_46 : (Jvm.Cond.selects "ThinAirModel" ({ cls := "ThinAirModel", name := "digest", desc := "()J" } : Jvm.MethodName) ({ cls := "ThinAirModel", name := "digest", desc := "()J" } : Jvm.MethodName)) ∈ tb := tb_of (in_t6 (List.mem_of_getElem? (i := 46) rfl)) rfl
theorem tc_6_47 : (Jvm.Cond.code ({ cls := "ThinAirModel", name := "digest", desc := "()J" } : Jvm.MethodName) prog_13_method_91_code (3 : Nat) (Option.some Jvm.ClassFile.FieldType.long)) ∈ tb := tb_of (in_t6 (List.mem_of_getElem? (i := 47) rfl)) rfl
theorem tc_6_48 : (Jvm.Cond.constantLong "ThinAirModel" (265 : Nat) (17 : Int64)) ∈ tb := tb_of (in_t6 (List.mem_of_getElem? (i := 48) rfl)) rfl
theorem tc_6_49 : (Jvm.Cond.methodLink "ThinAirModel" (261 : Nat) ({ cls := "ThinAirModel", name := "mix", desc := "(I)V" } : Jvm.MethodName)) ∈ tb := tb_of (in_t6 (List.mem_of_getElem? (i := 49) rfl)) rfl
theorem tc_6_51 : (Jvm.Cond.instanceMethod ({ cls := "ThinAirModel", name := "mix", desc := "(I)V" } : Jvm.MethodName)) ∈ tb := tb_of (in_t6 (List.mem_of_getElem? (i := 51) rfl)) rfl
theorem tc_6_52 : (Jvm.Cond.code ({ cls := "ThinAirModel", name := "mix", desc := "(I)V" } : Jvm.MethodName) prog_13_method_89_code (2 : Nat) (Option.none : Option Jvm.ClassFile.FieldType)) ∈ tb := tb_of (in_t6 (List.mem_of_getElem? (i := 52) rfl)) rfl
theorem tc_6_53 : (Jvm.Cond.constantLong "ThinAirModel" (256 : Nat) (31 : Int64)) ∈ tb := tb_of (in_t6 (List.mem_of_getElem? (i := 53) rfl)) rfl
theorem tc_6_54 : (Jvm.Cond.methodLink "ThinAirModel" (267 : Nat) ({ cls := "ThinAirModel", name := "mixMarks", desc := "()V" } : Jvm.MethodName)) ∈ tb := tb_of (in_t6 (List.mem_of_getElem? (i := 54) rfl)) rfl
theorem tc_6_56 : (Jvm.Cond.instanceMethod ({ cls := "ThinAirModel", name := "mixMarks", desc := "()V" } : Jvm.MethodName)) ∈ tb := tb_of (in_t6 (List.mem_of_getElem? (i := 56) rfl)) rfl
theorem tc_6_57 : (Jvm.Cond.code ({ cls := "ThinAirModel", name := "mixMarks", desc := "()V" } : Jvm.MethodName) prog_13_method_90_code (3 : Nat) (Option.none : Option Jvm.ClassFile.FieldType)) ∈ tb := tb_of (in_t6 (List.mem_of_getElem? (i := 57) rfl)) rfl
theorem tc_6_58 : (Jvm.Cond.sameMethod "ThinAir$Strip" "ThinAir$Strip" "isMissing" "()Z") ∈ tb := tb_of (in_t6 (List.mem_of_getElem? (i := 58) rfl)) rfl
theorem tc_6_59 : (Jvm.Cond.selects "ThinAir$Row" ({ cls := "ThinAir$Strip", name := "isMissing", desc := "()Z" } : Jvm.MethodName) ({ cls := "ThinAir$Strip", name := "isMissing", desc := "()Z" } : Jvm.MethodName)) ∈ tb := tb_of (in_t6 (List.mem_of_getElem? (i := 59) rfl)) rfl
theorem tc_6_60 : (Jvm.Cond.selects "ThinAir$Text" ({ cls := "ThinAir$Strip", name := "isMissing", desc := "()Z" } : Jvm.MethodName) ({ cls := "ThinAir$Strip", name := "isMissing", desc := "()Z" } : Jvm.MethodName)) ∈ tb := tb_of (in_t6 (List.mem_of_getElem? (i := 60) rfl)) rfl
def zF0 : u_T := fun k => match k with
  | _ => ("", "", "", false)
def zy0 : Nat → FieldType := fun k => match k with
  | _ => .int
theorem zw0 : ∀ w ∈ u_ws "ThinAir$Items" zF0 0, w ∈ tb := by
  show ∀ w ∈ ([] : List Cond), w ∈ tb
  exact fun _ h => absurd h List.not_mem_nil
theorem zn0 : ∀ a, a < 0 → ∀ b, b < 0 → a ≠ b → (zF0 a).2.1 ≠ (zF0 b).2.1 := by decide +kernel
theorem zt0 : ∀ k, k < 0 → parseFieldDescriptor (zF0 k).2.2.1 = some (zy0 k) := by decide +kernel
def zF1 : u_T := fun k => match k with
  | _ => ("ThinAir$Laws", "numbers", "[I", true)
def zy1 : Nat → FieldType := fun k => match k with
  | _ => .array (.int)
theorem zw1 : ∀ w ∈ u_ws "ThinAir$Laws" zF1 1, w ∈ tb := by
  show ∀ w ∈ ([Cond.laysFinal "ThinAir$Laws" "ThinAir$Laws" "numbers" "[I"] : List Cond), w ∈ tb
  exact List.forall_mem_cons.mpr ⟨tc_3_62, fun _ h => absurd h List.not_mem_nil⟩
theorem zn1 : ∀ a, a < 1 → ∀ b, b < 1 → a ≠ b → (zF1 a).2.1 ≠ (zF1 b).2.1 := by decide +kernel
theorem zt1 : ∀ k, k < 1 → parseFieldDescriptor (zF1 k).2.2.1 = some (zy1 k) := by decide +kernel
def zF2 : u_T := fun k => match k with
  | 0 => ("ThinAir$Mark", "person", "I", true)
  | 1 => ("ThinAir$Mark", "place", "I", true)
  | 2 => ("ThinAir$Mark", "where", "LThinAir$Place;", true)
  | 3 => ("ThinAir$Mark", "day", "I", true)
  | 4 => ("ThinAir$Mark", "value", "I", true)
  | 5 => ("ThinAir$Mark", "wind", "I", true)
  | 6 => ("ThinAir$Mark", "shoe", "I", true)
  | 7 => ("ThinAir$Mark", "kind", "I", false)
  | 8 => ("ThinAir$Mark", "much", "I", false)
  | _ => ("ThinAir$Mark", "ownTale", "I", false)
def zy2 : Nat → FieldType := fun k => match k with
  | 0 => .int
  | 1 => .int
  | 2 => .object "ThinAir$Place"
  | 3 => .int
  | 4 => .int
  | 5 => .int
  | 6 => .int
  | 7 => .int
  | 8 => .int
  | _ => .int
theorem zw2 : ∀ w ∈ u_ws "ThinAir$Mark" zF2 10, w ∈ tb := by
  show ∀ w ∈ ([Cond.laysFinal "ThinAir$Mark" "ThinAir$Mark" "person" "I", Cond.laysFinal "ThinAir$Mark" "ThinAir$Mark" "place" "I", Cond.laysFinal "ThinAir$Mark" "ThinAir$Mark" "where" "LThinAir$Place;", Cond.laysFinal "ThinAir$Mark" "ThinAir$Mark" "day" "I", Cond.laysFinal "ThinAir$Mark" "ThinAir$Mark" "value" "I", Cond.laysFinal "ThinAir$Mark" "ThinAir$Mark" "wind" "I", Cond.laysFinal "ThinAir$Mark" "ThinAir$Mark" "shoe" "I", Cond.lays "ThinAir$Mark" "ThinAir$Mark" "kind" "I", Cond.lays "ThinAir$Mark" "ThinAir$Mark" "much" "I", Cond.lays "ThinAir$Mark" "ThinAir$Mark" "ownTale" "I"] : List Cond), w ∈ tb
  exact List.forall_mem_cons.mpr ⟨tc_2_81, List.forall_mem_cons.mpr ⟨tc_2_83, List.forall_mem_cons.mpr ⟨tc_2_85, List.forall_mem_cons.mpr ⟨tc_2_87, List.forall_mem_cons.mpr ⟨tc_2_89, List.forall_mem_cons.mpr ⟨tc_2_91, List.forall_mem_cons.mpr ⟨tc_2_93, List.forall_mem_cons.mpr ⟨tc_2_95, List.forall_mem_cons.mpr ⟨tc_2_97, List.forall_mem_cons.mpr ⟨tc_2_99, fun _ h => absurd h List.not_mem_nil⟩⟩⟩⟩⟩⟩⟩⟩⟩⟩
theorem zn2 : ∀ a, a < 10 → ∀ b, b < 10 → a ≠ b → (zF2 a).2.1 ≠ (zF2 b).2.1 := by decide +kernel
theorem zt2 : ∀ k, k < 10 → parseFieldDescriptor (zF2 k).2.2.1 = some (zy2 k) := by decide +kernel
def zF3 : u_T := fun k => match k with
  | 0 => ("ThinAir$Place", "height", "I", true)
  | 1 => ("ThinAir$Place", "heat", "I", true)
  | 2 => ("ThinAir$Place", "floor", "I", true)
  | _ => ("ThinAir$Place", "land", "I", true)
def zy3 : Nat → FieldType := fun k => match k with
  | 0 => .int
  | 1 => .int
  | 2 => .int
  | _ => .int
theorem zw3 : ∀ w ∈ u_ws "ThinAir$Place" zF3 4, w ∈ tb := by
  show ∀ w ∈ ([Cond.laysFinal "ThinAir$Place" "ThinAir$Place" "height" "I", Cond.laysFinal "ThinAir$Place" "ThinAir$Place" "heat" "I", Cond.laysFinal "ThinAir$Place" "ThinAir$Place" "floor" "I", Cond.laysFinal "ThinAir$Place" "ThinAir$Place" "land" "I"] : List Cond), w ∈ tb
  exact List.forall_mem_cons.mpr ⟨tc_2_22, List.forall_mem_cons.mpr ⟨tc_2_24, List.forall_mem_cons.mpr ⟨tc_2_26, List.forall_mem_cons.mpr ⟨tc_2_28, fun _ h => absurd h List.not_mem_nil⟩⟩⟩⟩
theorem zn3 : ∀ a, a < 4 → ∀ b, b < 4 → a ≠ b → (zF3 a).2.1 ≠ (zF3 b).2.1 := by decide +kernel
theorem zt3 : ∀ k, k < 4 → parseFieldDescriptor (zF3 k).2.2.1 = some (zy3 k) := by decide +kernel
def zF4 : u_T := fun k => match k with
  | 0 => ("ThinAir$Ranking", "who", "[I", true)
  | 1 => ("ThinAir$Ranking", "worth", "[I", true)
  | 2 => ("ThinAir$Ranking", "seats", "[I", true)
  | _ => ("ThinAir$Ranking", "size", "I", false)
def zy4 : Nat → FieldType := fun k => match k with
  | 0 => .array (.int)
  | 1 => .array (.int)
  | 2 => .array (.int)
  | _ => .int
theorem zw4 : ∀ w ∈ u_ws "ThinAir$Ranking" zF4 4, w ∈ tb := by
  show ∀ w ∈ ([Cond.laysFinal "ThinAir$Ranking" "ThinAir$Ranking" "who" "[I", Cond.laysFinal "ThinAir$Ranking" "ThinAir$Ranking" "worth" "[I", Cond.laysFinal "ThinAir$Ranking" "ThinAir$Ranking" "seats" "[I", Cond.lays "ThinAir$Ranking" "ThinAir$Ranking" "size" "I"] : List Cond), w ∈ tb
  exact List.forall_mem_cons.mpr ⟨tc_1_85, List.forall_mem_cons.mpr ⟨tc_1_87, List.forall_mem_cons.mpr ⟨tc_1_89, List.forall_mem_cons.mpr ⟨tc_1_91, fun _ h => absurd h List.not_mem_nil⟩⟩⟩⟩
theorem zn4 : ∀ a, a < 4 → ∀ b, b < 4 → a ≠ b → (zF4 a).2.1 ≠ (zF4 b).2.1 := by decide +kernel
theorem zt4 : ∀ k, k < 4 → parseFieldDescriptor (zF4 k).2.2.1 = some (zy4 k) := by decide +kernel
def zF5 : u_T := fun k => match k with
  | 0 => ("ThinAir$Reader", "signs", "[B", true)
  | 1 => ("ThinAir$Reader", "size", "I", true)
  | _ => ("ThinAir$Reader", "at", "I", false)
def zy5 : Nat → FieldType := fun k => match k with
  | 0 => .array (.byte)
  | 1 => .int
  | _ => .int
theorem zw5 : ∀ w ∈ u_ws "ThinAir$Reader" zF5 3, w ∈ tb := by
  show ∀ w ∈ ([Cond.laysFinal "ThinAir$Reader" "ThinAir$Reader" "signs" "[B", Cond.laysFinal "ThinAir$Reader" "ThinAir$Reader" "size" "I", Cond.lays "ThinAir$Reader" "ThinAir$Reader" "at" "I"] : List Cond), w ∈ tb
  exact List.forall_mem_cons.mpr ⟨tc_2_172, List.forall_mem_cons.mpr ⟨tc_2_174, List.forall_mem_cons.mpr ⟨tc_2_176, fun _ h => absurd h List.not_mem_nil⟩⟩⟩
theorem zn5 : ∀ a, a < 3 → ∀ b, b < 3 → a ≠ b → (zF5 a).2.1 ≠ (zF5 b).2.1 := by decide +kernel
theorem zt5 : ∀ k, k < 3 → parseFieldDescriptor (zF5 k).2.2.1 = some (zy5 k) := by decide +kernel
def zF6 : u_T := fun k => match k with
  | 0 => ("ThinAir$Strip", "size", "I", false)
  | _ => ("ThinAir$Row", "cells", "[I", true)
def zy6 : Nat → FieldType := fun k => match k with
  | 0 => .int
  | _ => .array (.int)
theorem zw6 : ∀ w ∈ u_ws "ThinAir$Row" zF6 2, w ∈ tb := by
  show ∀ w ∈ ([Cond.lays "ThinAir$Row" "ThinAir$Strip" "size" "I", Cond.laysFinal "ThinAir$Row" "ThinAir$Row" "cells" "[I"] : List Cond), w ∈ tb
  exact List.forall_mem_cons.mpr ⟨tc_1_46, List.forall_mem_cons.mpr ⟨tc_1_44, fun _ h => absurd h List.not_mem_nil⟩⟩
theorem zn6 : ∀ a, a < 2 → ∀ b, b < 2 → a ≠ b → (zF6 a).2.1 ≠ (zF6 b).2.1 := by decide +kernel
theorem zt6 : ∀ k, k < 2 → parseFieldDescriptor (zF6 k).2.2.1 = some (zy6 k) := by decide +kernel
def zF7 : u_T := fun k => match k with
  | 0 => ("ThinAir$Rules", "windGauged", "Z", false)
  | 1 => ("ThinAir$Rules", "mostWind", "I", false)
  | 2 => ("ThinAir$Rules", "mostHeight", "I", false)
  | 3 => ("ThinAir$Rules", "shoesOut", "I", false)
  | 4 => ("ThinAir$Rules", "firstYear", "I", false)
  | 5 => ("ThinAir$Rules", "struckOut", "Z", false)
  | 6 => ("ThinAir$Rules", "laterOut", "Z", false)
  | 7 => ("ThinAir$Rules", "shortOut", "Z", false)
  | _ => ("ThinAir$Rules", "homeCounts", "Z", false)
def zy7 : Nat → FieldType := fun k => match k with
  | 0 => .boolean
  | 1 => .int
  | 2 => .int
  | 3 => .int
  | 4 => .int
  | 5 => .boolean
  | 6 => .boolean
  | 7 => .boolean
  | _ => .boolean
theorem zw7 : ∀ w ∈ u_ws "ThinAir$Rules" zF7 9, w ∈ tb := by
  show ∀ w ∈ ([Cond.lays "ThinAir$Rules" "ThinAir$Rules" "windGauged" "Z", Cond.lays "ThinAir$Rules" "ThinAir$Rules" "mostWind" "I", Cond.lays "ThinAir$Rules" "ThinAir$Rules" "mostHeight" "I", Cond.lays "ThinAir$Rules" "ThinAir$Rules" "shoesOut" "I", Cond.lays "ThinAir$Rules" "ThinAir$Rules" "firstYear" "I", Cond.lays "ThinAir$Rules" "ThinAir$Rules" "struckOut" "Z", Cond.lays "ThinAir$Rules" "ThinAir$Rules" "laterOut" "Z", Cond.lays "ThinAir$Rules" "ThinAir$Rules" "shortOut" "Z", Cond.lays "ThinAir$Rules" "ThinAir$Rules" "homeCounts" "Z"] : List Cond), w ∈ tb
  exact List.forall_mem_cons.mpr ⟨tc_2_198, List.forall_mem_cons.mpr ⟨tc_2_200, List.forall_mem_cons.mpr ⟨tc_2_202, List.forall_mem_cons.mpr ⟨tc_2_204, List.forall_mem_cons.mpr ⟨tc_2_206, List.forall_mem_cons.mpr ⟨tc_2_208, List.forall_mem_cons.mpr ⟨tc_2_210, List.forall_mem_cons.mpr ⟨tc_2_212, List.forall_mem_cons.mpr ⟨tc_2_214, fun _ h => absurd h List.not_mem_nil⟩⟩⟩⟩⟩⟩⟩⟩⟩
theorem zn7 : ∀ a, a < 9 → ∀ b, b < 9 → a ≠ b → (zF7 a).2.1 ≠ (zF7 b).2.1 := by decide +kernel
theorem zt7 : ∀ k, k < 9 → parseFieldDescriptor (zF7 k).2.2.1 = some (zy7 k) := by decide +kernel
def zF8 : u_T := fun k => match k with
  | _ => ("", "", "", false)
def zy8 : Nat → FieldType := fun k => match k with
  | _ => .int
theorem zw8 : ∀ w ∈ u_ws "ThinAir$Strip" zF8 0, w ∈ tb := by
  show ∀ w ∈ ([] : List Cond), w ∈ tb
  exact fun _ h => absurd h List.not_mem_nil
theorem zn8 : ∀ a, a < 0 → ∀ b, b < 0 → a ≠ b → (zF8 a).2.1 ≠ (zF8 b).2.1 := by decide +kernel
theorem zt8 : ∀ k, k < 0 → parseFieldDescriptor (zF8 k).2.2.1 = some (zy8 k) := by decide +kernel
def zF9 : u_T := fun k => match k with
  | 0 => ("ThinAir$Strip", "size", "I", false)
  | _ => ("ThinAir$Text", "signs", "[B", true)
def zy9 : Nat → FieldType := fun k => match k with
  | 0 => .int
  | _ => .array (.byte)
theorem zw9 : ∀ w ∈ u_ws "ThinAir$Text" zF9 2, w ∈ tb := by
  show ∀ w ∈ ([Cond.lays "ThinAir$Text" "ThinAir$Strip" "size" "I", Cond.laysFinal "ThinAir$Text" "ThinAir$Text" "signs" "[B"] : List Cond), w ∈ tb
  exact List.forall_mem_cons.mpr ⟨tc_1_62, List.forall_mem_cons.mpr ⟨tc_1_60, fun _ h => absurd h List.not_mem_nil⟩⟩
theorem zn9 : ∀ a, a < 2 → ∀ b, b < 2 → a ≠ b → (zF9 a).2.1 ≠ (zF9 b).2.1 := by decide +kernel
theorem zt9 : ∀ k, k < 2 → parseFieldDescriptor (zF9 k).2.2.1 = some (zy9 k) := by decide +kernel
def zF10 : u_T := fun k => match k with
  | 0 => ("ThinAir", "theRows", "[LThinAir$Row;", true)
  | 1 => ("ThinAir", "theTexts", "[LThinAir$Text;", true)
  | 2 => ("ThinAir", "thePlaces", "[LThinAir$Place;", true)
  | 3 => ("ThinAir", "theMarks", "[LThinAir$Mark;", true)
  | 4 => ("ThinAir", "theLaws", "[LThinAir$Laws;", true)
  | 5 => ("ThinAir", "ranking", "LThinAir$Ranking;", true)
  | 6 => ("ThinAir", "otherRanking", "LThinAir$Ranking;", true)
  | 7 => ("ThinAir", "timesFound", "[I", true)
  | 8 => ("ThinAir", "today", "I", false)
  | 9 => ("ThinAir", "placesTold", "I", false)
  | 10 => ("ThinAir", "marksTold", "I", false)
  | 11 => ("ThinAir", "answer", "I", false)
  | 12 => ("ThinAir", "latestFinding", "I", false)
  | 13 => ("ThinAir", "upperNumber", "J", false)
  | _ => ("ThinAir", "lowerNumber", "J", false)
def zy10 : Nat → FieldType := fun k => match k with
  | 0 => .array (.object "ThinAir$Row")
  | 1 => .array (.object "ThinAir$Text")
  | 2 => .array (.object "ThinAir$Place")
  | 3 => .array (.object "ThinAir$Mark")
  | 4 => .array (.object "ThinAir$Laws")
  | 5 => .object "ThinAir$Ranking"
  | 6 => .object "ThinAir$Ranking"
  | 7 => .array (.int)
  | 8 => .int
  | 9 => .int
  | 10 => .int
  | 11 => .int
  | 12 => .int
  | 13 => .long
  | _ => .long
theorem zw10 : ∀ w ∈ u_ws "ThinAir" zF10 15, w ∈ tb := by
  show ∀ w ∈ ([Cond.laysFinal "ThinAir" "ThinAir" "theRows" "[LThinAir$Row;", Cond.laysFinal "ThinAir" "ThinAir" "theTexts" "[LThinAir$Text;", Cond.laysFinal "ThinAir" "ThinAir" "thePlaces" "[LThinAir$Place;", Cond.laysFinal "ThinAir" "ThinAir" "theMarks" "[LThinAir$Mark;", Cond.laysFinal "ThinAir" "ThinAir" "theLaws" "[LThinAir$Laws;", Cond.laysFinal "ThinAir" "ThinAir" "ranking" "LThinAir$Ranking;", Cond.laysFinal "ThinAir" "ThinAir" "otherRanking" "LThinAir$Ranking;", Cond.laysFinal "ThinAir" "ThinAir" "timesFound" "[I", Cond.lays "ThinAir" "ThinAir" "today" "I", Cond.lays "ThinAir" "ThinAir" "placesTold" "I", Cond.lays "ThinAir" "ThinAir" "marksTold" "I", Cond.lays "ThinAir" "ThinAir" "answer" "I", Cond.lays "ThinAir" "ThinAir" "latestFinding" "I", Cond.lays "ThinAir" "ThinAir" "upperNumber" "J", Cond.lays "ThinAir" "ThinAir" "lowerNumber" "J"] : List Cond), w ∈ tb
  exact List.forall_mem_cons.mpr ⟨tc_1_109, List.forall_mem_cons.mpr ⟨tc_1_111, List.forall_mem_cons.mpr ⟨tc_1_113, List.forall_mem_cons.mpr ⟨tc_1_115, List.forall_mem_cons.mpr ⟨tc_1_117, List.forall_mem_cons.mpr ⟨tc_1_119, List.forall_mem_cons.mpr ⟨tc_1_121, List.forall_mem_cons.mpr ⟨tc_1_123, List.forall_mem_cons.mpr ⟨tc_1_125, List.forall_mem_cons.mpr ⟨tc_1_127, List.forall_mem_cons.mpr ⟨tc_1_129, List.forall_mem_cons.mpr ⟨tc_1_131, List.forall_mem_cons.mpr ⟨tc_1_133, List.forall_mem_cons.mpr ⟨tc_1_135, List.forall_mem_cons.mpr ⟨tc_1_137, fun _ h => absurd h List.not_mem_nil⟩⟩⟩⟩⟩⟩⟩⟩⟩⟩⟩⟩⟩⟩⟩
theorem zn10 : ∀ a, a < 15 → ∀ b, b < 15 → a ≠ b → (zF10 a).2.1 ≠ (zF10 b).2.1 := by decide +kernel
theorem zt10 : ∀ k, k < 15 → parseFieldDescriptor (zF10 k).2.2.1 = some (zy10 k) := by decide +kernel
def zF11 : u_T := fun k => match k with
  | 0 => ("ThinAirModel", "finding", "I", false)
  | 1 => ("ThinAirModel", "findings", "[I", true)
  | 2 => ("ThinAirModel", "asked", "I", false)
  | 3 => ("ThinAirModel", "upper", "J", false)
  | 4 => ("ThinAirModel", "lower", "J", false)
  | 5 => ("ThinAirModel", "today", "I", false)
  | 6 => ("ThinAirModel", "sizes", "[I", true)
  | 7 => ("ThinAirModel", "rows", "[I", true)
  | 8 => ("ThinAirModel", "moving", "[I", true)
  | 9 => ("ThinAirModel", "lengths", "[I", true)
  | 10 => ("ThinAirModel", "texts", "[I", true)
  | 11 => ("ThinAirModel", "placeMany", "I", false)
  | 12 => ("ThinAirModel", "abouts", "[I", true)
  | 13 => ("ThinAirModel", "markMany", "I", false)
  | 14 => ("ThinAirModel", "parts", "[I", true)
  | 15 => ("ThinAirModel", "much", "[I", true)
  | 16 => ("ThinAirModel", "more", "[I", true)
  | 17 => ("ThinAirModel", "readAt", "I", false)
  | 18 => ("ThinAirModel", "readNumber", "I", false)
  | 19 => ("ThinAirModel", "itemMany", "I", false)
  | 20 => ("ThinAirModel", "readNumbers", "[I", true)
  | 21 => ("ThinAirModel", "mostWind", "I", false)
  | 22 => ("ThinAirModel", "mostHeight", "I", false)
  | 23 => ("ThinAirModel", "firstYear", "I", false)
  | 24 => ("ThinAirModel", "badShoes", "I", false)
  | 25 => ("ThinAirModel", "marksSet", "I", false)
  | 26 => ("ThinAirModel", "isThere", "[Z", true)
  | 27 => ("ThinAirModel", "numbers", "[I", true)
  | 28 => ("ThinAirModel", "listMany", "I", false)
  | 29 => ("ThinAirModel", "list", "[I", true)
  | 30 => ("ThinAirModel", "ranks", "[I", true)
  | _ => ("ThinAirModel", "h", "J", false)
def zy11 : Nat → FieldType := fun k => match k with
  | 0 => .int
  | 1 => .array (.int)
  | 2 => .int
  | 3 => .long
  | 4 => .long
  | 5 => .int
  | 6 => .array (.int)
  | 7 => .array (.int)
  | 8 => .array (.int)
  | 9 => .array (.int)
  | 10 => .array (.int)
  | 11 => .int
  | 12 => .array (.int)
  | 13 => .int
  | 14 => .array (.int)
  | 15 => .array (.int)
  | 16 => .array (.int)
  | 17 => .int
  | 18 => .int
  | 19 => .int
  | 20 => .array (.int)
  | 21 => .int
  | 22 => .int
  | 23 => .int
  | 24 => .int
  | 25 => .int
  | 26 => .array (.boolean)
  | 27 => .array (.int)
  | 28 => .int
  | 29 => .array (.int)
  | 30 => .array (.int)
  | _ => .long
theorem zw11 : ∀ w ∈ u_ws "ThinAirModel" zF11 32, w ∈ tb := by
  show ∀ w ∈ ([Cond.lays "ThinAirModel" "ThinAirModel" "finding" "I", Cond.laysFinal "ThinAirModel" "ThinAirModel" "findings" "[I", Cond.lays "ThinAirModel" "ThinAirModel" "asked" "I", Cond.lays "ThinAirModel" "ThinAirModel" "upper" "J", Cond.lays "ThinAirModel" "ThinAirModel" "lower" "J", Cond.lays "ThinAirModel" "ThinAirModel" "today" "I", Cond.laysFinal "ThinAirModel" "ThinAirModel" "sizes" "[I", Cond.laysFinal "ThinAirModel" "ThinAirModel" "rows" "[I", Cond.laysFinal "ThinAirModel" "ThinAirModel" "moving" "[I", Cond.laysFinal "ThinAirModel" "ThinAirModel" "lengths" "[I", Cond.laysFinal "ThinAirModel" "ThinAirModel" "texts" "[I", Cond.lays "ThinAirModel" "ThinAirModel" "placeMany" "I", Cond.laysFinal "ThinAirModel" "ThinAirModel" "abouts" "[I", Cond.lays "ThinAirModel" "ThinAirModel" "markMany" "I", Cond.laysFinal "ThinAirModel" "ThinAirModel" "parts" "[I", Cond.laysFinal "ThinAirModel" "ThinAirModel" "much" "[I", Cond.laysFinal "ThinAirModel" "ThinAirModel" "more" "[I", Cond.lays "ThinAirModel" "ThinAirModel" "readAt" "I", Cond.lays "ThinAirModel" "ThinAirModel" "readNumber" "I", Cond.lays "ThinAirModel" "ThinAirModel" "itemMany" "I", Cond.laysFinal "ThinAirModel" "ThinAirModel" "readNumbers" "[I", Cond.lays "ThinAirModel" "ThinAirModel" "mostWind" "I", Cond.lays "ThinAirModel" "ThinAirModel" "mostHeight" "I", Cond.lays "ThinAirModel" "ThinAirModel" "firstYear" "I", Cond.lays "ThinAirModel" "ThinAirModel" "badShoes" "I", Cond.lays "ThinAirModel" "ThinAirModel" "marksSet" "I", Cond.laysFinal "ThinAirModel" "ThinAirModel" "isThere" "[Z", Cond.laysFinal "ThinAirModel" "ThinAirModel" "numbers" "[I", Cond.lays "ThinAirModel" "ThinAirModel" "listMany" "I", Cond.laysFinal "ThinAirModel" "ThinAirModel" "list" "[I", Cond.laysFinal "ThinAirModel" "ThinAirModel" "ranks" "[I", Cond.lays "ThinAirModel" "ThinAirModel" "h" "J"] : List Cond), w ∈ tb
  exact List.forall_mem_cons.mpr ⟨tc_4_121, List.forall_mem_cons.mpr ⟨tc_4_123, List.forall_mem_cons.mpr ⟨tc_4_125, List.forall_mem_cons.mpr ⟨tc_4_127, List.forall_mem_cons.mpr ⟨tc_4_129, List.forall_mem_cons.mpr ⟨tc_4_131, List.forall_mem_cons.mpr ⟨tc_4_133, List.forall_mem_cons.mpr ⟨tc_4_135, List.forall_mem_cons.mpr ⟨tc_4_137, List.forall_mem_cons.mpr ⟨tc_4_139, List.forall_mem_cons.mpr ⟨tc_4_141, List.forall_mem_cons.mpr ⟨tc_4_143, List.forall_mem_cons.mpr ⟨tc_4_145, List.forall_mem_cons.mpr ⟨tc_4_147, List.forall_mem_cons.mpr ⟨tc_4_149, List.forall_mem_cons.mpr ⟨tc_4_151, List.forall_mem_cons.mpr ⟨tc_4_153, List.forall_mem_cons.mpr ⟨tc_4_155, List.forall_mem_cons.mpr ⟨tc_4_157, List.forall_mem_cons.mpr ⟨tc_4_159, List.forall_mem_cons.mpr ⟨tc_4_161, List.forall_mem_cons.mpr ⟨tc_4_163, List.forall_mem_cons.mpr ⟨tc_4_165, List.forall_mem_cons.mpr ⟨tc_4_167, List.forall_mem_cons.mpr ⟨tc_4_169, List.forall_mem_cons.mpr ⟨tc_4_171, List.forall_mem_cons.mpr ⟨tc_4_173, List.forall_mem_cons.mpr ⟨tc_4_175, List.forall_mem_cons.mpr ⟨tc_4_177, List.forall_mem_cons.mpr ⟨tc_4_179, List.forall_mem_cons.mpr ⟨tc_4_181, List.forall_mem_cons.mpr ⟨tc_4_183, fun _ h => absurd h List.not_mem_nil⟩⟩⟩⟩⟩⟩⟩⟩⟩⟩⟩⟩⟩⟩⟩⟩⟩⟩⟩⟩⟩⟩⟩⟩⟩⟩⟩⟩⟩⟩⟩⟩
theorem zn11 : ∀ a, a < 32 → ∀ b, b < 32 → a ≠ b → (zF11 a).2.1 ≠ (zF11 b).2.1 := by decide +kernel
theorem zt11 : ∀ k, k < 32 → parseFieldDescriptor (zF11 k).2.2.1 = some (zy11 k) := by decide +kernel
def zcl : List vw_C := [("ThinAir$Laws", zF1, 1), ("ThinAir$Laws", zF1, 1), ("ThinAir$Mark", zF2, 10), ("ThinAir$Place", zF3, 4), ("ThinAir$Ranking", zF4, 4), ("ThinAir$Reader", zF5, 3), ("ThinAir$Row", zF6, 2), ("ThinAir$Rules", zF7, 9), ("ThinAir$Row", zF6, 2), ("ThinAir$Text", zF9, 2), ("ThinAir", zF10, 15), ("ThinAirModel", zF11, 32)]
def fty (c : Nat) : Nat → FieldType := match c with
  | 0 => zy1
  | 1 => zy1
  | 2 => zy2
  | 3 => zy3
  | 4 => zy4
  | 5 => zy5
  | 6 => zy6
  | 7 => zy7
  | 8 => zy6
  | 9 => zy9
  | 10 => zy10
  | _ => zy11
theorem zck : ∀ (c : Nat) (r : vw_C), zcl[c]? = some r → (∀ w ∈ u_ws r.1 r.2.1 r.2.2, w ∈ tb) ∧ (∀ a, a < r.2.2 → ∀ b, b < r.2.2 → a ≠ b → (r.2.1 a).2.1 ≠ (r.2.1 b).2.1) ∧ ∀ k, k < r.2.2 → parseFieldDescriptor (r.2.1 k).2.2.1 = some (fty c k) := by
  intro c r h
  match c, h with
  | 0, h => cases h; exact ⟨zw1, zn1, zt1⟩
  | 1, h => cases h; exact ⟨zw1, zn1, zt1⟩
  | 2, h => cases h; exact ⟨zw2, zn2, zt2⟩
  | 3, h => cases h; exact ⟨zw3, zn3, zt3⟩
  | 4, h => cases h; exact ⟨zw4, zn4, zt4⟩
  | 5, h => cases h; exact ⟨zw5, zn5, zt5⟩
  | 6, h => cases h; exact ⟨zw6, zn6, zt6⟩
  | 7, h => cases h; exact ⟨zw7, zn7, zt7⟩
  | 8, h => cases h; exact ⟨zw6, zn6, zt6⟩
  | 9, h => cases h; exact ⟨zw9, zn9, zt9⟩
  | 10, h => cases h; exact ⟨zw10, zn10, zt10⟩
  | 11, h => cases h; exact ⟨zw11, zn11, zt11⟩
  | n + 12, h => simp [zcl] at h
/-! arrays by the place that makes them: 20 ThinAir$Laws.numbers, 21 ThinAir$Ranking.who, 22 ThinAir$Ranking.worth, 23 ThinAir$Ranking.seats, 24 ThinAir$Row.cells, 25 ThinAir$Text.signs, 26 ThinAir.theRows, 27 ThinAir.theTexts, 28 ThinAir.thePlaces, 29 ThinAir.theMarks, 30 ThinAir.theLaws, 31 ThinAir.timesFound, 32 ThinAirModel.findings, 33 ThinAirModel.sizes, 34 ThinAirModel.rows, 35 ThinAirModel.moving, 36 ThinAirModel.lengths, 37 ThinAirModel.texts, 38 ThinAirModel.abouts, 39 ThinAirModel.parts, 40 ThinAirModel.much, 41 ThinAirModel.more, 42 ThinAirModel.readNumbers, 43 ThinAirModel.isThere, 44 ThinAirModel.numbers, 45 ThinAirModel.list, 46 ThinAirModel.ranks -/
def akd (c : Nat) : Nat := match c with
  | 20 => 1
  | 21 => 1
  | 22 => 1
  | 23 => 1
  | 24 => 1
  | 25 => 2
  | 26 => 4
  | 27 => 5
  | 28 => 6
  | 29 => 7
  | 30 => 8
  | 31 => 1
  | 32 => 1
  | 33 => 1
  | 34 => 1
  | 35 => 1
  | 36 => 1
  | 37 => 1
  | 38 => 1
  | 39 => 1
  | 40 => 1
  | 41 => 1
  | 42 => 1
  | 43 => 3
  | 44 => 1
  | 45 => 1
  | 46 => 1
  | _ => 0
def aln (c : Nat) : Nat := match c with
  | 20 => 10
  | 21 => 40
  | 22 => 40
  | 23 => 12
  | 24 => 40
  | 25 => 40
  | 26 => 6
  | 27 => 4
  | 28 => 8
  | 29 => 40
  | 30 => 2
  | 31 => 6
  | 32 => 6
  | 33 => 6
  | 34 => 240
  | 35 => 40
  | 36 => 4
  | 37 => 160
  | 38 => 32
  | 39 => 280
  | 40 => 40
  | 41 => 40
  | 42 => 10
  | 43 => 2
  | 44 => 20
  | 45 => 40
  | 46 => 12
  | _ => 0
/-- the element type of kind k, and its component's class code -/
def aty (k : Nat) : FieldType := match k with
  | 1 => .int
  | 2 => .byte
  | 3 => .boolean
  | 4 => .object "ThinAir$Row"
  | 5 => .object "ThinAir$Text"
  | 6 => .object "ThinAir$Place"
  | 7 => .object "ThinAir$Mark"
  | 8 => .object "ThinAir$Laws"
  | _ => .int
def acl (k : Nat) : Nat := match k with
  | 1 => 99
  | 2 => 99
  | 3 => 99
  | 4 => 6
  | 5 => 9
  | 6 => 3
  | 7 => 2
  | 8 => 1
  | _ => 99
