/-! THE WORDS, each by its place in the tables -/
theorem wm_0 : (Jvm.Cond.initialized "HyphenBookLaw") ∈ lwB := lwB_t (k := 0) rfl rfl
theorem wm_1 : (Jvm.Cond.initialized "HyphenBook") ∈ lwB := lwB_t (k := 1) rfl rfl
theorem wm_2 : (Jvm.Cond.initialized "HyphenBook$SignTree") ∈ lwB := lwB_t (k := 2) rfl rfl
theorem wm_3 : (Jvm.Cond.initialized "HyphenBook$Node") ∈ lwB := lwB_t (k := 3) rfl rfl
theorem wm_4 : (Jvm.Cond.initialized "HyphenBook$SignRow") ∈ lwB := lwB_t (k := 4) rfl rfl
theorem wm_5 : (Jvm.Cond.initialized "HyphenBookModel") ∈ lwB := lwB_t (k := 5) rfl rfl
theorem wm_6 : (Jvm.Cond.initialized "java/util/Arrays") ∈ lwB := lwB_t (k := 6) rfl rfl
theorem wm_7 : (Jvm.Cond.initialized "java/lang/Throwable") ∈ lwB := lwB_t (k := 7) rfl rfl
theorem wm_8 : (Jvm.Cond.initialized "java/lang/Exception") ∈ lwB := lwB_t (k := 8) rfl rfl
theorem wm_9 : (Jvm.Cond.initialized "java/lang/RuntimeException") ∈ lwB := lwB_t (k := 9) rfl rfl
theorem wm_10 : (Jvm.Cond.initialized "java/lang/IllegalArgumentException") ∈ lwB := lwB_t (k := 10) rfl rfl
theorem wm_11 : (Jvm.Cond.initialized "java/lang/IllegalStateException") ∈ lwB := lwB_t (k := 11) rfl rfl
theorem wm_12 : (Jvm.Cond.classLink "HyphenBookLaw" (8 : Nat) "HyphenBook") ∈ lwB := lwB_t (k := 12) rfl rfl
theorem wm_13 : (Jvm.Cond.instantiable "HyphenBook" (8 : Nat)) ∈ lwB := lwB_t (k := 13) rfl rfl
theorem wm_14 : (Jvm.Cond.methodLink "HyphenBookLaw" (24 : Nat) ({ cls := "HyphenBook", name := "<init>", desc := "()V" } : Jvm.MethodName)) ∈ lwB := lwB_t (k := 14) rfl rfl
theorem wm_15 : (Jvm.Cond.instanceMethod ({ cls := "HyphenBook", name := "<init>", desc := "()V" } : Jvm.MethodName)) ∈ lwB := lwB_t (k := 15) rfl rfl
theorem wm_16 : (Jvm.Cond.code ({ cls := "HyphenBook", name := "<init>", desc := "()V" } : Jvm.MethodName) prog_1_method_1_code (1 : Nat) (Option.none : Option Jvm.ClassFile.FieldType)) ∈ lwB := lwB_t (k := 16) rfl rfl
theorem wm_17 : (Jvm.Cond.methodLink "HyphenBook" (3 : Nat) ({ cls := "java/lang/Object", name := "<init>", desc := "()V" } : Jvm.MethodName)) ∈ lwB := lwB_t (k := 17) rfl rfl
theorem wm_18 : (Jvm.Cond.instanceMethod ({ cls := "java/lang/Object", name := "<init>", desc := "()V" } : Jvm.MethodName)) ∈ lwB := lwB_t (k := 18) rfl rfl
theorem wm_19 : (Jvm.Cond.code ({ cls := "java/lang/Object", name := "<init>", desc := "()V" } : Jvm.MethodName) object_method_1_code (1 : Nat) (Option.none : Option Jvm.ClassFile.FieldType)) ∈ lwB := lwB_t (k := 19) rfl rfl
theorem wm_20 : (Jvm.Cond.classLink "HyphenBook" (23 : Nat) "HyphenBook$SignTree") ∈ lwB := lwB_t (k := 20) rfl rfl
theorem wm_21 : (Jvm.Cond.instantiable "HyphenBook$SignTree" (3 : Nat)) ∈ lwB := lwB_t (k := 21) rfl rfl
theorem wm_23 : (Jvm.Cond.instanceMethod ({ cls := "HyphenBook$SignTree", name := "<init>", desc := "()V" } : Jvm.MethodName)) ∈ lwB := lwB_t (k := 23) rfl rfl
theorem wm_24 : (Jvm.Cond.code ({ cls := "HyphenBook$SignTree", name := "<init>", desc := "()V" } : Jvm.MethodName) prog_4_method_1_code (1 : Nat) (Option.none : Option Jvm.ClassFile.FieldType)) ∈ lwB := lwB_t (k := 24) rfl rfl
theorem wm_25 : (Jvm.Cond.methodLink "HyphenBook$SignTree" (1 : Nat) ({ cls := "java/lang/Object", name := "<init>", desc := "()V" } : Jvm.MethodName)) ∈ lwB := lwB_t (k := 25) rfl rfl
theorem wm_26 : (Jvm.Cond.classLink "HyphenBook$SignTree" (7 : Nat) "HyphenBook$Node") ∈ lwB := lwB_t (k := 26) rfl rfl
theorem wm_27 : (Jvm.Cond.instantiable "HyphenBook$Node" (4 : Nat)) ∈ lwB := lwB_t (k := 27) rfl rfl
theorem wm_28 : (Jvm.Cond.methodLink "HyphenBook$SignTree" (9 : Nat) ({ cls := "HyphenBook$Node", name := "<init>", desc := "(I)V" } : Jvm.MethodName)) ∈ lwB := lwB_t (k := 28) rfl rfl
theorem wm_29 : (Jvm.Cond.instanceMethod ({ cls := "HyphenBook$Node", name := "<init>", desc := "(I)V" } : Jvm.MethodName)) ∈ lwB := lwB_t (k := 29) rfl rfl
theorem wm_30 : (Jvm.Cond.code ({ cls := "HyphenBook$Node", name := "<init>", desc := "(I)V" } : Jvm.MethodName) prog_2_method_1_code (2 : Nat) (Option.none : Option Jvm.ClassFile.FieldType)) ∈ lwB := lwB_t (k := 30) rfl rfl
theorem wm_31 : (Jvm.Cond.methodLink "HyphenBook$Node" (1 : Nat) ({ cls := "java/lang/Object", name := "<init>", desc := "()V" } : Jvm.MethodName)) ∈ lwB := lwB_t (k := 31) rfl rfl
theorem wm_32 : (Jvm.Cond.fieldLink "HyphenBook$Node" (20 : Nat) "HyphenBook$Node" "sign" "I") ∈ lwB := lwB_t (k := 32) rfl rfl
theorem wm_33 : (Jvm.Cond.fieldLink "HyphenBook$Node" (7 : Nat) "HyphenBook$Node" "firstChild" "LHyphenBook$Node;") ∈ lwB := lwB_t (k := 33) rfl rfl
theorem wm_34 : (Jvm.Cond.fieldLink "HyphenBook$Node" (13 : Nat) "HyphenBook$Node" "nextSibling" "LHyphenBook$Node;") ∈ lwB := lwB_t (k := 34) rfl rfl
theorem wm_35 : (Jvm.Cond.fieldLink "HyphenBook$Node" (16 : Nat) "HyphenBook$Node" "numbers" "[I") ∈ lwB := lwB_t (k := 35) rfl rfl
theorem wm_37 : (Jvm.Cond.laysFinal "HyphenBook$Node" "HyphenBook$Node" "sign" "I") ∈ lwB := lwB_t (k := 37) rfl rfl
theorem wm_39 : (Jvm.Cond.lays "HyphenBook$Node" "HyphenBook$Node" "firstChild" "LHyphenBook$Node;") ∈ lwB := lwB_t (k := 39) rfl rfl
theorem wm_41 : (Jvm.Cond.lays "HyphenBook$Node" "HyphenBook$Node" "nextSibling" "LHyphenBook$Node;") ∈ lwB := lwB_t (k := 41) rfl rfl
theorem wm_43 : (Jvm.Cond.lays "HyphenBook$Node" "HyphenBook$Node" "numbers" "[I") ∈ lwB := lwB_t (k := 43) rfl rfl
theorem wm_45 : (Jvm.Cond.superclass "HyphenBook$Node" "java/lang/Object") ∈ lwB := lwB_t (k := 45) rfl rfl
theorem wm_46 : (Jvm.Cond.arrayClass Jvm.ClassFile.FieldType.int) ∈ lwB := lwB_t (k := 46) rfl rfl
theorem wm_47 : (Jvm.Cond.fieldLink "HyphenBook$SignTree" (12 : Nat) "HyphenBook$SignTree" "root" "LHyphenBook$Node;") ∈ lwB := lwB_t (k := 47) rfl rfl
theorem wm_48 : (Jvm.Cond.fieldLink "HyphenBook$SignTree" (18 : Nat) "HyphenBook$SignTree" "entries" "I") ∈ lwB := lwB_t (k := 48) rfl rfl
theorem wm_49 : (Jvm.Cond.fieldLink "HyphenBook$SignTree" (22 : Nat) "HyphenBook$SignTree" "beginnings" "I") ∈ lwB := lwB_t (k := 49) rfl rfl
theorem wm_50 : (Jvm.Cond.laysFinal "HyphenBook$SignTree" "HyphenBook$SignTree" "root" "LHyphenBook$Node;") ∈ lwB := lwB_t (k := 50) rfl rfl
theorem wm_52 : (Jvm.Cond.lays "HyphenBook$SignTree" "HyphenBook$SignTree" "entries" "I") ∈ lwB := lwB_t (k := 52) rfl rfl
theorem wm_54 : (Jvm.Cond.lays "HyphenBook$SignTree" "HyphenBook$SignTree" "beginnings" "I") ∈ lwB := lwB_t (k := 54) rfl rfl
theorem wm_56 : (Jvm.Cond.superclass "HyphenBook$SignTree" "java/lang/Object") ∈ lwB := lwB_t (k := 56) rfl rfl
theorem wm_57 : (Jvm.Cond.classLink "HyphenBook" (33 : Nat) "HyphenBook$SignRow") ∈ lwB := lwB_t (k := 57) rfl rfl
theorem wm_58 : (Jvm.Cond.instantiable "HyphenBook$SignRow" (3 : Nat)) ∈ lwB := lwB_t (k := 58) rfl rfl
theorem wm_60 : (Jvm.Cond.instanceMethod ({ cls := "HyphenBook$SignRow", name := "<init>", desc := "()V" } : Jvm.MethodName)) ∈ lwB := lwB_t (k := 60) rfl rfl
theorem wm_61 : (Jvm.Cond.code ({ cls := "HyphenBook$SignRow", name := "<init>", desc := "()V" } : Jvm.MethodName) prog_3_method_1_code (1 : Nat) (Option.none : Option Jvm.ClassFile.FieldType)) ∈ lwB := lwB_t (k := 61) rfl rfl
theorem wm_62 : (Jvm.Cond.methodLink "HyphenBook$SignRow" (3 : Nat) ({ cls := "java/lang/Object", name := "<init>", desc := "()V" } : Jvm.MethodName)) ∈ lwB := lwB_t (k := 62) rfl rfl
theorem wm_63 : (Jvm.Cond.fieldLink "HyphenBook$SignRow" (9 : Nat) "HyphenBook$SignRow" "signs" "[I") ∈ lwB := lwB_t (k := 63) rfl rfl
theorem wm_64 : (Jvm.Cond.fieldLink "HyphenBook$SignRow" (15 : Nat) "HyphenBook$SignRow" "numbers" "[I") ∈ lwB := lwB_t (k := 64) rfl rfl
theorem wm_65 : (Jvm.Cond.fieldLink "HyphenBook$SignRow" (18 : Nat) "HyphenBook$SignRow" "size" "I") ∈ lwB := lwB_t (k := 65) rfl rfl
theorem wm_66 : (Jvm.Cond.laysFinal "HyphenBook$SignRow" "HyphenBook$SignRow" "signs" "[I") ∈ lwB := lwB_t (k := 66) rfl rfl
theorem wm_68 : (Jvm.Cond.laysFinal "HyphenBook$SignRow" "HyphenBook$SignRow" "numbers" "[I") ∈ lwB := lwB_t (k := 68) rfl rfl
theorem wm_70 : (Jvm.Cond.lays "HyphenBook$SignRow" "HyphenBook$SignRow" "size" "I") ∈ lwB := lwB_t (k := 70) rfl rfl
theorem wm_72 : (Jvm.Cond.superclass "HyphenBook$SignRow" "java/lang/Object") ∈ lwB := lwB_t (k := 72) rfl rfl
theorem wm_73 : (Jvm.Cond.fieldLink "HyphenBook" (9 : Nat) "HyphenBook" "draft" "[I") ∈ lwB := lwB_t (k := 73) rfl rfl
theorem wm_74 : (Jvm.Cond.fieldLink "HyphenBook" (13 : Nat) "HyphenBook" "drafted" "I") ∈ lwB := lwB_t (k := 74) rfl rfl
theorem wm_75 : (Jvm.Cond.fieldLink "HyphenBook" (17 : Nat) "HyphenBook" "left" "I") ∈ lwB := lwB_t (k := 75) rfl rfl
theorem wm_76 : (Jvm.Cond.fieldLink "HyphenBook" (20 : Nat) "HyphenBook" "right" "I") ∈ lwB := lwB_t (k := 76) rfl rfl
theorem wm_77 : (Jvm.Cond.fieldLink "HyphenBook" (26 : Nat) "HyphenBook" "patterns" "LHyphenBook$SignTree;") ∈ lwB := lwB_t (k := 77) rfl rfl
theorem wm_78 : (Jvm.Cond.fieldLink "HyphenBook" (30 : Nat) "HyphenBook" "exceptions" "LHyphenBook$SignTree;") ∈ lwB := lwB_t (k := 78) rfl rfl
theorem wm_79 : (Jvm.Cond.fieldLink "HyphenBook" (36 : Nat) "HyphenBook" "read" "LHyphenBook$SignRow;") ∈ lwB := lwB_t (k := 79) rfl rfl
theorem wm_80 : (Jvm.Cond.fieldLink "HyphenBook" (40 : Nat) "HyphenBook" "asked" "LHyphenBook$SignRow;") ∈ lwB := lwB_t (k := 80) rfl rfl
theorem wm_81 : (Jvm.Cond.laysFinal "HyphenBook" "HyphenBook" "draft" "[I") ∈ lwB := lwB_t (k := 81) rfl rfl
theorem wm_83 : (Jvm.Cond.lays "HyphenBook" "HyphenBook" "drafted" "I") ∈ lwB := lwB_t (k := 83) rfl rfl
theorem wm_85 : (Jvm.Cond.lays "HyphenBook" "HyphenBook" "left" "I") ∈ lwB := lwB_t (k := 85) rfl rfl
theorem wm_87 : (Jvm.Cond.lays "HyphenBook" "HyphenBook" "right" "I") ∈ lwB := lwB_t (k := 87) rfl rfl
theorem wm_89 : (Jvm.Cond.laysFinal "HyphenBook" "HyphenBook" "patterns" "LHyphenBook$SignTree;") ∈ lwB := lwB_t (k := 89) rfl rfl
theorem wm_91 : (Jvm.Cond.laysFinal "HyphenBook" "HyphenBook" "exceptions" "LHyphenBook$SignTree;") ∈ lwB := lwB_t (k := 91) rfl rfl
theorem wm_93 : (Jvm.Cond.laysFinal "HyphenBook" "HyphenBook" "read" "LHyphenBook$SignRow;") ∈ lwB := lwB_t (k := 93) rfl rfl
theorem wm_95 : (Jvm.Cond.laysFinal "HyphenBook" "HyphenBook" "asked" "LHyphenBook$SignRow;") ∈ lwB := lwB_t (k := 95) rfl rfl
theorem wm_97 : (Jvm.Cond.superclass "HyphenBook" "java/lang/Object") ∈ lwB := lwB_t (k := 97) rfl rfl
theorem wm_98 : (Jvm.Cond.methodLink "HyphenBookLaw" (30 : Nat) ({ cls := "HyphenBook", name := "put", desc := "(JI)Z" } : Jvm.MethodName)) ∈ lwB := lwB_t (k := 98) rfl rfl
theorem wm_99 : (Jvm.Cond.instanceMethod ({ cls := "HyphenBook", name := "put", desc := "(JI)Z" } : Jvm.MethodName)) ∈ lwB := lwB_t (k := 99) rfl rfl
theorem wm_100 : (Jvm.Cond.selects "HyphenBook" ({ cls := "HyphenBook", name := "put", desc := "(JI)Z" } : Jvm.MethodName) ({ cls := "HyphenBook", name := "put", desc := "(JI)Z" } : Jvm.MethodName)) ∈ lwB := lwB_t (k := 100) rfl rfl
theorem wm_101 : (Jvm.Cond.code ({ cls := "HyphenBook", name := "put", desc := "(JI)Z" } : Jvm.MethodName) prog_1_method_2_code (5 : Nat) (Option.some Jvm.ClassFile.FieldType.boolean)) ∈ lwB := lwB_t (k := 101) rfl rfl
theorem wm_102 : (Jvm.Cond.methodLink "HyphenBookLaw" (50 : Nat) ({ cls := "HyphenBook", name := "least", desc := "(II)Z" } : Jvm.MethodName)) ∈ lwB := lwB_t (k := 102) rfl rfl
theorem wm_103 : (Jvm.Cond.instanceMethod ({ cls := "HyphenBook", name := "least", desc := "(II)Z" } : Jvm.MethodName)) ∈ lwB := lwB_t (k := 103) rfl rfl
theorem wm_104 : (Jvm.Cond.selects "HyphenBook" ({ cls := "HyphenBook", name := "least", desc := "(II)Z" } : Jvm.MethodName) ({ cls := "HyphenBook", name := "least", desc := "(II)Z" } : Jvm.MethodName)) ∈ lwB := lwB_t (k := 104) rfl rfl
theorem wm_105 : (Jvm.Cond.code ({ cls := "HyphenBook", name := "least", desc := "(II)Z" } : Jvm.MethodName) prog_1_method_6_code (3 : Nat) (Option.some Jvm.ClassFile.FieldType.boolean)) ∈ lwB := lwB_t (k := 105) rfl rfl
theorem wm_106 : (Jvm.Cond.methodLink "HyphenBookLaw" (55 : Nat) ({ cls := "HyphenBook", name := "value", desc := "(I)I" } : Jvm.MethodName)) ∈ lwB := lwB_t (k := 106) rfl rfl
theorem wm_107 : (Jvm.Cond.instanceMethod ({ cls := "HyphenBook", name := "value", desc := "(I)I" } : Jvm.MethodName)) ∈ lwB := lwB_t (k := 107) rfl rfl
theorem wm_108 : (Jvm.Cond.selects "HyphenBook" ({ cls := "HyphenBook", name := "value", desc := "(I)I" } : Jvm.MethodName) ({ cls := "HyphenBook", name := "value", desc := "(I)I" } : Jvm.MethodName)) ∈ lwB := lwB_t (k := 108) rfl rfl
theorem wm_109 : (Jvm.Cond.code ({ cls := "HyphenBook", name := "value", desc := "(I)I" } : Jvm.MethodName) prog_1_method_7_code (2 : Nat) (Option.some Jvm.ClassFile.FieldType.int)) ∈ lwB := lwB_t (k := 109) rfl rfl
theorem wm_110 : (Jvm.Cond.methodLink "HyphenBook" (102 : Nat) ({ cls := "HyphenBook", name := "lettersOfAsked", desc := "()I" } : Jvm.MethodName)) ∈ lwB := lwB_t (k := 110) rfl rfl
theorem wm_112 : (Jvm.Cond.instanceMethod ({ cls := "HyphenBook", name := "lettersOfAsked", desc := "()I" } : Jvm.MethodName)) ∈ lwB := lwB_t (k := 112) rfl rfl
theorem wm_113 : (Jvm.Cond.code ({ cls := "HyphenBook", name := "lettersOfAsked", desc := "()I" } : Jvm.MethodName) prog_1_method_19_code (1 : Nat) (Option.some Jvm.ClassFile.FieldType.int)) ∈ lwB := lwB_t (k := 113) rfl rfl
theorem wm_114 : (Jvm.Cond.methodLink "HyphenBook" (126 : Nat) ({ cls := "HyphenBook$SignRow", name := "size", desc := "()I" } : Jvm.MethodName)) ∈ lwB := lwB_t (k := 114) rfl rfl
theorem wm_115 : (Jvm.Cond.instanceMethod ({ cls := "HyphenBook$SignRow", name := "size", desc := "()I" } : Jvm.MethodName)) ∈ lwB := lwB_t (k := 115) rfl rfl
theorem wm_116 : (Jvm.Cond.selects "HyphenBook$SignRow" ({ cls := "HyphenBook$SignRow", name := "size", desc := "()I" } : Jvm.MethodName) ({ cls := "HyphenBook$SignRow", name := "size", desc := "()I" } : Jvm.MethodName)) ∈ lwB := lwB_t (k := 116) rfl rfl
theorem wm_117 : (Jvm.Cond.code ({ cls := "HyphenBook$SignRow", name := "size", desc := "()I" } : Jvm.MethodName) prog_3_method_2_code (1 : Nat) (Option.some Jvm.ClassFile.FieldType.int)) ∈ lwB := lwB_t (k := 117) rfl rfl
theorem wm_118 : (Jvm.Cond.methodLink "HyphenBook" (105 : Nat) ({ cls := "HyphenBook", name := "placeBehind", desc := "(I)I" } : Jvm.MethodName)) ∈ lwB := lwB_t (k := 118) rfl rfl
theorem wm_119 : (Jvm.Cond.static ({ cls := "HyphenBook", name := "placeBehind", desc := "(I)I" } : Jvm.MethodName)) ∈ lwB := lwB_t (k := 119) rfl rfl
theorem wm_120 : (Jvm.Cond.code ({ cls := "HyphenBook", name := "placeBehind", desc := "(I)I" } : Jvm.MethodName) prog_1_method_11_code (1 : Nat) (Option.some Jvm.ClassFile.FieldType.int)) ∈ lwB := lwB_t (k := 120) rfl rfl
theorem wm_121 : (Jvm.Cond.methodLink "HyphenBook" (109 : Nat) ({ cls := "HyphenBook$SignRow", name := "numberAt", desc := "(I)I" } : Jvm.MethodName)) ∈ lwB := lwB_t (k := 121) rfl rfl
theorem wm_122 : (Jvm.Cond.instanceMethod ({ cls := "HyphenBook$SignRow", name := "numberAt", desc := "(I)I" } : Jvm.MethodName)) ∈ lwB := lwB_t (k := 122) rfl rfl
theorem wm_123 : (Jvm.Cond.selects "HyphenBook$SignRow" ({ cls := "HyphenBook$SignRow", name := "numberAt", desc := "(I)I" } : Jvm.MethodName) ({ cls := "HyphenBook$SignRow", name := "numberAt", desc := "(I)I" } : Jvm.MethodName)) ∈ lwB := lwB_t (k := 123) rfl rfl
theorem wm_124 : (Jvm.Cond.code ({ cls := "HyphenBook$SignRow", name := "numberAt", desc := "(I)I" } : Jvm.MethodName) prog_3_method_6_code (2 : Nat) (Option.some Jvm.ClassFile.FieldType.int)) ∈ lwB := lwB_t (k := 124) rfl rfl
theorem wm_126 : (Jvm.Cond.static ({ cls := "HyphenBook", name := "elementAt", desc := "([II)I" } : Jvm.MethodName)) ∈ lwB := lwB_t (k := 126) rfl rfl
theorem wm_127 : (Jvm.Cond.code ({ cls := "HyphenBook", name := "elementAt", desc := "([II)I" } : Jvm.MethodName) prog_1_method_12_code (2 : Nat) (Option.some Jvm.ClassFile.FieldType.int)) ∈ lwB := lwB_t (k := 127) rfl rfl
theorem wm_128 : (Jvm.Cond.methodLink "HyphenBookLaw" (60 : Nat) ({ cls := "HyphenBook", name := "count", desc := "(I)I" } : Jvm.MethodName)) ∈ lwB := lwB_t (k := 128) rfl rfl
theorem wm_129 : (Jvm.Cond.instanceMethod ({ cls := "HyphenBook", name := "count", desc := "(I)I" } : Jvm.MethodName)) ∈ lwB := lwB_t (k := 129) rfl rfl
theorem wm_130 : (Jvm.Cond.selects "HyphenBook" ({ cls := "HyphenBook", name := "count", desc := "(I)I" } : Jvm.MethodName) ({ cls := "HyphenBook", name := "count", desc := "(I)I" } : Jvm.MethodName)) ∈ lwB := lwB_t (k := 130) rfl rfl
theorem wm_131 : (Jvm.Cond.code ({ cls := "HyphenBook", name := "count", desc := "(I)I" } : Jvm.MethodName) prog_1_method_8_code (2 : Nat) (Option.some Jvm.ClassFile.FieldType.int)) ∈ lwB := lwB_t (k := 131) rfl rfl
theorem wm_132 : (Jvm.Cond.methodLink "HyphenBook" (63 : Nat) ({ cls := "HyphenBook$SignTree", name := "entries", desc := "()I" } : Jvm.MethodName)) ∈ lwB := lwB_t (k := 132) rfl rfl
theorem wm_133 : (Jvm.Cond.instanceMethod ({ cls := "HyphenBook$SignTree", name := "entries", desc := "()I" } : Jvm.MethodName)) ∈ lwB := lwB_t (k := 133) rfl rfl
theorem wm_134 : (Jvm.Cond.selects "HyphenBook$SignTree" ({ cls := "HyphenBook$SignTree", name := "entries", desc := "()I" } : Jvm.MethodName) ({ cls := "HyphenBook$SignTree", name := "entries", desc := "()I" } : Jvm.MethodName)) ∈ lwB := lwB_t (k := 134) rfl rfl
theorem wm_135 : (Jvm.Cond.code ({ cls := "HyphenBook$SignTree", name := "entries", desc := "()I" } : Jvm.MethodName) prog_4_method_2_code (1 : Nat) (Option.some Jvm.ClassFile.FieldType.int)) ∈ lwB := lwB_t (k := 135) rfl rfl
theorem wm_136 : (Jvm.Cond.methodLink "HyphenBook" (112 : Nat) ({ cls := "HyphenBook$SignTree", name := "beginnings", desc := "()I" } : Jvm.MethodName)) ∈ lwB := lwB_t (k := 136) rfl rfl
theorem wm_137 : (Jvm.Cond.instanceMethod ({ cls := "HyphenBook$SignTree", name := "beginnings", desc := "()I" } : Jvm.MethodName)) ∈ lwB := lwB_t (k := 137) rfl rfl
theorem wm_138 : (Jvm.Cond.selects "HyphenBook$SignTree" ({ cls := "HyphenBook$SignTree", name := "beginnings", desc := "()I" } : Jvm.MethodName) ({ cls := "HyphenBook$SignTree", name := "beginnings", desc := "()I" } : Jvm.MethodName)) ∈ lwB := lwB_t (k := 138) rfl rfl
theorem wm_139 : (Jvm.Cond.code ({ cls := "HyphenBook$SignTree", name := "beginnings", desc := "()I" } : Jvm.MethodName) prog_4_method_3_code (1 : Nat) (Option.some Jvm.ClassFile.FieldType.int)) ∈ lwB := lwB_t (k := 139) rfl rfl
theorem wm_140 : (Jvm.Cond.methodLink "HyphenBookLaw" (35 : Nat) ({ cls := "HyphenBookLaw", name := "pattern", desc := "(LHyphenBook;[J)I" } : Jvm.MethodName)) ∈ lwB := lwB_t (k := 140) rfl rfl
theorem wm_141 : (Jvm.Cond.static ({ cls := "HyphenBookLaw", name := "pattern", desc := "(LHyphenBook;[J)I" } : Jvm.MethodName)) ∈ lwB := lwB_t (k := 141) rfl rfl
theorem wm_142 : (Jvm.Cond.codeWith ({ cls := "HyphenBookLaw", name := "pattern", desc := "(LHyphenBook;[J)I" } : Jvm.MethodName) method_3_code (3 : Nat) (Option.some Jvm.ClassFile.FieldType.int) [((0 : Nat), (8 : Nat), (11 : Nat), (13 : Nat)), ((0 : Nat), (8 : Nat), (14 : Nat), (15 : Nat))]) ∈ lwB := lwB_t (k := 142) rfl rfl
theorem wm_143 : (Jvm.Cond.classLink "HyphenBookLaw" (13 : Nat) "java/lang/IllegalArgumentException") ∈ lwB := lwB_t (k := 143) rfl rfl
theorem wm_144 : (Jvm.Cond.classLink "HyphenBookLaw" (15 : Nat) "java/lang/IllegalStateException") ∈ lwB := lwB_t (k := 144) rfl rfl
theorem wm_145 : (Jvm.Cond.methodLink "HyphenBookLaw" (7 : Nat) ({ cls := "HyphenBook", name := "pattern", desc := "()I" } : Jvm.MethodName)) ∈ lwB := lwB_t (k := 145) rfl rfl
theorem wm_146 : (Jvm.Cond.instanceMethod ({ cls := "HyphenBook", name := "pattern", desc := "()I" } : Jvm.MethodName)) ∈ lwB := lwB_t (k := 146) rfl rfl
theorem wm_147 : (Jvm.Cond.selects "HyphenBook" ({ cls := "HyphenBook", name := "pattern", desc := "()I" } : Jvm.MethodName) ({ cls := "HyphenBook", name := "pattern", desc := "()I" } : Jvm.MethodName)) ∈ lwB := lwB_t (k := 147) rfl rfl
theorem wm_148 : (Jvm.Cond.code ({ cls := "HyphenBook", name := "pattern", desc := "()I" } : Jvm.MethodName) prog_1_method_3_code (2 : Nat) (Option.some Jvm.ClassFile.FieldType.int)) ∈ lwB := lwB_t (k := 148) rfl rfl
theorem wm_149 : (Jvm.Cond.methodLink "HyphenBook" (43 : Nat) ({ cls := "HyphenBook", name := "readPattern", desc := "()Z" } : Jvm.MethodName)) ∈ lwB := lwB_t (k := 149) rfl rfl
theorem wm_151 : (Jvm.Cond.instanceMethod ({ cls := "HyphenBook", name := "readPattern", desc := "()Z" } : Jvm.MethodName)) ∈ lwB := lwB_t (k := 151) rfl rfl
theorem wm_152 : (Jvm.Cond.code ({ cls := "HyphenBook", name := "readPattern", desc := "()Z" } : Jvm.MethodName) prog_1_method_13_code (4 : Nat) (Option.some Jvm.ClassFile.FieldType.boolean)) ∈ lwB := lwB_t (k := 152) rfl rfl
theorem wm_153 : (Jvm.Cond.methodLink "HyphenBook" (115 : Nat) ({ cls := "HyphenBook$SignRow", name := "clear", desc := "()V" } : Jvm.MethodName)) ∈ lwB := lwB_t (k := 153) rfl rfl
theorem wm_154 : (Jvm.Cond.instanceMethod ({ cls := "HyphenBook$SignRow", name := "clear", desc := "()V" } : Jvm.MethodName)) ∈ lwB := lwB_t (k := 154) rfl rfl
theorem wm_155 : (Jvm.Cond.selects "HyphenBook$SignRow" ({ cls := "HyphenBook$SignRow", name := "clear", desc := "()V" } : Jvm.MethodName) ({ cls := "HyphenBook$SignRow", name := "clear", desc := "()V" } : Jvm.MethodName)) ∈ lwB := lwB_t (k := 155) rfl rfl
theorem wm_156 : (Jvm.Cond.code ({ cls := "HyphenBook$SignRow", name := "clear", desc := "()V" } : Jvm.MethodName) prog_3_method_3_code (1 : Nat) (Option.none : Option Jvm.ClassFile.FieldType)) ∈ lwB := lwB_t (k := 156) rfl rfl
theorem wm_157 : (Jvm.Cond.methodLink "HyphenBook$SignRow" (22 : Nat) ({ cls := "java/util/Arrays", name := "fill", desc := "([II)V" } : Jvm.MethodName)) ∈ lwB := lwB_t (k := 157) rfl rfl
theorem wm_158 : (Jvm.Cond.static ({ cls := "java/util/Arrays", name := "fill", desc := "([II)V" } : Jvm.MethodName)) ∈ lwB := lwB_t (k := 158) rfl rfl
theorem wm_159 : (Jvm.Cond.code ({ cls := "java/util/Arrays", name := "fill", desc := "([II)V" } : Jvm.MethodName) prog_14_method_103_code (4 : Nat) (Option.none : Option Jvm.ClassFile.FieldType)) ∈ lwB := lwB_t (k := 159) rfl rfl
theorem wm_160 : (Jvm.Cond.methodLink "HyphenBook" (118 : Nat) ({ cls := "HyphenBook", name := "elementAt", desc := "([II)I" } : Jvm.MethodName)) ∈ lwB := lwB_t (k := 160) rfl rfl
theorem wm_161 : (Jvm.Cond.methodLink "HyphenBook" (122 : Nat) ({ cls := "HyphenBook", name := "isDigit", desc := "(I)Z" } : Jvm.MethodName)) ∈ lwB := lwB_t (k := 161) rfl rfl
theorem wm_162 : (Jvm.Cond.static ({ cls := "HyphenBook", name := "isDigit", desc := "(I)Z" } : Jvm.MethodName)) ∈ lwB := lwB_t (k := 162) rfl rfl
theorem wm_163 : (Jvm.Cond.code ({ cls := "HyphenBook", name := "isDigit", desc := "(I)Z" } : Jvm.MethodName) prog_1_method_10_code (1 : Nat) (Option.some Jvm.ClassFile.FieldType.boolean)) ∈ lwB := lwB_t (k := 163) rfl rfl
theorem wm_164 : (Jvm.Cond.methodLink "HyphenBook" (129 : Nat) ({ cls := "HyphenBook$SignRow", name := "setNumber", desc := "(II)V" } : Jvm.MethodName)) ∈ lwB := lwB_t (k := 164) rfl rfl
theorem wm_165 : (Jvm.Cond.instanceMethod ({ cls := "HyphenBook$SignRow", name := "setNumber", desc := "(II)V" } : Jvm.MethodName)) ∈ lwB := lwB_t (k := 165) rfl rfl
theorem wm_166 : (Jvm.Cond.selects "HyphenBook$SignRow" ({ cls := "HyphenBook$SignRow", name := "setNumber", desc := "(II)V" } : Jvm.MethodName) ({ cls := "HyphenBook$SignRow", name := "setNumber", desc := "(II)V" } : Jvm.MethodName)) ∈ lwB := lwB_t (k := 166) rfl rfl
theorem wm_167 : (Jvm.Cond.code ({ cls := "HyphenBook$SignRow", name := "setNumber", desc := "(II)V" } : Jvm.MethodName) prog_3_method_7_code (3 : Nat) (Option.none : Option Jvm.ClassFile.FieldType)) ∈ lwB := lwB_t (k := 167) rfl rfl
theorem wm_168 : (Jvm.Cond.methodLink "HyphenBook" (133 : Nat) ({ cls := "HyphenBook", name := "isLetter", desc := "(I)Z" } : Jvm.MethodName)) ∈ lwB := lwB_t (k := 168) rfl rfl
theorem wm_169 : (Jvm.Cond.static ({ cls := "HyphenBook", name := "isLetter", desc := "(I)Z" } : Jvm.MethodName)) ∈ lwB := lwB_t (k := 169) rfl rfl
theorem wm_170 : (Jvm.Cond.code ({ cls := "HyphenBook", name := "isLetter", desc := "(I)Z" } : Jvm.MethodName) prog_1_method_9_code (1 : Nat) (Option.some Jvm.ClassFile.FieldType.boolean)) ∈ lwB := lwB_t (k := 170) rfl rfl
theorem wm_171 : (Jvm.Cond.methodLink "HyphenBook" (136 : Nat) ({ cls := "HyphenBook$SignRow", name := "append", desc := "(I)Z" } : Jvm.MethodName)) ∈ lwB := lwB_t (k := 171) rfl rfl
theorem wm_172 : (Jvm.Cond.instanceMethod ({ cls := "HyphenBook$SignRow", name := "append", desc := "(I)Z" } : Jvm.MethodName)) ∈ lwB := lwB_t (k := 172) rfl rfl
theorem wm_173 : (Jvm.Cond.selects "HyphenBook$SignRow" ({ cls := "HyphenBook$SignRow", name := "append", desc := "(I)Z" } : Jvm.MethodName) ({ cls := "HyphenBook$SignRow", name := "append", desc := "(I)Z" } : Jvm.MethodName)) ∈ lwB := lwB_t (k := 173) rfl rfl
theorem wm_174 : (Jvm.Cond.code ({ cls := "HyphenBook$SignRow", name := "append", desc := "(I)Z" } : Jvm.MethodName) prog_3_method_4_code (2 : Nat) (Option.some Jvm.ClassFile.FieldType.boolean)) ∈ lwB := lwB_t (k := 174) rfl rfl
theorem wm_175 : (Jvm.Cond.methodLink "HyphenBook" (139 : Nat) ({ cls := "HyphenBook", name := "dropNumbersOutsideEdges", desc := "()V" } : Jvm.MethodName)) ∈ lwB := lwB_t (k := 175) rfl rfl
theorem wm_177 : (Jvm.Cond.instanceMethod ({ cls := "HyphenBook", name := "dropNumbersOutsideEdges", desc := "()V" } : Jvm.MethodName)) ∈ lwB := lwB_t (k := 177) rfl rfl
theorem wm_178 : (Jvm.Cond.code ({ cls := "HyphenBook", name := "dropNumbersOutsideEdges", desc := "()V" } : Jvm.MethodName) prog_1_method_14_code (1 : Nat) (Option.none : Option Jvm.ClassFile.FieldType)) ∈ lwB := lwB_t (k := 178) rfl rfl
theorem wm_179 : (Jvm.Cond.methodLink "HyphenBook" (145 : Nat) ({ cls := "HyphenBook$SignRow", name := "signAt", desc := "(I)I" } : Jvm.MethodName)) ∈ lwB := lwB_t (k := 179) rfl rfl
theorem wm_180 : (Jvm.Cond.instanceMethod ({ cls := "HyphenBook$SignRow", name := "signAt", desc := "(I)I" } : Jvm.MethodName)) ∈ lwB := lwB_t (k := 180) rfl rfl
theorem wm_181 : (Jvm.Cond.selects "HyphenBook$SignRow" ({ cls := "HyphenBook$SignRow", name := "signAt", desc := "(I)I" } : Jvm.MethodName) ({ cls := "HyphenBook$SignRow", name := "signAt", desc := "(I)I" } : Jvm.MethodName)) ∈ lwB := lwB_t (k := 181) rfl rfl
theorem wm_182 : (Jvm.Cond.code ({ cls := "HyphenBook$SignRow", name := "signAt", desc := "(I)I" } : Jvm.MethodName) prog_3_method_5_code (2 : Nat) (Option.some Jvm.ClassFile.FieldType.int)) ∈ lwB := lwB_t (k := 182) rfl rfl
theorem wm_183 : (Jvm.Cond.methodLink "HyphenBook" (142 : Nat) ({ cls := "HyphenBook", name := "signsReadMakeAPattern", desc := "()Z" } : Jvm.MethodName)) ∈ lwB := lwB_t (k := 183) rfl rfl
theorem wm_185 : (Jvm.Cond.instanceMethod ({ cls := "HyphenBook", name := "signsReadMakeAPattern", desc := "()Z" } : Jvm.MethodName)) ∈ lwB := lwB_t (k := 185) rfl rfl
theorem wm_186 : (Jvm.Cond.code ({ cls := "HyphenBook", name := "signsReadMakeAPattern", desc := "()Z" } : Jvm.MethodName) prog_1_method_15_code (3 : Nat) (Option.some Jvm.ClassFile.FieldType.boolean)) ∈ lwB := lwB_t (k := 186) rfl rfl
theorem wm_187 : (Jvm.Cond.classLink "HyphenBook" (47 : Nat) "java/lang/IllegalArgumentException") ∈ lwB := lwB_t (k := 187) rfl rfl
theorem wm_188 : (Jvm.Cond.instantiable "java/lang/IllegalArgumentException" (6 : Nat)) ∈ lwB := lwB_t (k := 188) rfl rfl
theorem wm_196 : (Jvm.Cond.selects "java/lang/IllegalArgumentException" ({ cls := "java/lang/Throwable", name := "fillInStackTrace", desc := "(I)Ljava/lang/Throwable;" } : Jvm.MethodName) ({ cls := "java/lang/Throwable", name := "fillInStackTrace", desc := "(I)Ljava/lang/Throwable;" } : Jvm.MethodName)) ∈ lwB := lwB_t (k := 196) rfl rfl
theorem wm_197 : (Jvm.Cond.selects "java/lang/IllegalArgumentException" ({ cls := "java/lang/Throwable", name := "fillInStackTrace", desc := "()Ljava/lang/Throwable;" } : Jvm.MethodName) ({ cls := "java/lang/Throwable", name := "fillInStackTrace", desc := "()Ljava/lang/Throwable;" } : Jvm.MethodName)) ∈ lwB := lwB_t (k := 197) rfl rfl
theorem wm_198 : (Jvm.Cond.lays "java/lang/IllegalArgumentException" "java/lang/Throwable" "cause" "Ljava/lang/Throwable;") ∈ lwB := lwB_t (k := 198) rfl rfl
theorem wm_199 : (Jvm.Cond.lays "java/lang/Throwable" "java/lang/Throwable" "cause" "Ljava/lang/Throwable;") ∈ lwB := lwB_t (k := 199) rfl rfl
theorem wm_200 : (Jvm.Cond.lays "java/lang/IllegalArgumentException" "java/lang/Throwable" "stackTrace" "[Ljava/lang/StackTraceElement;") ∈ lwB := lwB_t (k := 200) rfl rfl
theorem wm_201 : (Jvm.Cond.lays "java/lang/Throwable" "java/lang/Throwable" "stackTrace" "[Ljava/lang/StackTraceElement;") ∈ lwB := lwB_t (k := 201) rfl rfl
theorem wm_202 : (Jvm.Cond.lays "java/lang/IllegalArgumentException" "java/lang/Throwable" "suppressedExceptions" "Ljava/util/List;") ∈ lwB := lwB_t (k := 202) rfl rfl
theorem wm_203 : (Jvm.Cond.lays "java/lang/Throwable" "java/lang/Throwable" "suppressedExceptions" "Ljava/util/List;") ∈ lwB := lwB_t (k := 203) rfl rfl
theorem wm_204 : (Jvm.Cond.lays "java/lang/IllegalArgumentException" "java/lang/Throwable" "detailMessage" "Ljava/lang/String;") ∈ lwB := lwB_t (k := 204) rfl rfl
theorem wm_205 : (Jvm.Cond.lays "java/lang/Throwable" "java/lang/Throwable" "detailMessage" "Ljava/lang/String;") ∈ lwB := lwB_t (k := 205) rfl rfl
theorem wm_206 : (Jvm.Cond.lays "java/lang/IllegalArgumentException" "java/lang/Throwable" "backtrace" "Ljava/lang/Object;") ∈ lwB := lwB_t (k := 206) rfl rfl
theorem wm_207 : (Jvm.Cond.lays "java/lang/Throwable" "java/lang/Throwable" "backtrace" "Ljava/lang/Object;") ∈ lwB := lwB_t (k := 207) rfl rfl
theorem wm_208 : (Jvm.Cond.fieldLink "java/lang/Throwable" (198 : Nat) "java/lang/Throwable" "backtrace" "Ljava/lang/Object;") ∈ lwB := lwB_t (k := 208) rfl rfl
theorem wm_209 : (Jvm.Cond.superclass "java/lang/Throwable" "java/lang/Object") ∈ lwB := lwB_t (k := 209) rfl rfl
theorem wm_210 : (Jvm.Cond.instanceMethod ({ cls := "java/lang/Throwable", name := "<init>", desc := "()V" } : Jvm.MethodName)) ∈ lwB := lwB_t (k := 210) rfl rfl
theorem wm_211 : (Jvm.Cond.code ({ cls := "java/lang/Throwable", name := "<init>", desc := "()V" } : Jvm.MethodName) prog_13_method_1_code (1 : Nat) (Option.none : Option Jvm.ClassFile.FieldType)) ∈ lwB := lwB_t (k := 211) rfl rfl
theorem wm_212 : (Jvm.Cond.methodLink "java/lang/Throwable" (1 : Nat) ({ cls := "java/lang/Object", name := "<init>", desc := "()V" } : Jvm.MethodName)) ∈ lwB := lwB_t (k := 212) rfl rfl
theorem wm_213 : (Jvm.Cond.fieldLink "java/lang/Throwable" (13 : Nat) "java/lang/Throwable" "UNASSIGNED_STACK" "[Ljava/lang/StackTraceElement;") ∈ lwB := lwB_t (k := 213) rfl rfl
theorem wm_215 : (Jvm.Cond.fieldLink "java/lang/Throwable" (20 : Nat) "java/lang/Throwable" "SUPPRESSED_SENTINEL" "Ljava/util/List;") ∈ lwB := lwB_t (k := 215) rfl rfl
theorem wm_217 : (Jvm.Cond.methodLink "java/lang/Throwable" (27 : Nat) ({ cls := "java/lang/Throwable", name := "fillInStackTrace", desc := "()Ljava/lang/Throwable;" } : Jvm.MethodName)) ∈ lwB := lwB_t (k := 217) rfl rfl
theorem wm_218 : (Jvm.Cond.instanceMethod ({ cls := "java/lang/Throwable", name := "fillInStackTrace", desc := "()Ljava/lang/Throwable;" } : Jvm.MethodName)) ∈ lwB := lwB_t (k := 218) rfl rfl
theorem wm_219 : (Jvm.Cond.sameMethod "java/lang/Throwable" "java/lang/Throwable" "fillInStackTrace" "()Ljava/lang/Throwable;") ∈ lwB := lwB_t (k := 219) rfl rfl
theorem wm_220 : (Jvm.Cond.selects "java/lang/IllegalStateException" ({ cls := "java/lang/Throwable", name := "fillInStackTrace", desc := "()Ljava/lang/Throwable;" } : Jvm.MethodName) ({ cls := "java/lang/Throwable", name := "fillInStackTrace", desc := "()Ljava/lang/Throwable;" } : Jvm.MethodName)) ∈ lwB := lwB_t (k := 220) rfl rfl
theorem wm_222 : (Jvm.Cond.methodLink "java/lang/Throwable" (202 : Nat) ({ cls := "java/lang/Throwable", name := "fillInStackTrace", desc := "(I)Ljava/lang/Throwable;" } : Jvm.MethodName)) ∈ lwB := lwB_t (k := 222) rfl rfl
theorem wm_224 : (Jvm.Cond.instanceMethod ({ cls := "java/lang/Throwable", name := "fillInStackTrace", desc := "(I)Ljava/lang/Throwable;" } : Jvm.MethodName)) ∈ lwB := lwB_t (k := 224) rfl rfl
theorem wm_225 : (Jvm.Cond.instantiable "java/lang/Throwable" (6 : Nat)) ∈ lwB := lwB_t (k := 225) rfl rfl
theorem wm_226 : (Jvm.Cond.native ({ cls := "java/lang/Throwable", name := "fillInStackTrace", desc := "(I)Ljava/lang/Throwable;" } : Jvm.MethodName)) ∈ lwB := lwB_t (k := 226) rfl rfl
theorem wm_228 : (Jvm.Cond.methodLink "HyphenBook" (51 : Nat) ({ cls := "java/lang/IllegalArgumentException", name := "<init>", desc := "(Ljava/lang/String;)V" } : Jvm.MethodName)) ∈ lwB := lwB_t (k := 228) rfl rfl
theorem wm_229 : (Jvm.Cond.instanceMethod ({ cls := "java/lang/IllegalArgumentException", name := "<init>", desc := "(Ljava/lang/String;)V" } : Jvm.MethodName)) ∈ lwB := lwB_t (k := 229) rfl rfl
theorem wm_230 : (Jvm.Cond.code ({ cls := "java/lang/IllegalArgumentException", name := "<init>", desc := "(Ljava/lang/String;)V" } : Jvm.MethodName) prog_9_method_2_code (2 : Nat) (Option.none : Option Jvm.ClassFile.FieldType)) ∈ lwB := lwB_t (k := 230) rfl rfl
theorem wm_231 : (Jvm.Cond.methodLink "java/lang/IllegalArgumentException" (7 : Nat) ({ cls := "java/lang/RuntimeException", name := "<init>", desc := "(Ljava/lang/String;)V" } : Jvm.MethodName)) ∈ lwB := lwB_t (k := 231) rfl rfl
theorem wm_232 : (Jvm.Cond.instanceMethod ({ cls := "java/lang/RuntimeException", name := "<init>", desc := "(Ljava/lang/String;)V" } : Jvm.MethodName)) ∈ lwB := lwB_t (k := 232) rfl rfl
theorem wm_233 : (Jvm.Cond.code ({ cls := "java/lang/RuntimeException", name := "<init>", desc := "(Ljava/lang/String;)V" } : Jvm.MethodName) prog_11_method_2_code (2 : Nat) (Option.none : Option Jvm.ClassFile.FieldType)) ∈ lwB := lwB_t (k := 233) rfl rfl
theorem wm_234 : (Jvm.Cond.methodLink "java/lang/RuntimeException" (7 : Nat) ({ cls := "java/lang/Exception", name := "<init>", desc := "(Ljava/lang/String;)V" } : Jvm.MethodName)) ∈ lwB := lwB_t (k := 234) rfl rfl
theorem wm_235 : (Jvm.Cond.instanceMethod ({ cls := "java/lang/Exception", name := "<init>", desc := "(Ljava/lang/String;)V" } : Jvm.MethodName)) ∈ lwB := lwB_t (k := 235) rfl rfl
theorem wm_236 : (Jvm.Cond.code ({ cls := "java/lang/Exception", name := "<init>", desc := "(Ljava/lang/String;)V" } : Jvm.MethodName) prog_8_method_2_code (2 : Nat) (Option.none : Option Jvm.ClassFile.FieldType)) ∈ lwB := lwB_t (k := 236) rfl rfl
theorem wm_237 : (Jvm.Cond.methodLink "java/lang/Exception" (7 : Nat) ({ cls := "java/lang/Throwable", name := "<init>", desc := "(Ljava/lang/String;)V" } : Jvm.MethodName)) ∈ lwB := lwB_t (k := 237) rfl rfl
theorem wm_238 : (Jvm.Cond.instanceMethod ({ cls := "java/lang/Throwable", name := "<init>", desc := "(Ljava/lang/String;)V" } : Jvm.MethodName)) ∈ lwB := lwB_t (k := 238) rfl rfl
theorem wm_239 : (Jvm.Cond.code ({ cls := "java/lang/Throwable", name := "<init>", desc := "(Ljava/lang/String;)V" } : Jvm.MethodName) prog_13_method_2_code (2 : Nat) (Option.none : Option Jvm.ClassFile.FieldType)) ∈ lwB := lwB_t (k := 239) rfl rfl
theorem wm_240 : (Jvm.Cond.fieldLink "java/lang/Throwable" (198 : Nat) "java/lang/Throwable" "backtrace" "Ljava/lang/Object;") ∈ lwB := lwB_t (k := 240) rfl rfl
theorem wm_241 : (Jvm.Cond.fieldLink "java/lang/Throwable" (31 : Nat) "java/lang/Throwable" "detailMessage" "Ljava/lang/String;") ∈ lwB := lwB_t (k := 241) rfl rfl
theorem wm_242 : (Jvm.Cond.fieldLink "java/lang/Throwable" (7 : Nat) "java/lang/Throwable" "cause" "Ljava/lang/Throwable;") ∈ lwB := lwB_t (k := 242) rfl rfl
theorem wm_243 : (Jvm.Cond.fieldLink "java/lang/Throwable" (17 : Nat) "java/lang/Throwable" "stackTrace" "[Ljava/lang/StackTraceElement;") ∈ lwB := lwB_t (k := 243) rfl rfl
theorem wm_244 : (Jvm.Cond.fieldLink "java/lang/Throwable" (24 : Nat) "java/lang/Throwable" "suppressedExceptions" "Ljava/util/List;") ∈ lwB := lwB_t (k := 244) rfl rfl
theorem wm_249 : (Jvm.Cond.lays "java/lang/IllegalArgumentException" "java/lang/Throwable" "depth" "I") ∈ lwB := lwB_t (k := 249) rfl rfl
theorem wm_252 : (Jvm.Cond.superclass "java/lang/IllegalArgumentException" "java/lang/RuntimeException") ∈ lwB := lwB_t (k := 252) rfl rfl
theorem wm_253 : (Jvm.Cond.arrayClass Jvm.ClassFile.FieldType.byte) ∈ lwB := lwB_t (k := 253) rfl rfl
theorem wm_254 : (Jvm.Cond.methodLink "HyphenBook" (54 : Nat) ({ cls := "HyphenBook$SignTree", name := "numbersOf", desc := "(LHyphenBook$SignRow;)[I" } : Jvm.MethodName)) ∈ lwB := lwB_t (k := 254) rfl rfl
theorem wm_255 : (Jvm.Cond.instanceMethod ({ cls := "HyphenBook$SignTree", name := "numbersOf", desc := "(LHyphenBook$SignRow;)[I" } : Jvm.MethodName)) ∈ lwB := lwB_t (k := 255) rfl rfl
theorem wm_256 : (Jvm.Cond.selects "HyphenBook$SignTree" ({ cls := "HyphenBook$SignTree", name := "numbersOf", desc := "(LHyphenBook$SignRow;)[I" } : Jvm.MethodName) ({ cls := "HyphenBook$SignTree", name := "numbersOf", desc := "(LHyphenBook$SignRow;)[I" } : Jvm.MethodName)) ∈ lwB := lwB_t (k := 256) rfl rfl
theorem wm_257 : (Jvm.Cond.code ({ cls := "HyphenBook$SignTree", name := "numbersOf", desc := "(LHyphenBook$SignRow;)[I" } : Jvm.MethodName) prog_4_method_4_code (4 : Nat) (Option.some (Jvm.ClassFile.FieldType.array Jvm.ClassFile.FieldType.int))) ∈ lwB := lwB_t (k := 257) rfl rfl
theorem wm_258 : (Jvm.Cond.methodLink "HyphenBook$SignTree" (25 : Nat) ({ cls := "HyphenBook$SignRow", name := "size", desc := "()I" } : Jvm.MethodName)) ∈ lwB := lwB_t (k := 258) rfl rfl
theorem wm_259 : (Jvm.Cond.methodLink "HyphenBook$SignTree" (31 : Nat) ({ cls := "HyphenBook$SignRow", name := "signAt", desc := "(I)I" } : Jvm.MethodName)) ∈ lwB := lwB_t (k := 259) rfl rfl
theorem wm_260 : (Jvm.Cond.methodLink "HyphenBook$SignTree" (35 : Nat) ({ cls := "HyphenBook$Node", name := "childWith", desc := "(I)LHyphenBook$Node;" } : Jvm.MethodName)) ∈ lwB := lwB_t (k := 260) rfl rfl
theorem wm_261 : (Jvm.Cond.instanceMethod ({ cls := "HyphenBook$Node", name := "childWith", desc := "(I)LHyphenBook$Node;" } : Jvm.MethodName)) ∈ lwB := lwB_t (k := 261) rfl rfl
theorem wm_262 : (Jvm.Cond.selects "HyphenBook$Node" ({ cls := "HyphenBook$Node", name := "childWith", desc := "(I)LHyphenBook$Node;" } : Jvm.MethodName) ({ cls := "HyphenBook$Node", name := "childWith", desc := "(I)LHyphenBook$Node;" } : Jvm.MethodName)) ∈ lwB := lwB_t (k := 262) rfl rfl
theorem wm_263 : (Jvm.Cond.code ({ cls := "HyphenBook$Node", name := "childWith", desc := "(I)LHyphenBook$Node;" } : Jvm.MethodName) prog_2_method_2_code (3 : Nat) (Option.some (Jvm.ClassFile.FieldType.object "HyphenBook$Node"))) ∈ lwB := lwB_t (k := 263) rfl rfl
theorem wm_264 : (Jvm.Cond.classLink "HyphenBook" (58 : Nat) "java/lang/IllegalStateException") ∈ lwB := lwB_t (k := 264) rfl rfl
theorem wm_265 : (Jvm.Cond.instantiable "java/lang/IllegalStateException" (6 : Nat)) ∈ lwB := lwB_t (k := 265) rfl rfl
theorem wm_267 : (Jvm.Cond.selects "java/lang/IllegalStateException" ({ cls := "java/lang/Throwable", name := "fillInStackTrace", desc := "(I)Ljava/lang/Throwable;" } : Jvm.MethodName) ({ cls := "java/lang/Throwable", name := "fillInStackTrace", desc := "(I)Ljava/lang/Throwable;" } : Jvm.MethodName)) ∈ lwB := lwB_t (k := 267) rfl rfl
theorem wm_268 : (Jvm.Cond.lays "java/lang/IllegalStateException" "java/lang/Throwable" "cause" "Ljava/lang/Throwable;") ∈ lwB := lwB_t (k := 268) rfl rfl
theorem wm_269 : (Jvm.Cond.lays "java/lang/IllegalStateException" "java/lang/Throwable" "stackTrace" "[Ljava/lang/StackTraceElement;") ∈ lwB := lwB_t (k := 269) rfl rfl
theorem wm_270 : (Jvm.Cond.lays "java/lang/IllegalStateException" "java/lang/Throwable" "suppressedExceptions" "Ljava/util/List;") ∈ lwB := lwB_t (k := 270) rfl rfl
theorem wm_271 : (Jvm.Cond.lays "java/lang/IllegalStateException" "java/lang/Throwable" "detailMessage" "Ljava/lang/String;") ∈ lwB := lwB_t (k := 271) rfl rfl
theorem wm_272 : (Jvm.Cond.lays "java/lang/IllegalStateException" "java/lang/Throwable" "backtrace" "Ljava/lang/Object;") ∈ lwB := lwB_t (k := 272) rfl rfl
theorem wm_274 : (Jvm.Cond.methodLink "HyphenBook" (62 : Nat) ({ cls := "java/lang/IllegalStateException", name := "<init>", desc := "(Ljava/lang/String;)V" } : Jvm.MethodName)) ∈ lwB := lwB_t (k := 274) rfl rfl
theorem wm_275 : (Jvm.Cond.instanceMethod ({ cls := "java/lang/IllegalStateException", name := "<init>", desc := "(Ljava/lang/String;)V" } : Jvm.MethodName)) ∈ lwB := lwB_t (k := 275) rfl rfl
theorem wm_276 : (Jvm.Cond.code ({ cls := "java/lang/IllegalStateException", name := "<init>", desc := "(Ljava/lang/String;)V" } : Jvm.MethodName) prog_10_method_2_code (2 : Nat) (Option.none : Option Jvm.ClassFile.FieldType)) ∈ lwB := lwB_t (k := 276) rfl rfl
theorem wm_277 : (Jvm.Cond.methodLink "java/lang/IllegalStateException" (7 : Nat) ({ cls := "java/lang/RuntimeException", name := "<init>", desc := "(Ljava/lang/String;)V" } : Jvm.MethodName)) ∈ lwB := lwB_t (k := 277) rfl rfl
theorem wm_278 : (Jvm.Cond.lays "java/lang/IllegalStateException" "java/lang/Throwable" "depth" "I") ∈ lwB := lwB_t (k := 278) rfl rfl
theorem wm_279 : (Jvm.Cond.superclass "java/lang/IllegalStateException" "java/lang/RuntimeException") ∈ lwB := lwB_t (k := 279) rfl rfl
theorem wm_281 : (Jvm.Cond.methodLink "HyphenBook" (69 : Nat) ({ cls := "HyphenBook$SignTree", name := "beginningsWith", desc := "(LHyphenBook$SignRow;)I" } : Jvm.MethodName)) ∈ lwB := lwB_t (k := 281) rfl rfl
theorem wm_282 : (Jvm.Cond.instanceMethod ({ cls := "HyphenBook$SignTree", name := "beginningsWith", desc := "(LHyphenBook$SignRow;)I" } : Jvm.MethodName)) ∈ lwB := lwB_t (k := 282) rfl rfl
theorem wm_283 : (Jvm.Cond.selects "HyphenBook$SignTree" ({ cls := "HyphenBook$SignTree", name := "beginningsWith", desc := "(LHyphenBook$SignRow;)I" } : Jvm.MethodName) ({ cls := "HyphenBook$SignTree", name := "beginningsWith", desc := "(LHyphenBook$SignRow;)I" } : Jvm.MethodName)) ∈ lwB := lwB_t (k := 283) rfl rfl
theorem wm_284 : (Jvm.Cond.code ({ cls := "HyphenBook$SignTree", name := "beginningsWith", desc := "(LHyphenBook$SignRow;)I" } : Jvm.MethodName) prog_4_method_5_code (4 : Nat) (Option.some Jvm.ClassFile.FieldType.int)) ∈ lwB := lwB_t (k := 284) rfl rfl
theorem wm_285 : (Jvm.Cond.constant "HyphenBook" (73 : Nat) (32768 : Int32)) ∈ lwB := lwB_t (k := 285) rfl rfl
theorem wm_287 : (Jvm.Cond.methodLink "HyphenBook" (76 : Nat) ({ cls := "HyphenBook$SignTree", name := "enter", desc := "(LHyphenBook$SignRow;)V" } : Jvm.MethodName)) ∈ lwB := lwB_t (k := 287) rfl rfl
theorem wm_288 : (Jvm.Cond.instanceMethod ({ cls := "HyphenBook$SignTree", name := "enter", desc := "(LHyphenBook$SignRow;)V" } : Jvm.MethodName)) ∈ lwB := lwB_t (k := 288) rfl rfl
theorem wm_289 : (Jvm.Cond.selects "HyphenBook$SignTree" ({ cls := "HyphenBook$SignTree", name := "enter", desc := "(LHyphenBook$SignRow;)V" } : Jvm.MethodName) ({ cls := "HyphenBook$SignTree", name := "enter", desc := "(LHyphenBook$SignRow;)V" } : Jvm.MethodName)) ∈ lwB := lwB_t (k := 289) rfl rfl
theorem wm_290 : (Jvm.Cond.code ({ cls := "HyphenBook$SignTree", name := "enter", desc := "(LHyphenBook$SignRow;)V" } : Jvm.MethodName) prog_4_method_6_code (5 : Nat) (Option.none : Option Jvm.ClassFile.FieldType)) ∈ lwB := lwB_t (k := 290) rfl rfl
theorem wm_291 : (Jvm.Cond.methodLink "HyphenBook$SignTree" (43 : Nat) ({ cls := "HyphenBook$Node", name := "newChild", desc := "(I)LHyphenBook$Node;" } : Jvm.MethodName)) ∈ lwB := lwB_t (k := 291) rfl rfl
theorem wm_292 : (Jvm.Cond.instanceMethod ({ cls := "HyphenBook$Node", name := "newChild", desc := "(I)LHyphenBook$Node;" } : Jvm.MethodName)) ∈ lwB := lwB_t (k := 292) rfl rfl
theorem wm_293 : (Jvm.Cond.selects "HyphenBook$Node" ({ cls := "HyphenBook$Node", name := "newChild", desc := "(I)LHyphenBook$Node;" } : Jvm.MethodName) ({ cls := "HyphenBook$Node", name := "newChild", desc := "(I)LHyphenBook$Node;" } : Jvm.MethodName)) ∈ lwB := lwB_t (k := 293) rfl rfl
theorem wm_294 : (Jvm.Cond.code ({ cls := "HyphenBook$Node", name := "newChild", desc := "(I)LHyphenBook$Node;" } : Jvm.MethodName) prog_2_method_3_code (3 : Nat) (Option.some (Jvm.ClassFile.FieldType.object "HyphenBook$Node"))) ∈ lwB := lwB_t (k := 294) rfl rfl
theorem wm_295 : (Jvm.Cond.classLink "HyphenBook$Node" (8 : Nat) "HyphenBook$Node") ∈ lwB := lwB_t (k := 295) rfl rfl
theorem wm_296 : (Jvm.Cond.methodLink "HyphenBook$Node" (24 : Nat) ({ cls := "HyphenBook$Node", name := "<init>", desc := "(I)V" } : Jvm.MethodName)) ∈ lwB := lwB_t (k := 296) rfl rfl
theorem wm_297 : (Jvm.Cond.methodLink "HyphenBook$SignTree" (46 : Nat) ({ cls := "HyphenBook$SignRow", name := "copyOfNumbers", desc := "()[I" } : Jvm.MethodName)) ∈ lwB := lwB_t (k := 297) rfl rfl
theorem wm_298 : (Jvm.Cond.instanceMethod ({ cls := "HyphenBook$SignRow", name := "copyOfNumbers", desc := "()[I" } : Jvm.MethodName)) ∈ lwB := lwB_t (k := 298) rfl rfl
theorem wm_299 : (Jvm.Cond.selects "HyphenBook$SignRow" ({ cls := "HyphenBook$SignRow", name := "copyOfNumbers", desc := "()[I" } : Jvm.MethodName) ({ cls := "HyphenBook$SignRow", name := "copyOfNumbers", desc := "()[I" } : Jvm.MethodName)) ∈ lwB := lwB_t (k := 299) rfl rfl
theorem wm_300 : (Jvm.Cond.code ({ cls := "HyphenBook$SignRow", name := "copyOfNumbers", desc := "()[I" } : Jvm.MethodName) prog_3_method_9_code (1 : Nat) (Option.some (Jvm.ClassFile.FieldType.array Jvm.ClassFile.FieldType.int))) ∈ lwB := lwB_t (k := 300) rfl rfl
theorem wm_301 : (Jvm.Cond.methodLink "HyphenBook$SignRow" (40 : Nat) ({ cls := "[I", name := "clone", desc := "()Ljava/lang/Object;" } : Jvm.MethodName)) ∈ lwB := lwB_t (k := 301) rfl rfl
theorem wm_302 : (Jvm.Cond.sameMethod "[I" "java/lang/Object" "clone" "()Ljava/lang/Object;") ∈ lwB := lwB_t (k := 302) rfl rfl
theorem wm_303 : (Jvm.Cond.native ({ cls := "java/lang/Object", name := "clone", desc := "()Ljava/lang/Object;" } : Jvm.MethodName)) ∈ lwB := lwB_t (k := 303) rfl rfl
theorem wm_304 : (Jvm.Cond.instanceMethod ({ cls := "java/lang/Object", name := "clone", desc := "()Ljava/lang/Object;" } : Jvm.MethodName)) ∈ lwB := lwB_t (k := 304) rfl rfl
theorem wm_305 : (Jvm.Cond.selects "[I" ({ cls := "[I", name := "clone", desc := "()Ljava/lang/Object;" } : Jvm.MethodName) ({ cls := "java/lang/Object", name := "clone", desc := "()Ljava/lang/Object;" } : Jvm.MethodName)) ∈ lwB := lwB_t (k := 305) rfl rfl
theorem wm_307 : (Jvm.Cond.classLink "HyphenBook$SignRow" (41 : Nat) "[I") ∈ lwB := lwB_t (k := 307) rfl rfl
theorem wm_308 : (Jvm.Cond.methodLink "HyphenBookLaw" (44 : Nat) ({ cls := "HyphenBookLaw", name := "exception", desc := "(LHyphenBook;[J)I" } : Jvm.MethodName)) ∈ lwB := lwB_t (k := 308) rfl rfl
theorem wm_309 : (Jvm.Cond.static ({ cls := "HyphenBookLaw", name := "exception", desc := "(LHyphenBook;[J)I" } : Jvm.MethodName)) ∈ lwB := lwB_t (k := 309) rfl rfl
theorem wm_310 : (Jvm.Cond.codeWith ({ cls := "HyphenBookLaw", name := "exception", desc := "(LHyphenBook;[J)I" } : Jvm.MethodName) method_4_code (3 : Nat) (Option.some Jvm.ClassFile.FieldType.int) [((0 : Nat), (8 : Nat), (11 : Nat), (13 : Nat)), ((0 : Nat), (8 : Nat), (14 : Nat), (15 : Nat))]) ∈ lwB := lwB_t (k := 310) rfl rfl
theorem wm_311 : (Jvm.Cond.methodLink "HyphenBookLaw" (17 : Nat) ({ cls := "HyphenBook", name := "exception", desc := "()I" } : Jvm.MethodName)) ∈ lwB := lwB_t (k := 311) rfl rfl
theorem wm_312 : (Jvm.Cond.instanceMethod ({ cls := "HyphenBook", name := "exception", desc := "()I" } : Jvm.MethodName)) ∈ lwB := lwB_t (k := 312) rfl rfl
theorem wm_313 : (Jvm.Cond.selects "HyphenBook" ({ cls := "HyphenBook", name := "exception", desc := "()I" } : Jvm.MethodName) ({ cls := "HyphenBook", name := "exception", desc := "()I" } : Jvm.MethodName)) ∈ lwB := lwB_t (k := 313) rfl rfl
theorem wm_314 : (Jvm.Cond.code ({ cls := "HyphenBook", name := "exception", desc := "()I" } : Jvm.MethodName) prog_1_method_4_code (2 : Nat) (Option.some Jvm.ClassFile.FieldType.int)) ∈ lwB := lwB_t (k := 314) rfl rfl
theorem wm_315 : (Jvm.Cond.methodLink "HyphenBook" (80 : Nat) ({ cls := "HyphenBook", name := "readException", desc := "()Z" } : Jvm.MethodName)) ∈ lwB := lwB_t (k := 315) rfl rfl
theorem wm_317 : (Jvm.Cond.instanceMethod ({ cls := "HyphenBook", name := "readException", desc := "()Z" } : Jvm.MethodName)) ∈ lwB := lwB_t (k := 317) rfl rfl
theorem wm_318 : (Jvm.Cond.code ({ cls := "HyphenBook", name := "readException", desc := "()Z" } : Jvm.MethodName) prog_1_method_16_code (4 : Nat) (Option.some Jvm.ClassFile.FieldType.boolean)) ∈ lwB := lwB_t (k := 318) rfl rfl
theorem wm_321 : (Jvm.Cond.methodLink "HyphenBookLaw" (47 : Nat) ({ cls := "HyphenBookLaw", name := "word", desc := "(LHyphenBook;[J)I" } : Jvm.MethodName)) ∈ lwB := lwB_t (k := 321) rfl rfl
theorem wm_322 : (Jvm.Cond.static ({ cls := "HyphenBookLaw", name := "word", desc := "(LHyphenBook;[J)I" } : Jvm.MethodName)) ∈ lwB := lwB_t (k := 322) rfl rfl
theorem wm_323 : (Jvm.Cond.codeWith ({ cls := "HyphenBookLaw", name := "word", desc := "(LHyphenBook;[J)I" } : Jvm.MethodName) method_5_code (3 : Nat) (Option.some Jvm.ClassFile.FieldType.int) [((0 : Nat), (7 : Nat), (10 : Nat), (13 : Nat))]) ∈ lwB := lwB_t (k := 323) rfl rfl
theorem wm_324 : (Jvm.Cond.methodLink "HyphenBookLaw" (20 : Nat) ({ cls := "HyphenBook", name := "word", desc := "()J" } : Jvm.MethodName)) ∈ lwB := lwB_t (k := 324) rfl rfl
theorem wm_325 : (Jvm.Cond.instanceMethod ({ cls := "HyphenBook", name := "word", desc := "()J" } : Jvm.MethodName)) ∈ lwB := lwB_t (k := 325) rfl rfl
theorem wm_326 : (Jvm.Cond.selects "HyphenBook" ({ cls := "HyphenBook", name := "word", desc := "()J" } : Jvm.MethodName) ({ cls := "HyphenBook", name := "word", desc := "()J" } : Jvm.MethodName)) ∈ lwB := lwB_t (k := 326) rfl rfl
theorem wm_327 : (Jvm.Cond.code ({ cls := "HyphenBook", name := "word", desc := "()J" } : Jvm.MethodName) prog_1_method_5_code (2 : Nat) (Option.some Jvm.ClassFile.FieldType.long)) ∈ lwB := lwB_t (k := 327) rfl rfl
theorem wm_328 : (Jvm.Cond.methodLink "HyphenBook" (87 : Nat) ({ cls := "HyphenBook", name := "draftIsWord", desc := "()Z" } : Jvm.MethodName)) ∈ lwB := lwB_t (k := 328) rfl rfl
theorem wm_330 : (Jvm.Cond.instanceMethod ({ cls := "HyphenBook", name := "draftIsWord", desc := "()Z" } : Jvm.MethodName)) ∈ lwB := lwB_t (k := 330) rfl rfl
theorem wm_331 : (Jvm.Cond.code ({ cls := "HyphenBook", name := "draftIsWord", desc := "()Z" } : Jvm.MethodName) prog_1_method_17_code (2 : Nat) (Option.some Jvm.ClassFile.FieldType.boolean)) ∈ lwB := lwB_t (k := 331) rfl rfl
theorem wm_332 : (Jvm.Cond.methodLink "HyphenBook" (90 : Nat) ({ cls := "HyphenBook", name := "copyDraftToAsked", desc := "()V" } : Jvm.MethodName)) ∈ lwB := lwB_t (k := 332) rfl rfl
theorem wm_334 : (Jvm.Cond.instanceMethod ({ cls := "HyphenBook", name := "copyDraftToAsked", desc := "()V" } : Jvm.MethodName)) ∈ lwB := lwB_t (k := 334) rfl rfl
theorem wm_335 : (Jvm.Cond.code ({ cls := "HyphenBook", name := "copyDraftToAsked", desc := "()V" } : Jvm.MethodName) prog_1_method_18_code (2 : Nat) (Option.none : Option Jvm.ClassFile.FieldType)) ∈ lwB := lwB_t (k := 335) rfl rfl
theorem wm_337 : (Jvm.Cond.methodLink "HyphenBook" (95 : Nat) ({ cls := "HyphenBook$SignTree", name := "raiseNumbers", desc := "(LHyphenBook$SignRow;)V" } : Jvm.MethodName)) ∈ lwB := lwB_t (k := 337) rfl rfl
theorem wm_338 : (Jvm.Cond.instanceMethod ({ cls := "HyphenBook$SignTree", name := "raiseNumbers", desc := "(LHyphenBook$SignRow;)V" } : Jvm.MethodName)) ∈ lwB := lwB_t (k := 338) rfl rfl
theorem wm_339 : (Jvm.Cond.selects "HyphenBook$SignTree" ({ cls := "HyphenBook$SignTree", name := "raiseNumbers", desc := "(LHyphenBook$SignRow;)V" } : Jvm.MethodName) ({ cls := "HyphenBook$SignTree", name := "raiseNumbers", desc := "(LHyphenBook$SignRow;)V" } : Jvm.MethodName)) ∈ lwB := lwB_t (k := 339) rfl rfl
theorem wm_340 : (Jvm.Cond.code ({ cls := "HyphenBook$SignTree", name := "raiseNumbers", desc := "(LHyphenBook$SignRow;)V" } : Jvm.MethodName) prog_4_method_7_code (3 : Nat) (Option.none : Option Jvm.ClassFile.FieldType)) ∈ lwB := lwB_t (k := 340) rfl rfl
theorem wm_341 : (Jvm.Cond.methodLink "HyphenBook$SignTree" (50 : Nat) ({ cls := "HyphenBook$SignTree", name := "raiseNumbersFrom", desc := "(ILHyphenBook$SignRow;)V" } : Jvm.MethodName)) ∈ lwB := lwB_t (k := 341) rfl rfl
theorem wm_343 : (Jvm.Cond.instanceMethod ({ cls := "HyphenBook$SignTree", name := "raiseNumbersFrom", desc := "(ILHyphenBook$SignRow;)V" } : Jvm.MethodName)) ∈ lwB := lwB_t (k := 343) rfl rfl
theorem wm_344 : (Jvm.Cond.code ({ cls := "HyphenBook$SignTree", name := "raiseNumbersFrom", desc := "(ILHyphenBook$SignRow;)V" } : Jvm.MethodName) prog_4_method_8_code (5 : Nat) (Option.none : Option Jvm.ClassFile.FieldType)) ∈ lwB := lwB_t (k := 344) rfl rfl
theorem wm_345 : (Jvm.Cond.methodLink "HyphenBook$SignTree" (54 : Nat) ({ cls := "HyphenBook$SignTree", name := "raiseBetween", desc := "(II[ILHyphenBook$SignRow;)V" } : Jvm.MethodName)) ∈ lwB := lwB_t (k := 345) rfl rfl
theorem wm_346 : (Jvm.Cond.static ({ cls := "HyphenBook$SignTree", name := "raiseBetween", desc := "(II[ILHyphenBook$SignRow;)V" } : Jvm.MethodName)) ∈ lwB := lwB_t (k := 346) rfl rfl
theorem wm_347 : (Jvm.Cond.code ({ cls := "HyphenBook$SignTree", name := "raiseBetween", desc := "(II[ILHyphenBook$SignRow;)V" } : Jvm.MethodName) prog_4_method_9_code (5 : Nat) (Option.none : Option Jvm.ClassFile.FieldType)) ∈ lwB := lwB_t (k := 347) rfl rfl
theorem wm_349 : (Jvm.Cond.methodLink "HyphenBook$SignTree" (64 : Nat) ({ cls := "HyphenBook$SignRow", name := "raiseNumber", desc := "(II)V" } : Jvm.MethodName)) ∈ lwB := lwB_t (k := 349) rfl rfl
theorem wm_350 : (Jvm.Cond.instanceMethod ({ cls := "HyphenBook$SignRow", name := "raiseNumber", desc := "(II)V" } : Jvm.MethodName)) ∈ lwB := lwB_t (k := 350) rfl rfl
theorem wm_351 : (Jvm.Cond.selects "HyphenBook$SignRow" ({ cls := "HyphenBook$SignRow", name := "raiseNumber", desc := "(II)V" } : Jvm.MethodName) ({ cls := "HyphenBook$SignRow", name := "raiseNumber", desc := "(II)V" } : Jvm.MethodName)) ∈ lwB := lwB_t (k := 351) rfl rfl
theorem wm_352 : (Jvm.Cond.code ({ cls := "HyphenBook$SignRow", name := "raiseNumber", desc := "(II)V" } : Jvm.MethodName) prog_3_method_8_code (3 : Nat) (Option.none : Option Jvm.ClassFile.FieldType)) ∈ lwB := lwB_t (k := 352) rfl rfl
theorem wm_353 : (Jvm.Cond.methodLink "HyphenBook$SignRow" (32 : Nat) ({ cls := "HyphenBook$SignRow", name := "numberAt", desc := "(I)I" } : Jvm.MethodName)) ∈ lwB := lwB_t (k := 353) rfl rfl
theorem wm_354 : (Jvm.Cond.methodLink "HyphenBook$SignRow" (36 : Nat) ({ cls := "HyphenBook$SignRow", name := "setNumber", desc := "(II)V" } : Jvm.MethodName)) ∈ lwB := lwB_t (k := 354) rfl rfl
theorem wm_355 : (Jvm.Cond.methodLink "HyphenBook" (98 : Nat) ({ cls := "HyphenBook", name := "cutsOfAsked", desc := "()J" } : Jvm.MethodName)) ∈ lwB := lwB_t (k := 355) rfl rfl
theorem wm_357 : (Jvm.Cond.instanceMethod ({ cls := "HyphenBook", name := "cutsOfAsked", desc := "()J" } : Jvm.MethodName)) ∈ lwB := lwB_t (k := 357) rfl rfl
theorem wm_358 : (Jvm.Cond.code ({ cls := "HyphenBook", name := "cutsOfAsked", desc := "()J" } : Jvm.MethodName) prog_1_method_20_code (7 : Nat) (Option.some Jvm.ClassFile.FieldType.long)) ∈ lwB := lwB_t (k := 358) rfl rfl
theorem wm_359 : (Jvm.Cond.classLink "HyphenBookLaw" (25 : Nat) "HyphenBookModel") ∈ lwB := lwB_t (k := 359) rfl rfl
theorem wm_360 : (Jvm.Cond.instantiable "HyphenBookModel" (18 : Nat)) ∈ lwB := lwB_t (k := 360) rfl rfl
theorem wm_361 : (Jvm.Cond.methodLink "HyphenBookLaw" (27 : Nat) ({ cls := "HyphenBookModel", name := "<init>", desc := "()V" } : Jvm.MethodName)) ∈ lwB := lwB_t (k := 361) rfl rfl
theorem wm_362 : (Jvm.Cond.instanceMethod ({ cls := "HyphenBookModel", name := "<init>", desc := "()V" } : Jvm.MethodName)) ∈ lwB := lwB_t (k := 362) rfl rfl
theorem wm_363 : (Jvm.Cond.code ({ cls := "HyphenBookModel", name := "<init>", desc := "()V" } : Jvm.MethodName) prog_6_method_1_code (1 : Nat) (Option.none : Option Jvm.ClassFile.FieldType)) ∈ lwB := lwB_t (k := 363) rfl rfl
theorem wm_364 : (Jvm.Cond.methodLink "HyphenBookModel" (1 : Nat) ({ cls := "java/lang/Object", name := "<init>", desc := "()V" } : Jvm.MethodName)) ∈ lwB := lwB_t (k := 364) rfl rfl
theorem wm_365 : (Jvm.Cond.constant "HyphenBookModel" (16 : Nat) (40000 : Int32)) ∈ lwB := lwB_t (k := 365) rfl rfl
theorem wm_366 : (Jvm.Cond.constant "HyphenBookModel" (20 : Nat) (48200 : Int32)) ∈ lwB := lwB_t (k := 366) rfl rfl
theorem wm_367 : (Jvm.Cond.fieldLink "HyphenBookModel" (47 : Nat) "HyphenBookModel" "thrown" "I") ∈ lwB := lwB_t (k := 367) rfl rfl
theorem wm_368 : (Jvm.Cond.fieldLink "HyphenBookModel" (50 : Nat) "HyphenBookModel" "drafted" "I") ∈ lwB := lwB_t (k := 368) rfl rfl
theorem wm_369 : (Jvm.Cond.fieldLink "HyphenBookModel" (7 : Nat) "HyphenBookModel" "draft" "[I") ∈ lwB := lwB_t (k := 369) rfl rfl
theorem wm_370 : (Jvm.Cond.fieldLink "HyphenBookModel" (55 : Nat) "HyphenBookModel" "patterns" "I") ∈ lwB := lwB_t (k := 370) rfl rfl
theorem wm_371 : (Jvm.Cond.fieldLink "HyphenBookModel" (13 : Nat) "HyphenBookModel" "begin" "[I") ∈ lwB := lwB_t (k := 371) rfl rfl
theorem wm_372 : (Jvm.Cond.fieldLink "HyphenBookModel" (17 : Nat) "HyphenBookModel" "signs" "[I") ∈ lwB := lwB_t (k := 372) rfl rfl
theorem wm_373 : (Jvm.Cond.fieldLink "HyphenBookModel" (21 : Nat) "HyphenBookModel" "numbers" "[I") ∈ lwB := lwB_t (k := 373) rfl rfl
theorem wm_374 : (Jvm.Cond.fieldLink "HyphenBookModel" (77 : Nat) "HyphenBookModel" "beginnings" "I") ∈ lwB := lwB_t (k := 374) rfl rfl
theorem wm_375 : (Jvm.Cond.fieldLink "HyphenBookModel" (81 : Nat) "HyphenBookModel" "exceptions" "I") ∈ lwB := lwB_t (k := 375) rfl rfl
theorem wm_376 : (Jvm.Cond.fieldLink "HyphenBookModel" (24 : Nat) "HyphenBookModel" "first" "[I") ∈ lwB := lwB_t (k := 376) rfl rfl
theorem wm_377 : (Jvm.Cond.fieldLink "HyphenBookModel" (27 : Nat) "HyphenBookModel" "letters" "[I") ∈ lwB := lwB_t (k := 377) rfl rfl
theorem wm_378 : (Jvm.Cond.fieldLink "HyphenBookModel" (30 : Nat) "HyphenBookModel" "places" "[J") ∈ lwB := lwB_t (k := 378) rfl rfl
theorem wm_379 : (Jvm.Cond.fieldLink "HyphenBookModel" (34 : Nat) "HyphenBookModel" "left" "I") ∈ lwB := lwB_t (k := 379) rfl rfl
theorem wm_380 : (Jvm.Cond.fieldLink "HyphenBookModel" (38 : Nat) "HyphenBookModel" "right" "I") ∈ lwB := lwB_t (k := 380) rfl rfl
theorem wm_381 : (Jvm.Cond.fieldLink "HyphenBookModel" (87 : Nat) "HyphenBookModel" "length" "I") ∈ lwB := lwB_t (k := 381) rfl rfl
theorem wm_382 : (Jvm.Cond.fieldLink "HyphenBookModel" (41 : Nat) "HyphenBookModel" "row" "[I") ∈ lwB := lwB_t (k := 382) rfl rfl
theorem wm_383 : (Jvm.Cond.fieldLink "HyphenBookModel" (44 : Nat) "HyphenBookModel" "value" "[I") ∈ lwB := lwB_t (k := 383) rfl rfl
theorem wm_384 : (Jvm.Cond.fieldLink "HyphenBookModel" (90 : Nat) "HyphenBookModel" "asked" "Z") ∈ lwB := lwB_t (k := 384) rfl rfl
theorem wm_385 : (Jvm.Cond.lays "HyphenBookModel" "HyphenBookModel" "thrown" "I") ∈ lwB := lwB_t (k := 385) rfl rfl
theorem wm_387 : (Jvm.Cond.lays "HyphenBookModel" "HyphenBookModel" "drafted" "I") ∈ lwB := lwB_t (k := 387) rfl rfl
theorem wm_389 : (Jvm.Cond.laysFinal "HyphenBookModel" "HyphenBookModel" "draft" "[I") ∈ lwB := lwB_t (k := 389) rfl rfl
theorem wm_391 : (Jvm.Cond.lays "HyphenBookModel" "HyphenBookModel" "patterns" "I") ∈ lwB := lwB_t (k := 391) rfl rfl
theorem wm_393 : (Jvm.Cond.laysFinal "HyphenBookModel" "HyphenBookModel" "begin" "[I") ∈ lwB := lwB_t (k := 393) rfl rfl
theorem wm_395 : (Jvm.Cond.laysFinal "HyphenBookModel" "HyphenBookModel" "signs" "[I") ∈ lwB := lwB_t (k := 395) rfl rfl
theorem wm_397 : (Jvm.Cond.laysFinal "HyphenBookModel" "HyphenBookModel" "numbers" "[I") ∈ lwB := lwB_t (k := 397) rfl rfl
theorem wm_399 : (Jvm.Cond.lays "HyphenBookModel" "HyphenBookModel" "beginnings" "I") ∈ lwB := lwB_t (k := 399) rfl rfl
theorem wm_401 : (Jvm.Cond.lays "HyphenBookModel" "HyphenBookModel" "exceptions" "I") ∈ lwB := lwB_t (k := 401) rfl rfl
theorem wm_403 : (Jvm.Cond.laysFinal "HyphenBookModel" "HyphenBookModel" "first" "[I") ∈ lwB := lwB_t (k := 403) rfl rfl
theorem wm_405 : (Jvm.Cond.laysFinal "HyphenBookModel" "HyphenBookModel" "letters" "[I") ∈ lwB := lwB_t (k := 405) rfl rfl
theorem wm_407 : (Jvm.Cond.laysFinal "HyphenBookModel" "HyphenBookModel" "places" "[J") ∈ lwB := lwB_t (k := 407) rfl rfl
theorem wm_409 : (Jvm.Cond.lays "HyphenBookModel" "HyphenBookModel" "left" "I") ∈ lwB := lwB_t (k := 409) rfl rfl
theorem wm_411 : (Jvm.Cond.lays "HyphenBookModel" "HyphenBookModel" "right" "I") ∈ lwB := lwB_t (k := 411) rfl rfl
theorem wm_413 : (Jvm.Cond.lays "HyphenBookModel" "HyphenBookModel" "length" "I") ∈ lwB := lwB_t (k := 413) rfl rfl
theorem wm_415 : (Jvm.Cond.laysFinal "HyphenBookModel" "HyphenBookModel" "row" "[I") ∈ lwB := lwB_t (k := 415) rfl rfl
theorem wm_417 : (Jvm.Cond.laysFinal "HyphenBookModel" "HyphenBookModel" "value" "[I") ∈ lwB := lwB_t (k := 417) rfl rfl
theorem wm_419 : (Jvm.Cond.lays "HyphenBookModel" "HyphenBookModel" "asked" "Z") ∈ lwB := lwB_t (k := 419) rfl rfl
theorem wm_421 : (Jvm.Cond.superclass "HyphenBookModel" "java/lang/Object") ∈ lwB := lwB_t (k := 421) rfl rfl
theorem wm_422 : (Jvm.Cond.arrayClass Jvm.ClassFile.FieldType.long) ∈ lwB := lwB_t (k := 422) rfl rfl
theorem wm_423 : (Jvm.Cond.methodLink "HyphenBookLaw" (41 : Nat) ({ cls := "HyphenBookModel", name := "thrown", desc := "()I" } : Jvm.MethodName)) ∈ lwB := lwB_t (k := 423) rfl rfl
theorem wm_424 : (Jvm.Cond.instanceMethod ({ cls := "HyphenBookModel", name := "thrown", desc := "()I" } : Jvm.MethodName)) ∈ lwB := lwB_t (k := 424) rfl rfl
theorem wm_425 : (Jvm.Cond.selects "HyphenBookModel" ({ cls := "HyphenBookModel", name := "thrown", desc := "()I" } : Jvm.MethodName) ({ cls := "HyphenBookModel", name := "thrown", desc := "()I" } : Jvm.MethodName)) ∈ lwB := lwB_t (k := 425) rfl rfl
theorem wm_426 : (Jvm.Cond.code ({ cls := "HyphenBookModel", name := "thrown", desc := "()I" } : Jvm.MethodName) prog_6_method_2_code (1 : Nat) (Option.some Jvm.ClassFile.FieldType.int)) ∈ lwB := lwB_t (k := 426) rfl rfl
theorem wm_427 : (Jvm.Cond.methodLink "HyphenBookLaw" (34 : Nat) ({ cls := "HyphenBookModel", name := "put", desc := "(JI)Z" } : Jvm.MethodName)) ∈ lwB := lwB_t (k := 427) rfl rfl
theorem wm_428 : (Jvm.Cond.instanceMethod ({ cls := "HyphenBookModel", name := "put", desc := "(JI)Z" } : Jvm.MethodName)) ∈ lwB := lwB_t (k := 428) rfl rfl
theorem wm_429 : (Jvm.Cond.selects "HyphenBookModel" ({ cls := "HyphenBookModel", name := "put", desc := "(JI)Z" } : Jvm.MethodName) ({ cls := "HyphenBookModel", name := "put", desc := "(JI)Z" } : Jvm.MethodName)) ∈ lwB := lwB_t (k := 429) rfl rfl
theorem wm_430 : (Jvm.Cond.code ({ cls := "HyphenBookModel", name := "put", desc := "(JI)Z" } : Jvm.MethodName) prog_6_method_4_code (5 : Nat) (Option.some Jvm.ClassFile.FieldType.boolean)) ∈ lwB := lwB_t (k := 430) rfl rfl
theorem wm_431 : (Jvm.Cond.constantLong "HyphenBookModel" (53 : Nat) (255 : Int64)) ∈ lwB := lwB_t (k := 431) rfl rfl
theorem wm_432 : (Jvm.Cond.methodLink "HyphenBookLaw" (40 : Nat) ({ cls := "HyphenBookModel", name := "pattern", desc := "()I" } : Jvm.MethodName)) ∈ lwB := lwB_t (k := 432) rfl rfl
theorem wm_433 : (Jvm.Cond.instanceMethod ({ cls := "HyphenBookModel", name := "pattern", desc := "()I" } : Jvm.MethodName)) ∈ lwB := lwB_t (k := 433) rfl rfl
theorem wm_434 : (Jvm.Cond.selects "HyphenBookModel" ({ cls := "HyphenBookModel", name := "pattern", desc := "()I" } : Jvm.MethodName) ({ cls := "HyphenBookModel", name := "pattern", desc := "()I" } : Jvm.MethodName)) ∈ lwB := lwB_t (k := 434) rfl rfl
theorem wm_435 : (Jvm.Cond.code ({ cls := "HyphenBookModel", name := "pattern", desc := "()I" } : Jvm.MethodName) prog_6_method_9_code (6 : Nat) (Option.some Jvm.ClassFile.FieldType.int)) ∈ lwB := lwB_t (k := 435) rfl rfl
theorem wm_436 : (Jvm.Cond.methodLink "HyphenBookModel" (65 : Nat) ({ cls := "HyphenBookModel", name := "readPattern", desc := "()I" } : Jvm.MethodName)) ∈ lwB := lwB_t (k := 436) rfl rfl
theorem wm_438 : (Jvm.Cond.instanceMethod ({ cls := "HyphenBookModel", name := "readPattern", desc := "()I" } : Jvm.MethodName)) ∈ lwB := lwB_t (k := 438) rfl rfl
theorem wm_439 : (Jvm.Cond.code ({ cls := "HyphenBookModel", name := "readPattern", desc := "()I" } : Jvm.MethodName) prog_6_method_7_code (7 : Nat) (Option.some Jvm.ClassFile.FieldType.int)) ∈ lwB := lwB_t (k := 439) rfl rfl
theorem wm_440 : (Jvm.Cond.methodLink "HyphenBookModel" (58 : Nat) ({ cls := "HyphenBookModel", name := "isLetter", desc := "(I)Z" } : Jvm.MethodName)) ∈ lwB := lwB_t (k := 440) rfl rfl
theorem wm_441 : (Jvm.Cond.static ({ cls := "HyphenBookModel", name := "isLetter", desc := "(I)Z" } : Jvm.MethodName)) ∈ lwB := lwB_t (k := 441) rfl rfl
theorem wm_442 : (Jvm.Cond.code ({ cls := "HyphenBookModel", name := "isLetter", desc := "(I)Z" } : Jvm.MethodName) prog_6_method_5_code (1 : Nat) (Option.some Jvm.ClassFile.FieldType.boolean)) ∈ lwB := lwB_t (k := 442) rfl rfl
theorem wm_443 : (Jvm.Cond.methodLink "HyphenBookModel" (62 : Nat) ({ cls := "HyphenBookModel", name := "isDigit", desc := "(I)Z" } : Jvm.MethodName)) ∈ lwB := lwB_t (k := 443) rfl rfl
theorem wm_444 : (Jvm.Cond.static ({ cls := "HyphenBookModel", name := "isDigit", desc := "(I)Z" } : Jvm.MethodName)) ∈ lwB := lwB_t (k := 444) rfl rfl
theorem wm_445 : (Jvm.Cond.code ({ cls := "HyphenBookModel", name := "isDigit", desc := "(I)Z" } : Jvm.MethodName) prog_6_method_6_code (1 : Nat) (Option.some Jvm.ClassFile.FieldType.boolean)) ∈ lwB := lwB_t (k := 445) rfl rfl
theorem wm_446 : (Jvm.Cond.methodLink "HyphenBookModel" (69 : Nat) ({ cls := "HyphenBookModel", name := "fails", desc := "(I)I" } : Jvm.MethodName)) ∈ lwB := lwB_t (k := 446) rfl rfl
theorem wm_448 : (Jvm.Cond.instanceMethod ({ cls := "HyphenBookModel", name := "fails", desc := "(I)I" } : Jvm.MethodName)) ∈ lwB := lwB_t (k := 448) rfl rfl
theorem wm_449 : (Jvm.Cond.code ({ cls := "HyphenBookModel", name := "fails", desc := "(I)I" } : Jvm.MethodName) prog_6_method_3_code (2 : Nat) (Option.some Jvm.ClassFile.FieldType.int)) ∈ lwB := lwB_t (k := 449) rfl rfl
theorem wm_450 : (Jvm.Cond.methodLink "HyphenBookModel" (73 : Nat) ({ cls := "HyphenBookModel", name := "common", desc := "(III)I" } : Jvm.MethodName)) ∈ lwB := lwB_t (k := 450) rfl rfl
theorem wm_452 : (Jvm.Cond.instanceMethod ({ cls := "HyphenBookModel", name := "common", desc := "(III)I" } : Jvm.MethodName)) ∈ lwB := lwB_t (k := 452) rfl rfl
theorem wm_453 : (Jvm.Cond.code ({ cls := "HyphenBookModel", name := "common", desc := "(III)I" } : Jvm.MethodName) prog_6_method_8_code (5 : Nat) (Option.some Jvm.ClassFile.FieldType.int)) ∈ lwB := lwB_t (k := 453) rfl rfl
theorem wm_454 : (Jvm.Cond.constant "HyphenBookModel" (80 : Nat) (32768 : Int32)) ∈ lwB := lwB_t (k := 454) rfl rfl
theorem wm_455 : (Jvm.Cond.methodLink "HyphenBookLaw" (46 : Nat) ({ cls := "HyphenBookModel", name := "exception", desc := "()I" } : Jvm.MethodName)) ∈ lwB := lwB_t (k := 455) rfl rfl
theorem wm_456 : (Jvm.Cond.instanceMethod ({ cls := "HyphenBookModel", name := "exception", desc := "()I" } : Jvm.MethodName)) ∈ lwB := lwB_t (k := 456) rfl rfl
theorem wm_457 : (Jvm.Cond.selects "HyphenBookModel" ({ cls := "HyphenBookModel", name := "exception", desc := "()I" } : Jvm.MethodName) ({ cls := "HyphenBookModel", name := "exception", desc := "()I" } : Jvm.MethodName)) ∈ lwB := lwB_t (k := 457) rfl rfl
theorem wm_458 : (Jvm.Cond.code ({ cls := "HyphenBookModel", name := "exception", desc := "()I" } : Jvm.MethodName) prog_6_method_11_code (6 : Nat) (Option.some Jvm.ClassFile.FieldType.int)) ∈ lwB := lwB_t (k := 458) rfl rfl
theorem wm_459 : (Jvm.Cond.methodLink "HyphenBookModel" (84 : Nat) ({ cls := "HyphenBookModel", name := "find", desc := "(I)I" } : Jvm.MethodName)) ∈ lwB := lwB_t (k := 459) rfl rfl
theorem wm_461 : (Jvm.Cond.instanceMethod ({ cls := "HyphenBookModel", name := "find", desc := "(I)I" } : Jvm.MethodName)) ∈ lwB := lwB_t (k := 461) rfl rfl
theorem wm_462 : (Jvm.Cond.code ({ cls := "HyphenBookModel", name := "find", desc := "(I)I" } : Jvm.MethodName) prog_6_method_10_code (5 : Nat) (Option.some Jvm.ClassFile.FieldType.int)) ∈ lwB := lwB_t (k := 462) rfl rfl
theorem wm_463 : (Jvm.Cond.methodLink "HyphenBookLaw" (49 : Nat) ({ cls := "HyphenBookModel", name := "word", desc := "()J" } : Jvm.MethodName)) ∈ lwB := lwB_t (k := 463) rfl rfl
theorem wm_464 : (Jvm.Cond.instanceMethod ({ cls := "HyphenBookModel", name := "word", desc := "()J" } : Jvm.MethodName)) ∈ lwB := lwB_t (k := 464) rfl rfl
theorem wm_465 : (Jvm.Cond.selects "HyphenBookModel" ({ cls := "HyphenBookModel", name := "word", desc := "()J" } : Jvm.MethodName) ({ cls := "HyphenBookModel", name := "word", desc := "()J" } : Jvm.MethodName)) ∈ lwB := lwB_t (k := 465) rfl rfl
theorem wm_466 : (Jvm.Cond.code ({ cls := "HyphenBookModel", name := "word", desc := "()J" } : Jvm.MethodName) prog_6_method_13_code (7 : Nat) (Option.some Jvm.ClassFile.FieldType.long)) ∈ lwB := lwB_t (k := 466) rfl rfl
theorem wm_467 : (Jvm.Cond.methodLink "HyphenBookModel" (94 : Nat) ({ cls := "HyphenBookModel", name := "attempt", desc := "(II)V" } : Jvm.MethodName)) ∈ lwB := lwB_t (k := 467) rfl rfl
theorem wm_469 : (Jvm.Cond.instanceMethod ({ cls := "HyphenBookModel", name := "attempt", desc := "(II)V" } : Jvm.MethodName)) ∈ lwB := lwB_t (k := 469) rfl rfl
theorem wm_470 : (Jvm.Cond.code ({ cls := "HyphenBookModel", name := "attempt", desc := "(II)V" } : Jvm.MethodName) prog_6_method_12_code (6 : Nat) (Option.none : Option Jvm.ClassFile.FieldType)) ∈ lwB := lwB_t (k := 470) rfl rfl
theorem wm_471 : (Jvm.Cond.methodLink "HyphenBookLaw" (54 : Nat) ({ cls := "HyphenBookModel", name := "least", desc := "(II)Z" } : Jvm.MethodName)) ∈ lwB := lwB_t (k := 471) rfl rfl
theorem wm_472 : (Jvm.Cond.instanceMethod ({ cls := "HyphenBookModel", name := "least", desc := "(II)Z" } : Jvm.MethodName)) ∈ lwB := lwB_t (k := 472) rfl rfl
theorem wm_473 : (Jvm.Cond.selects "HyphenBookModel" ({ cls := "HyphenBookModel", name := "least", desc := "(II)Z" } : Jvm.MethodName) ({ cls := "HyphenBookModel", name := "least", desc := "(II)Z" } : Jvm.MethodName)) ∈ lwB := lwB_t (k := 473) rfl rfl
theorem wm_474 : (Jvm.Cond.code ({ cls := "HyphenBookModel", name := "least", desc := "(II)Z" } : Jvm.MethodName) prog_6_method_14_code (3 : Nat) (Option.some Jvm.ClassFile.FieldType.boolean)) ∈ lwB := lwB_t (k := 474) rfl rfl
theorem wm_475 : (Jvm.Cond.methodLink "HyphenBookLaw" (59 : Nat) ({ cls := "HyphenBookModel", name := "value", desc := "(I)I" } : Jvm.MethodName)) ∈ lwB := lwB_t (k := 475) rfl rfl
theorem wm_476 : (Jvm.Cond.instanceMethod ({ cls := "HyphenBookModel", name := "value", desc := "(I)I" } : Jvm.MethodName)) ∈ lwB := lwB_t (k := 476) rfl rfl
theorem wm_477 : (Jvm.Cond.selects "HyphenBookModel" ({ cls := "HyphenBookModel", name := "value", desc := "(I)I" } : Jvm.MethodName) ({ cls := "HyphenBookModel", name := "value", desc := "(I)I" } : Jvm.MethodName)) ∈ lwB := lwB_t (k := 477) rfl rfl
theorem wm_478 : (Jvm.Cond.code ({ cls := "HyphenBookModel", name := "value", desc := "(I)I" } : Jvm.MethodName) prog_6_method_15_code (2 : Nat) (Option.some Jvm.ClassFile.FieldType.int)) ∈ lwB := lwB_t (k := 478) rfl rfl
theorem wm_479 : (Jvm.Cond.methodLink "HyphenBookLaw" (63 : Nat) ({ cls := "HyphenBookModel", name := "count", desc := "(I)I" } : Jvm.MethodName)) ∈ lwB := lwB_t (k := 479) rfl rfl
theorem wm_480 : (Jvm.Cond.instanceMethod ({ cls := "HyphenBookModel", name := "count", desc := "(I)I" } : Jvm.MethodName)) ∈ lwB := lwB_t (k := 480) rfl rfl
theorem wm_481 : (Jvm.Cond.selects "HyphenBookModel" ({ cls := "HyphenBookModel", name := "count", desc := "(I)I" } : Jvm.MethodName) ({ cls := "HyphenBookModel", name := "count", desc := "(I)I" } : Jvm.MethodName)) ∈ lwB := lwB_t (k := 481) rfl rfl
theorem wm_482 : (Jvm.Cond.code ({ cls := "HyphenBookModel", name := "count", desc := "(I)I" } : Jvm.MethodName) prog_6_method_16_code (2 : Nat) (Option.some Jvm.ClassFile.FieldType.int)) ∈ lwB := lwB_t (k := 482) rfl rfl
theorem wm_483 : (Jvm.Cond.constantLong "HyphenBookLaw" (28 : Nat) (4294967295 : Int64)) ∈ lwB := lwB_t (k := 483) rfl rfl
theorem wm_484 : (Jvm.Cond.sameMethod "java/lang/Throwable" "java/lang/Throwable" "fillInStackTrace" "(I)Ljava/lang/Throwable;") ∈ lwB := lwB_t (k := 484) rfl rfl
theorem wp_0 : Cond.selects "HyphenBook" ({ cls := "HyphenBook", name := "lettersOfAsked", desc := "()I" } : Jvm.MethodName) ({ cls := "HyphenBook", name := "lettersOfAsked", desc := "()I" } : Jvm.MethodName) ∈ lwB := lwB_s (k := 0) rfl rfl
theorem wp_1 : Cond.selects "HyphenBook" ({ cls := "HyphenBook", name := "readPattern", desc := "()Z" } : Jvm.MethodName) ({ cls := "HyphenBook", name := "readPattern", desc := "()Z" } : Jvm.MethodName) ∈ lwB := lwB_s (k := 1) rfl rfl
theorem wp_2 : Cond.selects "HyphenBook" ({ cls := "HyphenBook", name := "dropNumbersOutsideEdges", desc := "()V" } : Jvm.MethodName) ({ cls := "HyphenBook", name := "dropNumbersOutsideEdges", desc := "()V" } : Jvm.MethodName) ∈ lwB := lwB_s (k := 2) rfl rfl
theorem wp_3 : Cond.selects "HyphenBook" ({ cls := "HyphenBook", name := "signsReadMakeAPattern", desc := "()Z" } : Jvm.MethodName) ({ cls := "HyphenBook", name := "signsReadMakeAPattern", desc := "()Z" } : Jvm.MethodName) ∈ lwB := lwB_s (k := 3) rfl rfl
theorem wp_4 : Cond.selects "java/lang/Throwable" ({ cls := "java/lang/Throwable", name := "fillInStackTrace", desc := "(I)Ljava/lang/Throwable;" } : Jvm.MethodName) ({ cls := "java/lang/Throwable", name := "fillInStackTrace", desc := "(I)Ljava/lang/Throwable;" } : Jvm.MethodName) ∈ lwB := lwB_s (k := 4) rfl rfl
theorem wp_5 : Cond.selects "HyphenBook" ({ cls := "HyphenBook", name := "readException", desc := "()Z" } : Jvm.MethodName) ({ cls := "HyphenBook", name := "readException", desc := "()Z" } : Jvm.MethodName) ∈ lwB := lwB_s (k := 5) rfl rfl
theorem wp_6 : Cond.selects "HyphenBook" ({ cls := "HyphenBook", name := "draftIsWord", desc := "()Z" } : Jvm.MethodName) ({ cls := "HyphenBook", name := "draftIsWord", desc := "()Z" } : Jvm.MethodName) ∈ lwB := lwB_s (k := 6) rfl rfl
theorem wp_7 : Cond.selects "HyphenBook" ({ cls := "HyphenBook", name := "copyDraftToAsked", desc := "()V" } : Jvm.MethodName) ({ cls := "HyphenBook", name := "copyDraftToAsked", desc := "()V" } : Jvm.MethodName) ∈ lwB := lwB_s (k := 7) rfl rfl
theorem wp_8 : Cond.selects "HyphenBook$SignTree" ({ cls := "HyphenBook$SignTree", name := "raiseNumbersFrom", desc := "(ILHyphenBook$SignRow;)V" } : Jvm.MethodName) ({ cls := "HyphenBook$SignTree", name := "raiseNumbersFrom", desc := "(ILHyphenBook$SignRow;)V" } : Jvm.MethodName) ∈ lwB := lwB_s (k := 8) rfl rfl
theorem wp_9 : Cond.selects "HyphenBook" ({ cls := "HyphenBook", name := "cutsOfAsked", desc := "()J" } : Jvm.MethodName) ({ cls := "HyphenBook", name := "cutsOfAsked", desc := "()J" } : Jvm.MethodName) ∈ lwB := lwB_s (k := 9) rfl rfl
theorem wp_10 : Cond.selects "HyphenBookModel" ({ cls := "HyphenBookModel", name := "readPattern", desc := "()I" } : Jvm.MethodName) ({ cls := "HyphenBookModel", name := "readPattern", desc := "()I" } : Jvm.MethodName) ∈ lwB := lwB_s (k := 10) rfl rfl
theorem wp_11 : Cond.selects "HyphenBookModel" ({ cls := "HyphenBookModel", name := "fails", desc := "(I)I" } : Jvm.MethodName) ({ cls := "HyphenBookModel", name := "fails", desc := "(I)I" } : Jvm.MethodName) ∈ lwB := lwB_s (k := 11) rfl rfl
theorem wp_12 : Cond.selects "HyphenBookModel" ({ cls := "HyphenBookModel", name := "common", desc := "(III)I" } : Jvm.MethodName) ({ cls := "HyphenBookModel", name := "common", desc := "(III)I" } : Jvm.MethodName) ∈ lwB := lwB_s (k := 12) rfl rfl
theorem wp_13 : Cond.selects "HyphenBookModel" ({ cls := "HyphenBookModel", name := "find", desc := "(I)I" } : Jvm.MethodName) ({ cls := "HyphenBookModel", name := "find", desc := "(I)I" } : Jvm.MethodName) ∈ lwB := lwB_s (k := 13) rfl rfl
theorem wp_14 : Cond.selects "HyphenBookModel" ({ cls := "HyphenBookModel", name := "attempt", desc := "(II)V" } : Jvm.MethodName) ({ cls := "HyphenBookModel", name := "attempt", desc := "(II)V" } : Jvm.MethodName) ∈ lwB := lwB_s (k := 14) rfl rfl
theorem in_nd : ∀ w ∈ u_ws R_nd F_nd 4, w ∈ lwB := by
  intro w hw
  obtain ⟨k, hk, rfl⟩ := List.mem_map.mp hw
  rw [List.mem_range] at hk
  match k, hk with
  | 0, _ => exact wm_37
  | 1, _ => exact wm_39
  | 2, _ => exact wm_41
  | 3, _ => exact wm_43
  | n + 4, h => exact absurd h (by omega)
theorem in_rw : ∀ w ∈ u_ws R_rw F_rw 3, w ∈ lwB := by
  intro w hw
  obtain ⟨k, hk, rfl⟩ := List.mem_map.mp hw
  rw [List.mem_range] at hk
  match k, hk with
  | 0, _ => exact wm_66
  | 1, _ => exact wm_68
  | 2, _ => exact wm_70
  | n + 3, h => exact absurd h (by omega)
theorem in_tr : ∀ w ∈ u_ws R_tr F_tr 3, w ∈ lwB := by
  intro w hw
  obtain ⟨k, hk, rfl⟩ := List.mem_map.mp hw
  rw [List.mem_range] at hk
  match k, hk with
  | 0, _ => exact wm_50
  | 1, _ => exact wm_52
  | 2, _ => exact wm_54
  | n + 3, h => exact absurd h (by omega)
theorem in_bk : ∀ w ∈ u_ws R_bk F_bk 8, w ∈ lwB := by
  intro w hw
  obtain ⟨k, hk, rfl⟩ := List.mem_map.mp hw
  rw [List.mem_range] at hk
  match k, hk with
  | 0, _ => exact wm_81
  | 1, _ => exact wm_83
  | 2, _ => exact wm_85
  | 3, _ => exact wm_87
  | 4, _ => exact wm_89
  | 5, _ => exact wm_91
  | 6, _ => exact wm_93
  | 7, _ => exact wm_95
  | n + 8, h => exact absurd h (by omega)
theorem in_md : ∀ w ∈ u_ws R_md F_md 18, w ∈ lwB := by
  intro w hw
  obtain ⟨k, hk, rfl⟩ := List.mem_map.mp hw
  rw [List.mem_range] at hk
  match k, hk with
  | 0, _ => exact wm_385
  | 1, _ => exact wm_387
  | 2, _ => exact wm_389
  | 3, _ => exact wm_391
  | 4, _ => exact wm_393
  | 5, _ => exact wm_395
  | 6, _ => exact wm_397
  | 7, _ => exact wm_399
  | 8, _ => exact wm_401
  | 9, _ => exact wm_403
  | 10, _ => exact wm_405
  | 11, _ => exact wm_407
  | 12, _ => exact wm_409
  | 13, _ => exact wm_411
  | 14, _ => exact wm_413
  | 15, _ => exact wm_415
  | 16, _ => exact wm_417
  | 17, _ => exact wm_419
  | n + 18, h => exact absurd h (by omega)
