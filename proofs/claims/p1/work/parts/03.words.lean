theorem wd0 : (Jvm.Cond.initialized "ShortVectorsLaw") ∈ utbl := u_mem (List.mem_of_getElem? (i := 49) (by decide +kernel)) (by decide +kernel)
theorem wd1 : (Jvm.Cond.initialized "ShortVectors") ∈ utbl := u_mem (List.mem_of_getElem? (i := 50) (by decide +kernel)) (by decide +kernel)
theorem wd2 : (Jvm.Cond.initialized "ShortVectors$Echelon") ∈ utbl := u_mem (List.mem_of_getElem? (i := 51) (by decide +kernel)) (by decide +kernel)
theorem wd3 : (Jvm.Cond.initialized "ShortVectors$Basis") ∈ utbl := u_mem (List.mem_of_getElem? (i := 52) (by decide +kernel)) (by decide +kernel)
theorem wd4 : (Jvm.Cond.initialized "ShortVectors$Collector") ∈ utbl := u_mem (List.mem_of_getElem? (i := 53) (by decide +kernel)) (by decide +kernel)
theorem wd5 : (Jvm.Cond.initialized "ShortVectors$Tally") ∈ utbl := u_mem (List.mem_of_getElem? (i := 54) (by decide +kernel)) (by decide +kernel)
theorem wd6 : (Jvm.Cond.initialized "ShortVectors$FirstVectors") ∈ utbl := u_mem (List.mem_of_getElem? (i := 55) (by decide +kernel)) (by decide +kernel)
theorem wd7 : (Jvm.Cond.initialized "ShortVectors$Closest") ∈ utbl := u_mem (List.mem_of_getElem? (i := 56) (by decide +kernel)) (by decide +kernel)
theorem wd8 : (Jvm.Cond.initialized "ShortVectorsModel") ∈ utbl := u_mem (List.mem_of_getElem? (i := 57) (by decide +kernel)) (by decide +kernel)
theorem wd9 : (Jvm.Cond.initialized "java/lang/System") ∈ utbl := u_mem (List.mem_of_getElem? (i := 58) (by decide +kernel)) (by decide +kernel)
theorem wd10 : (Jvm.Cond.initialized "java/lang/Math") ∈ utbl := u_mem (List.mem_of_getElem? (i := 59) (by decide +kernel)) (by decide +kernel)
theorem wd11 : (Jvm.Cond.initialized "java/util/Arrays") ∈ utbl := u_mem (List.mem_of_getElem? (i := 60) (by decide +kernel)) (by decide +kernel)
theorem wd12 : (Jvm.Cond.classLink "ShortVectorsLaw" (7 : Nat) "ShortVectors") ∈ utbl := u_mem (List.mem_of_getElem? (i := 61) (by decide +kernel)) (by decide +kernel)
theorem wd13 : (Jvm.Cond.instantiable "ShortVectors" (12 : Nat)) ∈ utbl := u_mem (List.mem_of_getElem? (i := 62) (by decide +kernel)) (by decide +kernel)
theorem wd14 : (Jvm.Cond.methodLink "ShortVectorsLaw" (9 : Nat) ({ cls := "ShortVectors", name := "<init>", desc := "()V" } : Jvm.MethodName)) ∈ utbl := u_mem (List.mem_of_getElem? (i := 63) (by decide +kernel)) (by decide +kernel)
theorem wd15 : (Jvm.Cond.instanceMethod ({ cls := "ShortVectors", name := "<init>", desc := "()V" } : Jvm.MethodName)) ∈ utbl := u_mem (List.mem_of_getElem? (i := 64) (by decide +kernel)) (by decide +kernel)
theorem wd16 : (Jvm.Cond.code ({ cls := "ShortVectors", name := "<init>", desc := "()V" } : Jvm.MethodName) prog_1_method_1_code (1 : Nat) (Option.none : Option Jvm.ClassFile.FieldType)) ∈ utbl := u_mem (List.mem_of_getElem? (i := 65) (by decide +kernel)) (by decide +kernel)
theorem wd17 : (Jvm.Cond.methodLink "ShortVectors" (1 : Nat) ({ cls := "java/lang/Object", name := "<init>", desc := "()V" } : Jvm.MethodName)) ∈ utbl := u_mem (List.mem_of_getElem? (i := 66) (by decide +kernel)) (by decide +kernel)
theorem wd18 : (Jvm.Cond.instanceMethod ({ cls := "java/lang/Object", name := "<init>", desc := "()V" } : Jvm.MethodName)) ∈ utbl := u_mem (List.mem_of_getElem? (i := 67) (by decide +kernel)) (by decide +kernel)
theorem wd19 : (Jvm.Cond.code ({ cls := "java/lang/Object", name := "<init>", desc := "()V" } : Jvm.MethodName) object_method_1_code (1 : Nat) (Option.none : Option Jvm.ClassFile.FieldType)) ∈ utbl := u_mem (List.mem_of_getElem? (i := 68) (by decide +kernel)) (by decide +kernel)
theorem wd20 : (Jvm.Cond.classLink "ShortVectors" (9 : Nat) "[[J") ∈ utbl := u_mem (List.mem_of_getElem? (i := 69) (by decide +kernel)) (by decide +kernel)
theorem wd22 : (Jvm.Cond.classLink "ShortVectors" (18 : Nat) "ShortVectors$Echelon") ∈ utbl := u_mem (List.mem_of_getElem? (i := 71) (by decide +kernel)) (by decide +kernel)
theorem wd23 : (Jvm.Cond.instantiable "ShortVectors$Echelon" (2 : Nat)) ∈ utbl := u_mem (List.mem_of_getElem? (i := 72) (by decide +kernel)) (by decide +kernel)
theorem wd24 : (Jvm.Cond.methodLinkNest "ShortVectors" (20 : Nat) ({ cls := "ShortVectors$Echelon", name := "<init>", desc := "()V" } : Jvm.MethodName) "ShortVectors") ∈ lw_tbl := List.mem_of_getElem? (i := 73) (by decide +kernel)
theorem wd25 : (Jvm.Cond.instanceMethod ({ cls := "ShortVectors$Echelon", name := "<init>", desc := "()V" } : Jvm.MethodName)) ∈ utbl := u_mem (List.mem_of_getElem? (i := 74) (by decide +kernel)) (by decide +kernel)
theorem wd26 : (Jvm.Cond.code ({ cls := "ShortVectors$Echelon", name := "<init>", desc := "()V" } : Jvm.MethodName) prog_5_method_1_code (1 : Nat) (Option.none : Option Jvm.ClassFile.FieldType)) ∈ utbl := u_mem (List.mem_of_getElem? (i := 75) (by decide +kernel)) (by decide +kernel)
theorem wd27 : (Jvm.Cond.methodLink "ShortVectors$Echelon" (3 : Nat) ({ cls := "java/lang/Object", name := "<init>", desc := "()V" } : Jvm.MethodName)) ∈ utbl := u_mem (List.mem_of_getElem? (i := 76) (by decide +kernel)) (by decide +kernel)
theorem wd28 : (Jvm.Cond.classLink "ShortVectors$Echelon" (9 : Nat) "[[J") ∈ utbl := u_mem (List.mem_of_getElem? (i := 77) (by decide +kernel)) (by decide +kernel)
theorem wd29 : (Jvm.Cond.fieldLink "ShortVectors$Echelon" (11 : Nat) "ShortVectors$Echelon" "rows" "[[J") ∈ utbl := u_mem (List.mem_of_getElem? (i := 78) (by decide +kernel)) (by decide +kernel)
theorem wd30 : (Jvm.Cond.fieldLink "ShortVectors$Echelon" (16 : Nat) "ShortVectors$Echelon" "rest" "[J") ∈ utbl := u_mem (List.mem_of_getElem? (i := 79) (by decide +kernel)) (by decide +kernel)
theorem wd31 : (Jvm.Cond.laysFinal "ShortVectors$Echelon" "ShortVectors$Echelon" "rows" "[[J") ∈ utbl := u_mem (List.mem_of_getElem? (i := 80) (by decide +kernel)) (by decide +kernel)
theorem wd33 : (Jvm.Cond.laysFinal "ShortVectors$Echelon" "ShortVectors$Echelon" "rest" "[J") ∈ utbl := u_mem (List.mem_of_getElem? (i := 82) (by decide +kernel)) (by decide +kernel)
theorem wd36 : (Jvm.Cond.arrayClass Jvm.ClassFile.FieldType.long) ∈ utbl := u_mem (List.mem_of_getElem? (i := 85) (by decide +kernel)) (by decide +kernel)
theorem wd37 : (Jvm.Cond.classLink "ShortVectors" (28 : Nat) "ShortVectors$Basis") ∈ utbl := u_mem (List.mem_of_getElem? (i := 86) (by decide +kernel)) (by decide +kernel)
theorem wd38 : (Jvm.Cond.instantiable "ShortVectors$Basis" (8 : Nat)) ∈ utbl := u_mem (List.mem_of_getElem? (i := 87) (by decide +kernel)) (by decide +kernel)
theorem wd39 : (Jvm.Cond.methodLinkNest "ShortVectors" (30 : Nat) ({ cls := "ShortVectors$Basis", name := "<init>", desc := "()V" } : Jvm.MethodName) "ShortVectors") ∈ lw_tbl := List.mem_of_getElem? (i := 88) (by decide +kernel)
theorem wd40 : (Jvm.Cond.instanceMethod ({ cls := "ShortVectors$Basis", name := "<init>", desc := "()V" } : Jvm.MethodName)) ∈ utbl := u_mem (List.mem_of_getElem? (i := 89) (by decide +kernel)) (by decide +kernel)
theorem wd41 : (Jvm.Cond.code ({ cls := "ShortVectors$Basis", name := "<init>", desc := "()V" } : Jvm.MethodName) prog_2_method_1_code (1 : Nat) (Option.none : Option Jvm.ClassFile.FieldType)) ∈ utbl := u_mem (List.mem_of_getElem? (i := 90) (by decide +kernel)) (by decide +kernel)
theorem wd42 : (Jvm.Cond.methodLink "ShortVectors$Basis" (5 : Nat) ({ cls := "java/lang/Object", name := "<init>", desc := "()V" } : Jvm.MethodName)) ∈ utbl := u_mem (List.mem_of_getElem? (i := 91) (by decide +kernel)) (by decide +kernel)
theorem wd43 : (Jvm.Cond.classLink "ShortVectors$Basis" (11 : Nat) "[[J") ∈ utbl := u_mem (List.mem_of_getElem? (i := 92) (by decide +kernel)) (by decide +kernel)
theorem wd44 : (Jvm.Cond.fieldLink "ShortVectors$Basis" (13 : Nat) "ShortVectors$Basis" "rows" "[[J") ∈ utbl := u_mem (List.mem_of_getElem? (i := 93) (by decide +kernel)) (by decide +kernel)
theorem wd45 : (Jvm.Cond.fieldLink "ShortVectors$Basis" (16 : Nat) "ShortVectors$Basis" "directions" "[[J") ∈ utbl := u_mem (List.mem_of_getElem? (i := 94) (by decide +kernel)) (by decide +kernel)
theorem wd46 : (Jvm.Cond.fieldLink "ShortVectors$Basis" (19 : Nat) "ShortVectors$Basis" "directionSquares" "[J") ∈ utbl := u_mem (List.mem_of_getElem? (i := 95) (by decide +kernel)) (by decide +kernel)
theorem wd47 : (Jvm.Cond.fieldLink "ShortVectors$Basis" (23 : Nat) "ShortVectors$Basis" "strides" "[J") ∈ utbl := u_mem (List.mem_of_getElem? (i := 96) (by decide +kernel)) (by decide +kernel)
theorem wd48 : (Jvm.Cond.fieldLink "ShortVectors$Basis" (26 : Nat) "ShortVectors$Basis" "sums" "[[J") ∈ utbl := u_mem (List.mem_of_getElem? (i := 97) (by decide +kernel)) (by decide +kernel)
theorem wd49 : (Jvm.Cond.fieldLink "ShortVectors$Basis" (29 : Nat) "ShortVectors$Basis" "minors" "[[J") ∈ utbl := u_mem (List.mem_of_getElem? (i := 98) (by decide +kernel)) (by decide +kernel)
theorem wd50 : (Jvm.Cond.fieldLink "ShortVectors$Basis" (32 : Nat) "ShortVectors$Basis" "trial" "[J") ∈ utbl := u_mem (List.mem_of_getElem? (i := 99) (by decide +kernel)) (by decide +kernel)
theorem wd51 : (Jvm.Cond.fieldLink "ShortVectors$Basis" (35 : Nat) "ShortVectors$Basis" "size" "I") ∈ utbl := u_mem (List.mem_of_getElem? (i := 100) (by decide +kernel)) (by decide +kernel)
theorem wd52 : (Jvm.Cond.laysFinal "ShortVectors$Basis" "ShortVectors$Basis" "rows" "[[J") ∈ utbl := u_mem (List.mem_of_getElem? (i := 101) (by decide +kernel)) (by decide +kernel)
theorem wd54 : (Jvm.Cond.laysFinal "ShortVectors$Basis" "ShortVectors$Basis" "directions" "[[J") ∈ utbl := u_mem (List.mem_of_getElem? (i := 103) (by decide +kernel)) (by decide +kernel)
theorem wd56 : (Jvm.Cond.laysFinal "ShortVectors$Basis" "ShortVectors$Basis" "directionSquares" "[J") ∈ utbl := u_mem (List.mem_of_getElem? (i := 105) (by decide +kernel)) (by decide +kernel)
theorem wd58 : (Jvm.Cond.laysFinal "ShortVectors$Basis" "ShortVectors$Basis" "strides" "[J") ∈ utbl := u_mem (List.mem_of_getElem? (i := 107) (by decide +kernel)) (by decide +kernel)
theorem wd60 : (Jvm.Cond.laysFinal "ShortVectors$Basis" "ShortVectors$Basis" "sums" "[[J") ∈ utbl := u_mem (List.mem_of_getElem? (i := 109) (by decide +kernel)) (by decide +kernel)
theorem wd62 : (Jvm.Cond.laysFinal "ShortVectors$Basis" "ShortVectors$Basis" "minors" "[[J") ∈ utbl := u_mem (List.mem_of_getElem? (i := 111) (by decide +kernel)) (by decide +kernel)
theorem wd64 : (Jvm.Cond.laysFinal "ShortVectors$Basis" "ShortVectors$Basis" "trial" "[J") ∈ utbl := u_mem (List.mem_of_getElem? (i := 113) (by decide +kernel)) (by decide +kernel)
theorem wd66 : (Jvm.Cond.lays "ShortVectors$Basis" "ShortVectors$Basis" "size" "I") ∈ utbl := u_mem (List.mem_of_getElem? (i := 115) (by decide +kernel)) (by decide +kernel)
theorem wd69 : (Jvm.Cond.classLink "ShortVectors" (35 : Nat) "ShortVectors$Tally") ∈ utbl := u_mem (List.mem_of_getElem? (i := 118) (by decide +kernel)) (by decide +kernel)
theorem wd70 : (Jvm.Cond.instantiable "ShortVectors$Tally" (3 : Nat)) ∈ utbl := u_mem (List.mem_of_getElem? (i := 119) (by decide +kernel)) (by decide +kernel)
theorem wd71 : (Jvm.Cond.methodLinkNest "ShortVectors" (37 : Nat) ({ cls := "ShortVectors$Tally", name := "<init>", desc := "()V" } : Jvm.MethodName) "ShortVectors") ∈ lw_tbl := List.mem_of_getElem? (i := 120) (by decide +kernel)
theorem wd72 : (Jvm.Cond.instanceMethod ({ cls := "ShortVectors$Tally", name := "<init>", desc := "()V" } : Jvm.MethodName)) ∈ utbl := u_mem (List.mem_of_getElem? (i := 121) (by decide +kernel)) (by decide +kernel)
theorem wd73 : (Jvm.Cond.code ({ cls := "ShortVectors$Tally", name := "<init>", desc := "()V" } : Jvm.MethodName) prog_7_method_1_code (1 : Nat) (Option.none : Option Jvm.ClassFile.FieldType)) ∈ utbl := u_mem (List.mem_of_getElem? (i := 122) (by decide +kernel)) (by decide +kernel)
theorem wd74 : (Jvm.Cond.methodLinkNest "ShortVectors$Tally" (3 : Nat) ({ cls := "ShortVectors$Collector", name := "<init>", desc := "()V" } : Jvm.MethodName) "ShortVectors") ∈ lw_tbl := List.mem_of_getElem? (i := 123) (by decide +kernel)
theorem wd75 : (Jvm.Cond.instanceMethod ({ cls := "ShortVectors$Collector", name := "<init>", desc := "()V" } : Jvm.MethodName)) ∈ utbl := u_mem (List.mem_of_getElem? (i := 124) (by decide +kernel)) (by decide +kernel)
theorem wd76 : (Jvm.Cond.code ({ cls := "ShortVectors$Collector", name := "<init>", desc := "()V" } : Jvm.MethodName) prog_4_method_1_code (1 : Nat) (Option.none : Option Jvm.ClassFile.FieldType)) ∈ utbl := u_mem (List.mem_of_getElem? (i := 125) (by decide +kernel)) (by decide +kernel)
theorem wd77 : (Jvm.Cond.methodLink "ShortVectors$Collector" (3 : Nat) ({ cls := "java/lang/Object", name := "<init>", desc := "()V" } : Jvm.MethodName)) ∈ utbl := u_mem (List.mem_of_getElem? (i := 126) (by decide +kernel)) (by decide +kernel)
theorem wd78 : (Jvm.Cond.fieldLink "ShortVectors$Tally" (9 : Nat) "ShortVectors$Tally" "sums" "[I") ∈ utbl := u_mem (List.mem_of_getElem? (i := 127) (by decide +kernel)) (by decide +kernel)
theorem wd79 : (Jvm.Cond.fieldLink "ShortVectors$Collector" (9 : Nat) "ShortVectors$Collector" "goal" "[J") ∈ utbl := u_mem (List.mem_of_getElem? (i := 128) (by decide +kernel)) (by decide +kernel)
theorem wd80 : (Jvm.Cond.fieldLink "ShortVectors$Collector" (15 : Nat) "ShortVectors$Collector" "budget" "J") ∈ utbl := u_mem (List.mem_of_getElem? (i := 129) (by decide +kernel)) (by decide +kernel)
theorem wd81 : (Jvm.Cond.laysFinal "ShortVectors$Tally" "ShortVectors$Tally" "sums" "[I") ∈ utbl := u_mem (List.mem_of_getElem? (i := 130) (by decide +kernel)) (by decide +kernel)
theorem wd83 : (Jvm.Cond.laysFinal "ShortVectors$Tally" "ShortVectors$Collector" "goal" "[J") ∈ utbl := u_mem (List.mem_of_getElem? (i := 132) (by decide +kernel)) (by decide +kernel)
theorem wd85 : (Jvm.Cond.lays "ShortVectors$Tally" "ShortVectors$Collector" "budget" "J") ∈ utbl := u_mem (List.mem_of_getElem? (i := 134) (by decide +kernel)) (by decide +kernel)
theorem wd88 : (Jvm.Cond.arrayClass Jvm.ClassFile.FieldType.int) ∈ utbl := u_mem (List.mem_of_getElem? (i := 137) (by decide +kernel)) (by decide +kernel)
theorem wd89 : (Jvm.Cond.classLink "ShortVectors" (42 : Nat) "ShortVectors$FirstVectors") ∈ utbl := u_mem (List.mem_of_getElem? (i := 138) (by decide +kernel)) (by decide +kernel)
theorem wd90 : (Jvm.Cond.instantiable "ShortVectors$FirstVectors" (5 : Nat)) ∈ utbl := u_mem (List.mem_of_getElem? (i := 139) (by decide +kernel)) (by decide +kernel)
theorem wd91 : (Jvm.Cond.methodLinkNest "ShortVectors" (44 : Nat) ({ cls := "ShortVectors$FirstVectors", name := "<init>", desc := "()V" } : Jvm.MethodName) "ShortVectors") ∈ lw_tbl := List.mem_of_getElem? (i := 140) (by decide +kernel)
theorem wd92 : (Jvm.Cond.instanceMethod ({ cls := "ShortVectors$FirstVectors", name := "<init>", desc := "()V" } : Jvm.MethodName)) ∈ utbl := u_mem (List.mem_of_getElem? (i := 141) (by decide +kernel)) (by decide +kernel)
theorem wd93 : (Jvm.Cond.code ({ cls := "ShortVectors$FirstVectors", name := "<init>", desc := "()V" } : Jvm.MethodName) prog_6_method_1_code (1 : Nat) (Option.none : Option Jvm.ClassFile.FieldType)) ∈ utbl := u_mem (List.mem_of_getElem? (i := 142) (by decide +kernel)) (by decide +kernel)
theorem wd94 : (Jvm.Cond.methodLinkNest "ShortVectors$FirstVectors" (3 : Nat) ({ cls := "ShortVectors$Collector", name := "<init>", desc := "()V" } : Jvm.MethodName) "ShortVectors") ∈ lw_tbl := List.mem_of_getElem? (i := 143) (by decide +kernel)
theorem wd95 : (Jvm.Cond.classLink "ShortVectors$FirstVectors" (9 : Nat) "[[J") ∈ utbl := u_mem (List.mem_of_getElem? (i := 144) (by decide +kernel)) (by decide +kernel)
theorem wd96 : (Jvm.Cond.fieldLink "ShortVectors$FirstVectors" (11 : Nat) "ShortVectors$FirstVectors" "vectors" "[[J") ∈ utbl := u_mem (List.mem_of_getElem? (i := 145) (by decide +kernel)) (by decide +kernel)
theorem wd97 : (Jvm.Cond.fieldLink "ShortVectors$FirstVectors" (16 : Nat) "ShortVectors$FirstVectors" "squares" "[J") ∈ utbl := u_mem (List.mem_of_getElem? (i := 146) (by decide +kernel)) (by decide +kernel)
theorem wd98 : (Jvm.Cond.fieldLink "ShortVectors$FirstVectors" (20 : Nat) "ShortVectors$FirstVectors" "listLength" "I") ∈ utbl := u_mem (List.mem_of_getElem? (i := 147) (by decide +kernel)) (by decide +kernel)
theorem wd99 : (Jvm.Cond.laysFinal "ShortVectors$FirstVectors" "ShortVectors$FirstVectors" "vectors" "[[J") ∈ utbl := u_mem (List.mem_of_getElem? (i := 148) (by decide +kernel)) (by decide +kernel)
theorem wd101 : (Jvm.Cond.laysFinal "ShortVectors$FirstVectors" "ShortVectors$FirstVectors" "squares" "[J") ∈ utbl := u_mem (List.mem_of_getElem? (i := 150) (by decide +kernel)) (by decide +kernel)
theorem wd103 : (Jvm.Cond.lays "ShortVectors$FirstVectors" "ShortVectors$FirstVectors" "listLength" "I") ∈ utbl := u_mem (List.mem_of_getElem? (i := 152) (by decide +kernel)) (by decide +kernel)
theorem wd105 : (Jvm.Cond.laysFinal "ShortVectors$FirstVectors" "ShortVectors$Collector" "goal" "[J") ∈ utbl := u_mem (List.mem_of_getElem? (i := 154) (by decide +kernel)) (by decide +kernel)
theorem wd106 : (Jvm.Cond.lays "ShortVectors$FirstVectors" "ShortVectors$Collector" "budget" "J") ∈ utbl := u_mem (List.mem_of_getElem? (i := 155) (by decide +kernel)) (by decide +kernel)
theorem wd108 : (Jvm.Cond.classLink "ShortVectors" (49 : Nat) "ShortVectors$Closest") ∈ utbl := u_mem (List.mem_of_getElem? (i := 157) (by decide +kernel)) (by decide +kernel)
theorem wd109 : (Jvm.Cond.instantiable "ShortVectors$Closest" (4 : Nat)) ∈ utbl := u_mem (List.mem_of_getElem? (i := 158) (by decide +kernel)) (by decide +kernel)
theorem wd110 : (Jvm.Cond.methodLinkNest "ShortVectors" (51 : Nat) ({ cls := "ShortVectors$Closest", name := "<init>", desc := "()V" } : Jvm.MethodName) "ShortVectors") ∈ lw_tbl := List.mem_of_getElem? (i := 159) (by decide +kernel)
theorem wd111 : (Jvm.Cond.instanceMethod ({ cls := "ShortVectors$Closest", name := "<init>", desc := "()V" } : Jvm.MethodName)) ∈ utbl := u_mem (List.mem_of_getElem? (i := 160) (by decide +kernel)) (by decide +kernel)
theorem wd112 : (Jvm.Cond.code ({ cls := "ShortVectors$Closest", name := "<init>", desc := "()V" } : Jvm.MethodName) prog_3_method_1_code (1 : Nat) (Option.none : Option Jvm.ClassFile.FieldType)) ∈ utbl := u_mem (List.mem_of_getElem? (i := 161) (by decide +kernel)) (by decide +kernel)
theorem wd113 : (Jvm.Cond.methodLinkNest "ShortVectors$Closest" (3 : Nat) ({ cls := "ShortVectors$Collector", name := "<init>", desc := "()V" } : Jvm.MethodName) "ShortVectors") ∈ lw_tbl := List.mem_of_getElem? (i := 162) (by decide +kernel)
theorem wd114 : (Jvm.Cond.fieldLink "ShortVectors$Closest" (9 : Nat) "ShortVectors$Closest" "best" "[J") ∈ utbl := u_mem (List.mem_of_getElem? (i := 163) (by decide +kernel)) (by decide +kernel)
theorem wd115 : (Jvm.Cond.fieldLink "ShortVectors$Closest" (39 : Nat) "ShortVectors$Closest" "bestSquare" "J") ∈ utbl := u_mem (List.mem_of_getElem? (i := 164) (by decide +kernel)) (by decide +kernel)
theorem wd116 : (Jvm.Cond.laysFinal "ShortVectors$Closest" "ShortVectors$Closest" "best" "[J") ∈ utbl := u_mem (List.mem_of_getElem? (i := 165) (by decide +kernel)) (by decide +kernel)
theorem wd118 : (Jvm.Cond.lays "ShortVectors$Closest" "ShortVectors$Closest" "bestSquare" "J") ∈ utbl := u_mem (List.mem_of_getElem? (i := 167) (by decide +kernel)) (by decide +kernel)
theorem wd120 : (Jvm.Cond.laysFinal "ShortVectors$Closest" "ShortVectors$Collector" "goal" "[J") ∈ utbl := u_mem (List.mem_of_getElem? (i := 169) (by decide +kernel)) (by decide +kernel)
theorem wd121 : (Jvm.Cond.lays "ShortVectors$Closest" "ShortVectors$Collector" "budget" "J") ∈ utbl := u_mem (List.mem_of_getElem? (i := 170) (by decide +kernel)) (by decide +kernel)
theorem wd123 : (Jvm.Cond.fieldLink "ShortVectors" (11 : Nat) "ShortVectors" "added" "[[J") ∈ utbl := u_mem (List.mem_of_getElem? (i := 172) (by decide +kernel)) (by decide +kernel)
theorem wd124 : (Jvm.Cond.fieldLink "ShortVectors" (14 : Nat) "ShortVectors" "asked" "[J") ∈ utbl := u_mem (List.mem_of_getElem? (i := 173) (by decide +kernel)) (by decide +kernel)
theorem wd125 : (Jvm.Cond.fieldLink "ShortVectors" (21 : Nat) "ShortVectors" "echelon" "LShortVectors$Echelon;") ∈ utbl := u_mem (List.mem_of_getElem? (i := 174) (by decide +kernel)) (by decide +kernel)
theorem wd126 : (Jvm.Cond.fieldLink "ShortVectors" (25 : Nat) "ShortVectors" "others" "LShortVectors$Echelon;") ∈ utbl := u_mem (List.mem_of_getElem? (i := 175) (by decide +kernel)) (by decide +kernel)
theorem wd127 : (Jvm.Cond.fieldLink "ShortVectors" (31 : Nat) "ShortVectors" "basis" "LShortVectors$Basis;") ∈ utbl := u_mem (List.mem_of_getElem? (i := 176) (by decide +kernel)) (by decide +kernel)
theorem wd128 : (Jvm.Cond.fieldLink "ShortVectors" (38 : Nat) "ShortVectors" "tally" "LShortVectors$Tally;") ∈ utbl := u_mem (List.mem_of_getElem? (i := 177) (by decide +kernel)) (by decide +kernel)
theorem wd129 : (Jvm.Cond.fieldLink "ShortVectors" (45 : Nat) "ShortVectors" "first" "LShortVectors$FirstVectors;") ∈ utbl := u_mem (List.mem_of_getElem? (i := 178) (by decide +kernel)) (by decide +kernel)
theorem wd130 : (Jvm.Cond.fieldLink "ShortVectors" (52 : Nat) "ShortVectors" "closest" "LShortVectors$Closest;") ∈ utbl := u_mem (List.mem_of_getElem? (i := 179) (by decide +kernel)) (by decide +kernel)
theorem wd131 : (Jvm.Cond.fieldLink "ShortVectors" (56 : Nat) "ShortVectors" "held" "I") ∈ utbl := u_mem (List.mem_of_getElem? (i := 180) (by decide +kernel)) (by decide +kernel)
theorem wd132 : (Jvm.Cond.fieldLink "ShortVectors" (141 : Nat) "ShortVectors" "reduced" "Z") ∈ utbl := u_mem (List.mem_of_getElem? (i := 181) (by decide +kernel)) (by decide +kernel)
theorem wd133 : (Jvm.Cond.fieldLink "ShortVectors" (105 : Nat) "ShortVectors" "tallied" "Z") ∈ utbl := u_mem (List.mem_of_getElem? (i := 182) (by decide +kernel)) (by decide +kernel)
theorem wd134 : (Jvm.Cond.fieldLink "ShortVectors" (121 : Nat) "ShortVectors" "listed" "Z") ∈ utbl := u_mem (List.mem_of_getElem? (i := 183) (by decide +kernel)) (by decide +kernel)
theorem wd135 : (Jvm.Cond.laysFinal "ShortVectors" "ShortVectors" "added" "[[J") ∈ utbl := u_mem (List.mem_of_getElem? (i := 184) (by decide +kernel)) (by decide +kernel)
theorem wd137 : (Jvm.Cond.laysFinal "ShortVectors" "ShortVectors" "asked" "[J") ∈ utbl := u_mem (List.mem_of_getElem? (i := 186) (by decide +kernel)) (by decide +kernel)
theorem wd139 : (Jvm.Cond.laysFinal "ShortVectors" "ShortVectors" "echelon" "LShortVectors$Echelon;") ∈ utbl := u_mem (List.mem_of_getElem? (i := 188) (by decide +kernel)) (by decide +kernel)
theorem wd141 : (Jvm.Cond.laysFinal "ShortVectors" "ShortVectors" "others" "LShortVectors$Echelon;") ∈ utbl := u_mem (List.mem_of_getElem? (i := 190) (by decide +kernel)) (by decide +kernel)
theorem wd143 : (Jvm.Cond.laysFinal "ShortVectors" "ShortVectors" "basis" "LShortVectors$Basis;") ∈ utbl := u_mem (List.mem_of_getElem? (i := 192) (by decide +kernel)) (by decide +kernel)
theorem wd145 : (Jvm.Cond.laysFinal "ShortVectors" "ShortVectors" "tally" "LShortVectors$Tally;") ∈ utbl := u_mem (List.mem_of_getElem? (i := 194) (by decide +kernel)) (by decide +kernel)
theorem wd147 : (Jvm.Cond.laysFinal "ShortVectors" "ShortVectors" "first" "LShortVectors$FirstVectors;") ∈ utbl := u_mem (List.mem_of_getElem? (i := 196) (by decide +kernel)) (by decide +kernel)
theorem wd149 : (Jvm.Cond.laysFinal "ShortVectors" "ShortVectors" "closest" "LShortVectors$Closest;") ∈ utbl := u_mem (List.mem_of_getElem? (i := 198) (by decide +kernel)) (by decide +kernel)
theorem wd151 : (Jvm.Cond.lays "ShortVectors" "ShortVectors" "held" "I") ∈ utbl := u_mem (List.mem_of_getElem? (i := 200) (by decide +kernel)) (by decide +kernel)
theorem wd153 : (Jvm.Cond.lays "ShortVectors" "ShortVectors" "reduced" "Z") ∈ utbl := u_mem (List.mem_of_getElem? (i := 202) (by decide +kernel)) (by decide +kernel)
theorem wd155 : (Jvm.Cond.lays "ShortVectors" "ShortVectors" "tallied" "Z") ∈ utbl := u_mem (List.mem_of_getElem? (i := 204) (by decide +kernel)) (by decide +kernel)
theorem wd157 : (Jvm.Cond.lays "ShortVectors" "ShortVectors" "listed" "Z") ∈ utbl := u_mem (List.mem_of_getElem? (i := 206) (by decide +kernel)) (by decide +kernel)
theorem wd160 : (Jvm.Cond.methodLink "ShortVectorsLaw" (13 : Nat) ({ cls := "ShortVectors", name := "add", desc := "(IIII)I" } : Jvm.MethodName)) ∈ utbl := u_mem (List.mem_of_getElem? (i := 209) (by decide +kernel)) (by decide +kernel)
theorem wd161 : (Jvm.Cond.instanceMethod ({ cls := "ShortVectors", name := "add", desc := "(IIII)I" } : Jvm.MethodName)) ∈ utbl := u_mem (List.mem_of_getElem? (i := 210) (by decide +kernel)) (by decide +kernel)
theorem wd162 : (Jvm.Cond.selects "ShortVectors" ({ cls := "ShortVectors", name := "add", desc := "(IIII)I" } : Jvm.MethodName) ({ cls := "ShortVectors", name := "add", desc := "(IIII)I" } : Jvm.MethodName)) ∈ utbl := u_mem (List.mem_of_getElem? (i := 211) (by decide +kernel)) (by decide +kernel)
theorem wd163 : (Jvm.Cond.code ({ cls := "ShortVectors", name := "add", desc := "(IIII)I" } : Jvm.MethodName) prog_1_method_2_code (5 : Nat) (Option.some Jvm.ClassFile.FieldType.int)) ∈ utbl := u_mem (List.mem_of_getElem? (i := 212) (by decide +kernel)) (by decide +kernel)
theorem wd164 : (Jvm.Cond.methodLink "ShortVectors" (60 : Nat) ({ cls := "ShortVectors", name := "ask", desc := "(IIIII)Z" } : Jvm.MethodName)) ∈ utbl := u_mem (List.mem_of_getElem? (i := 213) (by decide +kernel)) (by decide +kernel)
theorem wd166 : (Jvm.Cond.instanceMethod ({ cls := "ShortVectors", name := "ask", desc := "(IIIII)Z" } : Jvm.MethodName)) ∈ utbl := u_mem (List.mem_of_getElem? (i := 215) (by decide +kernel)) (by decide +kernel)
theorem wd167 : (Jvm.Cond.code ({ cls := "ShortVectors", name := "ask", desc := "(IIIII)Z" } : Jvm.MethodName) prog_1_method_15_code (7 : Nat) (Option.some Jvm.ClassFile.FieldType.boolean)) ∈ utbl := u_mem (List.mem_of_getElem? (i := 216) (by decide +kernel)) (by decide +kernel)
theorem wd168 : (Jvm.Cond.methodLink "ShortVectors" (64 : Nat) ({ cls := "ShortVectors", name := "copy", desc := "([J[J)V" } : Jvm.MethodName)) ∈ utbl := u_mem (List.mem_of_getElem? (i := 217) (by decide +kernel)) (by decide +kernel)
theorem wd169 : (Jvm.Cond.static ({ cls := "ShortVectors", name := "copy", desc := "([J[J)V" } : Jvm.MethodName)) ∈ utbl := u_mem (List.mem_of_getElem? (i := 218) (by decide +kernel)) (by decide +kernel)
theorem wd170 : (Jvm.Cond.code ({ cls := "ShortVectors", name := "copy", desc := "([J[J)V" } : Jvm.MethodName) prog_1_method_20_code (2 : Nat) (Option.none : Option Jvm.ClassFile.FieldType)) ∈ utbl := u_mem (List.mem_of_getElem? (i := 219) (by decide +kernel)) (by decide +kernel)
theorem wd171 : (Jvm.Cond.methodLink "ShortVectors" (148 : Nat) ({ cls := "java/lang/System", name := "arraycopy", desc := "(Ljava/lang/Object;ILjava/lang/Object;II)V" } : Jvm.MethodName)) ∈ utbl := u_mem (List.mem_of_getElem? (i := 220) (by decide +kernel)) (by decide +kernel)
theorem wd172 : (Jvm.Cond.static ({ cls := "java/lang/System", name := "arraycopy", desc := "(Ljava/lang/Object;ILjava/lang/Object;II)V" } : Jvm.MethodName)) ∈ utbl := u_mem (List.mem_of_getElem? (i := 221) (by decide +kernel)) (by decide +kernel)
theorem wd173 : (Jvm.Cond.native ({ cls := "java/lang/System", name := "arraycopy", desc := "(Ljava/lang/Object;ILjava/lang/Object;II)V" } : Jvm.MethodName)) ∈ utbl := u_mem (List.mem_of_getElem? (i := 222) (by decide +kernel)) (by decide +kernel)
theorem wd174 : (Jvm.Cond.methodLink "ShortVectors" (68 : Nat) ({ cls := "ShortVectors$Echelon", name := "include", desc := "([J)V" } : Jvm.MethodName)) ∈ utbl := u_mem (List.mem_of_getElem? (i := 223) (by decide +kernel)) (by decide +kernel)
theorem wd175 : (Jvm.Cond.instanceMethod ({ cls := "ShortVectors$Echelon", name := "include", desc := "([J)V" } : Jvm.MethodName)) ∈ utbl := u_mem (List.mem_of_getElem? (i := 224) (by decide +kernel)) (by decide +kernel)
theorem wd176 : (Jvm.Cond.selects "ShortVectors$Echelon" ({ cls := "ShortVectors$Echelon", name := "include", desc := "([J)V" } : Jvm.MethodName) ({ cls := "ShortVectors$Echelon", name := "include", desc := "([J)V" } : Jvm.MethodName)) ∈ utbl := u_mem (List.mem_of_getElem? (i := 225) (by decide +kernel)) (by decide +kernel)
theorem wd177 : (Jvm.Cond.code ({ cls := "ShortVectors$Echelon", name := "include", desc := "([J)V" } : Jvm.MethodName) prog_5_method_6_code (3 : Nat) (Option.none : Option Jvm.ClassFile.FieldType)) ∈ utbl := u_mem (List.mem_of_getElem? (i := 226) (by decide +kernel)) (by decide +kernel)
theorem wd178 : (Jvm.Cond.methodLinkNest "ShortVectors$Echelon" (30 : Nat) ({ cls := "ShortVectors", name := "copy", desc := "([J[J)V" } : Jvm.MethodName) "ShortVectors") ∈ lw_tbl := List.mem_of_getElem? (i := 227) (by decide +kernel)
theorem wd179 : (Jvm.Cond.methodLink "ShortVectors$Echelon" (34 : Nat) ({ cls := "ShortVectors$Echelon", name := "merge", desc := "([JI)V" } : Jvm.MethodName)) ∈ utbl := u_mem (List.mem_of_getElem? (i := 228) (by decide +kernel)) (by decide +kernel)
theorem wd181 : (Jvm.Cond.instanceMethod ({ cls := "ShortVectors$Echelon", name := "merge", desc := "([JI)V" } : Jvm.MethodName)) ∈ utbl := u_mem (List.mem_of_getElem? (i := 230) (by decide +kernel)) (by decide +kernel)
theorem wd182 : (Jvm.Cond.code ({ cls := "ShortVectors$Echelon", name := "merge", desc := "([JI)V" } : Jvm.MethodName) prog_5_method_7_code (9 : Nat) (Option.none : Option Jvm.ClassFile.FieldType)) ∈ utbl := u_mem (List.mem_of_getElem? (i := 231) (by decide +kernel)) (by decide +kernel)
theorem wd183 : (Jvm.Cond.constant "ShortVectors$Echelon" (42 : Nat) (1000000 : Int32)) ∈ utbl := u_mem (List.mem_of_getElem? (i := 232) (by decide +kernel)) (by decide +kernel)
theorem wd184 : (Jvm.Cond.constantLong "ShortVectors$Echelon" (43 : Nat) (-2 : Int64)) ∈ utbl := u_mem (List.mem_of_getElem? (i := 233) (by decide +kernel)) (by decide +kernel)
theorem wd185 : (Jvm.Cond.methodLinkNest "ShortVectors$Echelon" (45 : Nat) ({ cls := "ShortVectors", name := "addMultiple", desc := "([J[JJ)V" } : Jvm.MethodName) "ShortVectors") ∈ lw_tbl := List.mem_of_getElem? (i := 234) (by decide +kernel)
theorem wd186 : (Jvm.Cond.static ({ cls := "ShortVectors", name := "addMultiple", desc := "([J[JJ)V" } : Jvm.MethodName)) ∈ utbl := u_mem (List.mem_of_getElem? (i := 235) (by decide +kernel)) (by decide +kernel)
theorem wd187 : (Jvm.Cond.code ({ cls := "ShortVectors", name := "addMultiple", desc := "([J[JJ)V" } : Jvm.MethodName) prog_1_method_21_code (5 : Nat) (Option.none : Option Jvm.ClassFile.FieldType)) ∈ utbl := u_mem (List.mem_of_getElem? (i := 236) (by decide +kernel)) (by decide +kernel)
theorem wd188 : (Jvm.Cond.methodLink "ShortVectors$Echelon" (38 : Nat) ({ cls := "ShortVectors$Echelon", name := "shorten", desc := "(I)V" } : Jvm.MethodName)) ∈ utbl := u_mem (List.mem_of_getElem? (i := 237) (by decide +kernel)) (by decide +kernel)
theorem wd190 : (Jvm.Cond.instanceMethod ({ cls := "ShortVectors$Echelon", name := "shorten", desc := "(I)V" } : Jvm.MethodName)) ∈ utbl := u_mem (List.mem_of_getElem? (i := 239) (by decide +kernel)) (by decide +kernel)
theorem wd191 : (Jvm.Cond.code ({ cls := "ShortVectors$Echelon", name := "shorten", desc := "(I)V" } : Jvm.MethodName) prog_5_method_8_code (3 : Nat) (Option.none : Option Jvm.ClassFile.FieldType)) ∈ utbl := u_mem (List.mem_of_getElem? (i := 240) (by decide +kernel)) (by decide +kernel)
theorem wd192 : (Jvm.Cond.methodLink "ShortVectors$Echelon" (26 : Nat) ({ cls := "ShortVectors$Echelon", name := "isHeld", desc := "(I)Z" } : Jvm.MethodName)) ∈ utbl := u_mem (List.mem_of_getElem? (i := 241) (by decide +kernel)) (by decide +kernel)
theorem wd193 : (Jvm.Cond.instanceMethod ({ cls := "ShortVectors$Echelon", name := "isHeld", desc := "(I)Z" } : Jvm.MethodName)) ∈ utbl := u_mem (List.mem_of_getElem? (i := 242) (by decide +kernel)) (by decide +kernel)
theorem wd194 : (Jvm.Cond.selects "ShortVectors$Echelon" ({ cls := "ShortVectors$Echelon", name := "isHeld", desc := "(I)Z" } : Jvm.MethodName) ({ cls := "ShortVectors$Echelon", name := "isHeld", desc := "(I)Z" } : Jvm.MethodName)) ∈ utbl := u_mem (List.mem_of_getElem? (i := 243) (by decide +kernel)) (by decide +kernel)
theorem wd195 : (Jvm.Cond.code ({ cls := "ShortVectors$Echelon", name := "isHeld", desc := "(I)Z" } : Jvm.MethodName) prog_5_method_4_code (2 : Nat) (Option.some Jvm.ClassFile.FieldType.boolean)) ∈ utbl := u_mem (List.mem_of_getElem? (i := 244) (by decide +kernel)) (by decide +kernel)
theorem wd196 : (Jvm.Cond.methodLink "ShortVectors$Echelon" (49 : Nat) ({ cls := "java/lang/Math", name := "floorDiv", desc := "(JJ)J" } : Jvm.MethodName)) ∈ utbl := u_mem (List.mem_of_getElem? (i := 245) (by decide +kernel)) (by decide +kernel)
theorem wd197 : (Jvm.Cond.static ({ cls := "java/lang/Math", name := "floorDiv", desc := "(JJ)J" } : Jvm.MethodName)) ∈ utbl := u_mem (List.mem_of_getElem? (i := 246) (by decide +kernel)) (by decide +kernel)
theorem wd198 : (Jvm.Cond.code ({ cls := "java/lang/Math", name := "floorDiv", desc := "(JJ)J" } : Jvm.MethodName) prog_10_method_49_code (6 : Nat) (Option.some Jvm.ClassFile.FieldType.long)) ∈ utbl := u_mem (List.mem_of_getElem? (i := 247) (by decide +kernel)) (by decide +kernel)
theorem wd199 : (Jvm.Cond.methodLink "ShortVectors" (72 : Nat) ({ cls := "ShortVectors", name := "forget", desc := "()V" } : Jvm.MethodName)) ∈ utbl := u_mem (List.mem_of_getElem? (i := 248) (by decide +kernel)) (by decide +kernel)
theorem wd201 : (Jvm.Cond.instanceMethod ({ cls := "ShortVectors", name := "forget", desc := "()V" } : Jvm.MethodName)) ∈ utbl := u_mem (List.mem_of_getElem? (i := 250) (by decide +kernel)) (by decide +kernel)
theorem wd202 : (Jvm.Cond.code ({ cls := "ShortVectors", name := "forget", desc := "()V" } : Jvm.MethodName) prog_1_method_17_code (1 : Nat) (Option.none : Option Jvm.ClassFile.FieldType)) ∈ utbl := u_mem (List.mem_of_getElem? (i := 251) (by decide +kernel)) (by decide +kernel)
theorem wd203 : (Jvm.Cond.methodLink "ShortVectorsLaw" (18 : Nat) ({ cls := "ShortVectors", name := "drop", desc := "()Z" } : Jvm.MethodName)) ∈ utbl := u_mem (List.mem_of_getElem? (i := 252) (by decide +kernel)) (by decide +kernel)
theorem wd204 : (Jvm.Cond.instanceMethod ({ cls := "ShortVectors", name := "drop", desc := "()Z" } : Jvm.MethodName)) ∈ utbl := u_mem (List.mem_of_getElem? (i := 253) (by decide +kernel)) (by decide +kernel)
theorem wd205 : (Jvm.Cond.selects "ShortVectors" ({ cls := "ShortVectors", name := "drop", desc := "()Z" } : Jvm.MethodName) ({ cls := "ShortVectors", name := "drop", desc := "()Z" } : Jvm.MethodName)) ∈ utbl := u_mem (List.mem_of_getElem? (i := 254) (by decide +kernel)) (by decide +kernel)
theorem wd206 : (Jvm.Cond.code ({ cls := "ShortVectors", name := "drop", desc := "()Z" } : Jvm.MethodName) prog_1_method_3_code (1 : Nat) (Option.some Jvm.ClassFile.FieldType.boolean)) ∈ utbl := u_mem (List.mem_of_getElem? (i := 255) (by decide +kernel)) (by decide +kernel)
theorem wd207 : (Jvm.Cond.methodLink "ShortVectors" (75 : Nat) ({ cls := "ShortVectors", name := "gather", desc := "(LShortVectors$Echelon;I)V" } : Jvm.MethodName)) ∈ utbl := u_mem (List.mem_of_getElem? (i := 256) (by decide +kernel)) (by decide +kernel)
theorem wd209 : (Jvm.Cond.instanceMethod ({ cls := "ShortVectors", name := "gather", desc := "(LShortVectors$Echelon;I)V" } : Jvm.MethodName)) ∈ utbl := u_mem (List.mem_of_getElem? (i := 258) (by decide +kernel)) (by decide +kernel)
theorem wd210 : (Jvm.Cond.code ({ cls := "ShortVectors", name := "gather", desc := "(LShortVectors$Echelon;I)V" } : Jvm.MethodName) prog_1_method_16_code (4 : Nat) (Option.none : Option Jvm.ClassFile.FieldType)) ∈ utbl := u_mem (List.mem_of_getElem? (i := 259) (by decide +kernel)) (by decide +kernel)
theorem wd211 : (Jvm.Cond.methodLink "ShortVectors" (138 : Nat) ({ cls := "ShortVectors$Echelon", name := "clear", desc := "()V" } : Jvm.MethodName)) ∈ utbl := u_mem (List.mem_of_getElem? (i := 260) (by decide +kernel)) (by decide +kernel)
theorem wd212 : (Jvm.Cond.instanceMethod ({ cls := "ShortVectors$Echelon", name := "clear", desc := "()V" } : Jvm.MethodName)) ∈ utbl := u_mem (List.mem_of_getElem? (i := 261) (by decide +kernel)) (by decide +kernel)
theorem wd213 : (Jvm.Cond.selects "ShortVectors$Echelon" ({ cls := "ShortVectors$Echelon", name := "clear", desc := "()V" } : Jvm.MethodName) ({ cls := "ShortVectors$Echelon", name := "clear", desc := "()V" } : Jvm.MethodName)) ∈ utbl := u_mem (List.mem_of_getElem? (i := 262) (by decide +kernel)) (by decide +kernel)
theorem wd214 : (Jvm.Cond.code ({ cls := "ShortVectors$Echelon", name := "clear", desc := "()V" } : Jvm.MethodName) prog_5_method_2_code (2 : Nat) (Option.none : Option Jvm.ClassFile.FieldType)) ∈ utbl := u_mem (List.mem_of_getElem? (i := 263) (by decide +kernel)) (by decide +kernel)
theorem wd215 : (Jvm.Cond.methodLink "ShortVectors$Echelon" (20 : Nat) ({ cls := "java/util/Arrays", name := "fill", desc := "([JJ)V" } : Jvm.MethodName)) ∈ utbl := u_mem (List.mem_of_getElem? (i := 264) (by decide +kernel)) (by decide +kernel)
theorem wd216 : (Jvm.Cond.static ({ cls := "java/util/Arrays", name := "fill", desc := "([JJ)V" } : Jvm.MethodName)) ∈ utbl := u_mem (List.mem_of_getElem? (i := 265) (by decide +kernel)) (by decide +kernel)
theorem wd217 : (Jvm.Cond.code ({ cls := "java/util/Arrays", name := "fill", desc := "([JJ)V" } : Jvm.MethodName) prog_12_method_101_code (5 : Nat) (Option.none : Option Jvm.ClassFile.FieldType)) ∈ utbl := u_mem (List.mem_of_getElem? (i := 266) (by decide +kernel)) (by decide +kernel)
theorem wd218 : (Jvm.Cond.methodLink "ShortVectorsLaw" (23 : Nat) ({ cls := "ShortVectors", name := "generators", desc := "()I" } : Jvm.MethodName)) ∈ utbl := u_mem (List.mem_of_getElem? (i := 267) (by decide +kernel)) (by decide +kernel)
theorem wd219 : (Jvm.Cond.instanceMethod ({ cls := "ShortVectors", name := "generators", desc := "()I" } : Jvm.MethodName)) ∈ utbl := u_mem (List.mem_of_getElem? (i := 268) (by decide +kernel)) (by decide +kernel)
theorem wd220 : (Jvm.Cond.selects "ShortVectors" ({ cls := "ShortVectors", name := "generators", desc := "()I" } : Jvm.MethodName) ({ cls := "ShortVectors", name := "generators", desc := "()I" } : Jvm.MethodName)) ∈ utbl := u_mem (List.mem_of_getElem? (i := 269) (by decide +kernel)) (by decide +kernel)
theorem wd221 : (Jvm.Cond.code ({ cls := "ShortVectors", name := "generators", desc := "()I" } : Jvm.MethodName) prog_1_method_4_code (1 : Nat) (Option.some Jvm.ClassFile.FieldType.int)) ∈ utbl := u_mem (List.mem_of_getElem? (i := 270) (by decide +kernel)) (by decide +kernel)
theorem wd222 : (Jvm.Cond.methodLink "ShortVectorsLaw" (28 : Nat) ({ cls := "ShortVectors", name := "rank", desc := "()I" } : Jvm.MethodName)) ∈ utbl := u_mem (List.mem_of_getElem? (i := 271) (by decide +kernel)) (by decide +kernel)
theorem wd223 : (Jvm.Cond.instanceMethod ({ cls := "ShortVectors", name := "rank", desc := "()I" } : Jvm.MethodName)) ∈ utbl := u_mem (List.mem_of_getElem? (i := 272) (by decide +kernel)) (by decide +kernel)
theorem wd224 : (Jvm.Cond.selects "ShortVectors" ({ cls := "ShortVectors", name := "rank", desc := "()I" } : Jvm.MethodName) ({ cls := "ShortVectors", name := "rank", desc := "()I" } : Jvm.MethodName)) ∈ utbl := u_mem (List.mem_of_getElem? (i := 273) (by decide +kernel)) (by decide +kernel)
theorem wd225 : (Jvm.Cond.code ({ cls := "ShortVectors", name := "rank", desc := "()I" } : Jvm.MethodName) prog_1_method_5_code (1 : Nat) (Option.some Jvm.ClassFile.FieldType.int)) ∈ utbl := u_mem (List.mem_of_getElem? (i := 274) (by decide +kernel)) (by decide +kernel)
theorem wd226 : (Jvm.Cond.methodLink "ShortVectors" (79 : Nat) ({ cls := "ShortVectors$Echelon", name := "size", desc := "()I" } : Jvm.MethodName)) ∈ utbl := u_mem (List.mem_of_getElem? (i := 275) (by decide +kernel)) (by decide +kernel)
theorem wd227 : (Jvm.Cond.instanceMethod ({ cls := "ShortVectors$Echelon", name := "size", desc := "()I" } : Jvm.MethodName)) ∈ utbl := u_mem (List.mem_of_getElem? (i := 276) (by decide +kernel)) (by decide +kernel)
theorem wd228 : (Jvm.Cond.selects "ShortVectors$Echelon" ({ cls := "ShortVectors$Echelon", name := "size", desc := "()I" } : Jvm.MethodName) ({ cls := "ShortVectors$Echelon", name := "size", desc := "()I" } : Jvm.MethodName)) ∈ utbl := u_mem (List.mem_of_getElem? (i := 277) (by decide +kernel)) (by decide +kernel)
theorem wd229 : (Jvm.Cond.code ({ cls := "ShortVectors$Echelon", name := "size", desc := "()I" } : Jvm.MethodName) prog_5_method_3_code (3 : Nat) (Option.some Jvm.ClassFile.FieldType.int)) ∈ utbl := u_mem (List.mem_of_getElem? (i := 278) (by decide +kernel)) (by decide +kernel)
theorem wd230 : (Jvm.Cond.methodLink "ShortVectorsLaw" (32 : Nat) ({ cls := "ShortVectors", name := "volume", desc := "()J" } : Jvm.MethodName)) ∈ utbl := u_mem (List.mem_of_getElem? (i := 279) (by decide +kernel)) (by decide +kernel)
theorem wd231 : (Jvm.Cond.instanceMethod ({ cls := "ShortVectors", name := "volume", desc := "()J" } : Jvm.MethodName)) ∈ utbl := u_mem (List.mem_of_getElem? (i := 280) (by decide +kernel)) (by decide +kernel)
theorem wd232 : (Jvm.Cond.selects "ShortVectors" ({ cls := "ShortVectors", name := "volume", desc := "()J" } : Jvm.MethodName) ({ cls := "ShortVectors", name := "volume", desc := "()J" } : Jvm.MethodName)) ∈ utbl := u_mem (List.mem_of_getElem? (i := 281) (by decide +kernel)) (by decide +kernel)
theorem wd233 : (Jvm.Cond.code ({ cls := "ShortVectors", name := "volume", desc := "()J" } : Jvm.MethodName) prog_1_method_6_code (1 : Nat) (Option.some Jvm.ClassFile.FieldType.long)) ∈ utbl := u_mem (List.mem_of_getElem? (i := 282) (by decide +kernel)) (by decide +kernel)
theorem wd234 : (Jvm.Cond.methodLink "ShortVectors" (83 : Nat) ({ cls := "ShortVectors", name := "readyBasis", desc := "()LShortVectors$Basis;" } : Jvm.MethodName)) ∈ utbl := u_mem (List.mem_of_getElem? (i := 283) (by decide +kernel)) (by decide +kernel)
theorem wd236 : (Jvm.Cond.instanceMethod ({ cls := "ShortVectors", name := "readyBasis", desc := "()LShortVectors$Basis;" } : Jvm.MethodName)) ∈ utbl := u_mem (List.mem_of_getElem? (i := 285) (by decide +kernel)) (by decide +kernel)
theorem wd237 : (Jvm.Cond.code ({ cls := "ShortVectors", name := "readyBasis", desc := "()LShortVectors$Basis;" } : Jvm.MethodName) prog_1_method_18_code (1 : Nat) (Option.some (Jvm.ClassFile.FieldType.object "ShortVectors$Basis"))) ∈ utbl := u_mem (List.mem_of_getElem? (i := 286) (by decide +kernel)) (by decide +kernel)
theorem wd238 : (Jvm.Cond.methodLink "ShortVectors" (144 : Nat) ({ cls := "ShortVectors$Basis", name := "take", desc := "(LShortVectors$Echelon;)V" } : Jvm.MethodName)) ∈ utbl := u_mem (List.mem_of_getElem? (i := 287) (by decide +kernel)) (by decide +kernel)
theorem wd239 : (Jvm.Cond.instanceMethod ({ cls := "ShortVectors$Basis", name := "take", desc := "(LShortVectors$Echelon;)V" } : Jvm.MethodName)) ∈ utbl := u_mem (List.mem_of_getElem? (i := 288) (by decide +kernel)) (by decide +kernel)
theorem wd240 : (Jvm.Cond.selects "ShortVectors$Basis" ({ cls := "ShortVectors$Basis", name := "take", desc := "(LShortVectors$Echelon;)V" } : Jvm.MethodName) ({ cls := "ShortVectors$Basis", name := "take", desc := "(LShortVectors$Echelon;)V" } : Jvm.MethodName)) ∈ utbl := u_mem (List.mem_of_getElem? (i := 289) (by decide +kernel)) (by decide +kernel)
theorem wd241 : (Jvm.Cond.code ({ cls := "ShortVectors$Basis", name := "take", desc := "(LShortVectors$Echelon;)V" } : Jvm.MethodName) prog_2_method_2_code (3 : Nat) (Option.none : Option Jvm.ClassFile.FieldType)) ∈ utbl := u_mem (List.mem_of_getElem? (i := 290) (by decide +kernel)) (by decide +kernel)
theorem wd242 : (Jvm.Cond.methodLink "ShortVectors$Basis" (39 : Nat) ({ cls := "ShortVectors$Echelon", name := "isHeld", desc := "(I)Z" } : Jvm.MethodName)) ∈ utbl := u_mem (List.mem_of_getElem? (i := 291) (by decide +kernel)) (by decide +kernel)
theorem wd243 : (Jvm.Cond.methodLink "ShortVectors$Basis" (45 : Nat) ({ cls := "ShortVectors$Echelon", name := "row", desc := "(I)[J" } : Jvm.MethodName)) ∈ utbl := u_mem (List.mem_of_getElem? (i := 292) (by decide +kernel)) (by decide +kernel)
theorem wd244 : (Jvm.Cond.instanceMethod ({ cls := "ShortVectors$Echelon", name := "row", desc := "(I)[J" } : Jvm.MethodName)) ∈ utbl := u_mem (List.mem_of_getElem? (i := 293) (by decide +kernel)) (by decide +kernel)
theorem wd245 : (Jvm.Cond.selects "ShortVectors$Echelon" ({ cls := "ShortVectors$Echelon", name := "row", desc := "(I)[J" } : Jvm.MethodName) ({ cls := "ShortVectors$Echelon", name := "row", desc := "(I)[J" } : Jvm.MethodName)) ∈ utbl := u_mem (List.mem_of_getElem? (i := 294) (by decide +kernel)) (by decide +kernel)
theorem wd246 : (Jvm.Cond.code ({ cls := "ShortVectors$Echelon", name := "row", desc := "(I)[J" } : Jvm.MethodName) prog_5_method_5_code (2 : Nat) (Option.some (Jvm.ClassFile.FieldType.array Jvm.ClassFile.FieldType.long))) ∈ utbl := u_mem (List.mem_of_getElem? (i := 295) (by decide +kernel)) (by decide +kernel)
theorem wd247 : (Jvm.Cond.methodLinkNest "ShortVectors$Basis" (49 : Nat) ({ cls := "ShortVectors", name := "copy", desc := "([J[J)V" } : Jvm.MethodName) "ShortVectors") ∈ lw_tbl := List.mem_of_getElem? (i := 296) (by decide +kernel)
theorem wd248 : (Jvm.Cond.methodLink "ShortVectors$Basis" (53 : Nat) ({ cls := "ShortVectors$Basis", name := "reduce", desc := "()V" } : Jvm.MethodName)) ∈ utbl := u_mem (List.mem_of_getElem? (i := 297) (by decide +kernel)) (by decide +kernel)
theorem wd250 : (Jvm.Cond.instanceMethod ({ cls := "ShortVectors$Basis", name := "reduce", desc := "()V" } : Jvm.MethodName)) ∈ utbl := u_mem (List.mem_of_getElem? (i := 299) (by decide +kernel)) (by decide +kernel)
theorem wd251 : (Jvm.Cond.code ({ cls := "ShortVectors$Basis", name := "reduce", desc := "()V" } : Jvm.MethodName) prog_2_method_5_code (3 : Nat) (Option.none : Option Jvm.ClassFile.FieldType)) ∈ utbl := u_mem (List.mem_of_getElem? (i := 300) (by decide +kernel)) (by decide +kernel)
theorem wd252 : (Jvm.Cond.constant "ShortVectors$Basis" (71 : Nat) (1000000 : Int32)) ∈ utbl := u_mem (List.mem_of_getElem? (i := 301) (by decide +kernel)) (by decide +kernel)
theorem wd253 : (Jvm.Cond.methodLink "ShortVectors$Basis" (72 : Nat) ({ cls := "ShortVectors$Basis", name := "shortenByPairs", desc := "()Z" } : Jvm.MethodName)) ∈ utbl := u_mem (List.mem_of_getElem? (i := 302) (by decide +kernel)) (by decide +kernel)
theorem wd255 : (Jvm.Cond.instanceMethod ({ cls := "ShortVectors$Basis", name := "shortenByPairs", desc := "()Z" } : Jvm.MethodName)) ∈ utbl := u_mem (List.mem_of_getElem? (i := 304) (by decide +kernel)) (by decide +kernel)
theorem wd256 : (Jvm.Cond.code ({ cls := "ShortVectors$Basis", name := "shortenByPairs", desc := "()Z" } : Jvm.MethodName) prog_2_method_6_code (4 : Nat) (Option.some Jvm.ClassFile.FieldType.boolean)) ∈ utbl := u_mem (List.mem_of_getElem? (i := 305) (by decide +kernel)) (by decide +kernel)
theorem wd257 : (Jvm.Cond.methodLink "ShortVectors$Basis" (79 : Nat) ({ cls := "ShortVectors$Basis", name := "shortenBy", desc := "(II)Z" } : Jvm.MethodName)) ∈ utbl := u_mem (List.mem_of_getElem? (i := 306) (by decide +kernel)) (by decide +kernel)
theorem wd259 : (Jvm.Cond.instanceMethod ({ cls := "ShortVectors$Basis", name := "shortenBy", desc := "(II)Z" } : Jvm.MethodName)) ∈ utbl := u_mem (List.mem_of_getElem? (i := 308) (by decide +kernel)) (by decide +kernel)
theorem wd260 : (Jvm.Cond.code ({ cls := "ShortVectors$Basis", name := "shortenBy", desc := "(II)Z" } : Jvm.MethodName) prog_2_method_7_code (7 : Nat) (Option.some Jvm.ClassFile.FieldType.boolean)) ∈ utbl := u_mem (List.mem_of_getElem? (i := 309) (by decide +kernel)) (by decide +kernel)
theorem wd261 : (Jvm.Cond.methodLinkNest "ShortVectors$Basis" (63 : Nat) ({ cls := "ShortVectors", name := "product", desc := "([J[J)J" } : Jvm.MethodName) "ShortVectors") ∈ lw_tbl := List.mem_of_getElem? (i := 310) (by decide +kernel)
theorem wd262 : (Jvm.Cond.static ({ cls := "ShortVectors", name := "product", desc := "([J[J)J" } : Jvm.MethodName)) ∈ utbl := u_mem (List.mem_of_getElem? (i := 311) (by decide +kernel)) (by decide +kernel)
theorem wd263 : (Jvm.Cond.code ({ cls := "ShortVectors", name := "product", desc := "([J[J)J" } : Jvm.MethodName) prog_1_method_22_code (5 : Nat) (Option.some Jvm.ClassFile.FieldType.long)) ∈ utbl := u_mem (List.mem_of_getElem? (i := 312) (by decide +kernel)) (by decide +kernel)
theorem wd264 : (Jvm.Cond.constantLong "ShortVectors$Basis" (83 : Nat) (2 : Int64)) ∈ utbl := u_mem (List.mem_of_getElem? (i := 313) (by decide +kernel)) (by decide +kernel)
theorem wd265 : (Jvm.Cond.methodLink "ShortVectors$Basis" (85 : Nat) ({ cls := "java/lang/Math", name := "abs", desc := "(J)J" } : Jvm.MethodName)) ∈ utbl := u_mem (List.mem_of_getElem? (i := 314) (by decide +kernel)) (by decide +kernel)
theorem wd266 : (Jvm.Cond.static ({ cls := "java/lang/Math", name := "abs", desc := "(J)J" } : Jvm.MethodName)) ∈ utbl := u_mem (List.mem_of_getElem? (i := 315) (by decide +kernel)) (by decide +kernel)
theorem wd267 : (Jvm.Cond.code ({ cls := "java/lang/Math", name := "abs", desc := "(J)J" } : Jvm.MethodName) prog_10_method_61_code (2 : Nat) (Option.some Jvm.ClassFile.FieldType.long)) ∈ utbl := u_mem (List.mem_of_getElem? (i := 316) (by decide +kernel)) (by decide +kernel)
theorem wd268 : (Jvm.Cond.methodLinkNest "ShortVectors$Basis" (91 : Nat) ({ cls := "ShortVectors", name := "nearestQuotient", desc := "(JJ)J" } : Jvm.MethodName) "ShortVectors") ∈ lw_tbl := List.mem_of_getElem? (i := 317) (by decide +kernel)
theorem wd269 : (Jvm.Cond.static ({ cls := "ShortVectors", name := "nearestQuotient", desc := "(JJ)J" } : Jvm.MethodName)) ∈ utbl := u_mem (List.mem_of_getElem? (i := 318) (by decide +kernel)) (by decide +kernel)
theorem wd270 : (Jvm.Cond.code ({ cls := "ShortVectors", name := "nearestQuotient", desc := "(JJ)J" } : Jvm.MethodName) prog_1_method_25_code (4 : Nat) (Option.some Jvm.ClassFile.FieldType.long)) ∈ utbl := u_mem (List.mem_of_getElem? (i := 319) (by decide +kernel)) (by decide +kernel)
theorem wd271 : (Jvm.Cond.constantLong "ShortVectors" (161 : Nat) (2 : Int64)) ∈ utbl := u_mem (List.mem_of_getElem? (i := 320) (by decide +kernel)) (by decide +kernel)
theorem wd272 : (Jvm.Cond.methodLink "ShortVectors" (163 : Nat) ({ cls := "java/lang/Math", name := "floorDiv", desc := "(JJ)J" } : Jvm.MethodName)) ∈ utbl := u_mem (List.mem_of_getElem? (i := 321) (by decide +kernel)) (by decide +kernel)
theorem wd273 : (Jvm.Cond.methodLinkNest "ShortVectors$Basis" (95 : Nat) ({ cls := "ShortVectors", name := "addMultiple", desc := "([J[JJ)V" } : Jvm.MethodName) "ShortVectors") ∈ lw_tbl := List.mem_of_getElem? (i := 322) (by decide +kernel)
theorem wd274 : (Jvm.Cond.methodLink "ShortVectors$Basis" (76 : Nat) ({ cls := "ShortVectors$Basis", name := "shortenBySums", desc := "()Z" } : Jvm.MethodName)) ∈ utbl := u_mem (List.mem_of_getElem? (i := 323) (by decide +kernel)) (by decide +kernel)
theorem wd276 : (Jvm.Cond.instanceMethod ({ cls := "ShortVectors$Basis", name := "shortenBySums", desc := "()Z" } : Jvm.MethodName)) ∈ utbl := u_mem (List.mem_of_getElem? (i := 325) (by decide +kernel)) (by decide +kernel)
theorem wd277 : (Jvm.Cond.code ({ cls := "ShortVectors$Basis", name := "shortenBySums", desc := "()Z" } : Jvm.MethodName) prog_2_method_8_code (5 : Nat) (Option.some Jvm.ClassFile.FieldType.boolean)) ∈ utbl := u_mem (List.mem_of_getElem? (i := 326) (by decide +kernel)) (by decide +kernel)
theorem wd278 : (Jvm.Cond.methodLink "ShortVectors$Basis" (99 : Nat) ({ cls := "ShortVectors$Basis", name := "shortenByChoice", desc := "(II)Z" } : Jvm.MethodName)) ∈ utbl := u_mem (List.mem_of_getElem? (i := 327) (by decide +kernel)) (by decide +kernel)
theorem wd280 : (Jvm.Cond.instanceMethod ({ cls := "ShortVectors$Basis", name := "shortenByChoice", desc := "(II)Z" } : Jvm.MethodName)) ∈ utbl := u_mem (List.mem_of_getElem? (i := 329) (by decide +kernel)) (by decide +kernel)
theorem wd281 : (Jvm.Cond.code ({ cls := "ShortVectors$Basis", name := "shortenByChoice", desc := "(II)Z" } : Jvm.MethodName) prog_2_method_9_code (5 : Nat) (Option.some Jvm.ClassFile.FieldType.boolean)) ∈ utbl := u_mem (List.mem_of_getElem? (i := 330) (by decide +kernel)) (by decide +kernel)
theorem wd282 : (Jvm.Cond.methodLink "ShortVectors$Basis" (56 : Nat) ({ cls := "ShortVectors$Basis", name := "sort", desc := "()V" } : Jvm.MethodName)) ∈ utbl := u_mem (List.mem_of_getElem? (i := 331) (by decide +kernel)) (by decide +kernel)
theorem wd284 : (Jvm.Cond.instanceMethod ({ cls := "ShortVectors$Basis", name := "sort", desc := "()V" } : Jvm.MethodName)) ∈ utbl := u_mem (List.mem_of_getElem? (i := 333) (by decide +kernel)) (by decide +kernel)
theorem wd285 : (Jvm.Cond.code ({ cls := "ShortVectors$Basis", name := "sort", desc := "()V" } : Jvm.MethodName) prog_2_method_10_code (3 : Nat) (Option.none : Option Jvm.ClassFile.FieldType)) ∈ utbl := u_mem (List.mem_of_getElem? (i := 334) (by decide +kernel)) (by decide +kernel)
theorem wd286 : (Jvm.Cond.methodLink "ShortVectors$Basis" (67 : Nat) ({ cls := "ShortVectors$Basis", name := "squareOf", desc := "(I)J" } : Jvm.MethodName)) ∈ utbl := u_mem (List.mem_of_getElem? (i := 335) (by decide +kernel)) (by decide +kernel)
theorem wd287 : (Jvm.Cond.instanceMethod ({ cls := "ShortVectors$Basis", name := "squareOf", desc := "(I)J" } : Jvm.MethodName)) ∈ utbl := u_mem (List.mem_of_getElem? (i := 336) (by decide +kernel)) (by decide +kernel)
theorem wd288 : (Jvm.Cond.selects "ShortVectors$Basis" ({ cls := "ShortVectors$Basis", name := "squareOf", desc := "(I)J" } : Jvm.MethodName) ({ cls := "ShortVectors$Basis", name := "squareOf", desc := "(I)J" } : Jvm.MethodName)) ∈ utbl := u_mem (List.mem_of_getElem? (i := 337) (by decide +kernel)) (by decide +kernel)
theorem wd289 : (Jvm.Cond.code ({ cls := "ShortVectors$Basis", name := "squareOf", desc := "(I)J" } : Jvm.MethodName) prog_2_method_3_code (2 : Nat) (Option.some Jvm.ClassFile.FieldType.long)) ∈ utbl := u_mem (List.mem_of_getElem? (i := 338) (by decide +kernel)) (by decide +kernel)
theorem wd290 : (Jvm.Cond.methodLink "ShortVectors$Basis" (59 : Nat) ({ cls := "ShortVectors$Basis", name := "direct", desc := "(I)V" } : Jvm.MethodName)) ∈ utbl := u_mem (List.mem_of_getElem? (i := 339) (by decide +kernel)) (by decide +kernel)
theorem wd292 : (Jvm.Cond.instanceMethod ({ cls := "ShortVectors$Basis", name := "direct", desc := "(I)V" } : Jvm.MethodName)) ∈ utbl := u_mem (List.mem_of_getElem? (i := 341) (by decide +kernel)) (by decide +kernel)
theorem wd293 : (Jvm.Cond.code ({ cls := "ShortVectors$Basis", name := "direct", desc := "(I)V" } : Jvm.MethodName) prog_2_method_11_code (4 : Nat) (Option.none : Option Jvm.ClassFile.FieldType)) ∈ utbl := u_mem (List.mem_of_getElem? (i := 342) (by decide +kernel)) (by decide +kernel)
theorem wd294 : (Jvm.Cond.methodLink "ShortVectors$Basis" (102 : Nat) ({ cls := "ShortVectors$Basis", name := "turnAway", desc := "([J[JJ)V" } : Jvm.MethodName)) ∈ utbl := u_mem (List.mem_of_getElem? (i := 343) (by decide +kernel)) (by decide +kernel)
theorem wd295 : (Jvm.Cond.static ({ cls := "ShortVectors$Basis", name := "turnAway", desc := "([J[JJ)V" } : Jvm.MethodName)) ∈ utbl := u_mem (List.mem_of_getElem? (i := 344) (by decide +kernel)) (by decide +kernel)
theorem wd296 : (Jvm.Cond.code ({ cls := "ShortVectors$Basis", name := "turnAway", desc := "([J[JJ)V" } : Jvm.MethodName) prog_2_method_12_code (11 : Nat) (Option.none : Option Jvm.ClassFile.FieldType)) ∈ utbl := u_mem (List.mem_of_getElem? (i := 345) (by decide +kernel)) (by decide +kernel)
theorem wd297 : (Jvm.Cond.methodLinkNest "ShortVectors$Basis" (108 : Nat) ({ cls := "ShortVectors", name := "commonDivisor", desc := "(JJ)J" } : Jvm.MethodName) "ShortVectors") ∈ lw_tbl := List.mem_of_getElem? (i := 346) (by decide +kernel)
theorem wd298 : (Jvm.Cond.static ({ cls := "ShortVectors", name := "commonDivisor", desc := "(JJ)J" } : Jvm.MethodName)) ∈ utbl := u_mem (List.mem_of_getElem? (i := 347) (by decide +kernel)) (by decide +kernel)
theorem wd299 : (Jvm.Cond.code ({ cls := "ShortVectors", name := "commonDivisor", desc := "(JJ)J" } : Jvm.MethodName) prog_1_method_24_code (11 : Nat) (Option.some Jvm.ClassFile.FieldType.long)) ∈ utbl := u_mem (List.mem_of_getElem? (i := 348) (by decide +kernel)) (by decide +kernel)
theorem wd300 : (Jvm.Cond.methodLink "ShortVectors" (154 : Nat) ({ cls := "java/lang/Math", name := "abs", desc := "(J)J" } : Jvm.MethodName)) ∈ utbl := u_mem (List.mem_of_getElem? (i := 349) (by decide +kernel)) (by decide +kernel)
theorem wd301 : (Jvm.Cond.constant "ShortVectors" (160 : Nat) (1000000 : Int32)) ∈ utbl := u_mem (List.mem_of_getElem? (i := 350) (by decide +kernel)) (by decide +kernel)
theorem wd302 : (Jvm.Cond.methodLink "ShortVectors$Basis" (105 : Nat) ({ cls := "java/lang/Math", name := "max", desc := "(JJ)J" } : Jvm.MethodName)) ∈ utbl := u_mem (List.mem_of_getElem? (i := 351) (by decide +kernel)) (by decide +kernel)
theorem wd303 : (Jvm.Cond.static ({ cls := "java/lang/Math", name := "max", desc := "(JJ)J" } : Jvm.MethodName)) ∈ utbl := u_mem (List.mem_of_getElem? (i := 352) (by decide +kernel)) (by decide +kernel)
theorem wd304 : (Jvm.Cond.code ({ cls := "java/lang/Math", name := "max", desc := "(JJ)J" } : Jvm.MethodName) prog_10_method_66_code (4 : Nat) (Option.some Jvm.ClassFile.FieldType.long)) ∈ utbl := u_mem (List.mem_of_getElem? (i := 353) (by decide +kernel)) (by decide +kernel)
theorem wd305 : (Jvm.Cond.methodLink "ShortVectors" (87 : Nat) ({ cls := "ShortVectors$Basis", name := "volumeSquared", desc := "()J" } : Jvm.MethodName)) ∈ utbl := u_mem (List.mem_of_getElem? (i := 354) (by decide +kernel)) (by decide +kernel)
theorem wd306 : (Jvm.Cond.instanceMethod ({ cls := "ShortVectors$Basis", name := "volumeSquared", desc := "()J" } : Jvm.MethodName)) ∈ utbl := u_mem (List.mem_of_getElem? (i := 355) (by decide +kernel)) (by decide +kernel)
theorem wd307 : (Jvm.Cond.selects "ShortVectors$Basis" ({ cls := "ShortVectors$Basis", name := "volumeSquared", desc := "()J" } : Jvm.MethodName) ({ cls := "ShortVectors$Basis", name := "volumeSquared", desc := "()J" } : Jvm.MethodName)) ∈ utbl := u_mem (List.mem_of_getElem? (i := 356) (by decide +kernel)) (by decide +kernel)
theorem wd308 : (Jvm.Cond.code ({ cls := "ShortVectors$Basis", name := "volumeSquared", desc := "()J" } : Jvm.MethodName) prog_2_method_13_code (4 : Nat) (Option.some Jvm.ClassFile.FieldType.long)) ∈ utbl := u_mem (List.mem_of_getElem? (i := 357) (by decide +kernel)) (by decide +kernel)
theorem wd309 : (Jvm.Cond.methodLink "ShortVectors$Basis" (111 : Nat) ({ cls := "ShortVectors$Basis", name := "eliminate", desc := "(IJ)V" } : Jvm.MethodName)) ∈ utbl := u_mem (List.mem_of_getElem? (i := 358) (by decide +kernel)) (by decide +kernel)
theorem wd311 : (Jvm.Cond.instanceMethod ({ cls := "ShortVectors$Basis", name := "eliminate", desc := "(IJ)V" } : Jvm.MethodName)) ∈ utbl := u_mem (List.mem_of_getElem? (i := 360) (by decide +kernel)) (by decide +kernel)
theorem wd312 : (Jvm.Cond.code ({ cls := "ShortVectors$Basis", name := "eliminate", desc := "(IJ)V" } : Jvm.MethodName) prog_2_method_14_code (8 : Nat) (Option.none : Option Jvm.ClassFile.FieldType)) ∈ utbl := u_mem (List.mem_of_getElem? (i := 361) (by decide +kernel)) (by decide +kernel)
theorem wd313 : (Jvm.Cond.methodLink "ShortVectorsLaw" (37 : Nat) ({ cls := "ShortVectors", name := "spare", desc := "(I)Z" } : Jvm.MethodName)) ∈ utbl := u_mem (List.mem_of_getElem? (i := 362) (by decide +kernel)) (by decide +kernel)
theorem wd314 : (Jvm.Cond.instanceMethod ({ cls := "ShortVectors", name := "spare", desc := "(I)Z" } : Jvm.MethodName)) ∈ utbl := u_mem (List.mem_of_getElem? (i := 363) (by decide +kernel)) (by decide +kernel)
theorem wd315 : (Jvm.Cond.selects "ShortVectors" ({ cls := "ShortVectors", name := "spare", desc := "(I)Z" } : Jvm.MethodName) ({ cls := "ShortVectors", name := "spare", desc := "(I)Z" } : Jvm.MethodName)) ∈ utbl := u_mem (List.mem_of_getElem? (i := 364) (by decide +kernel)) (by decide +kernel)
theorem wd316 : (Jvm.Cond.code ({ cls := "ShortVectors", name := "spare", desc := "(I)Z" } : Jvm.MethodName) prog_1_method_7_code (2 : Nat) (Option.some Jvm.ClassFile.FieldType.boolean)) ∈ utbl := u_mem (List.mem_of_getElem? (i := 365) (by decide +kernel)) (by decide +kernel)
theorem wd317 : (Jvm.Cond.methodLink "ShortVectors" (91 : Nat) ({ cls := "ShortVectors$Echelon", name := "holds", desc := "([J)Z" } : Jvm.MethodName)) ∈ utbl := u_mem (List.mem_of_getElem? (i := 366) (by decide +kernel)) (by decide +kernel)
theorem wd318 : (Jvm.Cond.instanceMethod ({ cls := "ShortVectors$Echelon", name := "holds", desc := "([J)Z" } : Jvm.MethodName)) ∈ utbl := u_mem (List.mem_of_getElem? (i := 367) (by decide +kernel)) (by decide +kernel)
theorem wd319 : (Jvm.Cond.selects "ShortVectors$Echelon" ({ cls := "ShortVectors$Echelon", name := "holds", desc := "([J)Z" } : Jvm.MethodName) ({ cls := "ShortVectors$Echelon", name := "holds", desc := "([J)Z" } : Jvm.MethodName)) ∈ utbl := u_mem (List.mem_of_getElem? (i := 368) (by decide +kernel)) (by decide +kernel)
theorem wd320 : (Jvm.Cond.code ({ cls := "ShortVectors$Echelon", name := "holds", desc := "([J)Z" } : Jvm.MethodName) prog_5_method_9_code (2 : Nat) (Option.some Jvm.ClassFile.FieldType.boolean)) ∈ utbl := u_mem (List.mem_of_getElem? (i := 369) (by decide +kernel)) (by decide +kernel)
theorem wd321 : (Jvm.Cond.methodLink "ShortVectors$Echelon" (55 : Nat) ({ cls := "ShortVectors$Echelon", name := "leastMultiplier", desc := "([J)J" } : Jvm.MethodName)) ∈ utbl := u_mem (List.mem_of_getElem? (i := 370) (by decide +kernel)) (by decide +kernel)
theorem wd322 : (Jvm.Cond.instanceMethod ({ cls := "ShortVectors$Echelon", name := "leastMultiplier", desc := "([J)J" } : Jvm.MethodName)) ∈ utbl := u_mem (List.mem_of_getElem? (i := 371) (by decide +kernel)) (by decide +kernel)
theorem wd323 : (Jvm.Cond.selects "ShortVectors$Echelon" ({ cls := "ShortVectors$Echelon", name := "leastMultiplier", desc := "([J)J" } : Jvm.MethodName) ({ cls := "ShortVectors$Echelon", name := "leastMultiplier", desc := "([J)J" } : Jvm.MethodName)) ∈ utbl := u_mem (List.mem_of_getElem? (i := 372) (by decide +kernel)) (by decide +kernel)
theorem wd324 : (Jvm.Cond.code ({ cls := "ShortVectors$Echelon", name := "leastMultiplier", desc := "([J)J" } : Jvm.MethodName) prog_5_method_10_code (9 : Nat) (Option.some Jvm.ClassFile.FieldType.long)) ∈ utbl := u_mem (List.mem_of_getElem? (i := 373) (by decide +kernel)) (by decide +kernel)
theorem wd325 : (Jvm.Cond.methodLinkNest "ShortVectors$Echelon" (59 : Nat) ({ cls := "ShortVectors", name := "commonDivisor", desc := "(JJ)J" } : Jvm.MethodName) "ShortVectors") ∈ lw_tbl := List.mem_of_getElem? (i := 374) (by decide +kernel)
theorem wd326 : (Jvm.Cond.methodLink "ShortVectorsLaw" (42 : Nat) ({ cls := "ShortVectors", name := "has", desc := "(IIII)Z" } : Jvm.MethodName)) ∈ utbl := u_mem (List.mem_of_getElem? (i := 375) (by decide +kernel)) (by decide +kernel)
theorem wd327 : (Jvm.Cond.instanceMethod ({ cls := "ShortVectors", name := "has", desc := "(IIII)Z" } : Jvm.MethodName)) ∈ utbl := u_mem (List.mem_of_getElem? (i := 376) (by decide +kernel)) (by decide +kernel)
theorem wd328 : (Jvm.Cond.selects "ShortVectors" ({ cls := "ShortVectors", name := "has", desc := "(IIII)Z" } : Jvm.MethodName) ({ cls := "ShortVectors", name := "has", desc := "(IIII)Z" } : Jvm.MethodName)) ∈ utbl := u_mem (List.mem_of_getElem? (i := 377) (by decide +kernel)) (by decide +kernel)
theorem wd329 : (Jvm.Cond.code ({ cls := "ShortVectors", name := "has", desc := "(IIII)Z" } : Jvm.MethodName) prog_1_method_8_code (5 : Nat) (Option.some Jvm.ClassFile.FieldType.boolean)) ∈ utbl := u_mem (List.mem_of_getElem? (i := 378) (by decide +kernel)) (by decide +kernel)
theorem wd330 : (Jvm.Cond.methodLink "ShortVectorsLaw" (47 : Nat) ({ cls := "ShortVectors", name := "order", desc := "(IIII)J" } : Jvm.MethodName)) ∈ utbl := u_mem (List.mem_of_getElem? (i := 379) (by decide +kernel)) (by decide +kernel)
theorem wd331 : (Jvm.Cond.instanceMethod ({ cls := "ShortVectors", name := "order", desc := "(IIII)J" } : Jvm.MethodName)) ∈ utbl := u_mem (List.mem_of_getElem? (i := 380) (by decide +kernel)) (by decide +kernel)
theorem wd332 : (Jvm.Cond.selects "ShortVectors" ({ cls := "ShortVectors", name := "order", desc := "(IIII)J" } : Jvm.MethodName) ({ cls := "ShortVectors", name := "order", desc := "(IIII)J" } : Jvm.MethodName)) ∈ utbl := u_mem (List.mem_of_getElem? (i := 381) (by decide +kernel)) (by decide +kernel)
theorem wd333 : (Jvm.Cond.code ({ cls := "ShortVectors", name := "order", desc := "(IIII)J" } : Jvm.MethodName) prog_1_method_9_code (5 : Nat) (Option.some Jvm.ClassFile.FieldType.long)) ∈ utbl := u_mem (List.mem_of_getElem? (i := 382) (by decide +kernel)) (by decide +kernel)
theorem wd334 : (Jvm.Cond.methodLink "ShortVectors" (95 : Nat) ({ cls := "ShortVectors$Echelon", name := "leastMultiplier", desc := "([J)J" } : Jvm.MethodName)) ∈ utbl := u_mem (List.mem_of_getElem? (i := 383) (by decide +kernel)) (by decide +kernel)
theorem wd335 : (Jvm.Cond.constantLong "ShortVectors" (99 : Nat) (-1 : Int64)) ∈ utbl := u_mem (List.mem_of_getElem? (i := 384) (by decide +kernel)) (by decide +kernel)
theorem wd336 : (Jvm.Cond.methodLink "ShortVectorsLaw" (52 : Nat) ({ cls := "ShortVectors", name := "minimum", desc := "(I)I" } : Jvm.MethodName)) ∈ utbl := u_mem (List.mem_of_getElem? (i := 385) (by decide +kernel)) (by decide +kernel)
theorem wd337 : (Jvm.Cond.instanceMethod ({ cls := "ShortVectors", name := "minimum", desc := "(I)I" } : Jvm.MethodName)) ∈ utbl := u_mem (List.mem_of_getElem? (i := 386) (by decide +kernel)) (by decide +kernel)
theorem wd338 : (Jvm.Cond.selects "ShortVectors" ({ cls := "ShortVectors", name := "minimum", desc := "(I)I" } : Jvm.MethodName) ({ cls := "ShortVectors", name := "minimum", desc := "(I)I" } : Jvm.MethodName)) ∈ utbl := u_mem (List.mem_of_getElem? (i := 387) (by decide +kernel)) (by decide +kernel)
theorem wd339 : (Jvm.Cond.code ({ cls := "ShortVectors", name := "minimum", desc := "(I)I" } : Jvm.MethodName) prog_1_method_10_code (2 : Nat) (Option.some Jvm.ClassFile.FieldType.int)) ∈ utbl := u_mem (List.mem_of_getElem? (i := 388) (by decide +kernel)) (by decide +kernel)
theorem wd340 : (Jvm.Cond.methodLink "ShortVectors" (101 : Nat) ({ cls := "ShortVectors$Basis", name := "squareOf", desc := "(I)J" } : Jvm.MethodName)) ∈ utbl := u_mem (List.mem_of_getElem? (i := 389) (by decide +kernel)) (by decide +kernel)
theorem wd341 : (Jvm.Cond.methodLink "ShortVectorsLaw" (57 : Nat) ({ cls := "ShortVectors", name := "count", desc := "(I)I" } : Jvm.MethodName)) ∈ utbl := u_mem (List.mem_of_getElem? (i := 390) (by decide +kernel)) (by decide +kernel)
theorem wd342 : (Jvm.Cond.instanceMethod ({ cls := "ShortVectors", name := "count", desc := "(I)I" } : Jvm.MethodName)) ∈ utbl := u_mem (List.mem_of_getElem? (i := 391) (by decide +kernel)) (by decide +kernel)
theorem wd343 : (Jvm.Cond.selects "ShortVectors" ({ cls := "ShortVectors", name := "count", desc := "(I)I" } : Jvm.MethodName) ({ cls := "ShortVectors", name := "count", desc := "(I)I" } : Jvm.MethodName)) ∈ utbl := u_mem (List.mem_of_getElem? (i := 392) (by decide +kernel)) (by decide +kernel)
theorem wd344 : (Jvm.Cond.code ({ cls := "ShortVectors", name := "count", desc := "(I)I" } : Jvm.MethodName) prog_1_method_11_code (2 : Nat) (Option.some Jvm.ClassFile.FieldType.int)) ∈ utbl := u_mem (List.mem_of_getElem? (i := 393) (by decide +kernel)) (by decide +kernel)
theorem wd345 : (Jvm.Cond.methodLink "ShortVectors" (109 : Nat) ({ cls := "ShortVectors$Tally", name := "fill", desc := "(LShortVectors$Basis;)V" } : Jvm.MethodName)) ∈ utbl := u_mem (List.mem_of_getElem? (i := 394) (by decide +kernel)) (by decide +kernel)
theorem wd346 : (Jvm.Cond.instanceMethod ({ cls := "ShortVectors$Tally", name := "fill", desc := "(LShortVectors$Basis;)V" } : Jvm.MethodName)) ∈ utbl := u_mem (List.mem_of_getElem? (i := 395) (by decide +kernel)) (by decide +kernel)
theorem wd347 : (Jvm.Cond.selects "ShortVectors$Tally" ({ cls := "ShortVectors$Tally", name := "fill", desc := "(LShortVectors$Basis;)V" } : Jvm.MethodName) ({ cls := "ShortVectors$Tally", name := "fill", desc := "(LShortVectors$Basis;)V" } : Jvm.MethodName)) ∈ utbl := u_mem (List.mem_of_getElem? (i := 396) (by decide +kernel)) (by decide +kernel)
theorem wd348 : (Jvm.Cond.code ({ cls := "ShortVectors$Tally", name := "fill", desc := "(LShortVectors$Basis;)V" } : Jvm.MethodName) prog_7_method_2_code (3 : Nat) (Option.none : Option Jvm.ClassFile.FieldType)) ∈ utbl := u_mem (List.mem_of_getElem? (i := 397) (by decide +kernel)) (by decide +kernel)
theorem wd349 : (Jvm.Cond.methodLink "ShortVectors$Tally" (15 : Nat) ({ cls := "java/util/Arrays", name := "fill", desc := "([II)V" } : Jvm.MethodName)) ∈ utbl := u_mem (List.mem_of_getElem? (i := 398) (by decide +kernel)) (by decide +kernel)
theorem wd350 : (Jvm.Cond.static ({ cls := "java/util/Arrays", name := "fill", desc := "([II)V" } : Jvm.MethodName)) ∈ utbl := u_mem (List.mem_of_getElem? (i := 399) (by decide +kernel)) (by decide +kernel)
theorem wd351 : (Jvm.Cond.code ({ cls := "java/util/Arrays", name := "fill", desc := "([II)V" } : Jvm.MethodName) prog_12_method_103_code (4 : Nat) (Option.none : Option Jvm.ClassFile.FieldType)) ∈ utbl := u_mem (List.mem_of_getElem? (i := 400) (by decide +kernel)) (by decide +kernel)
theorem wd352 : (Jvm.Cond.constantLong "ShortVectors$Tally" (21 : Nat) (40 : Int64)) ∈ utbl := u_mem (List.mem_of_getElem? (i := 401) (by decide +kernel)) (by decide +kernel)
theorem wd353 : (Jvm.Cond.methodLink "ShortVectors$Tally" (23 : Nat) ({ cls := "ShortVectors$Tally", name := "setBudget", desc := "(J)V" } : Jvm.MethodName)) ∈ utbl := u_mem (List.mem_of_getElem? (i := 402) (by decide +kernel)) (by decide +kernel)
theorem wd354 : (Jvm.Cond.sameMethod "ShortVectors$Tally" "ShortVectors$Collector" "setBudget" "(J)V") ∈ utbl := u_mem (List.mem_of_getElem? (i := 403) (by decide +kernel)) (by decide +kernel)
theorem wd355 : (Jvm.Cond.declares ({ cls := "ShortVectors$Collector", name := "setBudget", desc := "(J)V" } : Jvm.MethodName)) ∈ lw_tbl := List.mem_of_getElem? (i := 404) (by decide +kernel)
theorem wd356 : (Jvm.Cond.selects "ShortVectors$Tally" ({ cls := "ShortVectors$Tally", name := "setBudget", desc := "(J)V" } : Jvm.MethodName) ({ cls := "ShortVectors$Collector", name := "setBudget", desc := "(J)V" } : Jvm.MethodName)) ∈ utbl := u_mem (List.mem_of_getElem? (i := 405) (by decide +kernel)) (by decide +kernel)
theorem wd357 : (Jvm.Cond.instanceMethod ({ cls := "ShortVectors$Collector", name := "setBudget", desc := "(J)V" } : Jvm.MethodName)) ∈ utbl := u_mem (List.mem_of_getElem? (i := 406) (by decide +kernel)) (by decide +kernel)
theorem wd358 : (Jvm.Cond.code ({ cls := "ShortVectors$Collector", name := "setBudget", desc := "(J)V" } : Jvm.MethodName) prog_4_method_3_code (3 : Nat) (Option.none : Option Jvm.ClassFile.FieldType)) ∈ utbl := u_mem (List.mem_of_getElem? (i := 407) (by decide +kernel)) (by decide +kernel)
theorem wd359 : (Jvm.Cond.methodLink "ShortVectors$Tally" (27 : Nat) ({ cls := "ShortVectors$Basis", name := "search", desc := "(LShortVectors$Collector;)V" } : Jvm.MethodName)) ∈ utbl := u_mem (List.mem_of_getElem? (i := 408) (by decide +kernel)) (by decide +kernel)
theorem wd360 : (Jvm.Cond.instanceMethod ({ cls := "ShortVectors$Basis", name := "search", desc := "(LShortVectors$Collector;)V" } : Jvm.MethodName)) ∈ utbl := u_mem (List.mem_of_getElem? (i := 409) (by decide +kernel)) (by decide +kernel)
theorem wd361 : (Jvm.Cond.selects "ShortVectors$Basis" ({ cls := "ShortVectors$Basis", name := "search", desc := "(LShortVectors$Collector;)V" } : Jvm.MethodName) ({ cls := "ShortVectors$Basis", name := "search", desc := "(LShortVectors$Collector;)V" } : Jvm.MethodName)) ∈ utbl := u_mem (List.mem_of_getElem? (i := 410) (by decide +kernel)) (by decide +kernel)
theorem wd362 : (Jvm.Cond.code ({ cls := "ShortVectors$Basis", name := "search", desc := "(LShortVectors$Collector;)V" } : Jvm.MethodName) prog_2_method_15_code (2 : Nat) (Option.none : Option Jvm.ClassFile.FieldType)) ∈ utbl := u_mem (List.mem_of_getElem? (i := 411) (by decide +kernel)) (by decide +kernel)
theorem wd363 : (Jvm.Cond.methodLink "ShortVectors$Basis" (115 : Nat) ({ cls := "java/util/Arrays", name := "fill", desc := "([JJ)V" } : Jvm.MethodName)) ∈ utbl := u_mem (List.mem_of_getElem? (i := 412) (by decide +kernel)) (by decide +kernel)
theorem wd364 : (Jvm.Cond.methodLink "ShortVectors$Basis" (121 : Nat) ({ cls := "ShortVectors$Collector", name := "goal", desc := "()[J" } : Jvm.MethodName)) ∈ utbl := u_mem (List.mem_of_getElem? (i := 413) (by decide +kernel)) (by decide +kernel)
theorem wd365 : (Jvm.Cond.instanceMethod ({ cls := "ShortVectors$Collector", name := "goal", desc := "()[J" } : Jvm.MethodName)) ∈ utbl := u_mem (List.mem_of_getElem? (i := 414) (by decide +kernel)) (by decide +kernel)
theorem wd366 : (Jvm.Cond.sameMethod "ShortVectors$Collector" "ShortVectors$Collector" "goal" "()[J") ∈ utbl := u_mem (List.mem_of_getElem? (i := 415) (by decide +kernel)) (by decide +kernel)
theorem wd367 : (Jvm.Cond.selects "ShortVectors$Closest" ({ cls := "ShortVectors$Collector", name := "goal", desc := "()[J" } : Jvm.MethodName) ({ cls := "ShortVectors$Collector", name := "goal", desc := "()[J" } : Jvm.MethodName)) ∈ utbl := u_mem (List.mem_of_getElem? (i := 416) (by decide +kernel)) (by decide +kernel)
theorem wd368 : (Jvm.Cond.selects "ShortVectors$FirstVectors" ({ cls := "ShortVectors$Collector", name := "goal", desc := "()[J" } : Jvm.MethodName) ({ cls := "ShortVectors$Collector", name := "goal", desc := "()[J" } : Jvm.MethodName)) ∈ utbl := u_mem (List.mem_of_getElem? (i := 417) (by decide +kernel)) (by decide +kernel)
theorem wd369 : (Jvm.Cond.selects "ShortVectors$Tally" ({ cls := "ShortVectors$Collector", name := "goal", desc := "()[J" } : Jvm.MethodName) ({ cls := "ShortVectors$Collector", name := "goal", desc := "()[J" } : Jvm.MethodName)) ∈ utbl := u_mem (List.mem_of_getElem? (i := 418) (by decide +kernel)) (by decide +kernel)
theorem wd370 : (Jvm.Cond.code ({ cls := "ShortVectors$Collector", name := "goal", desc := "()[J" } : Jvm.MethodName) prog_4_method_2_code (1 : Nat) (Option.some (Jvm.ClassFile.FieldType.array Jvm.ClassFile.FieldType.long))) ∈ utbl := u_mem (List.mem_of_getElem? (i := 419) (by decide +kernel)) (by decide +kernel)
theorem wd371 : (Jvm.Cond.constantLong "ShortVectors$Basis" (127 : Nat) (-1 : Int64)) ∈ utbl := u_mem (List.mem_of_getElem? (i := 420) (by decide +kernel)) (by decide +kernel)
theorem wd372 : (Jvm.Cond.methodLink "ShortVectors$Basis" (129 : Nat) ({ cls := "ShortVectors$Basis", name := "squareOutside", desc := "([J)J" } : Jvm.MethodName)) ∈ utbl := u_mem (List.mem_of_getElem? (i := 421) (by decide +kernel)) (by decide +kernel)
theorem wd374 : (Jvm.Cond.instanceMethod ({ cls := "ShortVectors$Basis", name := "squareOutside", desc := "([J)J" } : Jvm.MethodName)) ∈ utbl := u_mem (List.mem_of_getElem? (i := 423) (by decide +kernel)) (by decide +kernel)
theorem wd375 : (Jvm.Cond.code ({ cls := "ShortVectors$Basis", name := "squareOutside", desc := "([J)J" } : Jvm.MethodName) prog_2_method_16_code (7 : Nat) (Option.some Jvm.ClassFile.FieldType.long)) ∈ utbl := u_mem (List.mem_of_getElem? (i := 424) (by decide +kernel)) (by decide +kernel)
theorem wd376 : (Jvm.Cond.methodLink "ShortVectors$Basis" (137 : Nat) ({ cls := "java/lang/Math", name := "floorDiv", desc := "(JJ)J" } : Jvm.MethodName)) ∈ utbl := u_mem (List.mem_of_getElem? (i := 425) (by decide +kernel)) (by decide +kernel)
theorem wd377 : (Jvm.Cond.methodLink "ShortVectors$Basis" (133 : Nat) ({ cls := "ShortVectors$Basis", name := "descend", desc := "(IJLShortVectors$Collector;)V" } : Jvm.MethodName)) ∈ utbl := u_mem (List.mem_of_getElem? (i := 426) (by decide +kernel)) (by decide +kernel)
theorem wd379 : (Jvm.Cond.instanceMethod ({ cls := "ShortVectors$Basis", name := "descend", desc := "(IJLShortVectors$Collector;)V" } : Jvm.MethodName)) ∈ utbl := u_mem (List.mem_of_getElem? (i := 428) (by decide +kernel)) (by decide +kernel)
theorem wd380 : (Jvm.Cond.code ({ cls := "ShortVectors$Basis", name := "descend", desc := "(IJLShortVectors$Collector;)V" } : Jvm.MethodName) prog_2_method_17_code (8 : Nat) (Option.none : Option Jvm.ClassFile.FieldType)) ∈ utbl := u_mem (List.mem_of_getElem? (i := 429) (by decide +kernel)) (by decide +kernel)
theorem wd381 : (Jvm.Cond.methodLink "ShortVectors$Basis" (140 : Nat) ({ cls := "ShortVectors$Collector", name := "meet", desc := "([JJ)V" } : Jvm.MethodName)) ∈ utbl := u_mem (List.mem_of_getElem? (i := 430) (by decide +kernel)) (by decide +kernel)
theorem wd382 : (Jvm.Cond.declares ({ cls := "ShortVectors$Collector", name := "meet", desc := "([JJ)V" } : Jvm.MethodName)) ∈ lw_tbl := List.mem_of_getElem? (i := 431) (by decide +kernel)
theorem wd383 : (Jvm.Cond.sameMethod "ShortVectors$Collector" "ShortVectors$Collector" "meet" "([JJ)V") ∈ utbl := u_mem (List.mem_of_getElem? (i := 432) (by decide +kernel)) (by decide +kernel)
theorem wd384 : (Jvm.Cond.selects "ShortVectors$Closest" ({ cls := "ShortVectors$Collector", name := "meet", desc := "([JJ)V" } : Jvm.MethodName) ({ cls := "ShortVectors$Closest", name := "meet", desc := "([JJ)V" } : Jvm.MethodName)) ∈ utbl := u_mem (List.mem_of_getElem? (i := 433) (by decide +kernel)) (by decide +kernel)
theorem wd385 : (Jvm.Cond.instanceMethod ({ cls := "ShortVectors$Closest", name := "meet", desc := "([JJ)V" } : Jvm.MethodName)) ∈ utbl := u_mem (List.mem_of_getElem? (i := 434) (by decide +kernel)) (by decide +kernel)
theorem wd386 : (Jvm.Cond.code ({ cls := "ShortVectors$Closest", name := "meet", desc := "([JJ)V" } : Jvm.MethodName) prog_3_method_5_code (4 : Nat) (Option.none : Option Jvm.ClassFile.FieldType)) ∈ utbl := u_mem (List.mem_of_getElem? (i := 435) (by decide +kernel)) (by decide +kernel)
theorem wd387 : (Jvm.Cond.methodLinkNest "ShortVectors$Closest" (53 : Nat) ({ cls := "ShortVectors", name := "comesBefore", desc := "([J[J)Z" } : Jvm.MethodName) "ShortVectors") ∈ lw_tbl := List.mem_of_getElem? (i := 436) (by decide +kernel)
theorem wd388 : (Jvm.Cond.static ({ cls := "ShortVectors", name := "comesBefore", desc := "([J[J)Z" } : Jvm.MethodName)) ∈ utbl := u_mem (List.mem_of_getElem? (i := 437) (by decide +kernel)) (by decide +kernel)
theorem wd389 : (Jvm.Cond.code ({ cls := "ShortVectors", name := "comesBefore", desc := "([J[J)Z" } : Jvm.MethodName) prog_1_method_23_code (3 : Nat) (Option.some Jvm.ClassFile.FieldType.boolean)) ∈ utbl := u_mem (List.mem_of_getElem? (i := 438) (by decide +kernel)) (by decide +kernel)
theorem wd390 : (Jvm.Cond.methodLinkNest "ShortVectors$Closest" (19 : Nat) ({ cls := "ShortVectors", name := "copy", desc := "([J[J)V" } : Jvm.MethodName) "ShortVectors") ∈ lw_tbl := List.mem_of_getElem? (i := 439) (by decide +kernel)
theorem wd391 : (Jvm.Cond.methodLink "ShortVectors$Closest" (43 : Nat) ({ cls := "ShortVectors$Closest", name := "setBudget", desc := "(J)V" } : Jvm.MethodName)) ∈ utbl := u_mem (List.mem_of_getElem? (i := 440) (by decide +kernel)) (by decide +kernel)
theorem wd392 : (Jvm.Cond.sameMethod "ShortVectors$Closest" "ShortVectors$Collector" "setBudget" "(J)V") ∈ utbl := u_mem (List.mem_of_getElem? (i := 441) (by decide +kernel)) (by decide +kernel)
theorem wd393 : (Jvm.Cond.selects "ShortVectors$Closest" ({ cls := "ShortVectors$Closest", name := "setBudget", desc := "(J)V" } : Jvm.MethodName) ({ cls := "ShortVectors$Collector", name := "setBudget", desc := "(J)V" } : Jvm.MethodName)) ∈ utbl := u_mem (List.mem_of_getElem? (i := 442) (by decide +kernel)) (by decide +kernel)
theorem wd394 : (Jvm.Cond.selects "ShortVectors$FirstVectors" ({ cls := "ShortVectors$Collector", name := "meet", desc := "([JJ)V" } : Jvm.MethodName) ({ cls := "ShortVectors$FirstVectors", name := "meet", desc := "([JJ)V" } : Jvm.MethodName)) ∈ utbl := u_mem (List.mem_of_getElem? (i := 443) (by decide +kernel)) (by decide +kernel)
theorem wd395 : (Jvm.Cond.instanceMethod ({ cls := "ShortVectors$FirstVectors", name := "meet", desc := "([JJ)V" } : Jvm.MethodName)) ∈ utbl := u_mem (List.mem_of_getElem? (i := 444) (by decide +kernel)) (by decide +kernel)
theorem wd396 : (Jvm.Cond.code ({ cls := "ShortVectors$FirstVectors", name := "meet", desc := "([JJ)V" } : Jvm.MethodName) prog_6_method_4_code (5 : Nat) (Option.none : Option Jvm.ClassFile.FieldType)) ∈ utbl := u_mem (List.mem_of_getElem? (i := 445) (by decide +kernel)) (by decide +kernel)
theorem wd397 : (Jvm.Cond.methodLink "ShortVectors$FirstVectors" (40 : Nat) ({ cls := "ShortVectors$FirstVectors", name := "wants", desc := "(J)Z" } : Jvm.MethodName)) ∈ utbl := u_mem (List.mem_of_getElem? (i := 446) (by decide +kernel)) (by decide +kernel)
theorem wd398 : (Jvm.Cond.sameMethod "ShortVectors$FirstVectors" "ShortVectors$Collector" "wants" "(J)Z") ∈ utbl := u_mem (List.mem_of_getElem? (i := 447) (by decide +kernel)) (by decide +kernel)
theorem wd399 : (Jvm.Cond.declares ({ cls := "ShortVectors$Collector", name := "wants", desc := "(J)Z" } : Jvm.MethodName)) ∈ lw_tbl := List.mem_of_getElem? (i := 448) (by decide +kernel)
theorem wd400 : (Jvm.Cond.selects "ShortVectors$FirstVectors" ({ cls := "ShortVectors$FirstVectors", name := "wants", desc := "(J)Z" } : Jvm.MethodName) ({ cls := "ShortVectors$Collector", name := "wants", desc := "(J)Z" } : Jvm.MethodName)) ∈ utbl := u_mem (List.mem_of_getElem? (i := 449) (by decide +kernel)) (by decide +kernel)
theorem wd401 : (Jvm.Cond.instanceMethod ({ cls := "ShortVectors$Collector", name := "wants", desc := "(J)Z" } : Jvm.MethodName)) ∈ utbl := u_mem (List.mem_of_getElem? (i := 450) (by decide +kernel)) (by decide +kernel)
theorem wd402 : (Jvm.Cond.code ({ cls := "ShortVectors$Collector", name := "wants", desc := "(J)Z" } : Jvm.MethodName) prog_4_method_4_code (3 : Nat) (Option.some Jvm.ClassFile.FieldType.boolean)) ∈ utbl := u_mem (List.mem_of_getElem? (i := 451) (by decide +kernel)) (by decide +kernel)
theorem wd403 : (Jvm.Cond.methodLink "ShortVectors$FirstVectors" (44 : Nat) ({ cls := "ShortVectors$FirstVectors", name := "precedes", desc := "([JJI)Z" } : Jvm.MethodName)) ∈ utbl := u_mem (List.mem_of_getElem? (i := 452) (by decide +kernel)) (by decide +kernel)
theorem wd405 : (Jvm.Cond.instanceMethod ({ cls := "ShortVectors$FirstVectors", name := "precedes", desc := "([JJI)Z" } : Jvm.MethodName)) ∈ utbl := u_mem (List.mem_of_getElem? (i := 454) (by decide +kernel)) (by decide +kernel)
theorem wd406 : (Jvm.Cond.code ({ cls := "ShortVectors$FirstVectors", name := "precedes", desc := "([JJI)Z" } : Jvm.MethodName) prog_6_method_5_code (5 : Nat) (Option.some Jvm.ClassFile.FieldType.boolean)) ∈ utbl := u_mem (List.mem_of_getElem? (i := 455) (by decide +kernel)) (by decide +kernel)
theorem wd407 : (Jvm.Cond.methodLinkNest "ShortVectors$FirstVectors" (52 : Nat) ({ cls := "ShortVectors", name := "comesBefore", desc := "([J[J)Z" } : Jvm.MethodName) "ShortVectors") ∈ lw_tbl := List.mem_of_getElem? (i := 456) (by decide +kernel)
theorem wd408 : (Jvm.Cond.methodLink "ShortVectors$FirstVectors" (48 : Nat) ({ cls := "ShortVectors$FirstVectors", name := "insert", desc := "([JJI)V" } : Jvm.MethodName)) ∈ utbl := u_mem (List.mem_of_getElem? (i := 457) (by decide +kernel)) (by decide +kernel)
theorem wd410 : (Jvm.Cond.instanceMethod ({ cls := "ShortVectors$FirstVectors", name := "insert", desc := "([JJI)V" } : Jvm.MethodName)) ∈ utbl := u_mem (List.mem_of_getElem? (i := 459) (by decide +kernel)) (by decide +kernel)
theorem wd411 : (Jvm.Cond.code ({ cls := "ShortVectors$FirstVectors", name := "insert", desc := "([JJI)V" } : Jvm.MethodName) prog_6_method_6_code (6 : Nat) (Option.none : Option Jvm.ClassFile.FieldType)) ∈ utbl := u_mem (List.mem_of_getElem? (i := 460) (by decide +kernel)) (by decide +kernel)
theorem wd412 : (Jvm.Cond.methodLink "ShortVectors$FirstVectors" (56 : Nat) ({ cls := "java/lang/Math", name := "min", desc := "(II)I" } : Jvm.MethodName)) ∈ utbl := u_mem (List.mem_of_getElem? (i := 461) (by decide +kernel)) (by decide +kernel)
theorem wd413 : (Jvm.Cond.static ({ cls := "java/lang/Math", name := "min", desc := "(II)I" } : Jvm.MethodName)) ∈ utbl := u_mem (List.mem_of_getElem? (i := 462) (by decide +kernel)) (by decide +kernel)
theorem wd414 : (Jvm.Cond.code ({ cls := "java/lang/Math", name := "min", desc := "(II)I" } : Jvm.MethodName) prog_10_method_69_code (2 : Nat) (Option.some Jvm.ClassFile.FieldType.int)) ∈ utbl := u_mem (List.mem_of_getElem? (i := 463) (by decide +kernel)) (by decide +kernel)
theorem wd415 : (Jvm.Cond.methodLinkNest "ShortVectors$FirstVectors" (62 : Nat) ({ cls := "ShortVectors", name := "copy", desc := "([J[J)V" } : Jvm.MethodName) "ShortVectors") ∈ lw_tbl := List.mem_of_getElem? (i := 464) (by decide +kernel)
theorem wd416 : (Jvm.Cond.methodLink "ShortVectors$FirstVectors" (32 : Nat) ({ cls := "ShortVectors$FirstVectors", name := "setBudget", desc := "(J)V" } : Jvm.MethodName)) ∈ utbl := u_mem (List.mem_of_getElem? (i := 465) (by decide +kernel)) (by decide +kernel)
theorem wd417 : (Jvm.Cond.sameMethod "ShortVectors$FirstVectors" "ShortVectors$Collector" "setBudget" "(J)V") ∈ utbl := u_mem (List.mem_of_getElem? (i := 466) (by decide +kernel)) (by decide +kernel)
theorem wd418 : (Jvm.Cond.selects "ShortVectors$FirstVectors" ({ cls := "ShortVectors$FirstVectors", name := "setBudget", desc := "(J)V" } : Jvm.MethodName) ({ cls := "ShortVectors$Collector", name := "setBudget", desc := "(J)V" } : Jvm.MethodName)) ∈ utbl := u_mem (List.mem_of_getElem? (i := 467) (by decide +kernel)) (by decide +kernel)
theorem wd419 : (Jvm.Cond.selects "ShortVectors$Tally" ({ cls := "ShortVectors$Collector", name := "meet", desc := "([JJ)V" } : Jvm.MethodName) ({ cls := "ShortVectors$Tally", name := "meet", desc := "([JJ)V" } : Jvm.MethodName)) ∈ utbl := u_mem (List.mem_of_getElem? (i := 468) (by decide +kernel)) (by decide +kernel)
theorem wd420 : (Jvm.Cond.instanceMethod ({ cls := "ShortVectors$Tally", name := "meet", desc := "([JJ)V" } : Jvm.MethodName)) ∈ utbl := u_mem (List.mem_of_getElem? (i := 469) (by decide +kernel)) (by decide +kernel)
theorem wd421 : (Jvm.Cond.code ({ cls := "ShortVectors$Tally", name := "meet", desc := "([JJ)V" } : Jvm.MethodName) prog_7_method_4_code (4 : Nat) (Option.none : Option Jvm.ClassFile.FieldType)) ∈ utbl := u_mem (List.mem_of_getElem? (i := 470) (by decide +kernel)) (by decide +kernel)
theorem wd422 : (Jvm.Cond.methodLink "ShortVectors$Tally" (33 : Nat) ({ cls := "ShortVectors$Tally", name := "wants", desc := "(J)Z" } : Jvm.MethodName)) ∈ utbl := u_mem (List.mem_of_getElem? (i := 471) (by decide +kernel)) (by decide +kernel)
theorem wd423 : (Jvm.Cond.sameMethod "ShortVectors$Tally" "ShortVectors$Collector" "wants" "(J)Z") ∈ utbl := u_mem (List.mem_of_getElem? (i := 472) (by decide +kernel)) (by decide +kernel)
theorem wd424 : (Jvm.Cond.selects "ShortVectors$Tally" ({ cls := "ShortVectors$Tally", name := "wants", desc := "(J)Z" } : Jvm.MethodName) ({ cls := "ShortVectors$Collector", name := "wants", desc := "(J)Z" } : Jvm.MethodName)) ∈ utbl := u_mem (List.mem_of_getElem? (i := 473) (by decide +kernel)) (by decide +kernel)
theorem wd425 : (Jvm.Cond.methodLink "ShortVectors$Basis" (143 : Nat) ({ cls := "ShortVectors$Basis", name := "walk", desc := "(IJIJLShortVectors$Collector;)V" } : Jvm.MethodName)) ∈ utbl := u_mem (List.mem_of_getElem? (i := 474) (by decide +kernel)) (by decide +kernel)
theorem wd427 : (Jvm.Cond.instanceMethod ({ cls := "ShortVectors$Basis", name := "walk", desc := "(IJIJLShortVectors$Collector;)V" } : Jvm.MethodName)) ∈ utbl := u_mem (List.mem_of_getElem? (i := 476) (by decide +kernel)) (by decide +kernel)
theorem wd428 : (Jvm.Cond.code ({ cls := "ShortVectors$Basis", name := "walk", desc := "(IJIJLShortVectors$Collector;)V" } : Jvm.MethodName) prog_2_method_18_code (13 : Nat) (Option.none : Option Jvm.ClassFile.FieldType)) ∈ utbl := u_mem (List.mem_of_getElem? (i := 477) (by decide +kernel)) (by decide +kernel)
theorem wd429 : (Jvm.Cond.methodLink "ShortVectors$Basis" (147 : Nat) ({ cls := "ShortVectors$Collector", name := "wants", desc := "(J)Z" } : Jvm.MethodName)) ∈ utbl := u_mem (List.mem_of_getElem? (i := 478) (by decide +kernel)) (by decide +kernel)
theorem wd430 : (Jvm.Cond.methodLink "ShortVectors" (113 : Nat) ({ cls := "ShortVectors$Tally", name := "upTo", desc := "(I)I" } : Jvm.MethodName)) ∈ utbl := u_mem (List.mem_of_getElem? (i := 479) (by decide +kernel)) (by decide +kernel)
theorem wd431 : (Jvm.Cond.instanceMethod ({ cls := "ShortVectors$Tally", name := "upTo", desc := "(I)I" } : Jvm.MethodName)) ∈ utbl := u_mem (List.mem_of_getElem? (i := 480) (by decide +kernel)) (by decide +kernel)
theorem wd432 : (Jvm.Cond.selects "ShortVectors$Tally" ({ cls := "ShortVectors$Tally", name := "upTo", desc := "(I)I" } : Jvm.MethodName) ({ cls := "ShortVectors$Tally", name := "upTo", desc := "(I)I" } : Jvm.MethodName)) ∈ utbl := u_mem (List.mem_of_getElem? (i := 481) (by decide +kernel)) (by decide +kernel)
theorem wd433 : (Jvm.Cond.code ({ cls := "ShortVectors$Tally", name := "upTo", desc := "(I)I" } : Jvm.MethodName) prog_7_method_3_code (2 : Nat) (Option.some Jvm.ClassFile.FieldType.int)) ∈ utbl := u_mem (List.mem_of_getElem? (i := 482) (by decide +kernel)) (by decide +kernel)
theorem wd434 : (Jvm.Cond.methodLink "ShortVectorsLaw" (61 : Nat) ({ cls := "ShortVectors", name := "vector", desc := "(II)I" } : Jvm.MethodName)) ∈ utbl := u_mem (List.mem_of_getElem? (i := 483) (by decide +kernel)) (by decide +kernel)
theorem wd435 : (Jvm.Cond.instanceMethod ({ cls := "ShortVectors", name := "vector", desc := "(II)I" } : Jvm.MethodName)) ∈ utbl := u_mem (List.mem_of_getElem? (i := 484) (by decide +kernel)) (by decide +kernel)
theorem wd436 : (Jvm.Cond.selects "ShortVectors" ({ cls := "ShortVectors", name := "vector", desc := "(II)I" } : Jvm.MethodName) ({ cls := "ShortVectors", name := "vector", desc := "(II)I" } : Jvm.MethodName)) ∈ utbl := u_mem (List.mem_of_getElem? (i := 485) (by decide +kernel)) (by decide +kernel)
theorem wd437 : (Jvm.Cond.code ({ cls := "ShortVectors", name := "vector", desc := "(II)I" } : Jvm.MethodName) prog_1_method_12_code (3 : Nat) (Option.some Jvm.ClassFile.FieldType.int)) ∈ utbl := u_mem (List.mem_of_getElem? (i := 486) (by decide +kernel)) (by decide +kernel)
theorem wd438 : (Jvm.Cond.methodLink "ShortVectors" (117 : Nat) ({ cls := "ShortVectors", name := "isAxis", desc := "(I)Z" } : Jvm.MethodName)) ∈ utbl := u_mem (List.mem_of_getElem? (i := 487) (by decide +kernel)) (by decide +kernel)
theorem wd439 : (Jvm.Cond.static ({ cls := "ShortVectors", name := "isAxis", desc := "(I)Z" } : Jvm.MethodName)) ∈ utbl := u_mem (List.mem_of_getElem? (i := 488) (by decide +kernel)) (by decide +kernel)
theorem wd440 : (Jvm.Cond.code ({ cls := "ShortVectors", name := "isAxis", desc := "(I)Z" } : Jvm.MethodName) prog_1_method_19_code (1 : Nat) (Option.some Jvm.ClassFile.FieldType.boolean)) ∈ utbl := u_mem (List.mem_of_getElem? (i := 489) (by decide +kernel)) (by decide +kernel)
theorem wd441 : (Jvm.Cond.methodLink "ShortVectors" (124 : Nat) ({ cls := "ShortVectors$FirstVectors", name := "fill", desc := "(LShortVectors$Basis;)V" } : Jvm.MethodName)) ∈ utbl := u_mem (List.mem_of_getElem? (i := 490) (by decide +kernel)) (by decide +kernel)
theorem wd442 : (Jvm.Cond.instanceMethod ({ cls := "ShortVectors$FirstVectors", name := "fill", desc := "(LShortVectors$Basis;)V" } : Jvm.MethodName)) ∈ utbl := u_mem (List.mem_of_getElem? (i := 491) (by decide +kernel)) (by decide +kernel)
theorem wd443 : (Jvm.Cond.selects "ShortVectors$FirstVectors" ({ cls := "ShortVectors$FirstVectors", name := "fill", desc := "(LShortVectors$Basis;)V" } : Jvm.MethodName) ({ cls := "ShortVectors$FirstVectors", name := "fill", desc := "(LShortVectors$Basis;)V" } : Jvm.MethodName)) ∈ utbl := u_mem (List.mem_of_getElem? (i := 492) (by decide +kernel)) (by decide +kernel)
theorem wd444 : (Jvm.Cond.code ({ cls := "ShortVectors$FirstVectors", name := "fill", desc := "(LShortVectors$Basis;)V" } : Jvm.MethodName) prog_6_method_2_code (4 : Nat) (Option.none : Option Jvm.ClassFile.FieldType)) ∈ utbl := u_mem (List.mem_of_getElem? (i := 493) (by decide +kernel)) (by decide +kernel)
theorem wd445 : (Jvm.Cond.constantLong "ShortVectors$FirstVectors" (24 : Nat) (20 : Int64)) ∈ utbl := u_mem (List.mem_of_getElem? (i := 494) (by decide +kernel)) (by decide +kernel)
theorem wd446 : (Jvm.Cond.methodLink "ShortVectors$FirstVectors" (26 : Nat) ({ cls := "ShortVectors$Basis", name := "leastSquare", desc := "()J" } : Jvm.MethodName)) ∈ utbl := u_mem (List.mem_of_getElem? (i := 495) (by decide +kernel)) (by decide +kernel)
theorem wd447 : (Jvm.Cond.instanceMethod ({ cls := "ShortVectors$Basis", name := "leastSquare", desc := "()J" } : Jvm.MethodName)) ∈ utbl := u_mem (List.mem_of_getElem? (i := 496) (by decide +kernel)) (by decide +kernel)
theorem wd448 : (Jvm.Cond.selects "ShortVectors$Basis" ({ cls := "ShortVectors$Basis", name := "leastSquare", desc := "()J" } : Jvm.MethodName) ({ cls := "ShortVectors$Basis", name := "leastSquare", desc := "()J" } : Jvm.MethodName)) ∈ utbl := u_mem (List.mem_of_getElem? (i := 497) (by decide +kernel)) (by decide +kernel)
theorem wd449 : (Jvm.Cond.code ({ cls := "ShortVectors$Basis", name := "leastSquare", desc := "()J" } : Jvm.MethodName) prog_2_method_4_code (1 : Nat) (Option.some Jvm.ClassFile.FieldType.long)) ∈ utbl := u_mem (List.mem_of_getElem? (i := 498) (by decide +kernel)) (by decide +kernel)
theorem wd450 : (Jvm.Cond.methodLink "ShortVectors$FirstVectors" (36 : Nat) ({ cls := "ShortVectors$Basis", name := "search", desc := "(LShortVectors$Collector;)V" } : Jvm.MethodName)) ∈ utbl := u_mem (List.mem_of_getElem? (i := 499) (by decide +kernel)) (by decide +kernel)
theorem wd451 : (Jvm.Cond.methodLink "ShortVectors" (125 : Nat) ({ cls := "ShortVectors$FirstVectors", name := "coordinate", desc := "(II)I" } : Jvm.MethodName)) ∈ utbl := u_mem (List.mem_of_getElem? (i := 500) (by decide +kernel)) (by decide +kernel)
theorem wd452 : (Jvm.Cond.instanceMethod ({ cls := "ShortVectors$FirstVectors", name := "coordinate", desc := "(II)I" } : Jvm.MethodName)) ∈ utbl := u_mem (List.mem_of_getElem? (i := 501) (by decide +kernel)) (by decide +kernel)
theorem wd453 : (Jvm.Cond.selects "ShortVectors$FirstVectors" ({ cls := "ShortVectors$FirstVectors", name := "coordinate", desc := "(II)I" } : Jvm.MethodName) ({ cls := "ShortVectors$FirstVectors", name := "coordinate", desc := "(II)I" } : Jvm.MethodName)) ∈ utbl := u_mem (List.mem_of_getElem? (i := 502) (by decide +kernel)) (by decide +kernel)
theorem wd454 : (Jvm.Cond.code ({ cls := "ShortVectors$FirstVectors", name := "coordinate", desc := "(II)I" } : Jvm.MethodName) prog_6_method_3_code (3 : Nat) (Option.some Jvm.ClassFile.FieldType.int)) ∈ utbl := u_mem (List.mem_of_getElem? (i := 503) (by decide +kernel)) (by decide +kernel)
theorem wd455 : (Jvm.Cond.methodLink "ShortVectorsLaw" (66 : Nat) ({ cls := "ShortVectors", name := "distance", desc := "(IIII)I" } : Jvm.MethodName)) ∈ utbl := u_mem (List.mem_of_getElem? (i := 504) (by decide +kernel)) (by decide +kernel)
theorem wd456 : (Jvm.Cond.instanceMethod ({ cls := "ShortVectors", name := "distance", desc := "(IIII)I" } : Jvm.MethodName)) ∈ utbl := u_mem (List.mem_of_getElem? (i := 505) (by decide +kernel)) (by decide +kernel)
theorem wd457 : (Jvm.Cond.selects "ShortVectors" ({ cls := "ShortVectors", name := "distance", desc := "(IIII)I" } : Jvm.MethodName) ({ cls := "ShortVectors", name := "distance", desc := "(IIII)I" } : Jvm.MethodName)) ∈ utbl := u_mem (List.mem_of_getElem? (i := 506) (by decide +kernel)) (by decide +kernel)
theorem wd458 : (Jvm.Cond.code ({ cls := "ShortVectors", name := "distance", desc := "(IIII)I" } : Jvm.MethodName) prog_1_method_13_code (5 : Nat) (Option.some Jvm.ClassFile.FieldType.int)) ∈ utbl := u_mem (List.mem_of_getElem? (i := 507) (by decide +kernel)) (by decide +kernel)
theorem wd459 : (Jvm.Cond.methodLink "ShortVectors" (129 : Nat) ({ cls := "ShortVectors$Closest", name := "approach", desc := "(LShortVectors$Basis;[J)V" } : Jvm.MethodName)) ∈ utbl := u_mem (List.mem_of_getElem? (i := 508) (by decide +kernel)) (by decide +kernel)
theorem wd460 : (Jvm.Cond.instanceMethod ({ cls := "ShortVectors$Closest", name := "approach", desc := "(LShortVectors$Basis;[J)V" } : Jvm.MethodName)) ∈ utbl := u_mem (List.mem_of_getElem? (i := 509) (by decide +kernel)) (by decide +kernel)
theorem wd461 : (Jvm.Cond.selects "ShortVectors$Closest" ({ cls := "ShortVectors$Closest", name := "approach", desc := "(LShortVectors$Basis;[J)V" } : Jvm.MethodName) ({ cls := "ShortVectors$Closest", name := "approach", desc := "(LShortVectors$Basis;[J)V" } : Jvm.MethodName)) ∈ utbl := u_mem (List.mem_of_getElem? (i := 510) (by decide +kernel)) (by decide +kernel)
theorem wd462 : (Jvm.Cond.code ({ cls := "ShortVectors$Closest", name := "approach", desc := "(LShortVectors$Basis;[J)V" } : Jvm.MethodName) prog_3_method_2_code (3 : Nat) (Option.none : Option Jvm.ClassFile.FieldType)) ∈ utbl := u_mem (List.mem_of_getElem? (i := 511) (by decide +kernel)) (by decide +kernel)
theorem wd463 : (Jvm.Cond.methodLink "ShortVectors$Closest" (15 : Nat) ({ cls := "ShortVectors$Closest", name := "goal", desc := "()[J" } : Jvm.MethodName)) ∈ utbl := u_mem (List.mem_of_getElem? (i := 512) (by decide +kernel)) (by decide +kernel)
theorem wd464 : (Jvm.Cond.sameMethod "ShortVectors$Closest" "ShortVectors$Collector" "goal" "()[J") ∈ utbl := u_mem (List.mem_of_getElem? (i := 513) (by decide +kernel)) (by decide +kernel)
theorem wd465 : (Jvm.Cond.declares ({ cls := "ShortVectors$Collector", name := "goal", desc := "()[J" } : Jvm.MethodName)) ∈ lw_tbl := List.mem_of_getElem? (i := 514) (by decide +kernel)
theorem wd466 : (Jvm.Cond.selects "ShortVectors$Closest" ({ cls := "ShortVectors$Closest", name := "goal", desc := "()[J" } : Jvm.MethodName) ({ cls := "ShortVectors$Collector", name := "goal", desc := "()[J" } : Jvm.MethodName)) ∈ utbl := u_mem (List.mem_of_getElem? (i := 515) (by decide +kernel)) (by decide +kernel)
theorem wd467 : (Jvm.Cond.methodLink "ShortVectors$Closest" (23 : Nat) ({ cls := "java/util/Arrays", name := "fill", desc := "([JJ)V" } : Jvm.MethodName)) ∈ utbl := u_mem (List.mem_of_getElem? (i := 516) (by decide +kernel)) (by decide +kernel)
theorem wd468 : (Jvm.Cond.constantLong "ShortVectors$Closest" (29 : Nat) (-1 : Int64)) ∈ utbl := u_mem (List.mem_of_getElem? (i := 517) (by decide +kernel)) (by decide +kernel)
theorem wd469 : (Jvm.Cond.methodLinkNest "ShortVectors$Closest" (31 : Nat) ({ cls := "ShortVectors", name := "addMultiple", desc := "([J[JJ)V" } : Jvm.MethodName) "ShortVectors") ∈ lw_tbl := List.mem_of_getElem? (i := 518) (by decide +kernel)
theorem wd470 : (Jvm.Cond.methodLinkNest "ShortVectors$Closest" (35 : Nat) ({ cls := "ShortVectors", name := "product", desc := "([J[J)J" } : Jvm.MethodName) "ShortVectors") ∈ lw_tbl := List.mem_of_getElem? (i := 519) (by decide +kernel)
theorem wd471 : (Jvm.Cond.methodLink "ShortVectors$Closest" (47 : Nat) ({ cls := "ShortVectors$Basis", name := "search", desc := "(LShortVectors$Collector;)V" } : Jvm.MethodName)) ∈ utbl := u_mem (List.mem_of_getElem? (i := 520) (by decide +kernel)) (by decide +kernel)
theorem wd472 : (Jvm.Cond.methodLink "ShortVectors" (133 : Nat) ({ cls := "ShortVectors$Closest", name := "leastSquare", desc := "()I" } : Jvm.MethodName)) ∈ utbl := u_mem (List.mem_of_getElem? (i := 521) (by decide +kernel)) (by decide +kernel)
theorem wd473 : (Jvm.Cond.instanceMethod ({ cls := "ShortVectors$Closest", name := "leastSquare", desc := "()I" } : Jvm.MethodName)) ∈ utbl := u_mem (List.mem_of_getElem? (i := 522) (by decide +kernel)) (by decide +kernel)
theorem wd474 : (Jvm.Cond.selects "ShortVectors$Closest" ({ cls := "ShortVectors$Closest", name := "leastSquare", desc := "()I" } : Jvm.MethodName) ({ cls := "ShortVectors$Closest", name := "leastSquare", desc := "()I" } : Jvm.MethodName)) ∈ utbl := u_mem (List.mem_of_getElem? (i := 523) (by decide +kernel)) (by decide +kernel)
theorem wd475 : (Jvm.Cond.code ({ cls := "ShortVectors$Closest", name := "leastSquare", desc := "()I" } : Jvm.MethodName) prog_3_method_3_code (1 : Nat) (Option.some Jvm.ClassFile.FieldType.int)) ∈ utbl := u_mem (List.mem_of_getElem? (i := 524) (by decide +kernel)) (by decide +kernel)
theorem wd476 : (Jvm.Cond.methodLink "ShortVectorsLaw" (70 : Nat) ({ cls := "ShortVectors", name := "nearest", desc := "(IIIII)I" } : Jvm.MethodName)) ∈ utbl := u_mem (List.mem_of_getElem? (i := 525) (by decide +kernel)) (by decide +kernel)
theorem wd477 : (Jvm.Cond.instanceMethod ({ cls := "ShortVectors", name := "nearest", desc := "(IIIII)I" } : Jvm.MethodName)) ∈ utbl := u_mem (List.mem_of_getElem? (i := 526) (by decide +kernel)) (by decide +kernel)
theorem wd478 : (Jvm.Cond.selects "ShortVectors" ({ cls := "ShortVectors", name := "nearest", desc := "(IIIII)I" } : Jvm.MethodName) ({ cls := "ShortVectors", name := "nearest", desc := "(IIIII)I" } : Jvm.MethodName)) ∈ utbl := u_mem (List.mem_of_getElem? (i := 527) (by decide +kernel)) (by decide +kernel)
theorem wd479 : (Jvm.Cond.code ({ cls := "ShortVectors", name := "nearest", desc := "(IIIII)I" } : Jvm.MethodName) prog_1_method_14_code (6 : Nat) (Option.some Jvm.ClassFile.FieldType.int)) ∈ utbl := u_mem (List.mem_of_getElem? (i := 528) (by decide +kernel)) (by decide +kernel)
theorem wd480 : (Jvm.Cond.methodLink "ShortVectors" (136 : Nat) ({ cls := "ShortVectors$Closest", name := "coordinate", desc := "(I)I" } : Jvm.MethodName)) ∈ utbl := u_mem (List.mem_of_getElem? (i := 529) (by decide +kernel)) (by decide +kernel)
theorem wd481 : (Jvm.Cond.instanceMethod ({ cls := "ShortVectors$Closest", name := "coordinate", desc := "(I)I" } : Jvm.MethodName)) ∈ utbl := u_mem (List.mem_of_getElem? (i := 530) (by decide +kernel)) (by decide +kernel)
theorem wd482 : (Jvm.Cond.selects "ShortVectors$Closest" ({ cls := "ShortVectors$Closest", name := "coordinate", desc := "(I)I" } : Jvm.MethodName) ({ cls := "ShortVectors$Closest", name := "coordinate", desc := "(I)I" } : Jvm.MethodName)) ∈ utbl := u_mem (List.mem_of_getElem? (i := 531) (by decide +kernel)) (by decide +kernel)
theorem wd483 : (Jvm.Cond.code ({ cls := "ShortVectors$Closest", name := "coordinate", desc := "(I)I" } : Jvm.MethodName) prog_3_method_4_code (2 : Nat) (Option.some Jvm.ClassFile.FieldType.int)) ∈ utbl := u_mem (List.mem_of_getElem? (i := 532) (by decide +kernel)) (by decide +kernel)
theorem wd484 : (Jvm.Cond.classLink "ShortVectorsLaw" (10 : Nat) "ShortVectorsModel") ∈ utbl := u_mem (List.mem_of_getElem? (i := 533) (by decide +kernel)) (by decide +kernel)
theorem wd485 : (Jvm.Cond.instantiable "ShortVectorsModel" (27 : Nat)) ∈ utbl := u_mem (List.mem_of_getElem? (i := 534) (by decide +kernel)) (by decide +kernel)
theorem wd486 : (Jvm.Cond.methodLink "ShortVectorsLaw" (12 : Nat) ({ cls := "ShortVectorsModel", name := "<init>", desc := "()V" } : Jvm.MethodName)) ∈ utbl := u_mem (List.mem_of_getElem? (i := 535) (by decide +kernel)) (by decide +kernel)
theorem wd487 : (Jvm.Cond.instanceMethod ({ cls := "ShortVectorsModel", name := "<init>", desc := "()V" } : Jvm.MethodName)) ∈ utbl := u_mem (List.mem_of_getElem? (i := 536) (by decide +kernel)) (by decide +kernel)
theorem wd488 : (Jvm.Cond.code ({ cls := "ShortVectorsModel", name := "<init>", desc := "()V" } : Jvm.MethodName) prog_9_method_1_code (1 : Nat) (Option.none : Option Jvm.ClassFile.FieldType)) ∈ utbl := u_mem (List.mem_of_getElem? (i := 537) (by decide +kernel)) (by decide +kernel)
theorem wd489 : (Jvm.Cond.methodLink "ShortVectorsModel" (1 : Nat) ({ cls := "java/lang/Object", name := "<init>", desc := "()V" } : Jvm.MethodName)) ∈ utbl := u_mem (List.mem_of_getElem? (i := 538) (by decide +kernel)) (by decide +kernel)
theorem wd490 : (Jvm.Cond.fieldLink "ShortVectorsModel" (67 : Nat) "ShortVectorsModel" "many" "I") ∈ utbl := u_mem (List.mem_of_getElem? (i := 539) (by decide +kernel)) (by decide +kernel)
theorem wd491 : (Jvm.Cond.fieldLink "ShortVectorsModel" (7 : Nat) "ShortVectorsModel" "generator" "[I") ∈ utbl := u_mem (List.mem_of_getElem? (i := 540) (by decide +kernel)) (by decide +kernel)
theorem wd492 : (Jvm.Cond.fieldLink "ShortVectorsModel" (53 : Nat) "ShortVectorsModel" "known" "Z") ∈ utbl := u_mem (List.mem_of_getElem? (i := 541) (by decide +kernel)) (by decide +kernel)
theorem wd493 : (Jvm.Cond.fieldLink "ShortVectorsModel" (98 : Nat) "ShortVectorsModel" "without" "I") ∈ utbl := u_mem (List.mem_of_getElem? (i := 542) (by decide +kernel)) (by decide +kernel)
theorem wd494 : (Jvm.Cond.fieldLink "ShortVectorsModel" (74 : Nat) "ShortVectorsModel" "rows" "I") ∈ utbl := u_mem (List.mem_of_getElem? (i := 543) (by decide +kernel)) (by decide +kernel)
theorem wd495 : (Jvm.Cond.fieldLink "ShortVectorsModel" (13 : Nat) "ShortVectorsModel" "row" "[J") ∈ utbl := u_mem (List.mem_of_getElem? (i := 544) (by decide +kernel)) (by decide +kernel)
theorem wd496 : (Jvm.Cond.fieldLink "ShortVectorsModel" (17 : Nat) "ShortVectorsModel" "pivot" "[I") ∈ utbl := u_mem (List.mem_of_getElem? (i := 545) (by decide +kernel)) (by decide +kernel)
theorem wd497 : (Jvm.Cond.fieldLink "ShortVectorsModel" (20 : Nat) "ShortVectorsModel" "fresh" "[J") ∈ utbl := u_mem (List.mem_of_getElem? (i := 546) (by decide +kernel)) (by decide +kernel)
theorem wd498 : (Jvm.Cond.fieldLink "ShortVectorsModel" (23 : Nat) "ShortVectorsModel" "multiple" "[J") ∈ utbl := u_mem (List.mem_of_getElem? (i := 547) (by decide +kernel)) (by decide +kernel)
theorem wd499 : (Jvm.Cond.fieldLink "ShortVectorsModel" (26 : Nat) "ShortVectorsModel" "last" "[J") ∈ utbl := u_mem (List.mem_of_getElem? (i := 548) (by decide +kernel)) (by decide +kernel)
theorem wd500 : (Jvm.Cond.fieldLink "ShortVectorsModel" (29 : Nat) "ShortVectorsModel" "made" "[J") ∈ utbl := u_mem (List.mem_of_getElem? (i := 549) (by decide +kernel)) (by decide +kernel)
theorem wd501 : (Jvm.Cond.fieldLink "ShortVectorsModel" (32 : Nat) "ShortVectorsModel" "settled" "[J") ∈ utbl := u_mem (List.mem_of_getElem? (i := 550) (by decide +kernel)) (by decide +kernel)
theorem wd502 : (Jvm.Cond.fieldLink "ShortVectorsModel" (35 : Nat) "ShortVectorsModel" "point" "[J") ∈ utbl := u_mem (List.mem_of_getElem? (i := 551) (by decide +kernel)) (by decide +kernel)
theorem wd503 : (Jvm.Cond.fieldLink "ShortVectorsModel" (132 : Nat) "ShortVectorsModel" "limit" "J") ∈ utbl := u_mem (List.mem_of_getElem? (i := 552) (by decide +kernel)) (by decide +kernel)
theorem wd504 : (Jvm.Cond.fieldLink "ShortVectorsModel" (146 : Nat) "ShortVectorsModel" "mode" "I") ∈ utbl := u_mem (List.mem_of_getElem? (i := 553) (by decide +kernel)) (by decide +kernel)
theorem wd505 : (Jvm.Cond.fieldLink "ShortVectorsModel" (169 : Nat) "ShortVectorsModel" "counted" "I") ∈ utbl := u_mem (List.mem_of_getElem? (i := 554) (by decide +kernel)) (by decide +kernel)
theorem wd506 : (Jvm.Cond.fieldLink "ShortVectorsModel" (57 : Nat) "ShortVectorsModel" "listed" "Z") ∈ utbl := u_mem (List.mem_of_getElem? (i := 555) (by decide +kernel)) (by decide +kernel)
theorem wd507 : (Jvm.Cond.fieldLink "ShortVectorsModel" (187 : Nat) "ShortVectorsModel" "held" "I") ∈ utbl := u_mem (List.mem_of_getElem? (i := 556) (by decide +kernel)) (by decide +kernel)
theorem wd508 : (Jvm.Cond.fieldLink "ShortVectorsModel" (38 : Nat) "ShortVectorsModel" "first" "[J") ∈ utbl := u_mem (List.mem_of_getElem? (i := 557) (by decide +kernel)) (by decide +kernel)
theorem wd509 : (Jvm.Cond.fieldLink "ShortVectorsModel" (41 : Nat) "ShortVectorsModel" "squares" "[J") ∈ utbl := u_mem (List.mem_of_getElem? (i := 558) (by decide +kernel)) (by decide +kernel)
theorem wd510 : (Jvm.Cond.fieldLink "ShortVectorsModel" (152 : Nat) "ShortVectorsModel" "wanted" "I") ∈ utbl := u_mem (List.mem_of_getElem? (i := 559) (by decide +kernel)) (by decide +kernel)
theorem wd511 : (Jvm.Cond.fieldLink "ShortVectorsModel" (149 : Nat) "ShortVectorsModel" "spanned" "I") ∈ utbl := u_mem (List.mem_of_getElem? (i := 560) (by decide +kernel)) (by decide +kernel)
theorem wd512 : (Jvm.Cond.fieldLink "ShortVectorsModel" (44 : Nat) "ShortVectorsModel" "span" "[J") ∈ utbl := u_mem (List.mem_of_getElem? (i := 561) (by decide +kernel)) (by decide +kernel)
theorem wd513 : (Jvm.Cond.fieldLink "ShortVectorsModel" (47 : Nat) "ShortVectorsModel" "minima" "[I") ∈ utbl := u_mem (List.mem_of_getElem? (i := 562) (by decide +kernel)) (by decide +kernel)
theorem wd514 : (Jvm.Cond.fieldLink "ShortVectorsModel" (60 : Nat) "ShortVectorsModel" "measured" "Z") ∈ utbl := u_mem (List.mem_of_getElem? (i := 563) (by decide +kernel)) (by decide +kernel)
theorem wd515 : (Jvm.Cond.fieldLink "ShortVectorsModel" (50 : Nat) "ShortVectorsModel" "found" "[J") ∈ utbl := u_mem (List.mem_of_getElem? (i := 564) (by decide +kernel)) (by decide +kernel)
theorem wd516 : (Jvm.Cond.fieldLink "ShortVectorsModel" (210 : Nat) "ShortVectorsModel" "any" "Z") ∈ utbl := u_mem (List.mem_of_getElem? (i := 565) (by decide +kernel)) (by decide +kernel)
theorem wd517 : (Jvm.Cond.lays "ShortVectorsModel" "ShortVectorsModel" "many" "I") ∈ utbl := u_mem (List.mem_of_getElem? (i := 566) (by decide +kernel)) (by decide +kernel)
theorem wd519 : (Jvm.Cond.laysFinal "ShortVectorsModel" "ShortVectorsModel" "generator" "[I") ∈ utbl := u_mem (List.mem_of_getElem? (i := 568) (by decide +kernel)) (by decide +kernel)
theorem wd521 : (Jvm.Cond.lays "ShortVectorsModel" "ShortVectorsModel" "known" "Z") ∈ utbl := u_mem (List.mem_of_getElem? (i := 570) (by decide +kernel)) (by decide +kernel)
theorem wd523 : (Jvm.Cond.lays "ShortVectorsModel" "ShortVectorsModel" "without" "I") ∈ utbl := u_mem (List.mem_of_getElem? (i := 572) (by decide +kernel)) (by decide +kernel)
theorem wd525 : (Jvm.Cond.lays "ShortVectorsModel" "ShortVectorsModel" "rows" "I") ∈ utbl := u_mem (List.mem_of_getElem? (i := 574) (by decide +kernel)) (by decide +kernel)
theorem wd527 : (Jvm.Cond.laysFinal "ShortVectorsModel" "ShortVectorsModel" "row" "[J") ∈ utbl := u_mem (List.mem_of_getElem? (i := 576) (by decide +kernel)) (by decide +kernel)
theorem wd529 : (Jvm.Cond.laysFinal "ShortVectorsModel" "ShortVectorsModel" "pivot" "[I") ∈ utbl := u_mem (List.mem_of_getElem? (i := 578) (by decide +kernel)) (by decide +kernel)
theorem wd531 : (Jvm.Cond.laysFinal "ShortVectorsModel" "ShortVectorsModel" "fresh" "[J") ∈ utbl := u_mem (List.mem_of_getElem? (i := 580) (by decide +kernel)) (by decide +kernel)
theorem wd533 : (Jvm.Cond.laysFinal "ShortVectorsModel" "ShortVectorsModel" "multiple" "[J") ∈ utbl := u_mem (List.mem_of_getElem? (i := 582) (by decide +kernel)) (by decide +kernel)
theorem wd535 : (Jvm.Cond.laysFinal "ShortVectorsModel" "ShortVectorsModel" "last" "[J") ∈ utbl := u_mem (List.mem_of_getElem? (i := 584) (by decide +kernel)) (by decide +kernel)
theorem wd537 : (Jvm.Cond.laysFinal "ShortVectorsModel" "ShortVectorsModel" "made" "[J") ∈ utbl := u_mem (List.mem_of_getElem? (i := 586) (by decide +kernel)) (by decide +kernel)
theorem wd539 : (Jvm.Cond.laysFinal "ShortVectorsModel" "ShortVectorsModel" "settled" "[J") ∈ utbl := u_mem (List.mem_of_getElem? (i := 588) (by decide +kernel)) (by decide +kernel)
theorem wd541 : (Jvm.Cond.laysFinal "ShortVectorsModel" "ShortVectorsModel" "point" "[J") ∈ utbl := u_mem (List.mem_of_getElem? (i := 590) (by decide +kernel)) (by decide +kernel)
theorem wd543 : (Jvm.Cond.lays "ShortVectorsModel" "ShortVectorsModel" "limit" "J") ∈ utbl := u_mem (List.mem_of_getElem? (i := 592) (by decide +kernel)) (by decide +kernel)
theorem wd545 : (Jvm.Cond.lays "ShortVectorsModel" "ShortVectorsModel" "mode" "I") ∈ utbl := u_mem (List.mem_of_getElem? (i := 594) (by decide +kernel)) (by decide +kernel)
theorem wd547 : (Jvm.Cond.lays "ShortVectorsModel" "ShortVectorsModel" "counted" "I") ∈ utbl := u_mem (List.mem_of_getElem? (i := 596) (by decide +kernel)) (by decide +kernel)
theorem wd549 : (Jvm.Cond.lays "ShortVectorsModel" "ShortVectorsModel" "listed" "Z") ∈ utbl := u_mem (List.mem_of_getElem? (i := 598) (by decide +kernel)) (by decide +kernel)
theorem wd551 : (Jvm.Cond.lays "ShortVectorsModel" "ShortVectorsModel" "held" "I") ∈ utbl := u_mem (List.mem_of_getElem? (i := 600) (by decide +kernel)) (by decide +kernel)
theorem wd553 : (Jvm.Cond.laysFinal "ShortVectorsModel" "ShortVectorsModel" "first" "[J") ∈ utbl := u_mem (List.mem_of_getElem? (i := 602) (by decide +kernel)) (by decide +kernel)
theorem wd555 : (Jvm.Cond.laysFinal "ShortVectorsModel" "ShortVectorsModel" "squares" "[J") ∈ utbl := u_mem (List.mem_of_getElem? (i := 604) (by decide +kernel)) (by decide +kernel)
theorem wd557 : (Jvm.Cond.lays "ShortVectorsModel" "ShortVectorsModel" "wanted" "I") ∈ utbl := u_mem (List.mem_of_getElem? (i := 606) (by decide +kernel)) (by decide +kernel)
theorem wd559 : (Jvm.Cond.lays "ShortVectorsModel" "ShortVectorsModel" "spanned" "I") ∈ utbl := u_mem (List.mem_of_getElem? (i := 608) (by decide +kernel)) (by decide +kernel)
theorem wd561 : (Jvm.Cond.laysFinal "ShortVectorsModel" "ShortVectorsModel" "span" "[J") ∈ utbl := u_mem (List.mem_of_getElem? (i := 610) (by decide +kernel)) (by decide +kernel)
theorem wd563 : (Jvm.Cond.laysFinal "ShortVectorsModel" "ShortVectorsModel" "minima" "[I") ∈ utbl := u_mem (List.mem_of_getElem? (i := 612) (by decide +kernel)) (by decide +kernel)
theorem wd565 : (Jvm.Cond.lays "ShortVectorsModel" "ShortVectorsModel" "measured" "Z") ∈ utbl := u_mem (List.mem_of_getElem? (i := 614) (by decide +kernel)) (by decide +kernel)
theorem wd567 : (Jvm.Cond.laysFinal "ShortVectorsModel" "ShortVectorsModel" "found" "[J") ∈ utbl := u_mem (List.mem_of_getElem? (i := 616) (by decide +kernel)) (by decide +kernel)
theorem wd569 : (Jvm.Cond.lays "ShortVectorsModel" "ShortVectorsModel" "any" "Z") ∈ utbl := u_mem (List.mem_of_getElem? (i := 618) (by decide +kernel)) (by decide +kernel)
theorem wd572 : (Jvm.Cond.methodLink "ShortVectorsLaw" (17 : Nat) ({ cls := "ShortVectorsModel", name := "add", desc := "(IIII)I" } : Jvm.MethodName)) ∈ utbl := u_mem (List.mem_of_getElem? (i := 621) (by decide +kernel)) (by decide +kernel)
theorem wd573 : (Jvm.Cond.instanceMethod ({ cls := "ShortVectorsModel", name := "add", desc := "(IIII)I" } : Jvm.MethodName)) ∈ utbl := u_mem (List.mem_of_getElem? (i := 622) (by decide +kernel)) (by decide +kernel)
theorem wd574 : (Jvm.Cond.selects "ShortVectorsModel" ({ cls := "ShortVectorsModel", name := "add", desc := "(IIII)I" } : Jvm.MethodName) ({ cls := "ShortVectorsModel", name := "add", desc := "(IIII)I" } : Jvm.MethodName)) ∈ utbl := u_mem (List.mem_of_getElem? (i := 623) (by decide +kernel)) (by decide +kernel)
theorem wd575 : (Jvm.Cond.code ({ cls := "ShortVectorsModel", name := "add", desc := "(IIII)I" } : Jvm.MethodName) prog_9_method_4_code (5 : Nat) (Option.some Jvm.ClassFile.FieldType.int)) ∈ utbl := u_mem (List.mem_of_getElem? (i := 624) (by decide +kernel)) (by decide +kernel)
theorem wd576 : (Jvm.Cond.methodLink "ShortVectorsModel" (63 : Nat) ({ cls := "ShortVectorsModel", name := "within", desc := "(IIIII)Z" } : Jvm.MethodName)) ∈ utbl := u_mem (List.mem_of_getElem? (i := 625) (by decide +kernel)) (by decide +kernel)
theorem wd577 : (Jvm.Cond.static ({ cls := "ShortVectorsModel", name := "within", desc := "(IIIII)Z" } : Jvm.MethodName)) ∈ utbl := u_mem (List.mem_of_getElem? (i := 626) (by decide +kernel)) (by decide +kernel)
theorem wd578 : (Jvm.Cond.code ({ cls := "ShortVectorsModel", name := "within", desc := "(IIIII)Z" } : Jvm.MethodName) prog_9_method_2_code (5 : Nat) (Option.some Jvm.ClassFile.FieldType.boolean)) ∈ utbl := u_mem (List.mem_of_getElem? (i := 627) (by decide +kernel)) (by decide +kernel)
theorem wd579 : (Jvm.Cond.methodLink "ShortVectorsModel" (71 : Nat) ({ cls := "ShortVectorsModel", name := "changed", desc := "()V" } : Jvm.MethodName)) ∈ utbl := u_mem (List.mem_of_getElem? (i := 628) (by decide +kernel)) (by decide +kernel)
theorem wd581 : (Jvm.Cond.instanceMethod ({ cls := "ShortVectorsModel", name := "changed", desc := "()V" } : Jvm.MethodName)) ∈ utbl := u_mem (List.mem_of_getElem? (i := 630) (by decide +kernel)) (by decide +kernel)
theorem wd582 : (Jvm.Cond.code ({ cls := "ShortVectorsModel", name := "changed", desc := "()V" } : Jvm.MethodName) prog_9_method_3_code (1 : Nat) (Option.none : Option Jvm.ClassFile.FieldType)) ∈ utbl := u_mem (List.mem_of_getElem? (i := 631) (by decide +kernel)) (by decide +kernel)
theorem wd583 : (Jvm.Cond.methodLink "ShortVectorsLaw" (22 : Nat) ({ cls := "ShortVectorsModel", name := "drop", desc := "()Z" } : Jvm.MethodName)) ∈ utbl := u_mem (List.mem_of_getElem? (i := 632) (by decide +kernel)) (by decide +kernel)
theorem wd584 : (Jvm.Cond.instanceMethod ({ cls := "ShortVectorsModel", name := "drop", desc := "()Z" } : Jvm.MethodName)) ∈ utbl := u_mem (List.mem_of_getElem? (i := 633) (by decide +kernel)) (by decide +kernel)
theorem wd585 : (Jvm.Cond.selects "ShortVectorsModel" ({ cls := "ShortVectorsModel", name := "drop", desc := "()Z" } : Jvm.MethodName) ({ cls := "ShortVectorsModel", name := "drop", desc := "()Z" } : Jvm.MethodName)) ∈ utbl := u_mem (List.mem_of_getElem? (i := 634) (by decide +kernel)) (by decide +kernel)
theorem wd586 : (Jvm.Cond.code ({ cls := "ShortVectorsModel", name := "drop", desc := "()Z" } : Jvm.MethodName) prog_9_method_5_code (1 : Nat) (Option.some Jvm.ClassFile.FieldType.boolean)) ∈ utbl := u_mem (List.mem_of_getElem? (i := 635) (by decide +kernel)) (by decide +kernel)
theorem wd587 : (Jvm.Cond.methodLink "ShortVectorsLaw" (27 : Nat) ({ cls := "ShortVectorsModel", name := "generators", desc := "()I" } : Jvm.MethodName)) ∈ utbl := u_mem (List.mem_of_getElem? (i := 636) (by decide +kernel)) (by decide +kernel)
theorem wd588 : (Jvm.Cond.instanceMethod ({ cls := "ShortVectorsModel", name := "generators", desc := "()I" } : Jvm.MethodName)) ∈ utbl := u_mem (List.mem_of_getElem? (i := 637) (by decide +kernel)) (by decide +kernel)
theorem wd589 : (Jvm.Cond.selects "ShortVectorsModel" ({ cls := "ShortVectorsModel", name := "generators", desc := "()I" } : Jvm.MethodName) ({ cls := "ShortVectorsModel", name := "generators", desc := "()I" } : Jvm.MethodName)) ∈ utbl := u_mem (List.mem_of_getElem? (i := 638) (by decide +kernel)) (by decide +kernel)
theorem wd590 : (Jvm.Cond.code ({ cls := "ShortVectorsModel", name := "generators", desc := "()I" } : Jvm.MethodName) prog_9_method_6_code (1 : Nat) (Option.some Jvm.ClassFile.FieldType.int)) ∈ utbl := u_mem (List.mem_of_getElem? (i := 639) (by decide +kernel)) (by decide +kernel)
theorem wd591 : (Jvm.Cond.methodLink "ShortVectorsLaw" (31 : Nat) ({ cls := "ShortVectorsModel", name := "rank", desc := "()I" } : Jvm.MethodName)) ∈ utbl := u_mem (List.mem_of_getElem? (i := 640) (by decide +kernel)) (by decide +kernel)
theorem wd592 : (Jvm.Cond.instanceMethod ({ cls := "ShortVectorsModel", name := "rank", desc := "()I" } : Jvm.MethodName)) ∈ utbl := u_mem (List.mem_of_getElem? (i := 641) (by decide +kernel)) (by decide +kernel)
theorem wd593 : (Jvm.Cond.selects "ShortVectorsModel" ({ cls := "ShortVectorsModel", name := "rank", desc := "()I" } : Jvm.MethodName) ({ cls := "ShortVectorsModel", name := "rank", desc := "()I" } : Jvm.MethodName)) ∈ utbl := u_mem (List.mem_of_getElem? (i := 642) (by decide +kernel)) (by decide +kernel)
theorem wd594 : (Jvm.Cond.code ({ cls := "ShortVectorsModel", name := "rank", desc := "()I" } : Jvm.MethodName) prog_9_method_18_code (1 : Nat) (Option.some Jvm.ClassFile.FieldType.int)) ∈ utbl := u_mem (List.mem_of_getElem? (i := 643) (by decide +kernel)) (by decide +kernel)
theorem wd595 : (Jvm.Cond.methodLink "ShortVectorsModel" (107 : Nat) ({ cls := "ShortVectorsModel", name := "look", desc := "(I)V" } : Jvm.MethodName)) ∈ utbl := u_mem (List.mem_of_getElem? (i := 644) (by decide +kernel)) (by decide +kernel)
theorem wd597 : (Jvm.Cond.instanceMethod ({ cls := "ShortVectorsModel", name := "look", desc := "(I)V" } : Jvm.MethodName)) ∈ utbl := u_mem (List.mem_of_getElem? (i := 646) (by decide +kernel)) (by decide +kernel)
theorem wd598 : (Jvm.Cond.code ({ cls := "ShortVectorsModel", name := "look", desc := "(I)V" } : Jvm.MethodName) prog_9_method_14_code (4 : Nat) (Option.none : Option Jvm.ClassFile.FieldType)) ∈ utbl := u_mem (List.mem_of_getElem? (i := 647) (by decide +kernel)) (by decide +kernel)
theorem wd599 : (Jvm.Cond.methodLink "ShortVectorsModel" (101 : Nat) ({ cls := "ShortVectorsModel", name := "enter", desc := "()V" } : Jvm.MethodName)) ∈ utbl := u_mem (List.mem_of_getElem? (i := 648) (by decide +kernel)) (by decide +kernel)
theorem wd601 : (Jvm.Cond.instanceMethod ({ cls := "ShortVectorsModel", name := "enter", desc := "()V" } : Jvm.MethodName)) ∈ utbl := u_mem (List.mem_of_getElem? (i := 650) (by decide +kernel)) (by decide +kernel)
theorem wd602 : (Jvm.Cond.code ({ cls := "ShortVectorsModel", name := "enter", desc := "()V" } : Jvm.MethodName) prog_9_method_13_code (3 : Nat) (Option.none : Option Jvm.ClassFile.FieldType)) ∈ utbl := u_mem (List.mem_of_getElem? (i := 651) (by decide +kernel)) (by decide +kernel)
theorem wd603 : (Jvm.Cond.methodLink "ShortVectorsModel" (77 : Nat) ({ cls := "ShortVectorsModel", name := "rowAt", desc := "(I)I" } : Jvm.MethodName)) ∈ utbl := u_mem (List.mem_of_getElem? (i := 652) (by decide +kernel)) (by decide +kernel)
theorem wd605 : (Jvm.Cond.instanceMethod ({ cls := "ShortVectorsModel", name := "rowAt", desc := "(I)I" } : Jvm.MethodName)) ∈ utbl := u_mem (List.mem_of_getElem? (i := 654) (by decide +kernel)) (by decide +kernel)
theorem wd606 : (Jvm.Cond.code ({ cls := "ShortVectorsModel", name := "rowAt", desc := "(I)I" } : Jvm.MethodName) prog_9_method_8_code (4 : Nat) (Option.some Jvm.ClassFile.FieldType.int)) ∈ utbl := u_mem (List.mem_of_getElem? (i := 655) (by decide +kernel)) (by decide +kernel)
theorem wd607 : (Jvm.Cond.methodLink "ShortVectorsModel" (89 : Nat) ({ cls := "ShortVectorsModel", name := "tidy", desc := "(I)V" } : Jvm.MethodName)) ∈ utbl := u_mem (List.mem_of_getElem? (i := 656) (by decide +kernel)) (by decide +kernel)
theorem wd609 : (Jvm.Cond.instanceMethod ({ cls := "ShortVectorsModel", name := "tidy", desc := "(I)V" } : Jvm.MethodName)) ∈ utbl := u_mem (List.mem_of_getElem? (i := 658) (by decide +kernel)) (by decide +kernel)
theorem wd610 : (Jvm.Cond.code ({ cls := "ShortVectorsModel", name := "tidy", desc := "(I)V" } : Jvm.MethodName) prog_9_method_9_code (7 : Nat) (Option.none : Option Jvm.ClassFile.FieldType)) ∈ utbl := u_mem (List.mem_of_getElem? (i := 659) (by decide +kernel)) (by decide +kernel)
theorem wd611 : (Jvm.Cond.methodLink "ShortVectorsModel" (81 : Nat) ({ cls := "ShortVectorsModel", name := "under", desc := "(JJ)J" } : Jvm.MethodName)) ∈ utbl := u_mem (List.mem_of_getElem? (i := 660) (by decide +kernel)) (by decide +kernel)
theorem wd612 : (Jvm.Cond.static ({ cls := "ShortVectorsModel", name := "under", desc := "(JJ)J" } : Jvm.MethodName)) ∈ utbl := u_mem (List.mem_of_getElem? (i := 661) (by decide +kernel)) (by decide +kernel)
theorem wd613 : (Jvm.Cond.code ({ cls := "ShortVectorsModel", name := "under", desc := "(JJ)J" } : Jvm.MethodName) prog_9_method_7_code (6 : Nat) (Option.some Jvm.ClassFile.FieldType.long)) ∈ utbl := u_mem (List.mem_of_getElem? (i := 662) (by decide +kernel)) (by decide +kernel)
theorem wd614 : (Jvm.Cond.methodLink "ShortVectorsModel" (92 : Nat) ({ cls := "ShortVectorsModel", name := "insert", desc := "(I)V" } : Jvm.MethodName)) ∈ utbl := u_mem (List.mem_of_getElem? (i := 663) (by decide +kernel)) (by decide +kernel)
theorem wd616 : (Jvm.Cond.instanceMethod ({ cls := "ShortVectorsModel", name := "insert", desc := "(I)V" } : Jvm.MethodName)) ∈ utbl := u_mem (List.mem_of_getElem? (i := 665) (by decide +kernel)) (by decide +kernel)
theorem wd617 : (Jvm.Cond.code ({ cls := "ShortVectorsModel", name := "insert", desc := "(I)V" } : Jvm.MethodName) prog_9_method_12_code (4 : Nat) (Option.none : Option Jvm.ClassFile.FieldType)) ∈ utbl := u_mem (List.mem_of_getElem? (i := 666) (by decide +kernel)) (by decide +kernel)
theorem wd618 : (Jvm.Cond.methodLink "ShortVectorsModel" (95 : Nat) ({ cls := "ShortVectorsModel", name := "divide", desc := "(I)V" } : Jvm.MethodName)) ∈ utbl := u_mem (List.mem_of_getElem? (i := 667) (by decide +kernel)) (by decide +kernel)
theorem wd620 : (Jvm.Cond.instanceMethod ({ cls := "ShortVectorsModel", name := "divide", desc := "(I)V" } : Jvm.MethodName)) ∈ utbl := u_mem (List.mem_of_getElem? (i := 669) (by decide +kernel)) (by decide +kernel)
theorem wd621 : (Jvm.Cond.code ({ cls := "ShortVectorsModel", name := "divide", desc := "(I)V" } : Jvm.MethodName) prog_9_method_11_code (6 : Nat) (Option.none : Option Jvm.ClassFile.FieldType)) ∈ utbl := u_mem (List.mem_of_getElem? (i := 670) (by decide +kernel)) (by decide +kernel)
theorem wd622 : (Jvm.Cond.methodLink "ShortVectorsModel" (85 : Nat) ({ cls := "ShortVectorsModel", name := "swap", desc := "(I)V" } : Jvm.MethodName)) ∈ utbl := u_mem (List.mem_of_getElem? (i := 671) (by decide +kernel)) (by decide +kernel)
theorem wd624 : (Jvm.Cond.instanceMethod ({ cls := "ShortVectorsModel", name := "swap", desc := "(I)V" } : Jvm.MethodName)) ∈ utbl := u_mem (List.mem_of_getElem? (i := 673) (by decide +kernel)) (by decide +kernel)
theorem wd625 : (Jvm.Cond.code ({ cls := "ShortVectorsModel", name := "swap", desc := "(I)V" } : Jvm.MethodName) prog_9_method_10_code (5 : Nat) (Option.none : Option Jvm.ClassFile.FieldType)) ∈ utbl := u_mem (List.mem_of_getElem? (i := 674) (by decide +kernel)) (by decide +kernel)
theorem wd626 : (Jvm.Cond.methodLink "ShortVectorsLaw" (36 : Nat) ({ cls := "ShortVectorsModel", name := "volume", desc := "()J" } : Jvm.MethodName)) ∈ utbl := u_mem (List.mem_of_getElem? (i := 675) (by decide +kernel)) (by decide +kernel)
theorem wd627 : (Jvm.Cond.instanceMethod ({ cls := "ShortVectorsModel", name := "volume", desc := "()J" } : Jvm.MethodName)) ∈ utbl := u_mem (List.mem_of_getElem? (i := 676) (by decide +kernel)) (by decide +kernel)
theorem wd628 : (Jvm.Cond.selects "ShortVectorsModel" ({ cls := "ShortVectorsModel", name := "volume", desc := "()J" } : Jvm.MethodName) ({ cls := "ShortVectorsModel", name := "volume", desc := "()J" } : Jvm.MethodName)) ∈ utbl := u_mem (List.mem_of_getElem? (i := 677) (by decide +kernel)) (by decide +kernel)
theorem wd629 : (Jvm.Cond.code ({ cls := "ShortVectorsModel", name := "volume", desc := "()J" } : Jvm.MethodName) prog_9_method_21_code (6 : Nat) (Option.some Jvm.ClassFile.FieldType.long)) ∈ utbl := u_mem (List.mem_of_getElem? (i := 678) (by decide +kernel)) (by decide +kernel)
theorem wd630 : (Jvm.Cond.methodLink "ShortVectorsModel" (110 : Nat) ({ cls := "ShortVectorsModel", name := "two", desc := "(IIII)J" } : Jvm.MethodName)) ∈ utbl := u_mem (List.mem_of_getElem? (i := 679) (by decide +kernel)) (by decide +kernel)
theorem wd632 : (Jvm.Cond.instanceMethod ({ cls := "ShortVectorsModel", name := "two", desc := "(IIII)J" } : Jvm.MethodName)) ∈ utbl := u_mem (List.mem_of_getElem? (i := 681) (by decide +kernel)) (by decide +kernel)
theorem wd633 : (Jvm.Cond.code ({ cls := "ShortVectorsModel", name := "two", desc := "(IIII)J" } : Jvm.MethodName) prog_9_method_19_code (5 : Nat) (Option.some Jvm.ClassFile.FieldType.long)) ∈ utbl := u_mem (List.mem_of_getElem? (i := 682) (by decide +kernel)) (by decide +kernel)
theorem wd634 : (Jvm.Cond.methodLink "ShortVectorsModel" (114 : Nat) ({ cls := "ShortVectorsModel", name := "three", desc := "(III)J" } : Jvm.MethodName)) ∈ utbl := u_mem (List.mem_of_getElem? (i := 683) (by decide +kernel)) (by decide +kernel)
theorem wd636 : (Jvm.Cond.instanceMethod ({ cls := "ShortVectorsModel", name := "three", desc := "(III)J" } : Jvm.MethodName)) ∈ utbl := u_mem (List.mem_of_getElem? (i := 685) (by decide +kernel)) (by decide +kernel)
theorem wd637 : (Jvm.Cond.code ({ cls := "ShortVectorsModel", name := "three", desc := "(III)J" } : Jvm.MethodName) prog_9_method_20_code (4 : Nat) (Option.some Jvm.ClassFile.FieldType.long)) ∈ utbl := u_mem (List.mem_of_getElem? (i := 686) (by decide +kernel)) (by decide +kernel)
theorem wd638 : (Jvm.Cond.methodLink "ShortVectorsLaw" (41 : Nat) ({ cls := "ShortVectorsModel", name := "spare", desc := "(I)Z" } : Jvm.MethodName)) ∈ utbl := u_mem (List.mem_of_getElem? (i := 687) (by decide +kernel)) (by decide +kernel)
theorem wd639 : (Jvm.Cond.instanceMethod ({ cls := "ShortVectorsModel", name := "spare", desc := "(I)Z" } : Jvm.MethodName)) ∈ utbl := u_mem (List.mem_of_getElem? (i := 688) (by decide +kernel)) (by decide +kernel)
theorem wd640 : (Jvm.Cond.selects "ShortVectorsModel" ({ cls := "ShortVectorsModel", name := "spare", desc := "(I)Z" } : Jvm.MethodName) ({ cls := "ShortVectorsModel", name := "spare", desc := "(I)Z" } : Jvm.MethodName)) ∈ utbl := u_mem (List.mem_of_getElem? (i := 689) (by decide +kernel)) (by decide +kernel)
theorem wd641 : (Jvm.Cond.code ({ cls := "ShortVectorsModel", name := "spare", desc := "(I)Z" } : Jvm.MethodName) prog_9_method_22_code (2 : Nat) (Option.some Jvm.ClassFile.FieldType.boolean)) ∈ utbl := u_mem (List.mem_of_getElem? (i := 690) (by decide +kernel)) (by decide +kernel)
theorem wd642 : (Jvm.Cond.methodLink "ShortVectorsModel" (118 : Nat) ({ cls := "ShortVectorsModel", name := "set", desc := "(IIII)V" } : Jvm.MethodName)) ∈ utbl := u_mem (List.mem_of_getElem? (i := 691) (by decide +kernel)) (by decide +kernel)
theorem wd644 : (Jvm.Cond.instanceMethod ({ cls := "ShortVectorsModel", name := "set", desc := "(IIII)V" } : Jvm.MethodName)) ∈ utbl := u_mem (List.mem_of_getElem? (i := 693) (by decide +kernel)) (by decide +kernel)
theorem wd645 : (Jvm.Cond.code ({ cls := "ShortVectorsModel", name := "set", desc := "(IIII)V" } : Jvm.MethodName) prog_9_method_17_code (5 : Nat) (Option.none : Option Jvm.ClassFile.FieldType)) ∈ utbl := u_mem (List.mem_of_getElem? (i := 694) (by decide +kernel)) (by decide +kernel)
theorem wd646 : (Jvm.Cond.methodLink "ShortVectorsModel" (122 : Nat) ({ cls := "ShortVectorsModel", name := "times", desc := "()J" } : Jvm.MethodName)) ∈ utbl := u_mem (List.mem_of_getElem? (i := 695) (by decide +kernel)) (by decide +kernel)
theorem wd648 : (Jvm.Cond.instanceMethod ({ cls := "ShortVectorsModel", name := "times", desc := "()J" } : Jvm.MethodName)) ∈ utbl := u_mem (List.mem_of_getElem? (i := 697) (by decide +kernel)) (by decide +kernel)
theorem wd649 : (Jvm.Cond.code ({ cls := "ShortVectorsModel", name := "times", desc := "()J" } : Jvm.MethodName) prog_9_method_15_code (12 : Nat) (Option.some Jvm.ClassFile.FieldType.long)) ∈ utbl := u_mem (List.mem_of_getElem? (i := 698) (by decide +kernel)) (by decide +kernel)
theorem wd650 : (Jvm.Cond.methodLink "ShortVectorsModel" (104 : Nat) ({ cls := "ShortVectorsModel", name := "common", desc := "(JJ)J" } : Jvm.MethodName)) ∈ utbl := u_mem (List.mem_of_getElem? (i := 699) (by decide +kernel)) (by decide +kernel)
theorem wd651 : (Jvm.Cond.static ({ cls := "ShortVectorsModel", name := "common", desc := "(JJ)J" } : Jvm.MethodName)) ∈ utbl := u_mem (List.mem_of_getElem? (i := 700) (by decide +kernel)) (by decide +kernel)
theorem wd652 : (Jvm.Cond.code ({ cls := "ShortVectorsModel", name := "common", desc := "(JJ)J" } : Jvm.MethodName) prog_9_method_16_code (10 : Nat) (Option.some Jvm.ClassFile.FieldType.long)) ∈ utbl := u_mem (List.mem_of_getElem? (i := 701) (by decide +kernel)) (by decide +kernel)
theorem wd653 : (Jvm.Cond.methodLink "ShortVectorsLaw" (46 : Nat) ({ cls := "ShortVectorsModel", name := "has", desc := "(IIII)Z" } : Jvm.MethodName)) ∈ utbl := u_mem (List.mem_of_getElem? (i := 702) (by decide +kernel)) (by decide +kernel)
theorem wd654 : (Jvm.Cond.instanceMethod ({ cls := "ShortVectorsModel", name := "has", desc := "(IIII)Z" } : Jvm.MethodName)) ∈ utbl := u_mem (List.mem_of_getElem? (i := 703) (by decide +kernel)) (by decide +kernel)
theorem wd655 : (Jvm.Cond.selects "ShortVectorsModel" ({ cls := "ShortVectorsModel", name := "has", desc := "(IIII)Z" } : Jvm.MethodName) ({ cls := "ShortVectorsModel", name := "has", desc := "(IIII)Z" } : Jvm.MethodName)) ∈ utbl := u_mem (List.mem_of_getElem? (i := 704) (by decide +kernel)) (by decide +kernel)
theorem wd656 : (Jvm.Cond.code ({ cls := "ShortVectorsModel", name := "has", desc := "(IIII)Z" } : Jvm.MethodName) prog_9_method_23_code (5 : Nat) (Option.some Jvm.ClassFile.FieldType.boolean)) ∈ utbl := u_mem (List.mem_of_getElem? (i := 705) (by decide +kernel)) (by decide +kernel)
theorem wd657 : (Jvm.Cond.methodLink "ShortVectorsLaw" (51 : Nat) ({ cls := "ShortVectorsModel", name := "order", desc := "(IIII)J" } : Jvm.MethodName)) ∈ utbl := u_mem (List.mem_of_getElem? (i := 706) (by decide +kernel)) (by decide +kernel)
theorem wd658 : (Jvm.Cond.instanceMethod ({ cls := "ShortVectorsModel", name := "order", desc := "(IIII)J" } : Jvm.MethodName)) ∈ utbl := u_mem (List.mem_of_getElem? (i := 707) (by decide +kernel)) (by decide +kernel)
theorem wd659 : (Jvm.Cond.selects "ShortVectorsModel" ({ cls := "ShortVectorsModel", name := "order", desc := "(IIII)J" } : Jvm.MethodName) ({ cls := "ShortVectorsModel", name := "order", desc := "(IIII)J" } : Jvm.MethodName)) ∈ utbl := u_mem (List.mem_of_getElem? (i := 708) (by decide +kernel)) (by decide +kernel)
theorem wd660 : (Jvm.Cond.code ({ cls := "ShortVectorsModel", name := "order", desc := "(IIII)J" } : Jvm.MethodName) prog_9_method_24_code (5 : Nat) (Option.some Jvm.ClassFile.FieldType.long)) ∈ utbl := u_mem (List.mem_of_getElem? (i := 709) (by decide +kernel)) (by decide +kernel)
theorem wd661 : (Jvm.Cond.constantLong "ShortVectorsModel" (126 : Nat) (-1 : Int64)) ∈ utbl := u_mem (List.mem_of_getElem? (i := 710) (by decide +kernel)) (by decide +kernel)
theorem wd662 : (Jvm.Cond.methodLink "ShortVectorsLaw" (60 : Nat) ({ cls := "ShortVectorsModel", name := "count", desc := "(I)I" } : Jvm.MethodName)) ∈ utbl := u_mem (List.mem_of_getElem? (i := 711) (by decide +kernel)) (by decide +kernel)
theorem wd663 : (Jvm.Cond.instanceMethod ({ cls := "ShortVectorsModel", name := "count", desc := "(I)I" } : Jvm.MethodName)) ∈ utbl := u_mem (List.mem_of_getElem? (i := 712) (by decide +kernel)) (by decide +kernel)
theorem wd664 : (Jvm.Cond.selects "ShortVectorsModel" ({ cls := "ShortVectorsModel", name := "count", desc := "(I)I" } : Jvm.MethodName) ({ cls := "ShortVectorsModel", name := "count", desc := "(I)I" } : Jvm.MethodName)) ∈ utbl := u_mem (List.mem_of_getElem? (i := 713) (by decide +kernel)) (by decide +kernel)
theorem wd665 : (Jvm.Cond.code ({ cls := "ShortVectorsModel", name := "count", desc := "(I)I" } : Jvm.MethodName) prog_9_method_34_code (2 : Nat) (Option.some Jvm.ClassFile.FieldType.int)) ∈ utbl := u_mem (List.mem_of_getElem? (i := 714) (by decide +kernel)) (by decide +kernel)
theorem wd666 : (Jvm.Cond.methodLink "ShortVectorsModel" (181 : Nat) ({ cls := "ShortVectorsModel", name := "origin", desc := "()V" } : Jvm.MethodName)) ∈ utbl := u_mem (List.mem_of_getElem? (i := 715) (by decide +kernel)) (by decide +kernel)
theorem wd668 : (Jvm.Cond.instanceMethod ({ cls := "ShortVectorsModel", name := "origin", desc := "()V" } : Jvm.MethodName)) ∈ utbl := u_mem (List.mem_of_getElem? (i := 717) (by decide +kernel)) (by decide +kernel)
theorem wd669 : (Jvm.Cond.code ({ cls := "ShortVectorsModel", name := "origin", desc := "()V" } : Jvm.MethodName) prog_9_method_33_code (2 : Nat) (Option.none : Option Jvm.ClassFile.FieldType)) ∈ utbl := u_mem (List.mem_of_getElem? (i := 718) (by decide +kernel)) (by decide +kernel)
theorem wd670 : (Jvm.Cond.methodLink "ShortVectorsModel" (184 : Nat) ({ cls := "ShortVectorsModel", name := "walk", desc := "(IJ)V" } : Jvm.MethodName)) ∈ utbl := u_mem (List.mem_of_getElem? (i := 719) (by decide +kernel)) (by decide +kernel)
theorem wd672 : (Jvm.Cond.instanceMethod ({ cls := "ShortVectorsModel", name := "walk", desc := "(IJ)V" } : Jvm.MethodName)) ∈ utbl := u_mem (List.mem_of_getElem? (i := 721) (by decide +kernel)) (by decide +kernel)
theorem wd673 : (Jvm.Cond.code ({ cls := "ShortVectorsModel", name := "walk", desc := "(IJ)V" } : Jvm.MethodName) prog_9_method_31_code (5 : Nat) (Option.none : Option Jvm.ClassFile.FieldType)) ∈ utbl := u_mem (List.mem_of_getElem? (i := 722) (by decide +kernel)) (by decide +kernel)
theorem wd674 : (Jvm.Cond.methodLink "ShortVectorsModel" (140 : Nat) ({ cls := "ShortVectorsModel", name := "open", desc := "(I)I" } : Jvm.MethodName)) ∈ utbl := u_mem (List.mem_of_getElem? (i := 723) (by decide +kernel)) (by decide +kernel)
theorem wd676 : (Jvm.Cond.instanceMethod ({ cls := "ShortVectorsModel", name := "open", desc := "(I)I" } : Jvm.MethodName)) ∈ utbl := u_mem (List.mem_of_getElem? (i := 725) (by decide +kernel)) (by decide +kernel)
theorem wd677 : (Jvm.Cond.code ({ cls := "ShortVectorsModel", name := "open", desc := "(I)I" } : Jvm.MethodName) prog_9_method_27_code (2 : Nat) (Option.some Jvm.ClassFile.FieldType.int)) ∈ utbl := u_mem (List.mem_of_getElem? (i := 726) (by decide +kernel)) (by decide +kernel)
theorem wd678 : (Jvm.Cond.methodLink "ShortVectorsModel" (155 : Nat) ({ cls := "ShortVectorsModel", name := "visit", desc := "(IJ)V" } : Jvm.MethodName)) ∈ utbl := u_mem (List.mem_of_getElem? (i := 727) (by decide +kernel)) (by decide +kernel)
theorem wd680 : (Jvm.Cond.instanceMethod ({ cls := "ShortVectorsModel", name := "visit", desc := "(IJ)V" } : Jvm.MethodName)) ∈ utbl := u_mem (List.mem_of_getElem? (i := 729) (by decide +kernel)) (by decide +kernel)
theorem wd681 : (Jvm.Cond.code ({ cls := "ShortVectorsModel", name := "visit", desc := "(IJ)V" } : Jvm.MethodName) prog_9_method_32_code (4 : Nat) (Option.none : Option Jvm.ClassFile.FieldType)) ∈ utbl := u_mem (List.mem_of_getElem? (i := 730) (by decide +kernel)) (by decide +kernel)
theorem wd682 : (Jvm.Cond.methodLink "ShortVectorsModel" (172 : Nat) ({ cls := "ShortVectorsModel", name := "sortIn", desc := "(IJ)V" } : Jvm.MethodName)) ∈ utbl := u_mem (List.mem_of_getElem? (i := 731) (by decide +kernel)) (by decide +kernel)
theorem wd684 : (Jvm.Cond.instanceMethod ({ cls := "ShortVectorsModel", name := "sortIn", desc := "(IJ)V" } : Jvm.MethodName)) ∈ utbl := u_mem (List.mem_of_getElem? (i := 733) (by decide +kernel)) (by decide +kernel)
theorem wd685 : (Jvm.Cond.code ({ cls := "ShortVectorsModel", name := "sortIn", desc := "(IJ)V" } : Jvm.MethodName) prog_9_method_36_code (6 : Nat) (Option.none : Option Jvm.ClassFile.FieldType)) ∈ utbl := u_mem (List.mem_of_getElem? (i := 734) (by decide +kernel)) (by decide +kernel)
theorem wd686 : (Jvm.Cond.methodLink "ShortVectorsModel" (190 : Nat) ({ cls := "ShortVectorsModel", name := "before", desc := "(IJI)Z" } : Jvm.MethodName)) ∈ utbl := u_mem (List.mem_of_getElem? (i := 735) (by decide +kernel)) (by decide +kernel)
theorem wd688 : (Jvm.Cond.instanceMethod ({ cls := "ShortVectorsModel", name := "before", desc := "(IJI)Z" } : Jvm.MethodName)) ∈ utbl := u_mem (List.mem_of_getElem? (i := 737) (by decide +kernel)) (by decide +kernel)
theorem wd689 : (Jvm.Cond.code ({ cls := "ShortVectorsModel", name := "before", desc := "(IJI)Z" } : Jvm.MethodName) prog_9_method_35_code (6 : Nat) (Option.some Jvm.ClassFile.FieldType.boolean)) ∈ utbl := u_mem (List.mem_of_getElem? (i := 738) (by decide +kernel)) (by decide +kernel)
theorem wd690 : (Jvm.Cond.methodLink "ShortVectorsModel" (175 : Nat) ({ cls := "ShortVectorsModel", name := "extend", desc := "(I)V" } : Jvm.MethodName)) ∈ utbl := u_mem (List.mem_of_getElem? (i := 739) (by decide +kernel)) (by decide +kernel)
theorem wd692 : (Jvm.Cond.instanceMethod ({ cls := "ShortVectorsModel", name := "extend", desc := "(I)V" } : Jvm.MethodName)) ∈ utbl := u_mem (List.mem_of_getElem? (i := 741) (by decide +kernel)) (by decide +kernel)
theorem wd693 : (Jvm.Cond.code ({ cls := "ShortVectorsModel", name := "extend", desc := "(I)V" } : Jvm.MethodName) prog_9_method_39_code (9 : Nat) (Option.none : Option Jvm.ClassFile.FieldType)) ∈ utbl := u_mem (List.mem_of_getElem? (i := 742) (by decide +kernel)) (by decide +kernel)
theorem wd694 : (Jvm.Cond.methodLink "ShortVectorsModel" (197 : Nat) ({ cls := "ShortVectorsModel", name := "lead", desc := "(I)I" } : Jvm.MethodName)) ∈ utbl := u_mem (List.mem_of_getElem? (i := 743) (by decide +kernel)) (by decide +kernel)
theorem wd696 : (Jvm.Cond.instanceMethod ({ cls := "ShortVectorsModel", name := "lead", desc := "(I)I" } : Jvm.MethodName)) ∈ utbl := u_mem (List.mem_of_getElem? (i := 745) (by decide +kernel)) (by decide +kernel)
theorem wd697 : (Jvm.Cond.code ({ cls := "ShortVectorsModel", name := "lead", desc := "(I)I" } : Jvm.MethodName) prog_9_method_40_code (3 : Nat) (Option.some Jvm.ClassFile.FieldType.int)) ∈ utbl := u_mem (List.mem_of_getElem? (i := 746) (by decide +kernel)) (by decide +kernel)
theorem wd698 : (Jvm.Cond.methodLink "ShortVectorsModel" (200 : Nat) ({ cls := "ShortVectorsModel", name := "shrink", desc := "()V" } : Jvm.MethodName)) ∈ utbl := u_mem (List.mem_of_getElem? (i := 747) (by decide +kernel)) (by decide +kernel)
theorem wd700 : (Jvm.Cond.instanceMethod ({ cls := "ShortVectorsModel", name := "shrink", desc := "()V" } : Jvm.MethodName)) ∈ utbl := u_mem (List.mem_of_getElem? (i := 749) (by decide +kernel)) (by decide +kernel)
theorem wd701 : (Jvm.Cond.code ({ cls := "ShortVectorsModel", name := "shrink", desc := "()V" } : Jvm.MethodName) prog_9_method_41_code (4 : Nat) (Option.none : Option Jvm.ClassFile.FieldType)) ∈ utbl := u_mem (List.mem_of_getElem? (i := 750) (by decide +kernel)) (by decide +kernel)
theorem wd702 : (Jvm.Cond.methodLink "ShortVectorsModel" (178 : Nat) ({ cls := "ShortVectorsModel", name := "compare", desc := "(IJ)V" } : Jvm.MethodName)) ∈ utbl := u_mem (List.mem_of_getElem? (i := 751) (by decide +kernel)) (by decide +kernel)
theorem wd704 : (Jvm.Cond.instanceMethod ({ cls := "ShortVectorsModel", name := "compare", desc := "(IJ)V" } : Jvm.MethodName)) ∈ utbl := u_mem (List.mem_of_getElem? (i := 753) (by decide +kernel)) (by decide +kernel)
theorem wd705 : (Jvm.Cond.code ({ cls := "ShortVectorsModel", name := "compare", desc := "(IJ)V" } : Jvm.MethodName) prog_9_method_45_code (6 : Nat) (Option.none : Option Jvm.ClassFile.FieldType)) ∈ utbl := u_mem (List.mem_of_getElem? (i := 754) (by decide +kernel)) (by decide +kernel)
theorem wd706 : (Jvm.Cond.methodLink "ShortVectorsModel" (163 : Nat) ({ cls := "ShortVectorsModel", name := "finish", desc := "(I)V" } : Jvm.MethodName)) ∈ utbl := u_mem (List.mem_of_getElem? (i := 755) (by decide +kernel)) (by decide +kernel)
theorem wd708 : (Jvm.Cond.instanceMethod ({ cls := "ShortVectorsModel", name := "finish", desc := "(I)V" } : Jvm.MethodName)) ∈ utbl := u_mem (List.mem_of_getElem? (i := 757) (by decide +kernel)) (by decide +kernel)
theorem wd709 : (Jvm.Cond.code ({ cls := "ShortVectorsModel", name := "finish", desc := "(I)V" } : Jvm.MethodName) prog_9_method_30_code (8 : Nat) (Option.none : Option Jvm.ClassFile.FieldType)) ∈ utbl := u_mem (List.mem_of_getElem? (i := 758) (by decide +kernel)) (by decide +kernel)
theorem wd710 : (Jvm.Cond.constantLong "ShortVectorsModel" (130 : Nat) (2 : Int64)) ∈ utbl := u_mem (List.mem_of_getElem? (i := 759) (by decide +kernel)) (by decide +kernel)
theorem wd711 : (Jvm.Cond.methodLink "ShortVectorsModel" (159 : Nat) ({ cls := "ShortVectorsModel", name := "along", desc := "(IJJ)V" } : Jvm.MethodName)) ∈ utbl := u_mem (List.mem_of_getElem? (i := 760) (by decide +kernel)) (by decide +kernel)
theorem wd713 : (Jvm.Cond.instanceMethod ({ cls := "ShortVectorsModel", name := "along", desc := "(IJJ)V" } : Jvm.MethodName)) ∈ utbl := u_mem (List.mem_of_getElem? (i := 762) (by decide +kernel)) (by decide +kernel)
theorem wd714 : (Jvm.Cond.code ({ cls := "ShortVectorsModel", name := "along", desc := "(IJJ)V" } : Jvm.MethodName) prog_9_method_29_code (6 : Nat) (Option.none : Option Jvm.ClassFile.FieldType)) ∈ utbl := u_mem (List.mem_of_getElem? (i := 763) (by decide +kernel)) (by decide +kernel)
theorem wd715 : (Jvm.Cond.methodLink "ShortVectorsModel" (143 : Nat) ({ cls := "ShortVectorsModel", name := "take", desc := "(I)V" } : Jvm.MethodName)) ∈ utbl := u_mem (List.mem_of_getElem? (i := 764) (by decide +kernel)) (by decide +kernel)
theorem wd717 : (Jvm.Cond.instanceMethod ({ cls := "ShortVectorsModel", name := "take", desc := "(I)V" } : Jvm.MethodName)) ∈ utbl := u_mem (List.mem_of_getElem? (i := 766) (by decide +kernel)) (by decide +kernel)
theorem wd718 : (Jvm.Cond.code ({ cls := "ShortVectorsModel", name := "take", desc := "(I)V" } : Jvm.MethodName) prog_9_method_28_code (7 : Nat) (Option.none : Option Jvm.ClassFile.FieldType)) ∈ utbl := u_mem (List.mem_of_getElem? (i := 767) (by decide +kernel)) (by decide +kernel)
theorem wd719 : (Jvm.Cond.methodLink "ShortVectorsModel" (166 : Nat) ({ cls := "ShortVectorsModel", name := "range", desc := "(I)V" } : Jvm.MethodName)) ∈ utbl := u_mem (List.mem_of_getElem? (i := 768) (by decide +kernel)) (by decide +kernel)
theorem wd721 : (Jvm.Cond.instanceMethod ({ cls := "ShortVectorsModel", name := "range", desc := "(I)V" } : Jvm.MethodName)) ∈ utbl := u_mem (List.mem_of_getElem? (i := 770) (by decide +kernel)) (by decide +kernel)
theorem wd722 : (Jvm.Cond.code ({ cls := "ShortVectorsModel", name := "range", desc := "(I)V" } : Jvm.MethodName) prog_9_method_26_code (9 : Nat) (Option.none : Option Jvm.ClassFile.FieldType)) ∈ utbl := u_mem (List.mem_of_getElem? (i := 771) (by decide +kernel)) (by decide +kernel)
theorem wd723 : (Jvm.Cond.methodLink "ShortVectorsModel" (136 : Nat) ({ cls := "ShortVectorsModel", name := "root", desc := "(J)J" } : Jvm.MethodName)) ∈ utbl := u_mem (List.mem_of_getElem? (i := 772) (by decide +kernel)) (by decide +kernel)
theorem wd724 : (Jvm.Cond.static ({ cls := "ShortVectorsModel", name := "root", desc := "(J)J" } : Jvm.MethodName)) ∈ utbl := u_mem (List.mem_of_getElem? (i := 773) (by decide +kernel)) (by decide +kernel)
theorem wd725 : (Jvm.Cond.code ({ cls := "ShortVectorsModel", name := "root", desc := "(J)J" } : Jvm.MethodName) prog_9_method_25_code (6 : Nat) (Option.some Jvm.ClassFile.FieldType.long)) ∈ utbl := u_mem (List.mem_of_getElem? (i := 774) (by decide +kernel)) (by decide +kernel)
theorem wd726 : (Jvm.Cond.constantLong "ShortVectorsModel" (128 : Nat) (65536 : Int64)) ∈ utbl := u_mem (List.mem_of_getElem? (i := 775) (by decide +kernel)) (by decide +kernel)
theorem wd727 : (Jvm.Cond.methodLink "ShortVectorsLaw" (65 : Nat) ({ cls := "ShortVectorsModel", name := "vector", desc := "(II)I" } : Jvm.MethodName)) ∈ utbl := u_mem (List.mem_of_getElem? (i := 776) (by decide +kernel)) (by decide +kernel)
theorem wd728 : (Jvm.Cond.instanceMethod ({ cls := "ShortVectorsModel", name := "vector", desc := "(II)I" } : Jvm.MethodName)) ∈ utbl := u_mem (List.mem_of_getElem? (i := 777) (by decide +kernel)) (by decide +kernel)
theorem wd729 : (Jvm.Cond.selects "ShortVectorsModel" ({ cls := "ShortVectorsModel", name := "vector", desc := "(II)I" } : Jvm.MethodName) ({ cls := "ShortVectorsModel", name := "vector", desc := "(II)I" } : Jvm.MethodName)) ∈ utbl := u_mem (List.mem_of_getElem? (i := 778) (by decide +kernel)) (by decide +kernel)
theorem wd730 : (Jvm.Cond.code ({ cls := "ShortVectorsModel", name := "vector", desc := "(II)I" } : Jvm.MethodName) prog_9_method_38_code (3 : Nat) (Option.some Jvm.ClassFile.FieldType.int)) ∈ utbl := u_mem (List.mem_of_getElem? (i := 779) (by decide +kernel)) (by decide +kernel)
theorem wd731 : (Jvm.Cond.methodLink "ShortVectorsModel" (194 : Nat) ({ cls := "ShortVectorsModel", name := "list", desc := "()V" } : Jvm.MethodName)) ∈ utbl := u_mem (List.mem_of_getElem? (i := 780) (by decide +kernel)) (by decide +kernel)
theorem wd733 : (Jvm.Cond.instanceMethod ({ cls := "ShortVectorsModel", name := "list", desc := "()V" } : Jvm.MethodName)) ∈ utbl := u_mem (List.mem_of_getElem? (i := 782) (by decide +kernel)) (by decide +kernel)
theorem wd734 : (Jvm.Cond.code ({ cls := "ShortVectorsModel", name := "list", desc := "()V" } : Jvm.MethodName) prog_9_method_37_code (3 : Nat) (Option.none : Option Jvm.ClassFile.FieldType)) ∈ utbl := u_mem (List.mem_of_getElem? (i := 783) (by decide +kernel)) (by decide +kernel)
theorem wd735 : (Jvm.Cond.methodLink "ShortVectorsLaw" (56 : Nat) ({ cls := "ShortVectorsModel", name := "minimum", desc := "(I)I" } : Jvm.MethodName)) ∈ utbl := u_mem (List.mem_of_getElem? (i := 784) (by decide +kernel)) (by decide +kernel)
theorem wd736 : (Jvm.Cond.instanceMethod ({ cls := "ShortVectorsModel", name := "minimum", desc := "(I)I" } : Jvm.MethodName)) ∈ utbl := u_mem (List.mem_of_getElem? (i := 785) (by decide +kernel)) (by decide +kernel)
theorem wd737 : (Jvm.Cond.selects "ShortVectorsModel" ({ cls := "ShortVectorsModel", name := "minimum", desc := "(I)I" } : Jvm.MethodName) ({ cls := "ShortVectorsModel", name := "minimum", desc := "(I)I" } : Jvm.MethodName)) ∈ utbl := u_mem (List.mem_of_getElem? (i := 786) (by decide +kernel)) (by decide +kernel)
theorem wd738 : (Jvm.Cond.code ({ cls := "ShortVectorsModel", name := "minimum", desc := "(I)I" } : Jvm.MethodName) prog_9_method_44_code (2 : Nat) (Option.some Jvm.ClassFile.FieldType.int)) ∈ utbl := u_mem (List.mem_of_getElem? (i := 787) (by decide +kernel)) (by decide +kernel)
theorem wd739 : (Jvm.Cond.methodLink "ShortVectorsModel" (207 : Nat) ({ cls := "ShortVectorsModel", name := "measure", desc := "()V" } : Jvm.MethodName)) ∈ utbl := u_mem (List.mem_of_getElem? (i := 788) (by decide +kernel)) (by decide +kernel)
theorem wd741 : (Jvm.Cond.instanceMethod ({ cls := "ShortVectorsModel", name := "measure", desc := "()V" } : Jvm.MethodName)) ∈ utbl := u_mem (List.mem_of_getElem? (i := 790) (by decide +kernel)) (by decide +kernel)
theorem wd742 : (Jvm.Cond.code ({ cls := "ShortVectorsModel", name := "measure", desc := "()V" } : Jvm.MethodName) prog_9_method_43_code (6 : Nat) (Option.none : Option Jvm.ClassFile.FieldType)) ∈ utbl := u_mem (List.mem_of_getElem? (i := 791) (by decide +kernel)) (by decide +kernel)
theorem wd743 : (Jvm.Cond.methodLink "ShortVectorsModel" (203 : Nat) ({ cls := "ShortVectorsModel", name := "reaches", desc := "(II)Z" } : Jvm.MethodName)) ∈ utbl := u_mem (List.mem_of_getElem? (i := 792) (by decide +kernel)) (by decide +kernel)
theorem wd745 : (Jvm.Cond.instanceMethod ({ cls := "ShortVectorsModel", name := "reaches", desc := "(II)Z" } : Jvm.MethodName)) ∈ utbl := u_mem (List.mem_of_getElem? (i := 794) (by decide +kernel)) (by decide +kernel)
theorem wd746 : (Jvm.Cond.code ({ cls := "ShortVectorsModel", name := "reaches", desc := "(II)Z" } : Jvm.MethodName) prog_9_method_42_code (3 : Nat) (Option.some Jvm.ClassFile.FieldType.boolean)) ∈ utbl := u_mem (List.mem_of_getElem? (i := 795) (by decide +kernel)) (by decide +kernel)
theorem wd747 : (Jvm.Cond.methodLink "ShortVectorsLaw" (69 : Nat) ({ cls := "ShortVectorsModel", name := "distance", desc := "(IIII)I" } : Jvm.MethodName)) ∈ utbl := u_mem (List.mem_of_getElem? (i := 796) (by decide +kernel)) (by decide +kernel)
theorem wd748 : (Jvm.Cond.instanceMethod ({ cls := "ShortVectorsModel", name := "distance", desc := "(IIII)I" } : Jvm.MethodName)) ∈ utbl := u_mem (List.mem_of_getElem? (i := 797) (by decide +kernel)) (by decide +kernel)
theorem wd749 : (Jvm.Cond.selects "ShortVectorsModel" ({ cls := "ShortVectorsModel", name := "distance", desc := "(IIII)I" } : Jvm.MethodName) ({ cls := "ShortVectorsModel", name := "distance", desc := "(IIII)I" } : Jvm.MethodName)) ∈ utbl := u_mem (List.mem_of_getElem? (i := 798) (by decide +kernel)) (by decide +kernel)
theorem wd750 : (Jvm.Cond.code ({ cls := "ShortVectorsModel", name := "distance", desc := "(IIII)I" } : Jvm.MethodName) prog_9_method_47_code (5 : Nat) (Option.some Jvm.ClassFile.FieldType.int)) ∈ utbl := u_mem (List.mem_of_getElem? (i := 799) (by decide +kernel)) (by decide +kernel)
theorem wd751 : (Jvm.Cond.methodLink "ShortVectorsModel" (213 : Nat) ({ cls := "ShortVectorsModel", name := "seek", desc := "(IIII)V" } : Jvm.MethodName)) ∈ utbl := u_mem (List.mem_of_getElem? (i := 800) (by decide +kernel)) (by decide +kernel)
theorem wd753 : (Jvm.Cond.instanceMethod ({ cls := "ShortVectorsModel", name := "seek", desc := "(IIII)V" } : Jvm.MethodName)) ∈ utbl := u_mem (List.mem_of_getElem? (i := 802) (by decide +kernel)) (by decide +kernel)
theorem wd754 : (Jvm.Cond.code ({ cls := "ShortVectorsModel", name := "seek", desc := "(IIII)V" } : Jvm.MethodName) prog_9_method_46_code (7 : Nat) (Option.none : Option Jvm.ClassFile.FieldType)) ∈ utbl := u_mem (List.mem_of_getElem? (i := 803) (by decide +kernel)) (by decide +kernel)
theorem wd755 : (Jvm.Cond.methodLink "ShortVectorsLaw" (74 : Nat) ({ cls := "ShortVectorsModel", name := "nearest", desc := "(IIIII)I" } : Jvm.MethodName)) ∈ utbl := u_mem (List.mem_of_getElem? (i := 804) (by decide +kernel)) (by decide +kernel)
theorem wd756 : (Jvm.Cond.instanceMethod ({ cls := "ShortVectorsModel", name := "nearest", desc := "(IIIII)I" } : Jvm.MethodName)) ∈ utbl := u_mem (List.mem_of_getElem? (i := 805) (by decide +kernel)) (by decide +kernel)
theorem wd757 : (Jvm.Cond.selects "ShortVectorsModel" ({ cls := "ShortVectorsModel", name := "nearest", desc := "(IIIII)I" } : Jvm.MethodName) ({ cls := "ShortVectorsModel", name := "nearest", desc := "(IIIII)I" } : Jvm.MethodName)) ∈ utbl := u_mem (List.mem_of_getElem? (i := 806) (by decide +kernel)) (by decide +kernel)
theorem wd758 : (Jvm.Cond.code ({ cls := "ShortVectorsModel", name := "nearest", desc := "(IIIII)I" } : Jvm.MethodName) prog_9_method_48_code (6 : Nat) (Option.some Jvm.ClassFile.FieldType.int)) ∈ utbl := u_mem (List.mem_of_getElem? (i := 807) (by decide +kernel)) (by decide +kernel)
theorem wd759 : (Jvm.Cond.sameMethod "ShortVectors$Collector" "ShortVectors$Collector" "wants" "(J)Z") ∈ utbl := u_mem (List.mem_of_getElem? (i := 808) (by decide +kernel)) (by decide +kernel)
theorem wd760 : (Jvm.Cond.selects "ShortVectors$Closest" ({ cls := "ShortVectors$Collector", name := "wants", desc := "(J)Z" } : Jvm.MethodName) ({ cls := "ShortVectors$Collector", name := "wants", desc := "(J)Z" } : Jvm.MethodName)) ∈ utbl := u_mem (List.mem_of_getElem? (i := 809) (by decide +kernel)) (by decide +kernel)
theorem wd761 : (Jvm.Cond.selects "ShortVectors$FirstVectors" ({ cls := "ShortVectors$Collector", name := "wants", desc := "(J)Z" } : Jvm.MethodName) ({ cls := "ShortVectors$Collector", name := "wants", desc := "(J)Z" } : Jvm.MethodName)) ∈ utbl := u_mem (List.mem_of_getElem? (i := 810) (by decide +kernel)) (by decide +kernel)
theorem wd762 : (Jvm.Cond.selects "ShortVectors$Tally" ({ cls := "ShortVectors$Collector", name := "wants", desc := "(J)Z" } : Jvm.MethodName) ({ cls := "ShortVectors$Collector", name := "wants", desc := "(J)Z" } : Jvm.MethodName)) ∈ utbl := u_mem (List.mem_of_getElem? (i := 811) (by decide +kernel)) (by decide +kernel)
theorem ws0 : Cond.selects "ShortVectors" ⟨"ShortVectors", "ask", "(IIIII)Z"⟩ ⟨"ShortVectors", "ask", "(IIIII)Z"⟩ ∈ utbl := u_mem (List.mem_of_getElem? (i := 0) (by decide +kernel)) (by decide +kernel)
theorem ws1 : Cond.selects "ShortVectors$Echelon" ⟨"ShortVectors$Echelon", "merge", "([JI)V"⟩ ⟨"ShortVectors$Echelon", "merge", "([JI)V"⟩ ∈ utbl := u_mem (List.mem_of_getElem? (i := 1) (by decide +kernel)) (by decide +kernel)
theorem ws2 : Cond.selects "ShortVectors$Echelon" ⟨"ShortVectors$Echelon", "shorten", "(I)V"⟩ ⟨"ShortVectors$Echelon", "shorten", "(I)V"⟩ ∈ utbl := u_mem (List.mem_of_getElem? (i := 2) (by decide +kernel)) (by decide +kernel)
theorem ws3 : Cond.selects "ShortVectors" ⟨"ShortVectors", "forget", "()V"⟩ ⟨"ShortVectors", "forget", "()V"⟩ ∈ utbl := u_mem (List.mem_of_getElem? (i := 3) (by decide +kernel)) (by decide +kernel)
theorem ws4 : Cond.selects "ShortVectors" ⟨"ShortVectors", "gather", "(LShortVectors$Echelon;I)V"⟩ ⟨"ShortVectors", "gather", "(LShortVectors$Echelon;I)V"⟩ ∈ utbl := u_mem (List.mem_of_getElem? (i := 4) (by decide +kernel)) (by decide +kernel)
theorem ws5 : Cond.selects "ShortVectors" ⟨"ShortVectors", "readyBasis", "()LShortVectors$Basis;"⟩ ⟨"ShortVectors", "readyBasis", "()LShortVectors$Basis;"⟩ ∈ utbl := u_mem (List.mem_of_getElem? (i := 5) (by decide +kernel)) (by decide +kernel)
theorem ws6 : Cond.selects "ShortVectors$Basis" ⟨"ShortVectors$Basis", "reduce", "()V"⟩ ⟨"ShortVectors$Basis", "reduce", "()V"⟩ ∈ utbl := u_mem (List.mem_of_getElem? (i := 6) (by decide +kernel)) (by decide +kernel)
theorem ws7 : Cond.selects "ShortVectors$Basis" ⟨"ShortVectors$Basis", "shortenByPairs", "()Z"⟩ ⟨"ShortVectors$Basis", "shortenByPairs", "()Z"⟩ ∈ utbl := u_mem (List.mem_of_getElem? (i := 7) (by decide +kernel)) (by decide +kernel)
theorem ws8 : Cond.selects "ShortVectors$Basis" ⟨"ShortVectors$Basis", "shortenBy", "(II)Z"⟩ ⟨"ShortVectors$Basis", "shortenBy", "(II)Z"⟩ ∈ utbl := u_mem (List.mem_of_getElem? (i := 8) (by decide +kernel)) (by decide +kernel)
theorem ws9 : Cond.selects "ShortVectors$Basis" ⟨"ShortVectors$Basis", "shortenBySums", "()Z"⟩ ⟨"ShortVectors$Basis", "shortenBySums", "()Z"⟩ ∈ utbl := u_mem (List.mem_of_getElem? (i := 9) (by decide +kernel)) (by decide +kernel)
theorem ws10 : Cond.selects "ShortVectors$Basis" ⟨"ShortVectors$Basis", "shortenByChoice", "(II)Z"⟩ ⟨"ShortVectors$Basis", "shortenByChoice", "(II)Z"⟩ ∈ utbl := u_mem (List.mem_of_getElem? (i := 10) (by decide +kernel)) (by decide +kernel)
theorem ws11 : Cond.selects "ShortVectors$Basis" ⟨"ShortVectors$Basis", "sort", "()V"⟩ ⟨"ShortVectors$Basis", "sort", "()V"⟩ ∈ utbl := u_mem (List.mem_of_getElem? (i := 11) (by decide +kernel)) (by decide +kernel)
theorem ws12 : Cond.selects "ShortVectors$Basis" ⟨"ShortVectors$Basis", "direct", "(I)V"⟩ ⟨"ShortVectors$Basis", "direct", "(I)V"⟩ ∈ utbl := u_mem (List.mem_of_getElem? (i := 12) (by decide +kernel)) (by decide +kernel)
theorem ws13 : Cond.selects "ShortVectors$Basis" ⟨"ShortVectors$Basis", "eliminate", "(IJ)V"⟩ ⟨"ShortVectors$Basis", "eliminate", "(IJ)V"⟩ ∈ utbl := u_mem (List.mem_of_getElem? (i := 13) (by decide +kernel)) (by decide +kernel)
theorem ws14 : Cond.selects "ShortVectors$Basis" ⟨"ShortVectors$Basis", "squareOutside", "([J)J"⟩ ⟨"ShortVectors$Basis", "squareOutside", "([J)J"⟩ ∈ utbl := u_mem (List.mem_of_getElem? (i := 14) (by decide +kernel)) (by decide +kernel)
theorem ws15 : Cond.selects "ShortVectors$Basis" ⟨"ShortVectors$Basis", "descend", "(IJLShortVectors$Collector;)V"⟩ ⟨"ShortVectors$Basis", "descend", "(IJLShortVectors$Collector;)V"⟩ ∈ utbl := u_mem (List.mem_of_getElem? (i := 15) (by decide +kernel)) (by decide +kernel)
theorem ws16 : Cond.selects "ShortVectors$FirstVectors" ⟨"ShortVectors$FirstVectors", "precedes", "([JJI)Z"⟩ ⟨"ShortVectors$FirstVectors", "precedes", "([JJI)Z"⟩ ∈ utbl := u_mem (List.mem_of_getElem? (i := 16) (by decide +kernel)) (by decide +kernel)
theorem ws17 : Cond.selects "ShortVectors$FirstVectors" ⟨"ShortVectors$FirstVectors", "insert", "([JJI)V"⟩ ⟨"ShortVectors$FirstVectors", "insert", "([JJI)V"⟩ ∈ utbl := u_mem (List.mem_of_getElem? (i := 17) (by decide +kernel)) (by decide +kernel)
theorem ws18 : Cond.selects "ShortVectors$Basis" ⟨"ShortVectors$Basis", "walk", "(IJIJLShortVectors$Collector;)V"⟩ ⟨"ShortVectors$Basis", "walk", "(IJIJLShortVectors$Collector;)V"⟩ ∈ utbl := u_mem (List.mem_of_getElem? (i := 18) (by decide +kernel)) (by decide +kernel)
theorem ws19 : Cond.selects "ShortVectorsModel" ⟨"ShortVectorsModel", "changed", "()V"⟩ ⟨"ShortVectorsModel", "changed", "()V"⟩ ∈ utbl := u_mem (List.mem_of_getElem? (i := 19) (by decide +kernel)) (by decide +kernel)
theorem ws20 : Cond.selects "ShortVectorsModel" ⟨"ShortVectorsModel", "look", "(I)V"⟩ ⟨"ShortVectorsModel", "look", "(I)V"⟩ ∈ utbl := u_mem (List.mem_of_getElem? (i := 20) (by decide +kernel)) (by decide +kernel)
theorem ws21 : Cond.selects "ShortVectorsModel" ⟨"ShortVectorsModel", "enter", "()V"⟩ ⟨"ShortVectorsModel", "enter", "()V"⟩ ∈ utbl := u_mem (List.mem_of_getElem? (i := 21) (by decide +kernel)) (by decide +kernel)
theorem ws22 : Cond.selects "ShortVectorsModel" ⟨"ShortVectorsModel", "rowAt", "(I)I"⟩ ⟨"ShortVectorsModel", "rowAt", "(I)I"⟩ ∈ utbl := u_mem (List.mem_of_getElem? (i := 22) (by decide +kernel)) (by decide +kernel)
theorem ws23 : Cond.selects "ShortVectorsModel" ⟨"ShortVectorsModel", "tidy", "(I)V"⟩ ⟨"ShortVectorsModel", "tidy", "(I)V"⟩ ∈ utbl := u_mem (List.mem_of_getElem? (i := 23) (by decide +kernel)) (by decide +kernel)
theorem ws24 : Cond.selects "ShortVectorsModel" ⟨"ShortVectorsModel", "insert", "(I)V"⟩ ⟨"ShortVectorsModel", "insert", "(I)V"⟩ ∈ utbl := u_mem (List.mem_of_getElem? (i := 24) (by decide +kernel)) (by decide +kernel)
theorem ws25 : Cond.selects "ShortVectorsModel" ⟨"ShortVectorsModel", "divide", "(I)V"⟩ ⟨"ShortVectorsModel", "divide", "(I)V"⟩ ∈ utbl := u_mem (List.mem_of_getElem? (i := 25) (by decide +kernel)) (by decide +kernel)
theorem ws26 : Cond.selects "ShortVectorsModel" ⟨"ShortVectorsModel", "swap", "(I)V"⟩ ⟨"ShortVectorsModel", "swap", "(I)V"⟩ ∈ utbl := u_mem (List.mem_of_getElem? (i := 26) (by decide +kernel)) (by decide +kernel)
theorem ws27 : Cond.selects "ShortVectorsModel" ⟨"ShortVectorsModel", "two", "(IIII)J"⟩ ⟨"ShortVectorsModel", "two", "(IIII)J"⟩ ∈ utbl := u_mem (List.mem_of_getElem? (i := 27) (by decide +kernel)) (by decide +kernel)
theorem ws28 : Cond.selects "ShortVectorsModel" ⟨"ShortVectorsModel", "three", "(III)J"⟩ ⟨"ShortVectorsModel", "three", "(III)J"⟩ ∈ utbl := u_mem (List.mem_of_getElem? (i := 28) (by decide +kernel)) (by decide +kernel)
theorem ws29 : Cond.selects "ShortVectorsModel" ⟨"ShortVectorsModel", "set", "(IIII)V"⟩ ⟨"ShortVectorsModel", "set", "(IIII)V"⟩ ∈ utbl := u_mem (List.mem_of_getElem? (i := 29) (by decide +kernel)) (by decide +kernel)
theorem ws30 : Cond.selects "ShortVectorsModel" ⟨"ShortVectorsModel", "times", "()J"⟩ ⟨"ShortVectorsModel", "times", "()J"⟩ ∈ utbl := u_mem (List.mem_of_getElem? (i := 30) (by decide +kernel)) (by decide +kernel)
theorem ws31 : Cond.selects "ShortVectorsModel" ⟨"ShortVectorsModel", "origin", "()V"⟩ ⟨"ShortVectorsModel", "origin", "()V"⟩ ∈ utbl := u_mem (List.mem_of_getElem? (i := 31) (by decide +kernel)) (by decide +kernel)
theorem ws32 : Cond.selects "ShortVectorsModel" ⟨"ShortVectorsModel", "walk", "(IJ)V"⟩ ⟨"ShortVectorsModel", "walk", "(IJ)V"⟩ ∈ utbl := u_mem (List.mem_of_getElem? (i := 32) (by decide +kernel)) (by decide +kernel)
theorem ws33 : Cond.selects "ShortVectorsModel" ⟨"ShortVectorsModel", "open", "(I)I"⟩ ⟨"ShortVectorsModel", "open", "(I)I"⟩ ∈ utbl := u_mem (List.mem_of_getElem? (i := 33) (by decide +kernel)) (by decide +kernel)
theorem ws34 : Cond.selects "ShortVectorsModel" ⟨"ShortVectorsModel", "visit", "(IJ)V"⟩ ⟨"ShortVectorsModel", "visit", "(IJ)V"⟩ ∈ utbl := u_mem (List.mem_of_getElem? (i := 34) (by decide +kernel)) (by decide +kernel)
theorem ws35 : Cond.selects "ShortVectorsModel" ⟨"ShortVectorsModel", "sortIn", "(IJ)V"⟩ ⟨"ShortVectorsModel", "sortIn", "(IJ)V"⟩ ∈ utbl := u_mem (List.mem_of_getElem? (i := 35) (by decide +kernel)) (by decide +kernel)
theorem ws36 : Cond.selects "ShortVectorsModel" ⟨"ShortVectorsModel", "before", "(IJI)Z"⟩ ⟨"ShortVectorsModel", "before", "(IJI)Z"⟩ ∈ utbl := u_mem (List.mem_of_getElem? (i := 36) (by decide +kernel)) (by decide +kernel)
theorem ws37 : Cond.selects "ShortVectorsModel" ⟨"ShortVectorsModel", "extend", "(I)V"⟩ ⟨"ShortVectorsModel", "extend", "(I)V"⟩ ∈ utbl := u_mem (List.mem_of_getElem? (i := 37) (by decide +kernel)) (by decide +kernel)
theorem ws38 : Cond.selects "ShortVectorsModel" ⟨"ShortVectorsModel", "lead", "(I)I"⟩ ⟨"ShortVectorsModel", "lead", "(I)I"⟩ ∈ utbl := u_mem (List.mem_of_getElem? (i := 38) (by decide +kernel)) (by decide +kernel)
theorem ws39 : Cond.selects "ShortVectorsModel" ⟨"ShortVectorsModel", "shrink", "()V"⟩ ⟨"ShortVectorsModel", "shrink", "()V"⟩ ∈ utbl := u_mem (List.mem_of_getElem? (i := 39) (by decide +kernel)) (by decide +kernel)
theorem ws40 : Cond.selects "ShortVectorsModel" ⟨"ShortVectorsModel", "compare", "(IJ)V"⟩ ⟨"ShortVectorsModel", "compare", "(IJ)V"⟩ ∈ utbl := u_mem (List.mem_of_getElem? (i := 40) (by decide +kernel)) (by decide +kernel)
theorem ws41 : Cond.selects "ShortVectorsModel" ⟨"ShortVectorsModel", "finish", "(I)V"⟩ ⟨"ShortVectorsModel", "finish", "(I)V"⟩ ∈ utbl := u_mem (List.mem_of_getElem? (i := 41) (by decide +kernel)) (by decide +kernel)
theorem ws42 : Cond.selects "ShortVectorsModel" ⟨"ShortVectorsModel", "along", "(IJJ)V"⟩ ⟨"ShortVectorsModel", "along", "(IJJ)V"⟩ ∈ utbl := u_mem (List.mem_of_getElem? (i := 42) (by decide +kernel)) (by decide +kernel)
theorem ws43 : Cond.selects "ShortVectorsModel" ⟨"ShortVectorsModel", "take", "(I)V"⟩ ⟨"ShortVectorsModel", "take", "(I)V"⟩ ∈ utbl := u_mem (List.mem_of_getElem? (i := 43) (by decide +kernel)) (by decide +kernel)
theorem ws44 : Cond.selects "ShortVectorsModel" ⟨"ShortVectorsModel", "range", "(I)V"⟩ ⟨"ShortVectorsModel", "range", "(I)V"⟩ ∈ utbl := u_mem (List.mem_of_getElem? (i := 44) (by decide +kernel)) (by decide +kernel)
theorem ws45 : Cond.selects "ShortVectorsModel" ⟨"ShortVectorsModel", "list", "()V"⟩ ⟨"ShortVectorsModel", "list", "()V"⟩ ∈ utbl := u_mem (List.mem_of_getElem? (i := 45) (by decide +kernel)) (by decide +kernel)
theorem ws46 : Cond.selects "ShortVectorsModel" ⟨"ShortVectorsModel", "measure", "()V"⟩ ⟨"ShortVectorsModel", "measure", "()V"⟩ ∈ utbl := u_mem (List.mem_of_getElem? (i := 46) (by decide +kernel)) (by decide +kernel)
theorem ws47 : Cond.selects "ShortVectorsModel" ⟨"ShortVectorsModel", "reaches", "(II)Z"⟩ ⟨"ShortVectorsModel", "reaches", "(II)Z"⟩ ∈ utbl := u_mem (List.mem_of_getElem? (i := 47) (by decide +kernel)) (by decide +kernel)
theorem ws48 : Cond.selects "ShortVectorsModel" ⟨"ShortVectorsModel", "seek", "(IIII)V"⟩ ⟨"ShortVectorsModel", "seek", "(IIII)V"⟩ ∈ utbl := u_mem (List.mem_of_getElem? (i := 48) (by decide +kernel)) (by decide +kernel)
abbrev cV_init : ByteArray := prog_1_method_1_code
def yV_init : MethodName := ⟨"ShortVectors", "<init>", "()V"⟩
abbrev cJO_init : ByteArray := object_method_1_code
def yJO_init : MethodName := ⟨"java/lang/Object", "<init>", "()V"⟩
abbrev cE_init : ByteArray := prog_5_method_1_code
def yE_init : MethodName := ⟨"ShortVectors$Echelon", "<init>", "()V"⟩
abbrev cB_init : ByteArray := prog_2_method_1_code
def yB_init : MethodName := ⟨"ShortVectors$Basis", "<init>", "()V"⟩
abbrev cT_init : ByteArray := prog_7_method_1_code
def yT_init : MethodName := ⟨"ShortVectors$Tally", "<init>", "()V"⟩
abbrev cK_init : ByteArray := prog_4_method_1_code
def yK_init : MethodName := ⟨"ShortVectors$Collector", "<init>", "()V"⟩
abbrev cF_init : ByteArray := prog_6_method_1_code
def yF_init : MethodName := ⟨"ShortVectors$FirstVectors", "<init>", "()V"⟩
abbrev cC_init : ByteArray := prog_3_method_1_code
def yC_init : MethodName := ⟨"ShortVectors$Closest", "<init>", "()V"⟩
abbrev cV_add : ByteArray := prog_1_method_2_code
def yV_add : MethodName := ⟨"ShortVectors", "add", "(IIII)I"⟩
abbrev cV_ask : ByteArray := prog_1_method_15_code
def yV_ask : MethodName := ⟨"ShortVectors", "ask", "(IIIII)Z"⟩
abbrev cV_copy : ByteArray := prog_1_method_20_code
def yV_copy : MethodName := ⟨"ShortVectors", "copy", "([J[J)V"⟩
abbrev cE_include : ByteArray := prog_5_method_6_code
def yE_include : MethodName := ⟨"ShortVectors$Echelon", "include", "([J)V"⟩
abbrev cE_merge : ByteArray := prog_5_method_7_code
def yE_merge : MethodName := ⟨"ShortVectors$Echelon", "merge", "([JI)V"⟩
abbrev cV_addMultiple : ByteArray := prog_1_method_21_code
def yV_addMultiple : MethodName := ⟨"ShortVectors", "addMultiple", "([J[JJ)V"⟩
abbrev cE_shorten : ByteArray := prog_5_method_8_code
def yE_shorten : MethodName := ⟨"ShortVectors$Echelon", "shorten", "(I)V"⟩
abbrev cE_isHeld : ByteArray := prog_5_method_4_code
def yE_isHeld : MethodName := ⟨"ShortVectors$Echelon", "isHeld", "(I)Z"⟩
abbrev cJM_floorDiv : ByteArray := prog_10_method_49_code
def yJM_floorDiv : MethodName := ⟨"java/lang/Math", "floorDiv", "(JJ)J"⟩
abbrev cV_forget : ByteArray := prog_1_method_17_code
def yV_forget : MethodName := ⟨"ShortVectors", "forget", "()V"⟩
abbrev cV_drop : ByteArray := prog_1_method_3_code
def yV_drop : MethodName := ⟨"ShortVectors", "drop", "()Z"⟩
abbrev cV_gather : ByteArray := prog_1_method_16_code
def yV_gather : MethodName := ⟨"ShortVectors", "gather", "(LShortVectors$Echelon;I)V"⟩
abbrev cE_clear : ByteArray := prog_5_method_2_code
def yE_clear : MethodName := ⟨"ShortVectors$Echelon", "clear", "()V"⟩
abbrev cJA_fillJ : ByteArray := prog_12_method_101_code
def yJA_fillJ : MethodName := ⟨"java/util/Arrays", "fill", "([JJ)V"⟩
abbrev cV_generators : ByteArray := prog_1_method_4_code
def yV_generators : MethodName := ⟨"ShortVectors", "generators", "()I"⟩
abbrev cV_rank : ByteArray := prog_1_method_5_code
def yV_rank : MethodName := ⟨"ShortVectors", "rank", "()I"⟩
abbrev cE_size : ByteArray := prog_5_method_3_code
def yE_size : MethodName := ⟨"ShortVectors$Echelon", "size", "()I"⟩
abbrev cV_volume : ByteArray := prog_1_method_6_code
def yV_volume : MethodName := ⟨"ShortVectors", "volume", "()J"⟩
abbrev cV_readyBasis : ByteArray := prog_1_method_18_code
def yV_readyBasis : MethodName := ⟨"ShortVectors", "readyBasis", "()LShortVectors$Basis;"⟩
abbrev cB_take : ByteArray := prog_2_method_2_code
def yB_take : MethodName := ⟨"ShortVectors$Basis", "take", "(LShortVectors$Echelon;)V"⟩
abbrev cE_row : ByteArray := prog_5_method_5_code
def yE_row : MethodName := ⟨"ShortVectors$Echelon", "row", "(I)[J"⟩
abbrev cB_reduce : ByteArray := prog_2_method_5_code
def yB_reduce : MethodName := ⟨"ShortVectors$Basis", "reduce", "()V"⟩
abbrev cB_shortenByPairs : ByteArray := prog_2_method_6_code
def yB_shortenByPairs : MethodName := ⟨"ShortVectors$Basis", "shortenByPairs", "()Z"⟩
abbrev cB_shortenBy : ByteArray := prog_2_method_7_code
def yB_shortenBy : MethodName := ⟨"ShortVectors$Basis", "shortenBy", "(II)Z"⟩
abbrev cV_product : ByteArray := prog_1_method_22_code
def yV_product : MethodName := ⟨"ShortVectors", "product", "([J[J)J"⟩
abbrev cJM_abs : ByteArray := prog_10_method_61_code
def yJM_abs : MethodName := ⟨"java/lang/Math", "abs", "(J)J"⟩
abbrev cV_nearestQuotient : ByteArray := prog_1_method_25_code
def yV_nearestQuotient : MethodName := ⟨"ShortVectors", "nearestQuotient", "(JJ)J"⟩
abbrev cB_shortenBySums : ByteArray := prog_2_method_8_code
def yB_shortenBySums : MethodName := ⟨"ShortVectors$Basis", "shortenBySums", "()Z"⟩
abbrev cB_shortenByChoice : ByteArray := prog_2_method_9_code
def yB_shortenByChoice : MethodName := ⟨"ShortVectors$Basis", "shortenByChoice", "(II)Z"⟩
abbrev cB_sort : ByteArray := prog_2_method_10_code
def yB_sort : MethodName := ⟨"ShortVectors$Basis", "sort", "()V"⟩
abbrev cB_squareOf : ByteArray := prog_2_method_3_code
def yB_squareOf : MethodName := ⟨"ShortVectors$Basis", "squareOf", "(I)J"⟩
abbrev cB_direct : ByteArray := prog_2_method_11_code
def yB_direct : MethodName := ⟨"ShortVectors$Basis", "direct", "(I)V"⟩
abbrev cB_turnAway : ByteArray := prog_2_method_12_code
def yB_turnAway : MethodName := ⟨"ShortVectors$Basis", "turnAway", "([J[JJ)V"⟩
abbrev cV_commonDivisor : ByteArray := prog_1_method_24_code
def yV_commonDivisor : MethodName := ⟨"ShortVectors", "commonDivisor", "(JJ)J"⟩
abbrev cJM_max : ByteArray := prog_10_method_66_code
def yJM_max : MethodName := ⟨"java/lang/Math", "max", "(JJ)J"⟩
abbrev cB_volumeSquared : ByteArray := prog_2_method_13_code
def yB_volumeSquared : MethodName := ⟨"ShortVectors$Basis", "volumeSquared", "()J"⟩
abbrev cB_eliminate : ByteArray := prog_2_method_14_code
def yB_eliminate : MethodName := ⟨"ShortVectors$Basis", "eliminate", "(IJ)V"⟩
abbrev cV_spare : ByteArray := prog_1_method_7_code
def yV_spare : MethodName := ⟨"ShortVectors", "spare", "(I)Z"⟩
abbrev cE_holds : ByteArray := prog_5_method_9_code
def yE_holds : MethodName := ⟨"ShortVectors$Echelon", "holds", "([J)Z"⟩
abbrev cE_leastMultiplier : ByteArray := prog_5_method_10_code
def yE_leastMultiplier : MethodName := ⟨"ShortVectors$Echelon", "leastMultiplier", "([J)J"⟩
abbrev cV_has : ByteArray := prog_1_method_8_code
def yV_has : MethodName := ⟨"ShortVectors", "has", "(IIII)Z"⟩
abbrev cV_order : ByteArray := prog_1_method_9_code
def yV_order : MethodName := ⟨"ShortVectors", "order", "(IIII)J"⟩
abbrev cV_minimum : ByteArray := prog_1_method_10_code
def yV_minimum : MethodName := ⟨"ShortVectors", "minimum", "(I)I"⟩
abbrev cV_count : ByteArray := prog_1_method_11_code
def yV_count : MethodName := ⟨"ShortVectors", "count", "(I)I"⟩
abbrev cT_fillJ : ByteArray := prog_7_method_2_code
def yT_fillJ : MethodName := ⟨"ShortVectors$Tally", "fill", "(LShortVectors$Basis;)V"⟩
abbrev cJA_fillI : ByteArray := prog_12_method_103_code
def yJA_fillI : MethodName := ⟨"java/util/Arrays", "fill", "([II)V"⟩
abbrev cK_setBudget : ByteArray := prog_4_method_3_code
def yK_setBudget : MethodName := ⟨"ShortVectors$Collector", "setBudget", "(J)V"⟩
abbrev cB_search : ByteArray := prog_2_method_15_code
def yB_search : MethodName := ⟨"ShortVectors$Basis", "search", "(LShortVectors$Collector;)V"⟩
abbrev cK_goal : ByteArray := prog_4_method_2_code
def yK_goal : MethodName := ⟨"ShortVectors$Collector", "goal", "()[J"⟩
abbrev cB_squareOutside : ByteArray := prog_2_method_16_code
def yB_squareOutside : MethodName := ⟨"ShortVectors$Basis", "squareOutside", "([J)J"⟩
abbrev cB_descend : ByteArray := prog_2_method_17_code
def yB_descend : MethodName := ⟨"ShortVectors$Basis", "descend", "(IJLShortVectors$Collector;)V"⟩
abbrev cC_meet : ByteArray := prog_3_method_5_code
def yC_meet : MethodName := ⟨"ShortVectors$Closest", "meet", "([JJ)V"⟩
abbrev cV_comesBefore : ByteArray := prog_1_method_23_code
def yV_comesBefore : MethodName := ⟨"ShortVectors", "comesBefore", "([J[J)Z"⟩
abbrev cF_meet : ByteArray := prog_6_method_4_code
def yF_meet : MethodName := ⟨"ShortVectors$FirstVectors", "meet", "([JJ)V"⟩
abbrev cK_wants : ByteArray := prog_4_method_4_code
def yK_wants : MethodName := ⟨"ShortVectors$Collector", "wants", "(J)Z"⟩
abbrev cF_precedes : ByteArray := prog_6_method_5_code
def yF_precedes : MethodName := ⟨"ShortVectors$FirstVectors", "precedes", "([JJI)Z"⟩
abbrev cF_insert : ByteArray := prog_6_method_6_code
def yF_insert : MethodName := ⟨"ShortVectors$FirstVectors", "insert", "([JJI)V"⟩
abbrev cJM_min : ByteArray := prog_10_method_69_code
def yJM_min : MethodName := ⟨"java/lang/Math", "min", "(II)I"⟩
abbrev cT_meet : ByteArray := prog_7_method_4_code
def yT_meet : MethodName := ⟨"ShortVectors$Tally", "meet", "([JJ)V"⟩
abbrev cB_walk : ByteArray := prog_2_method_18_code
def yB_walk : MethodName := ⟨"ShortVectors$Basis", "walk", "(IJIJLShortVectors$Collector;)V"⟩
abbrev cT_upTo : ByteArray := prog_7_method_3_code
def yT_upTo : MethodName := ⟨"ShortVectors$Tally", "upTo", "(I)I"⟩
abbrev cV_vector : ByteArray := prog_1_method_12_code
def yV_vector : MethodName := ⟨"ShortVectors", "vector", "(II)I"⟩
abbrev cV_isAxis : ByteArray := prog_1_method_19_code
def yV_isAxis : MethodName := ⟨"ShortVectors", "isAxis", "(I)Z"⟩
abbrev cF_fillJ : ByteArray := prog_6_method_2_code
def yF_fillJ : MethodName := ⟨"ShortVectors$FirstVectors", "fill", "(LShortVectors$Basis;)V"⟩
abbrev cB_leastSquare : ByteArray := prog_2_method_4_code
def yB_leastSquare : MethodName := ⟨"ShortVectors$Basis", "leastSquare", "()J"⟩
abbrev cF_coordinate : ByteArray := prog_6_method_3_code
def yF_coordinate : MethodName := ⟨"ShortVectors$FirstVectors", "coordinate", "(II)I"⟩
abbrev cV_distance : ByteArray := prog_1_method_13_code
def yV_distance : MethodName := ⟨"ShortVectors", "distance", "(IIII)I"⟩
abbrev cC_approach : ByteArray := prog_3_method_2_code
def yC_approach : MethodName := ⟨"ShortVectors$Closest", "approach", "(LShortVectors$Basis;[J)V"⟩
abbrev cC_leastSquare : ByteArray := prog_3_method_3_code
def yC_leastSquare : MethodName := ⟨"ShortVectors$Closest", "leastSquare", "()I"⟩
abbrev cV_nearest : ByteArray := prog_1_method_14_code
def yV_nearest : MethodName := ⟨"ShortVectors", "nearest", "(IIIII)I"⟩
abbrev cC_coordinate : ByteArray := prog_3_method_4_code
def yC_coordinate : MethodName := ⟨"ShortVectors$Closest", "coordinate", "(I)I"⟩
abbrev cM_init : ByteArray := prog_9_method_1_code
def yM_init : MethodName := ⟨"ShortVectorsModel", "<init>", "()V"⟩
abbrev cM_add : ByteArray := prog_9_method_4_code
def yM_add : MethodName := ⟨"ShortVectorsModel", "add", "(IIII)I"⟩
abbrev cM_within : ByteArray := prog_9_method_2_code
def yM_within : MethodName := ⟨"ShortVectorsModel", "within", "(IIIII)Z"⟩
abbrev cM_changed : ByteArray := prog_9_method_3_code
def yM_changed : MethodName := ⟨"ShortVectorsModel", "changed", "()V"⟩
abbrev cM_drop : ByteArray := prog_9_method_5_code
def yM_drop : MethodName := ⟨"ShortVectorsModel", "drop", "()Z"⟩
abbrev cM_generators : ByteArray := prog_9_method_6_code
def yM_generators : MethodName := ⟨"ShortVectorsModel", "generators", "()I"⟩
abbrev cM_rank : ByteArray := prog_9_method_18_code
def yM_rank : MethodName := ⟨"ShortVectorsModel", "rank", "()I"⟩
abbrev cM_look : ByteArray := prog_9_method_14_code
def yM_look : MethodName := ⟨"ShortVectorsModel", "look", "(I)V"⟩
abbrev cM_enter : ByteArray := prog_9_method_13_code
def yM_enter : MethodName := ⟨"ShortVectorsModel", "enter", "()V"⟩
abbrev cM_rowAt : ByteArray := prog_9_method_8_code
def yM_rowAt : MethodName := ⟨"ShortVectorsModel", "rowAt", "(I)I"⟩
abbrev cM_tidy : ByteArray := prog_9_method_9_code
def yM_tidy : MethodName := ⟨"ShortVectorsModel", "tidy", "(I)V"⟩
abbrev cM_under : ByteArray := prog_9_method_7_code
def yM_under : MethodName := ⟨"ShortVectorsModel", "under", "(JJ)J"⟩
abbrev cM_insert : ByteArray := prog_9_method_12_code
def yM_insert : MethodName := ⟨"ShortVectorsModel", "insert", "(I)V"⟩
abbrev cM_divide : ByteArray := prog_9_method_11_code
def yM_divide : MethodName := ⟨"ShortVectorsModel", "divide", "(I)V"⟩
abbrev cM_swap : ByteArray := prog_9_method_10_code
def yM_swap : MethodName := ⟨"ShortVectorsModel", "swap", "(I)V"⟩
abbrev cM_volume : ByteArray := prog_9_method_21_code
def yM_volume : MethodName := ⟨"ShortVectorsModel", "volume", "()J"⟩
abbrev cM_two : ByteArray := prog_9_method_19_code
def yM_two : MethodName := ⟨"ShortVectorsModel", "two", "(IIII)J"⟩
abbrev cM_three : ByteArray := prog_9_method_20_code
def yM_three : MethodName := ⟨"ShortVectorsModel", "three", "(III)J"⟩
abbrev cM_spare : ByteArray := prog_9_method_22_code
def yM_spare : MethodName := ⟨"ShortVectorsModel", "spare", "(I)Z"⟩
abbrev cM_set : ByteArray := prog_9_method_17_code
def yM_set : MethodName := ⟨"ShortVectorsModel", "set", "(IIII)V"⟩
abbrev cM_times : ByteArray := prog_9_method_15_code
def yM_times : MethodName := ⟨"ShortVectorsModel", "times", "()J"⟩
abbrev cM_common : ByteArray := prog_9_method_16_code
def yM_common : MethodName := ⟨"ShortVectorsModel", "common", "(JJ)J"⟩
abbrev cM_has : ByteArray := prog_9_method_23_code
def yM_has : MethodName := ⟨"ShortVectorsModel", "has", "(IIII)Z"⟩
abbrev cM_order : ByteArray := prog_9_method_24_code
def yM_order : MethodName := ⟨"ShortVectorsModel", "order", "(IIII)J"⟩
abbrev cM_count : ByteArray := prog_9_method_34_code
def yM_count : MethodName := ⟨"ShortVectorsModel", "count", "(I)I"⟩
abbrev cM_origin : ByteArray := prog_9_method_33_code
def yM_origin : MethodName := ⟨"ShortVectorsModel", "origin", "()V"⟩
abbrev cM_walk : ByteArray := prog_9_method_31_code
def yM_walk : MethodName := ⟨"ShortVectorsModel", "walk", "(IJ)V"⟩
abbrev cM_open : ByteArray := prog_9_method_27_code
def yM_open : MethodName := ⟨"ShortVectorsModel", "open", "(I)I"⟩
abbrev cM_visit : ByteArray := prog_9_method_32_code
def yM_visit : MethodName := ⟨"ShortVectorsModel", "visit", "(IJ)V"⟩
abbrev cM_sortIn : ByteArray := prog_9_method_36_code
def yM_sortIn : MethodName := ⟨"ShortVectorsModel", "sortIn", "(IJ)V"⟩
abbrev cM_before : ByteArray := prog_9_method_35_code
def yM_before : MethodName := ⟨"ShortVectorsModel", "before", "(IJI)Z"⟩
abbrev cM_extend : ByteArray := prog_9_method_39_code
def yM_extend : MethodName := ⟨"ShortVectorsModel", "extend", "(I)V"⟩
abbrev cM_lead : ByteArray := prog_9_method_40_code
def yM_lead : MethodName := ⟨"ShortVectorsModel", "lead", "(I)I"⟩
abbrev cM_shrink : ByteArray := prog_9_method_41_code
def yM_shrink : MethodName := ⟨"ShortVectorsModel", "shrink", "()V"⟩
abbrev cM_compare : ByteArray := prog_9_method_45_code
def yM_compare : MethodName := ⟨"ShortVectorsModel", "compare", "(IJ)V"⟩
abbrev cM_finish : ByteArray := prog_9_method_30_code
def yM_finish : MethodName := ⟨"ShortVectorsModel", "finish", "(I)V"⟩
abbrev cM_along : ByteArray := prog_9_method_29_code
def yM_along : MethodName := ⟨"ShortVectorsModel", "along", "(IJJ)V"⟩
abbrev cM_take : ByteArray := prog_9_method_28_code
def yM_take : MethodName := ⟨"ShortVectorsModel", "take", "(I)V"⟩
abbrev cM_range : ByteArray := prog_9_method_26_code
def yM_range : MethodName := ⟨"ShortVectorsModel", "range", "(I)V"⟩
abbrev cM_root : ByteArray := prog_9_method_25_code
def yM_root : MethodName := ⟨"ShortVectorsModel", "root", "(J)J"⟩
abbrev cM_vector : ByteArray := prog_9_method_38_code
def yM_vector : MethodName := ⟨"ShortVectorsModel", "vector", "(II)I"⟩
abbrev cM_list : ByteArray := prog_9_method_37_code
def yM_list : MethodName := ⟨"ShortVectorsModel", "list", "()V"⟩
abbrev cM_minimum : ByteArray := prog_9_method_44_code
def yM_minimum : MethodName := ⟨"ShortVectorsModel", "minimum", "(I)I"⟩
abbrev cM_measure : ByteArray := prog_9_method_43_code
def yM_measure : MethodName := ⟨"ShortVectorsModel", "measure", "()V"⟩
abbrev cM_reaches : ByteArray := prog_9_method_42_code
def yM_reaches : MethodName := ⟨"ShortVectorsModel", "reaches", "(II)Z"⟩
abbrev cM_distance : ByteArray := prog_9_method_47_code
def yM_distance : MethodName := ⟨"ShortVectorsModel", "distance", "(IIII)I"⟩
abbrev cM_seek : ByteArray := prog_9_method_46_code
def yM_seek : MethodName := ⟨"ShortVectorsModel", "seek", "(IIII)V"⟩
abbrev cM_nearest : ByteArray := prog_9_method_48_code
def yM_nearest : MethodName := ⟨"ShortVectorsModel", "nearest", "(IIIII)I"⟩
