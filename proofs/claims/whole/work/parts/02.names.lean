/-- the tables' words that a call may hand on -/
def lw_g : List Cond := lw_tbl.filter goodWord
theorem lw_gq {w : Cond} (h : w ∈ tables_1) (hg : goodWord w = true) : w ∈ lw_g := List.mem_filter.mpr ⟨List.mem_append_right _ h, hg⟩
theorem lw_gp {w : Cond} (h : w ∈ k2_sels lw_privs) (hg : goodWord w = true) : w ∈ lw_g := List.mem_filter.mpr ⟨List.mem_append_left _ h, hg⟩
theorem lw_gg {w : Cond} (h : w ∈ lw_g) : (w.onTables && w.keeps) = true ∨ ∃ ty, w = .arrayClass ty := good_of_word (List.mem_filter.mp h).2
theorem lw_t1 {w : Cond} (h : w ∈ tables_1_1) (hg : goodWord w = true) : w ∈ lw_g := lw_gq (List.mem_append_left _ h) hg
theorem lw_u1 {w : Cond} (h : w ∈ tables_1_1) : w ∈ lw_tbl := List.mem_append_right _ (List.mem_append_left _ h)
theorem lw_t2 {w : Cond} (h : w ∈ tables_1_2) (hg : goodWord w = true) : w ∈ lw_g := lw_gq (List.mem_append_right _ (List.mem_append_left _ h)) hg
theorem lw_u2 {w : Cond} (h : w ∈ tables_1_2) : w ∈ lw_tbl := List.mem_append_right _ (List.mem_append_right _ (List.mem_append_left _ h))
theorem lw_t3 {w : Cond} (h : w ∈ tables_1_3) (hg : goodWord w = true) : w ∈ lw_g := lw_gq (List.mem_append_right _ (List.mem_append_right _ (List.mem_append_left _ h))) hg
theorem lw_u3 {w : Cond} (h : w ∈ tables_1_3) : w ∈ lw_tbl := List.mem_append_right _ (List.mem_append_right _ (List.mem_append_right _ (List.mem_append_left _ h)))
theorem lw_t4 {w : Cond} (h : w ∈ tables_1_4) (hg : goodWord w = true) : w ∈ lw_g := lw_gq (List.mem_append_right _ (List.mem_append_right _ (List.mem_append_right _ (h)))) hg
theorem lw_u4 {w : Cond} (h : w ∈ tables_1_4) : w ∈ lw_tbl := List.mem_append_right _ (List.mem_append_right _ (List.mem_append_right _ (List.mem_append_right _ (h))))
set_option maxRecDepth 100000 in
theorem q_0 : (Jvm.Cond.initialized "ElasticKernelLaw") ∈ lw_g := lw_t1 (List.mem_of_getElem? (i := 0) rfl) rfl
set_option maxRecDepth 100000 in
theorem q_1 : (Jvm.Cond.initialized "ElasticKernel") ∈ lw_g := lw_t1 (List.mem_of_getElem? (i := 1) rfl) rfl
set_option maxRecDepth 100000 in
theorem q_2 : (Jvm.Cond.initialized "ElasticKernel$Roster") ∈ lw_g := lw_t1 (List.mem_of_getElem? (i := 2) rfl) rfl
set_option maxRecDepth 100000 in
theorem q_3 : (Jvm.Cond.initialized "ElasticKernel$Task") ∈ lw_g := lw_t1 (List.mem_of_getElem? (i := 3) rfl) rfl
set_option maxRecDepth 100000 in
theorem q_4 : (Jvm.Cond.initialized "ElasticKernel$Fraction") ∈ lw_g := lw_t1 (List.mem_of_getElem? (i := 4) rfl) rfl
set_option maxRecDepth 100000 in
theorem q_5 : (Jvm.Cond.initialized "ElasticKernel$Natural") ∈ lw_g := lw_t1 (List.mem_of_getElem? (i := 5) rfl) rfl
set_option maxRecDepth 100000 in
theorem q_6 : (Jvm.Cond.initialized "ElasticKernel$Springs") ∈ lw_g := lw_t1 (List.mem_of_getElem? (i := 6) rfl) rfl
set_option maxRecDepth 100000 in
theorem q_7 : (Jvm.Cond.initialized "ElasticKernel$Divider") ∈ lw_g := lw_t1 (List.mem_of_getElem? (i := 7) rfl) rfl
set_option maxRecDepth 100000 in
theorem q_8 : (Jvm.Cond.initialized "ElasticKernelModel") ∈ lw_g := lw_t1 (List.mem_of_getElem? (i := 8) rfl) rfl
set_option maxRecDepth 100000 in
theorem q_9 : (Jvm.Cond.initialized "java/lang/Math") ∈ lw_g := lw_t1 (List.mem_of_getElem? (i := 9) rfl) rfl
set_option maxRecDepth 100000 in
theorem q_10 : (Jvm.Cond.initialized "java/lang/System") ∈ lw_g := lw_t1 (List.mem_of_getElem? (i := 10) rfl) rfl
set_option maxRecDepth 100000 in
theorem q_11 : (Jvm.Cond.initialized "java/lang/Integer") ∈ lw_g := lw_t1 (List.mem_of_getElem? (i := 11) rfl) rfl
set_option maxRecDepth 100000 in
theorem q_12 : (Jvm.Cond.initialized "java/lang/Throwable") ∈ lw_g := lw_t1 (List.mem_of_getElem? (i := 12) rfl) rfl
set_option maxRecDepth 100000 in
theorem q_13 : (Jvm.Cond.initialized "java/lang/Exception") ∈ lw_g := lw_t1 (List.mem_of_getElem? (i := 13) rfl) rfl
set_option maxRecDepth 100000 in
theorem q_14 : (Jvm.Cond.initialized "java/lang/RuntimeException") ∈ lw_g := lw_t1 (List.mem_of_getElem? (i := 14) rfl) rfl
set_option maxRecDepth 100000 in
theorem q_15 : (Jvm.Cond.initialized "java/lang/IllegalArgumentException") ∈ lw_g := lw_t1 (List.mem_of_getElem? (i := 15) rfl) rfl
set_option maxRecDepth 100000 in
theorem q_16 : (Jvm.Cond.classLink "ElasticKernelLaw" (8 : Nat) "ElasticKernel") ∈ lw_g := lw_t1 (List.mem_of_getElem? (i := 16) rfl) rfl
set_option maxRecDepth 100000 in
theorem q_17 : (Jvm.Cond.instantiable "ElasticKernel" (8 : Nat)) ∈ lw_g := lw_t1 (List.mem_of_getElem? (i := 17) rfl) rfl
set_option maxRecDepth 100000 in
theorem q_18 : (Jvm.Cond.methodLink "ElasticKernelLaw" (15 : Nat) ({ cls := "ElasticKernel", name := "<init>", desc := "()V" } : Jvm.MethodName)) ∈ lw_g := lw_t1 (List.mem_of_getElem? (i := 18) rfl) rfl
set_option maxRecDepth 100000 in
theorem q_19 : (Jvm.Cond.instanceMethod ({ cls := "ElasticKernel", name := "<init>", desc := "()V" } : Jvm.MethodName)) ∈ lw_g := lw_t1 (List.mem_of_getElem? (i := 19) rfl) rfl
set_option maxRecDepth 100000 in
theorem q_20 : (Jvm.Cond.code ({ cls := "ElasticKernel", name := "<init>", desc := "()V" } : Jvm.MethodName) prog_1_method_1_code (1 : Nat) (Option.none : Option Jvm.ClassFile.FieldType)) ∈ lw_g := lw_t1 (List.mem_of_getElem? (i := 20) rfl) rfl
set_option maxRecDepth 100000 in
theorem q_21 : (Jvm.Cond.methodLink "ElasticKernel" (1 : Nat) ({ cls := "java/lang/Object", name := "<init>", desc := "()V" } : Jvm.MethodName)) ∈ lw_g := lw_t1 (List.mem_of_getElem? (i := 21) rfl) rfl
set_option maxRecDepth 100000 in
theorem q_22 : (Jvm.Cond.instanceMethod ({ cls := "java/lang/Object", name := "<init>", desc := "()V" } : Jvm.MethodName)) ∈ lw_g := lw_t1 (List.mem_of_getElem? (i := 22) rfl) rfl
set_option maxRecDepth 100000 in
theorem q_23 : (Jvm.Cond.code ({ cls := "java/lang/Object", name := "<init>", desc := "()V" } : Jvm.MethodName) object_method_1_code (1 : Nat) (Option.none : Option Jvm.ClassFile.FieldType)) ∈ lw_g := lw_t1 (List.mem_of_getElem? (i := 23) rfl) rfl
set_option maxRecDepth 100000 in
theorem q_24 : (Jvm.Cond.classLink "ElasticKernel" (7 : Nat) "ElasticKernel$Roster") ∈ lw_g := lw_t1 (List.mem_of_getElem? (i := 24) rfl) rfl
set_option maxRecDepth 100000 in
theorem q_25 : (Jvm.Cond.instantiable "ElasticKernel$Roster" (2 : Nat)) ∈ lw_g := lw_t1 (List.mem_of_getElem? (i := 25) rfl) rfl
set_option maxRecDepth 100000 in
theorem q_26 : (Jvm.Cond.methodLink "ElasticKernel" (9 : Nat) ({ cls := "ElasticKernel$Roster", name := "<init>", desc := "()V" } : Jvm.MethodName)) ∈ lw_g := lw_t1 (List.mem_of_getElem? (i := 26) rfl) rfl
set_option maxRecDepth 100000 in
theorem q_27 : (Jvm.Cond.instanceMethod ({ cls := "ElasticKernel$Roster", name := "<init>", desc := "()V" } : Jvm.MethodName)) ∈ lw_g := lw_t1 (List.mem_of_getElem? (i := 27) rfl) rfl
set_option maxRecDepth 100000 in
theorem q_28 : (Jvm.Cond.code ({ cls := "ElasticKernel$Roster", name := "<init>", desc := "()V" } : Jvm.MethodName) prog_5_method_1_code (2 : Nat) (Option.none : Option Jvm.ClassFile.FieldType)) ∈ lw_g := lw_t1 (List.mem_of_getElem? (i := 28) rfl) rfl
set_option maxRecDepth 100000 in
theorem q_29 : (Jvm.Cond.methodLink "ElasticKernel$Roster" (3 : Nat) ({ cls := "java/lang/Object", name := "<init>", desc := "()V" } : Jvm.MethodName)) ∈ lw_g := lw_t1 (List.mem_of_getElem? (i := 29) rfl) rfl
set_option maxRecDepth 100000 in
theorem q_30 : (Jvm.Cond.classLink "ElasticKernel$Roster" (9 : Nat) "ElasticKernel$Task") ∈ lw_g := lw_t1 (List.mem_of_getElem? (i := 30) rfl) rfl
set_option maxRecDepth 100000 in
theorem q_32 : (Jvm.Cond.instantiable "ElasticKernel$Task" (15 : Nat)) ∈ lw_g := lw_t1 (List.mem_of_getElem? (i := 32) rfl) rfl
set_option maxRecDepth 100000 in
theorem q_33 : (Jvm.Cond.methodLink "ElasticKernel$Roster" (17 : Nat) ({ cls := "ElasticKernel$Task", name := "<init>", desc := "()V" } : Jvm.MethodName)) ∈ lw_g := lw_t1 (List.mem_of_getElem? (i := 33) rfl) rfl
set_option maxRecDepth 100000 in
theorem q_34 : (Jvm.Cond.instanceMethod ({ cls := "ElasticKernel$Task", name := "<init>", desc := "()V" } : Jvm.MethodName)) ∈ lw_g := lw_t1 (List.mem_of_getElem? (i := 34) rfl) rfl
set_option maxRecDepth 100000 in
theorem q_35 : (Jvm.Cond.code ({ cls := "ElasticKernel$Task", name := "<init>", desc := "()V" } : Jvm.MethodName) prog_7_method_1_code (1 : Nat) (Option.none : Option Jvm.ClassFile.FieldType)) ∈ lw_g := lw_t1 (List.mem_of_getElem? (i := 35) rfl) rfl
set_option maxRecDepth 100000 in
theorem q_36 : (Jvm.Cond.methodLink "ElasticKernel$Task" (3 : Nat) ({ cls := "java/lang/Object", name := "<init>", desc := "()V" } : Jvm.MethodName)) ∈ lw_g := lw_t1 (List.mem_of_getElem? (i := 36) rfl) rfl
set_option maxRecDepth 100000 in
theorem q_37 : (Jvm.Cond.classLink "ElasticKernel$Task" (9 : Nat) "ElasticKernel$Fraction") ∈ lw_g := lw_t1 (List.mem_of_getElem? (i := 37) rfl) rfl
set_option maxRecDepth 100000 in
theorem q_38 : (Jvm.Cond.instantiable "ElasticKernel$Fraction" (2 : Nat)) ∈ lw_g := lw_t1 (List.mem_of_getElem? (i := 38) rfl) rfl
set_option maxRecDepth 100000 in
theorem q_39 : (Jvm.Cond.methodLink "ElasticKernel$Task" (11 : Nat) ({ cls := "ElasticKernel$Fraction", name := "<init>", desc := "()V" } : Jvm.MethodName)) ∈ lw_g := lw_t1 (List.mem_of_getElem? (i := 39) rfl) rfl
set_option maxRecDepth 100000 in
theorem q_40 : (Jvm.Cond.instanceMethod ({ cls := "ElasticKernel$Fraction", name := "<init>", desc := "()V" } : Jvm.MethodName)) ∈ lw_g := lw_t1 (List.mem_of_getElem? (i := 40) rfl) rfl
set_option maxRecDepth 100000 in
theorem q_41 : (Jvm.Cond.code ({ cls := "ElasticKernel$Fraction", name := "<init>", desc := "()V" } : Jvm.MethodName) prog_3_method_1_code (1 : Nat) (Option.none : Option Jvm.ClassFile.FieldType)) ∈ lw_g := lw_t1 (List.mem_of_getElem? (i := 41) rfl) rfl
set_option maxRecDepth 100000 in
theorem q_42 : (Jvm.Cond.methodLink "ElasticKernel$Fraction" (1 : Nat) ({ cls := "java/lang/Object", name := "<init>", desc := "()V" } : Jvm.MethodName)) ∈ lw_g := lw_t1 (List.mem_of_getElem? (i := 42) rfl) rfl
set_option maxRecDepth 100000 in
theorem q_43 : (Jvm.Cond.classLink "ElasticKernel$Fraction" (7 : Nat) "ElasticKernel$Natural") ∈ lw_g := lw_t1 (List.mem_of_getElem? (i := 43) rfl) rfl
set_option maxRecDepth 100000 in
theorem q_44 : (Jvm.Cond.instantiable "ElasticKernel$Natural" (1 : Nat)) ∈ lw_g := lw_t1 (List.mem_of_getElem? (i := 44) rfl) rfl
set_option maxRecDepth 100000 in
theorem q_45 : (Jvm.Cond.methodLink "ElasticKernel$Fraction" (9 : Nat) ({ cls := "ElasticKernel$Natural", name := "<init>", desc := "()V" } : Jvm.MethodName)) ∈ lw_g := lw_t1 (List.mem_of_getElem? (i := 45) rfl) rfl
set_option maxRecDepth 100000 in
theorem q_46 : (Jvm.Cond.instanceMethod ({ cls := "ElasticKernel$Natural", name := "<init>", desc := "()V" } : Jvm.MethodName)) ∈ lw_g := lw_t1 (List.mem_of_getElem? (i := 46) rfl) rfl
set_option maxRecDepth 100000 in
theorem q_47 : (Jvm.Cond.code ({ cls := "ElasticKernel$Natural", name := "<init>", desc := "()V" } : Jvm.MethodName) prog_4_method_1_code (1 : Nat) (Option.none : Option Jvm.ClassFile.FieldType)) ∈ lw_g := lw_t1 (List.mem_of_getElem? (i := 47) rfl) rfl
set_option maxRecDepth 100000 in
theorem q_48 : (Jvm.Cond.methodLink "ElasticKernel$Natural" (3 : Nat) ({ cls := "java/lang/Object", name := "<init>", desc := "()V" } : Jvm.MethodName)) ∈ lw_g := lw_t1 (List.mem_of_getElem? (i := 48) rfl) rfl
set_option maxRecDepth 100000 in
theorem q_49 : (Jvm.Cond.fieldLink "ElasticKernel$Natural" (9 : Nat) "ElasticKernel$Natural" "words" "[I") ∈ lw_g := lw_t1 (List.mem_of_getElem? (i := 49) rfl) rfl
set_option maxRecDepth 100000 in
theorem q_50 : (Jvm.Cond.laysFinal "ElasticKernel$Natural" "ElasticKernel$Natural" "words" "[I") ∈ lw_g := lw_t1 (List.mem_of_getElem? (i := 50) rfl) rfl
set_option maxRecDepth 100000 in
theorem q_53 : (Jvm.Cond.arrayClass Jvm.ClassFile.FieldType.int) ∈ lw_g := lw_t1 (List.mem_of_getElem? (i := 53) rfl) rfl
set_option maxRecDepth 100000 in
theorem q_54 : (Jvm.Cond.methodLink "ElasticKernel$Fraction" (19 : Nat) ({ cls := "ElasticKernel$Natural", name := "set", desc := "(I)V" } : Jvm.MethodName)) ∈ lw_g := lw_t1 (List.mem_of_getElem? (i := 54) rfl) rfl
set_option maxRecDepth 100000 in
theorem q_55 : (Jvm.Cond.instanceMethod ({ cls := "ElasticKernel$Natural", name := "set", desc := "(I)V" } : Jvm.MethodName)) ∈ lw_g := lw_t1 (List.mem_of_getElem? (i := 55) rfl) rfl
set_option maxRecDepth 100000 in
theorem q_56 : (Jvm.Cond.selects "ElasticKernel$Natural" ({ cls := "ElasticKernel$Natural", name := "set", desc := "(I)V" } : Jvm.MethodName) ({ cls := "ElasticKernel$Natural", name := "set", desc := "(I)V" } : Jvm.MethodName)) ∈ lw_g := lw_t1 (List.mem_of_getElem? (i := 56) rfl) rfl
set_option maxRecDepth 100000 in
theorem q_57 : (Jvm.Cond.code ({ cls := "ElasticKernel$Natural", name := "set", desc := "(I)V" } : Jvm.MethodName) prog_4_method_5_code (3 : Nat) (Option.none : Option Jvm.ClassFile.FieldType)) ∈ lw_g := lw_t1 (List.mem_of_getElem? (i := 57) rfl) rfl
set_option maxRecDepth 100000 in
theorem q_58 : (Jvm.Cond.constant "ElasticKernel$Natural" (23 : Nat) (16777215 : Int32)) ∈ lw_g := lw_t1 (List.mem_of_getElem? (i := 58) rfl) rfl
set_option maxRecDepth 100000 in
theorem q_59 : (Jvm.Cond.fieldLink "ElasticKernel$Fraction" (10 : Nat) "ElasticKernel$Fraction" "above" "LElasticKernel$Natural;") ∈ lw_g := lw_t1 (List.mem_of_getElem? (i := 59) rfl) rfl
set_option maxRecDepth 100000 in
theorem q_63 : (Jvm.Cond.fieldLink "ElasticKernel$Fraction" (16 : Nat) "ElasticKernel$Fraction" "below" "LElasticKernel$Natural;") ∈ lw_g := lw_t1 (List.mem_of_getElem? (i := 63) rfl) rfl
set_option maxRecDepth 100000 in
theorem q_67 : (Jvm.Cond.laysFinal "ElasticKernel$Fraction" "ElasticKernel$Fraction" "above" "LElasticKernel$Natural;") ∈ lw_g := lw_t1 (List.mem_of_getElem? (i := 67) rfl) rfl
set_option maxRecDepth 100000 in
theorem q_69 : (Jvm.Cond.laysFinal "ElasticKernel$Fraction" "ElasticKernel$Fraction" "below" "LElasticKernel$Natural;") ∈ lw_g := lw_t1 (List.mem_of_getElem? (i := 69) rfl) rfl
set_option maxRecDepth 100000 in
theorem q_75 : (Jvm.Cond.fieldLink "ElasticKernel$Task" (18 : Nat) "ElasticKernel$Task" "cost" "I") ∈ lw_g := lw_t1 (List.mem_of_getElem? (i := 75) rfl) rfl
set_option maxRecDepth 100000 in
theorem q_78 : (Jvm.Cond.fieldLink "ElasticKernel$Task" (22 : Nat) "ElasticKernel$Task" "shortest" "I") ∈ lw_g := lw_t1 (List.mem_of_getElem? (i := 78) rfl) rfl
set_option maxRecDepth 100000 in
theorem q_80 : (Jvm.Cond.fieldLink "ElasticKernel$Task" (25 : Nat) "ElasticKernel$Task" "longest" "I") ∈ lw_g := lw_t1 (List.mem_of_getElem? (i := 80) rfl) rfl
set_option maxRecDepth 100000 in
theorem q_82 : (Jvm.Cond.fieldLink "ElasticKernel$Task" (28 : Nat) "ElasticKernel$Task" "stiffness" "I") ∈ lw_g := lw_t1 (List.mem_of_getElem? (i := 82) rfl) rfl
set_option maxRecDepth 100000 in
theorem q_84 : (Jvm.Cond.fieldLink "ElasticKernel$Task" (31 : Nat) "ElasticKernel$Task" "phase" "I") ∈ lw_g := lw_t1 (List.mem_of_getElem? (i := 84) rfl) rfl
set_option maxRecDepth 100000 in
theorem q_86 : (Jvm.Cond.fieldLink "ElasticKernel$Task" (34 : Nat) "ElasticKernel$Task" "period" "I") ∈ lw_g := lw_t1 (List.mem_of_getElem? (i := 86) rfl) rfl
set_option maxRecDepth 100000 in
theorem q_88 : (Jvm.Cond.fieldLink "ElasticKernel$Task" (52 : Nat) "ElasticKernel$Task" "solvedPeriod" "I") ∈ lw_g := lw_t1 (List.mem_of_getElem? (i := 88) rfl) rfl
set_option maxRecDepth 100000 in
theorem q_91 : (Jvm.Cond.fieldLink "ElasticKernel$Task" (37 : Nat) "ElasticKernel$Task" "end" "I") ∈ lw_g := lw_t1 (List.mem_of_getElem? (i := 91) rfl) rfl
set_option maxRecDepth 100000 in
theorem q_93 : (Jvm.Cond.fieldLink "ElasticKernel$Task" (40 : Nat) "ElasticKernel$Task" "needs" "I") ∈ lw_g := lw_t1 (List.mem_of_getElem? (i := 93) rfl) rfl
set_option maxRecDepth 100000 in
theorem q_95 : (Jvm.Cond.fieldLink "ElasticKernel$Task" (43 : Nat) "ElasticKernel$Task" "told" "I") ∈ lw_g := lw_t1 (List.mem_of_getElem? (i := 95) rfl) rfl
set_option maxRecDepth 100000 in
theorem q_97 : (Jvm.Cond.fieldLink "ElasticKernel$Task" (46 : Nat) "ElasticKernel$Task" "ends" "I") ∈ lw_g := lw_t1 (List.mem_of_getElem? (i := 97) rfl) rfl
set_option maxRecDepth 100000 in
theorem q_99 : (Jvm.Cond.fieldLink "ElasticKernel$Task" (49 : Nat) "ElasticKernel$Task" "latestEnd" "I") ∈ lw_g := lw_t1 (List.mem_of_getElem? (i := 99) rfl) rfl
set_option maxRecDepth 100000 in
theorem q_102 : (Jvm.Cond.fieldLink "ElasticKernel$Task" (12 : Nat) "ElasticKernel$Task" "solvedLoad" "LElasticKernel$Fraction;") ∈ lw_g := lw_t1 (List.mem_of_getElem? (i := 102) rfl) rfl
set_option maxRecDepth 100000 in
theorem q_105 : (Jvm.Cond.lays "ElasticKernel$Task" "ElasticKernel$Task" "id" "I") ∈ lw_g := lw_t1 (List.mem_of_getElem? (i := 105) rfl) rfl
set_option maxRecDepth 100000 in
theorem q_107 : (Jvm.Cond.lays "ElasticKernel$Task" "ElasticKernel$Task" "cost" "I") ∈ lw_g := lw_t1 (List.mem_of_getElem? (i := 107) rfl) rfl
set_option maxRecDepth 100000 in
theorem q_109 : (Jvm.Cond.lays "ElasticKernel$Task" "ElasticKernel$Task" "shortest" "I") ∈ lw_g := lw_t1 (List.mem_of_getElem? (i := 109) rfl) rfl
set_option maxRecDepth 100000 in
theorem q_111 : (Jvm.Cond.lays "ElasticKernel$Task" "ElasticKernel$Task" "longest" "I") ∈ lw_g := lw_t1 (List.mem_of_getElem? (i := 111) rfl) rfl
set_option maxRecDepth 100000 in
theorem q_113 : (Jvm.Cond.lays "ElasticKernel$Task" "ElasticKernel$Task" "stiffness" "I") ∈ lw_g := lw_t1 (List.mem_of_getElem? (i := 113) rfl) rfl
set_option maxRecDepth 100000 in
theorem q_115 : (Jvm.Cond.lays "ElasticKernel$Task" "ElasticKernel$Task" "phase" "I") ∈ lw_g := lw_t1 (List.mem_of_getElem? (i := 115) rfl) rfl
set_option maxRecDepth 100000 in
theorem q_117 : (Jvm.Cond.lays "ElasticKernel$Task" "ElasticKernel$Task" "period" "I") ∈ lw_g := lw_t1 (List.mem_of_getElem? (i := 117) rfl) rfl
set_option maxRecDepth 100000 in
theorem q_119 : (Jvm.Cond.lays "ElasticKernel$Task" "ElasticKernel$Task" "solvedPeriod" "I") ∈ lw_g := lw_t1 (List.mem_of_getElem? (i := 119) rfl) rfl
set_option maxRecDepth 100000 in
theorem q_121 : (Jvm.Cond.lays "ElasticKernel$Task" "ElasticKernel$Task" "end" "I") ∈ lw_g := lw_t1 (List.mem_of_getElem? (i := 121) rfl) rfl
set_option maxRecDepth 100000 in
theorem q_123 : (Jvm.Cond.lays "ElasticKernel$Task" "ElasticKernel$Task" "needs" "I") ∈ lw_g := lw_t1 (List.mem_of_getElem? (i := 123) rfl) rfl
set_option maxRecDepth 100000 in
theorem q_125 : (Jvm.Cond.lays "ElasticKernel$Task" "ElasticKernel$Task" "told" "I") ∈ lw_g := lw_t1 (List.mem_of_getElem? (i := 125) rfl) rfl
set_option maxRecDepth 100000 in
theorem q_127 : (Jvm.Cond.lays "ElasticKernel$Task" "ElasticKernel$Task" "ends" "I") ∈ lw_g := lw_t1 (List.mem_of_getElem? (i := 127) rfl) rfl
set_option maxRecDepth 100000 in
theorem q_129 : (Jvm.Cond.lays "ElasticKernel$Task" "ElasticKernel$Task" "latestEnd" "I") ∈ lw_g := lw_t1 (List.mem_of_getElem? (i := 129) rfl) rfl
set_option maxRecDepth 100000 in
theorem q_131 : (Jvm.Cond.lays "ElasticKernel$Task" "ElasticKernel$Task" "isPinned" "Z") ∈ lw_g := lw_t1 (List.mem_of_getElem? (i := 131) rfl) rfl
set_option maxRecDepth 100000 in
theorem q_133 : (Jvm.Cond.laysFinal "ElasticKernel$Task" "ElasticKernel$Task" "solvedLoad" "LElasticKernel$Fraction;") ∈ lw_g := lw_t1 (List.mem_of_getElem? (i := 133) rfl) rfl
set_option maxRecDepth 100000 in
theorem q_136 : (Jvm.Cond.fieldLink "ElasticKernel$Roster" (11 : Nat) "ElasticKernel$Roster" "row" "[LElasticKernel$Task;") ∈ lw_g := lw_t1 (List.mem_of_getElem? (i := 136) rfl) rfl
set_option maxRecDepth 100000 in
theorem q_139 : (Jvm.Cond.fieldLink "ElasticKernel$Roster" (18 : Nat) "ElasticKernel$Roster" "size" "I") ∈ lw_g := lw_t1 (List.mem_of_getElem? (i := 139) rfl) rfl
set_option maxRecDepth 100000 in
theorem q_142 : (Jvm.Cond.laysFinal "ElasticKernel$Roster" "ElasticKernel$Roster" "row" "[LElasticKernel$Task;") ∈ lw_g := lw_t1 (List.mem_of_getElem? (i := 142) rfl) rfl
set_option maxRecDepth 100000 in
theorem q_144 : (Jvm.Cond.lays "ElasticKernel$Roster" "ElasticKernel$Roster" "size" "I") ∈ lw_g := lw_t1 (List.mem_of_getElem? (i := 144) rfl) rfl
set_option maxRecDepth 100000 in
theorem q_147 : (Jvm.Cond.classLink "ElasticKernel" (16 : Nat) "ElasticKernel$Springs") ∈ lw_g := lw_t1 (List.mem_of_getElem? (i := 147) rfl) rfl
set_option maxRecDepth 100000 in
theorem q_148 : (Jvm.Cond.instantiable "ElasticKernel$Springs" (5 : Nat)) ∈ lw_g := lw_t1 (List.mem_of_getElem? (i := 148) rfl) rfl
set_option maxRecDepth 100000 in
theorem q_149 : (Jvm.Cond.methodLink "ElasticKernel" (18 : Nat) ({ cls := "ElasticKernel$Springs", name := "<init>", desc := "()V" } : Jvm.MethodName)) ∈ lw_g := lw_t1 (List.mem_of_getElem? (i := 149) rfl) rfl
set_option maxRecDepth 100000 in
theorem q_150 : (Jvm.Cond.instanceMethod ({ cls := "ElasticKernel$Springs", name := "<init>", desc := "()V" } : Jvm.MethodName)) ∈ lw_g := lw_t1 (List.mem_of_getElem? (i := 150) rfl) rfl
set_option maxRecDepth 100000 in
theorem q_151 : (Jvm.Cond.code ({ cls := "ElasticKernel$Springs", name := "<init>", desc := "()V" } : Jvm.MethodName) prog_6_method_1_code (1 : Nat) (Option.none : Option Jvm.ClassFile.FieldType)) ∈ lw_g := lw_t1 (List.mem_of_getElem? (i := 151) rfl) rfl
set_option maxRecDepth 100000 in
theorem q_152 : (Jvm.Cond.methodLink "ElasticKernel$Springs" (3 : Nat) ({ cls := "java/lang/Object", name := "<init>", desc := "()V" } : Jvm.MethodName)) ∈ lw_g := lw_t1 (List.mem_of_getElem? (i := 152) rfl) rfl
set_option maxRecDepth 100000 in
theorem q_153 : (Jvm.Cond.classLink "ElasticKernel$Springs" (9 : Nat) "ElasticKernel$Fraction") ∈ lw_g := lw_t1 (List.mem_of_getElem? (i := 153) rfl) rfl
set_option maxRecDepth 100000 in
theorem q_154 : (Jvm.Cond.methodLink "ElasticKernel$Springs" (11 : Nat) ({ cls := "ElasticKernel$Fraction", name := "<init>", desc := "()V" } : Jvm.MethodName)) ∈ lw_g := lw_t1 (List.mem_of_getElem? (i := 154) rfl) rfl
set_option maxRecDepth 100000 in
theorem q_155 : (Jvm.Cond.classLink "ElasticKernel$Springs" (27 : Nat) "ElasticKernel$Divider") ∈ lw_g := lw_t1 (List.mem_of_getElem? (i := 155) rfl) rfl
set_option maxRecDepth 100000 in
theorem q_156 : (Jvm.Cond.instantiable "ElasticKernel$Divider" (4 : Nat)) ∈ lw_g := lw_t1 (List.mem_of_getElem? (i := 156) rfl) rfl
set_option maxRecDepth 100000 in
theorem q_157 : (Jvm.Cond.methodLink "ElasticKernel$Springs" (29 : Nat) ({ cls := "ElasticKernel$Divider", name := "<init>", desc := "()V" } : Jvm.MethodName)) ∈ lw_g := lw_t1 (List.mem_of_getElem? (i := 157) rfl) rfl
set_option maxRecDepth 100000 in
theorem q_158 : (Jvm.Cond.instanceMethod ({ cls := "ElasticKernel$Divider", name := "<init>", desc := "()V" } : Jvm.MethodName)) ∈ lw_g := lw_t1 (List.mem_of_getElem? (i := 158) rfl) rfl
set_option maxRecDepth 100000 in
theorem q_159 : (Jvm.Cond.code ({ cls := "ElasticKernel$Divider", name := "<init>", desc := "()V" } : Jvm.MethodName) prog_2_method_1_code (1 : Nat) (Option.none : Option Jvm.ClassFile.FieldType)) ∈ lw_g := lw_t1 (List.mem_of_getElem? (i := 159) rfl) rfl
set_option maxRecDepth 100000 in
theorem q_160 : (Jvm.Cond.methodLink "ElasticKernel$Divider" (1 : Nat) ({ cls := "java/lang/Object", name := "<init>", desc := "()V" } : Jvm.MethodName)) ∈ lw_g := lw_t1 (List.mem_of_getElem? (i := 160) rfl) rfl
set_option maxRecDepth 100000 in
theorem q_161 : (Jvm.Cond.classLink "ElasticKernel$Divider" (7 : Nat) "ElasticKernel$Natural") ∈ lw_g := lw_t1 (List.mem_of_getElem? (i := 161) rfl) rfl
set_option maxRecDepth 100000 in
theorem q_162 : (Jvm.Cond.methodLink "ElasticKernel$Divider" (9 : Nat) ({ cls := "ElasticKernel$Natural", name := "<init>", desc := "()V" } : Jvm.MethodName)) ∈ lw_g := lw_t1 (List.mem_of_getElem? (i := 162) rfl) rfl
set_option maxRecDepth 100000 in
theorem q_163 : (Jvm.Cond.fieldLink "ElasticKernel$Divider" (10 : Nat) "ElasticKernel$Divider" "quotient" "LElasticKernel$Natural;") ∈ lw_g := lw_t1 (List.mem_of_getElem? (i := 163) rfl) rfl
set_option maxRecDepth 100000 in
theorem q_164 : (Jvm.Cond.fieldLink "ElasticKernel$Divider" (16 : Nat) "ElasticKernel$Divider" "shifted" "LElasticKernel$Natural;") ∈ lw_g := lw_t1 (List.mem_of_getElem? (i := 164) rfl) rfl
set_option maxRecDepth 100000 in
theorem q_165 : (Jvm.Cond.fieldLink "ElasticKernel$Divider" (19 : Nat) "ElasticKernel$Divider" "first" "LElasticKernel$Natural;") ∈ lw_g := lw_t1 (List.mem_of_getElem? (i := 165) rfl) rfl
set_option maxRecDepth 100000 in
theorem q_166 : (Jvm.Cond.fieldLink "ElasticKernel$Divider" (22 : Nat) "ElasticKernel$Divider" "second" "LElasticKernel$Natural;") ∈ lw_g := lw_t1 (List.mem_of_getElem? (i := 166) rfl) rfl
set_option maxRecDepth 100000 in
theorem q_167 : (Jvm.Cond.laysFinal "ElasticKernel$Divider" "ElasticKernel$Divider" "quotient" "LElasticKernel$Natural;") ∈ lw_g := lw_t1 (List.mem_of_getElem? (i := 167) rfl) rfl
set_option maxRecDepth 100000 in
theorem q_169 : (Jvm.Cond.laysFinal "ElasticKernel$Divider" "ElasticKernel$Divider" "shifted" "LElasticKernel$Natural;") ∈ lw_g := lw_t1 (List.mem_of_getElem? (i := 169) rfl) rfl
set_option maxRecDepth 100000 in
theorem q_171 : (Jvm.Cond.laysFinal "ElasticKernel$Divider" "ElasticKernel$Divider" "first" "LElasticKernel$Natural;") ∈ lw_g := lw_t1 (List.mem_of_getElem? (i := 171) rfl) rfl
set_option maxRecDepth 100000 in
theorem q_173 : (Jvm.Cond.laysFinal "ElasticKernel$Divider" "ElasticKernel$Divider" "second" "LElasticKernel$Natural;") ∈ lw_g := lw_t1 (List.mem_of_getElem? (i := 173) rfl) rfl
set_option maxRecDepth 100000 in
theorem q_176 : (Jvm.Cond.fieldLink "ElasticKernel$Springs" (12 : Nat) "ElasticKernel$Springs" "allLoads" "LElasticKernel$Fraction;") ∈ lw_g := lw_t1 (List.mem_of_getElem? (i := 176) rfl) rfl
set_option maxRecDepth 100000 in
theorem q_178 : (Jvm.Cond.fieldLink "ElasticKernel$Springs" (18 : Nat) "ElasticKernel$Springs" "sum" "LElasticKernel$Fraction;") ∈ lw_g := lw_t1 (List.mem_of_getElem? (i := 178) rfl) rfl
set_option maxRecDepth 100000 in
theorem q_179 : (Jvm.Cond.fieldLink "ElasticKernel$Springs" (21 : Nat) "ElasticKernel$Springs" "softness" "LElasticKernel$Fraction;") ∈ lw_g := lw_t1 (List.mem_of_getElem? (i := 179) rfl) rfl
set_option maxRecDepth 100000 in
theorem q_180 : (Jvm.Cond.fieldLink "ElasticKernel$Springs" (24 : Nat) "ElasticKernel$Springs" "push" "LElasticKernel$Fraction;") ∈ lw_g := lw_t1 (List.mem_of_getElem? (i := 180) rfl) rfl
set_option maxRecDepth 100000 in
theorem q_181 : (Jvm.Cond.fieldLink "ElasticKernel$Springs" (30 : Nat) "ElasticKernel$Springs" "divider" "LElasticKernel$Divider;") ∈ lw_g := lw_t1 (List.mem_of_getElem? (i := 181) rfl) rfl
set_option maxRecDepth 100000 in
theorem q_182 : (Jvm.Cond.laysFinal "ElasticKernel$Springs" "ElasticKernel$Springs" "allLoads" "LElasticKernel$Fraction;") ∈ lw_g := lw_t1 (List.mem_of_getElem? (i := 182) rfl) rfl
set_option maxRecDepth 100000 in
theorem q_184 : (Jvm.Cond.laysFinal "ElasticKernel$Springs" "ElasticKernel$Springs" "sum" "LElasticKernel$Fraction;") ∈ lw_g := lw_t1 (List.mem_of_getElem? (i := 184) rfl) rfl
set_option maxRecDepth 100000 in
theorem q_186 : (Jvm.Cond.laysFinal "ElasticKernel$Springs" "ElasticKernel$Springs" "softness" "LElasticKernel$Fraction;") ∈ lw_g := lw_t1 (List.mem_of_getElem? (i := 186) rfl) rfl
set_option maxRecDepth 100000 in
theorem q_188 : (Jvm.Cond.laysFinal "ElasticKernel$Springs" "ElasticKernel$Springs" "push" "LElasticKernel$Fraction;") ∈ lw_g := lw_t1 (List.mem_of_getElem? (i := 188) rfl) rfl
set_option maxRecDepth 100000 in
theorem q_190 : (Jvm.Cond.laysFinal "ElasticKernel$Springs" "ElasticKernel$Springs" "divider" "LElasticKernel$Divider;") ∈ lw_g := lw_t1 (List.mem_of_getElem? (i := 190) rfl) rfl
set_option maxRecDepth 100000 in
theorem q_193 : (Jvm.Cond.fieldLink "ElasticKernel" (10 : Nat) "ElasticKernel" "roster" "LElasticKernel$Roster;") ∈ lw_g := lw_t1 (List.mem_of_getElem? (i := 193) rfl) rfl
set_option maxRecDepth 100000 in
theorem q_194 : (Jvm.Cond.fieldLink "ElasticKernel" (19 : Nat) "ElasticKernel" "springs" "LElasticKernel$Springs;") ∈ lw_g := lw_t1 (List.mem_of_getElem? (i := 194) rfl) rfl
set_option maxRecDepth 100000 in
theorem q_195 : (Jvm.Cond.fieldLink "ElasticKernel" (59 : Nat) "ElasticKernel" "clock" "I") ∈ lw_g := lw_t1 (List.mem_of_getElem? (i := 195) rfl) rfl
set_option maxRecDepth 100000 in
theorem q_196 : (Jvm.Cond.fieldLink "ElasticKernel" (23 : Nat) "ElasticKernel" "allowed" "I") ∈ lw_g := lw_t1 (List.mem_of_getElem? (i := 196) rfl) rfl
set_option maxRecDepth 100000 in
theorem q_197 : (Jvm.Cond.fieldLink "ElasticKernel" (141 : Nat) "ElasticKernel" "missed" "I") ∈ lw_g := lw_t1 (List.mem_of_getElem? (i := 197) rfl) rfl
set_option maxRecDepth 100000 in
theorem q_198 : (Jvm.Cond.fieldLink "ElasticKernel" (144 : Nat) "ElasticKernel" "solves" "I") ∈ lw_g := lw_t1 (List.mem_of_getElem? (i := 198) rfl) rfl
set_option maxRecDepth 100000 in
theorem q_199 : (Jvm.Cond.fieldLink "ElasticKernel" (56 : Nat) "ElasticKernel" "instant" "I") ∈ lw_g := lw_t1 (List.mem_of_getElem? (i := 199) rfl) rfl
set_option maxRecDepth 100000 in
theorem q_200 : (Jvm.Cond.fieldLink "ElasticKernel" (154 : Nat) "ElasticKernel" "refusedAt" "I") ∈ lw_g := lw_t1 (List.mem_of_getElem? (i := 200) rfl) rfl
set_option maxRecDepth 100000 in
theorem q_201 : (Jvm.Cond.laysFinal "ElasticKernel" "ElasticKernel" "roster" "LElasticKernel$Roster;") ∈ lw_g := lw_t1 (List.mem_of_getElem? (i := 201) rfl) rfl
set_option maxRecDepth 100000 in
theorem q_203 : (Jvm.Cond.laysFinal "ElasticKernel" "ElasticKernel" "springs" "LElasticKernel$Springs;") ∈ lw_g := lw_t1 (List.mem_of_getElem? (i := 203) rfl) rfl
set_option maxRecDepth 100000 in
theorem q_205 : (Jvm.Cond.lays "ElasticKernel" "ElasticKernel" "clock" "I") ∈ lw_g := lw_t1 (List.mem_of_getElem? (i := 205) rfl) rfl
set_option maxRecDepth 100000 in
theorem q_207 : (Jvm.Cond.lays "ElasticKernel" "ElasticKernel" "allowed" "I") ∈ lw_g := lw_t1 (List.mem_of_getElem? (i := 207) rfl) rfl
set_option maxRecDepth 100000 in
theorem q_209 : (Jvm.Cond.lays "ElasticKernel" "ElasticKernel" "missed" "I") ∈ lw_g := lw_t1 (List.mem_of_getElem? (i := 209) rfl) rfl
set_option maxRecDepth 100000 in
theorem q_211 : (Jvm.Cond.lays "ElasticKernel" "ElasticKernel" "solves" "I") ∈ lw_g := lw_t1 (List.mem_of_getElem? (i := 211) rfl) rfl
set_option maxRecDepth 100000 in
theorem q_213 : (Jvm.Cond.lays "ElasticKernel" "ElasticKernel" "instant" "I") ∈ lw_g := lw_t1 (List.mem_of_getElem? (i := 213) rfl) rfl
set_option maxRecDepth 100000 in
theorem q_215 : (Jvm.Cond.lays "ElasticKernel" "ElasticKernel" "refusedAt" "I") ∈ lw_g := lw_t1 (List.mem_of_getElem? (i := 215) rfl) rfl
set_option maxRecDepth 100000 in
theorem q_218 : (Jvm.Cond.methodLink "ElasticKernelLaw" (19 : Nat) ({ cls := "ElasticKernel", name := "add", desc := "(IIIII)I" } : Jvm.MethodName)) ∈ lw_g := lw_t1 (List.mem_of_getElem? (i := 218) rfl) rfl
set_option maxRecDepth 100000 in
theorem q_219 : (Jvm.Cond.instanceMethod ({ cls := "ElasticKernel", name := "add", desc := "(IIIII)I" } : Jvm.MethodName)) ∈ lw_g := lw_t1 (List.mem_of_getElem? (i := 219) rfl) rfl
set_option maxRecDepth 100000 in
theorem q_220 : (Jvm.Cond.selects "ElasticKernel" ({ cls := "ElasticKernel", name := "add", desc := "(IIIII)I" } : Jvm.MethodName) ({ cls := "ElasticKernel", name := "add", desc := "(IIIII)I" } : Jvm.MethodName)) ∈ lw_g := lw_t1 (List.mem_of_getElem? (i := 220) rfl) rfl
set_option maxRecDepth 100000 in
theorem q_221 : (Jvm.Cond.code ({ cls := "ElasticKernel", name := "add", desc := "(IIIII)I" } : Jvm.MethodName) prog_1_method_2_code (7 : Nat) (Option.some Jvm.ClassFile.FieldType.int)) ∈ lw_g := lw_t1 (List.mem_of_getElem? (i := 221) rfl) rfl
set_option maxRecDepth 100000 in
theorem q_222 : (Jvm.Cond.methodLink "ElasticKernel" (27 : Nat) ({ cls := "ElasticKernel", name := "isWithin", desc := "(II)Z" } : Jvm.MethodName)) ∈ lw_g := lw_t1 (List.mem_of_getElem? (i := 222) rfl) rfl
set_option maxRecDepth 100000 in
theorem q_223 : (Jvm.Cond.static ({ cls := "ElasticKernel", name := "isWithin", desc := "(II)Z" } : Jvm.MethodName)) ∈ lw_g := lw_t1 (List.mem_of_getElem? (i := 223) rfl) rfl
set_option maxRecDepth 100000 in
theorem q_224 : (Jvm.Cond.code ({ cls := "ElasticKernel", name := "isWithin", desc := "(II)Z" } : Jvm.MethodName) prog_1_method_11_code (2 : Nat) (Option.some Jvm.ClassFile.FieldType.boolean)) ∈ lw_g := lw_t1 (List.mem_of_getElem? (i := 224) rfl) rfl
set_option maxRecDepth 100000 in
theorem q_225 : (Jvm.Cond.methodLink "ElasticKernel" (31 : Nat) ({ cls := "ElasticKernel", name := "arePeriods", desc := "(III)Z" } : Jvm.MethodName)) ∈ lw_g := lw_t1 (List.mem_of_getElem? (i := 225) rfl) rfl
set_option maxRecDepth 100000 in
theorem q_226 : (Jvm.Cond.static ({ cls := "ElasticKernel", name := "arePeriods", desc := "(III)Z" } : Jvm.MethodName)) ∈ lw_g := lw_t1 (List.mem_of_getElem? (i := 226) rfl) rfl
set_option maxRecDepth 100000 in
theorem q_227 : (Jvm.Cond.code ({ cls := "ElasticKernel", name := "arePeriods", desc := "(III)Z" } : Jvm.MethodName) prog_1_method_12_code (3 : Nat) (Option.some Jvm.ClassFile.FieldType.boolean)) ∈ lw_g := lw_t1 (List.mem_of_getElem? (i := 227) rfl) rfl
set_option maxRecDepth 100000 in
theorem q_228 : (Jvm.Cond.methodLink "ElasticKernel" (35 : Nat) ({ cls := "ElasticKernel$Roster", name := "enter", desc := "(I)LElasticKernel$Task;" } : Jvm.MethodName)) ∈ lw_g := lw_t1 (List.mem_of_getElem? (i := 228) rfl) rfl
set_option maxRecDepth 100000 in
theorem q_229 : (Jvm.Cond.instanceMethod ({ cls := "ElasticKernel$Roster", name := "enter", desc := "(I)LElasticKernel$Task;" } : Jvm.MethodName)) ∈ lw_g := lw_t1 (List.mem_of_getElem? (i := 229) rfl) rfl
set_option maxRecDepth 100000 in
theorem q_230 : (Jvm.Cond.selects "ElasticKernel$Roster" ({ cls := "ElasticKernel$Roster", name := "enter", desc := "(I)LElasticKernel$Task;" } : Jvm.MethodName) ({ cls := "ElasticKernel$Roster", name := "enter", desc := "(I)LElasticKernel$Task;" } : Jvm.MethodName)) ∈ lw_g := lw_t1 (List.mem_of_getElem? (i := 230) rfl) rfl
set_option maxRecDepth 100000 in
theorem q_231 : (Jvm.Cond.code ({ cls := "ElasticKernel$Roster", name := "enter", desc := "(I)LElasticKernel$Task;" } : Jvm.MethodName) prog_5_method_3_code (4 : Nat) (Option.some (Jvm.ClassFile.FieldType.object "ElasticKernel$Task"))) ∈ lw_g := lw_t1 (List.mem_of_getElem? (i := 231) rfl) rfl
set_option maxRecDepth 100000 in
theorem q_232 : (Jvm.Cond.methodLink "ElasticKernel$Roster" (25 : Nat) ({ cls := "ElasticKernel$Roster", name := "find", desc := "(I)LElasticKernel$Task;" } : Jvm.MethodName)) ∈ lw_g := lw_t1 (List.mem_of_getElem? (i := 232) rfl) rfl
set_option maxRecDepth 100000 in
theorem q_233 : (Jvm.Cond.instanceMethod ({ cls := "ElasticKernel$Roster", name := "find", desc := "(I)LElasticKernel$Task;" } : Jvm.MethodName)) ∈ lw_g := lw_t1 (List.mem_of_getElem? (i := 233) rfl) rfl
set_option maxRecDepth 100000 in
theorem q_234 : (Jvm.Cond.selects "ElasticKernel$Roster" ({ cls := "ElasticKernel$Roster", name := "find", desc := "(I)LElasticKernel$Task;" } : Jvm.MethodName) ({ cls := "ElasticKernel$Roster", name := "find", desc := "(I)LElasticKernel$Task;" } : Jvm.MethodName)) ∈ lw_g := lw_t1 (List.mem_of_getElem? (i := 234) rfl) rfl
set_option maxRecDepth 100000 in
theorem q_235 : (Jvm.Cond.code ({ cls := "ElasticKernel$Roster", name := "find", desc := "(I)LElasticKernel$Task;" } : Jvm.MethodName) prog_5_method_2_code (3 : Nat) (Option.some (Jvm.ClassFile.FieldType.object "ElasticKernel$Task"))) ∈ lw_g := lw_t1 (List.mem_of_getElem? (i := 235) rfl) rfl
set_option maxRecDepth 100000 in
theorem q_236 : (Jvm.Cond.methodLink "ElasticKernel" (39 : Nat) ({ cls := "ElasticKernel$Task", name := "announce", desc := "(IIII)V" } : Jvm.MethodName)) ∈ lw_g := lw_t1 (List.mem_of_getElem? (i := 236) rfl) rfl
set_option maxRecDepth 100000 in
theorem q_237 : (Jvm.Cond.instanceMethod ({ cls := "ElasticKernel$Task", name := "announce", desc := "(IIII)V" } : Jvm.MethodName)) ∈ lw_g := lw_t1 (List.mem_of_getElem? (i := 237) rfl) rfl
set_option maxRecDepth 100000 in
theorem q_238 : (Jvm.Cond.selects "ElasticKernel$Task" ({ cls := "ElasticKernel$Task", name := "announce", desc := "(IIII)V" } : Jvm.MethodName) ({ cls := "ElasticKernel$Task", name := "announce", desc := "(IIII)V" } : Jvm.MethodName)) ∈ lw_g := lw_t1 (List.mem_of_getElem? (i := 238) rfl) rfl
set_option maxRecDepth 100000 in
theorem q_239 : (Jvm.Cond.code ({ cls := "ElasticKernel$Task", name := "announce", desc := "(IIII)V" } : Jvm.MethodName) prog_7_method_2_code (5 : Nat) (Option.none : Option Jvm.ClassFile.FieldType)) ∈ lw_g := lw_t1 (List.mem_of_getElem? (i := 239) rfl) rfl
set_option maxRecDepth 100000 in
theorem q_240 : (Jvm.Cond.methodLink "ElasticKernel" (45 : Nat) ({ cls := "ElasticKernel", name := "isRefused", desc := "(I)Z" } : Jvm.MethodName)) ∈ lw_g := lw_t2 (List.mem_of_getElem? (i := 0) rfl) rfl
set_option maxRecDepth 100000 in
theorem q_242 : (Jvm.Cond.instanceMethod ({ cls := "ElasticKernel", name := "isRefused", desc := "(I)Z" } : Jvm.MethodName)) ∈ lw_g := lw_t2 (List.mem_of_getElem? (i := 2) rfl) rfl
set_option maxRecDepth 100000 in
theorem q_243 : (Jvm.Cond.code ({ cls := "ElasticKernel", name := "isRefused", desc := "(I)Z" } : Jvm.MethodName) prog_1_method_14_code (3 : Nat) (Option.some Jvm.ClassFile.FieldType.boolean)) ∈ lw_g := lw_t2 (List.mem_of_getElem? (i := 3) rfl) rfl
set_option maxRecDepth 100000 in
theorem q_244 : (Jvm.Cond.methodLink "ElasticKernel" (172 : Nat) ({ cls := "ElasticKernel$Springs", name := "firstTooMuch", desc := "(LElasticKernel$Roster;I)I" } : Jvm.MethodName)) ∈ lw_g := lw_t2 (List.mem_of_getElem? (i := 4) rfl) rfl
set_option maxRecDepth 100000 in
theorem q_245 : (Jvm.Cond.instanceMethod ({ cls := "ElasticKernel$Springs", name := "firstTooMuch", desc := "(LElasticKernel$Roster;I)I" } : Jvm.MethodName)) ∈ lw_g := lw_t2 (List.mem_of_getElem? (i := 5) rfl) rfl
set_option maxRecDepth 100000 in
theorem q_246 : (Jvm.Cond.selects "ElasticKernel$Springs" ({ cls := "ElasticKernel$Springs", name := "firstTooMuch", desc := "(LElasticKernel$Roster;I)I" } : Jvm.MethodName) ({ cls := "ElasticKernel$Springs", name := "firstTooMuch", desc := "(LElasticKernel$Roster;I)I" } : Jvm.MethodName)) ∈ lw_g := lw_t2 (List.mem_of_getElem? (i := 6) rfl) rfl
set_option maxRecDepth 100000 in
theorem q_247 : (Jvm.Cond.code ({ cls := "ElasticKernel$Springs", name := "firstTooMuch", desc := "(LElasticKernel$Roster;I)I" } : Jvm.MethodName) prog_6_method_2_code (5 : Nat) (Option.some Jvm.ClassFile.FieldType.int)) ∈ lw_g := lw_t2 (List.mem_of_getElem? (i := 7) rfl) rfl
set_option maxRecDepth 100000 in
theorem q_248 : (Jvm.Cond.methodLink "ElasticKernel$Springs" (34 : Nat) ({ cls := "ElasticKernel$Fraction", name := "set", desc := "(II)V" } : Jvm.MethodName)) ∈ lw_g := lw_t2 (List.mem_of_getElem? (i := 8) rfl) rfl
set_option maxRecDepth 100000 in
theorem q_249 : (Jvm.Cond.instanceMethod ({ cls := "ElasticKernel$Fraction", name := "set", desc := "(II)V" } : Jvm.MethodName)) ∈ lw_g := lw_t2 (List.mem_of_getElem? (i := 9) rfl) rfl
set_option maxRecDepth 100000 in
theorem q_250 : (Jvm.Cond.selects "ElasticKernel$Fraction" ({ cls := "ElasticKernel$Fraction", name := "set", desc := "(II)V" } : Jvm.MethodName) ({ cls := "ElasticKernel$Fraction", name := "set", desc := "(II)V" } : Jvm.MethodName)) ∈ lw_g := lw_t2 (List.mem_of_getElem? (i := 10) rfl) rfl
set_option maxRecDepth 100000 in
theorem q_251 : (Jvm.Cond.code ({ cls := "ElasticKernel$Fraction", name := "set", desc := "(II)V" } : Jvm.MethodName) prog_3_method_2_code (4 : Nat) (Option.none : Option Jvm.ClassFile.FieldType)) ∈ lw_g := lw_t2 (List.mem_of_getElem? (i := 11) rfl) rfl
set_option maxRecDepth 100000 in
theorem q_252 : (Jvm.Cond.methodLink "ElasticKernel$Fraction" (23 : Nat) ({ cls := "ElasticKernel$Fraction", name := "commonFactor", desc := "(II)I" } : Jvm.MethodName)) ∈ lw_g := lw_t2 (List.mem_of_getElem? (i := 12) rfl) rfl
set_option maxRecDepth 100000 in
theorem q_253 : (Jvm.Cond.static ({ cls := "ElasticKernel$Fraction", name := "commonFactor", desc := "(II)I" } : Jvm.MethodName)) ∈ lw_g := lw_t2 (List.mem_of_getElem? (i := 13) rfl) rfl
set_option maxRecDepth 100000 in
theorem q_254 : (Jvm.Cond.code ({ cls := "ElasticKernel$Fraction", name := "commonFactor", desc := "(II)I" } : Jvm.MethodName) prog_3_method_8_code (6 : Nat) (Option.some Jvm.ClassFile.FieldType.int)) ∈ lw_g := lw_t2 (List.mem_of_getElem? (i := 14) rfl) rfl
set_option maxRecDepth 100000 in
theorem q_255 : (Jvm.Cond.methodLink "ElasticKernel$Fraction" (58 : Nat) ({ cls := "java/lang/Math", name := "max", desc := "(II)I" } : Jvm.MethodName)) ∈ lw_g := lw_t2 (List.mem_of_getElem? (i := 15) rfl) rfl
set_option maxRecDepth 100000 in
theorem q_256 : (Jvm.Cond.static ({ cls := "java/lang/Math", name := "max", desc := "(II)I" } : Jvm.MethodName)) ∈ lw_g := lw_t2 (List.mem_of_getElem? (i := 16) rfl) rfl
set_option maxRecDepth 100000 in
theorem q_257 : (Jvm.Cond.code ({ cls := "java/lang/Math", name := "max", desc := "(II)I" } : Jvm.MethodName) prog_13_method_65_code (2 : Nat) (Option.some Jvm.ClassFile.FieldType.int)) ∈ lw_g := lw_t2 (List.mem_of_getElem? (i := 17) rfl) rfl
set_option maxRecDepth 100000 in
theorem q_258 : (Jvm.Cond.methodLink "ElasticKernel$Springs" (56 : Nat) ({ cls := "ElasticKernel$Fraction", name := "join", desc := "(III)V" } : Jvm.MethodName)) ∈ lw_g := lw_t2 (List.mem_of_getElem? (i := 18) rfl) rfl
set_option maxRecDepth 100000 in
theorem q_259 : (Jvm.Cond.instanceMethod ({ cls := "ElasticKernel$Fraction", name := "join", desc := "(III)V" } : Jvm.MethodName)) ∈ lw_g := lw_t2 (List.mem_of_getElem? (i := 19) rfl) rfl
set_option maxRecDepth 100000 in
theorem q_260 : (Jvm.Cond.selects "ElasticKernel$Fraction" ({ cls := "ElasticKernel$Fraction", name := "join", desc := "(III)V" } : Jvm.MethodName) ({ cls := "ElasticKernel$Fraction", name := "join", desc := "(III)V" } : Jvm.MethodName)) ∈ lw_g := lw_t2 (List.mem_of_getElem? (i := 20) rfl) rfl
set_option maxRecDepth 100000 in
theorem q_261 : (Jvm.Cond.code ({ cls := "ElasticKernel$Fraction", name := "join", desc := "(III)V" } : Jvm.MethodName) prog_3_method_7_code (9 : Nat) (Option.none : Option Jvm.ClassFile.FieldType)) ∈ lw_g := lw_t2 (List.mem_of_getElem? (i := 21) rfl) rfl
set_option maxRecDepth 100000 in
theorem q_262 : (Jvm.Cond.methodLink "ElasticKernel$Fraction" (49 : Nat) ({ cls := "java/lang/Math", name := "abs", desc := "(I)I" } : Jvm.MethodName)) ∈ lw_g := lw_t2 (List.mem_of_getElem? (i := 22) rfl) rfl
set_option maxRecDepth 100000 in
theorem q_263 : (Jvm.Cond.static ({ cls := "java/lang/Math", name := "abs", desc := "(I)I" } : Jvm.MethodName)) ∈ lw_g := lw_t2 (List.mem_of_getElem? (i := 23) rfl) rfl
set_option maxRecDepth 100000 in
theorem q_264 : (Jvm.Cond.code ({ cls := "java/lang/Math", name := "abs", desc := "(I)I" } : Jvm.MethodName) prog_13_method_59_code (1 : Nat) (Option.some Jvm.ClassFile.FieldType.int)) ∈ lw_g := lw_t2 (List.mem_of_getElem? (i := 24) rfl) rfl
set_option maxRecDepth 100000 in
theorem q_265 : (Jvm.Cond.methodLink "ElasticKernel$Fraction" (35 : Nat) ({ cls := "ElasticKernel$Natural", name := "remainder", desc := "(I)I" } : Jvm.MethodName)) ∈ lw_g := lw_t2 (List.mem_of_getElem? (i := 25) rfl) rfl
set_option maxRecDepth 100000 in
theorem q_266 : (Jvm.Cond.instanceMethod ({ cls := "ElasticKernel$Natural", name := "remainder", desc := "(I)I" } : Jvm.MethodName)) ∈ lw_g := lw_t2 (List.mem_of_getElem? (i := 26) rfl) rfl
set_option maxRecDepth 100000 in
theorem q_267 : (Jvm.Cond.selects "ElasticKernel$Natural" ({ cls := "ElasticKernel$Natural", name := "remainder", desc := "(I)I" } : Jvm.MethodName) ({ cls := "ElasticKernel$Natural", name := "remainder", desc := "(I)I" } : Jvm.MethodName)) ∈ lw_g := lw_t2 (List.mem_of_getElem? (i := 27) rfl) rfl
set_option maxRecDepth 100000 in
theorem q_268 : (Jvm.Cond.code ({ cls := "ElasticKernel$Natural", name := "remainder", desc := "(I)I" } : Jvm.MethodName) prog_4_method_12_code (5 : Nat) (Option.some Jvm.ClassFile.FieldType.int)) ∈ lw_g := lw_t2 (List.mem_of_getElem? (i := 28) rfl) rfl
set_option maxRecDepth 100000 in
theorem q_269 : (Jvm.Cond.methodLink "ElasticKernel$Fraction" (39 : Nat) ({ cls := "ElasticKernel$Natural", name := "divideExactly", desc := "(I)V" } : Jvm.MethodName)) ∈ lw_g := lw_t2 (List.mem_of_getElem? (i := 29) rfl) rfl
set_option maxRecDepth 100000 in
theorem q_270 : (Jvm.Cond.instanceMethod ({ cls := "ElasticKernel$Natural", name := "divideExactly", desc := "(I)V" } : Jvm.MethodName)) ∈ lw_g := lw_t2 (List.mem_of_getElem? (i := 30) rfl) rfl
set_option maxRecDepth 100000 in
theorem q_271 : (Jvm.Cond.selects "ElasticKernel$Natural" ({ cls := "ElasticKernel$Natural", name := "divideExactly", desc := "(I)V" } : Jvm.MethodName) ({ cls := "ElasticKernel$Natural", name := "divideExactly", desc := "(I)V" } : Jvm.MethodName)) ∈ lw_g := lw_t2 (List.mem_of_getElem? (i := 31) rfl) rfl
set_option maxRecDepth 100000 in
theorem q_272 : (Jvm.Cond.code ({ cls := "ElasticKernel$Natural", name := "divideExactly", desc := "(I)V" } : Jvm.MethodName) prog_4_method_13_code (5 : Nat) (Option.none : Option Jvm.ClassFile.FieldType)) ∈ lw_g := lw_t2 (List.mem_of_getElem? (i := 32) rfl) rfl
set_option maxRecDepth 100000 in
theorem q_273 : (Jvm.Cond.methodLink "ElasticKernel$Fraction" (54 : Nat) ({ cls := "ElasticKernel$Natural", name := "weigh", desc := "(JLElasticKernel$Natural;J)V" } : Jvm.MethodName)) ∈ lw_g := lw_t2 (List.mem_of_getElem? (i := 33) rfl) rfl
set_option maxRecDepth 100000 in
theorem q_274 : (Jvm.Cond.instanceMethod ({ cls := "ElasticKernel$Natural", name := "weigh", desc := "(JLElasticKernel$Natural;J)V" } : Jvm.MethodName)) ∈ lw_g := lw_t2 (List.mem_of_getElem? (i := 34) rfl) rfl
set_option maxRecDepth 100000 in
theorem q_275 : (Jvm.Cond.selects "ElasticKernel$Natural" ({ cls := "ElasticKernel$Natural", name := "weigh", desc := "(JLElasticKernel$Natural;J)V" } : Jvm.MethodName) ({ cls := "ElasticKernel$Natural", name := "weigh", desc := "(JLElasticKernel$Natural;J)V" } : Jvm.MethodName)) ∈ lw_g := lw_t2 (List.mem_of_getElem? (i := 35) rfl) rfl
set_option maxRecDepth 100000 in
theorem q_276 : (Jvm.Cond.code ({ cls := "ElasticKernel$Natural", name := "weigh", desc := "(JLElasticKernel$Natural;J)V" } : Jvm.MethodName) prog_4_method_11_code (11 : Nat) (Option.none : Option Jvm.ClassFile.FieldType)) ∈ lw_g := lw_t2 (List.mem_of_getElem? (i := 36) rfl) rfl
set_option maxRecDepth 100000 in
theorem q_277 : (Jvm.Cond.constantLong "ElasticKernel$Natural" (37 : Nat) (16777215 : Int64)) ∈ lw_g := lw_t2 (List.mem_of_getElem? (i := 37) rfl) rfl
set_option maxRecDepth 100000 in
theorem q_278 : (Jvm.Cond.methodLink "ElasticKernel$Fraction" (42 : Nat) ({ cls := "ElasticKernel$Natural", name := "multiply", desc := "(I)V" } : Jvm.MethodName)) ∈ lw_g := lw_t2 (List.mem_of_getElem? (i := 38) rfl) rfl
set_option maxRecDepth 100000 in
theorem q_279 : (Jvm.Cond.instanceMethod ({ cls := "ElasticKernel$Natural", name := "multiply", desc := "(I)V" } : Jvm.MethodName)) ∈ lw_g := lw_t2 (List.mem_of_getElem? (i := 39) rfl) rfl
set_option maxRecDepth 100000 in
theorem q_280 : (Jvm.Cond.selects "ElasticKernel$Natural" ({ cls := "ElasticKernel$Natural", name := "multiply", desc := "(I)V" } : Jvm.MethodName) ({ cls := "ElasticKernel$Natural", name := "multiply", desc := "(I)V" } : Jvm.MethodName)) ∈ lw_g := lw_t2 (List.mem_of_getElem? (i := 40) rfl) rfl
set_option maxRecDepth 100000 in
theorem q_281 : (Jvm.Cond.code ({ cls := "ElasticKernel$Natural", name := "multiply", desc := "(I)V" } : Jvm.MethodName) prog_4_method_10_code (2 : Nat) (Option.none : Option Jvm.ClassFile.FieldType)) ∈ lw_g := lw_t2 (List.mem_of_getElem? (i := 41) rfl) rfl
set_option maxRecDepth 100000 in
theorem q_282 : (Jvm.Cond.methodLink "ElasticKernel$Natural" (39 : Nat) ({ cls := "ElasticKernel$Natural", name := "weigh", desc := "(JLElasticKernel$Natural;J)V" } : Jvm.MethodName)) ∈ lw_g := lw_t2 (List.mem_of_getElem? (i := 42) rfl) rfl
set_option maxRecDepth 100000 in
theorem q_283 : (Jvm.Cond.constantLong "ElasticKernel$Springs" (60 : Nat) (1000 : Int64)) ∈ lw_g := lw_t2 (List.mem_of_getElem? (i := 43) rfl) rfl
set_option maxRecDepth 100000 in
theorem q_284 : (Jvm.Cond.methodLink "ElasticKernel$Springs" (62 : Nat) ({ cls := "ElasticKernel$Fraction", name := "compare", desc := "(JJ)I" } : Jvm.MethodName)) ∈ lw_g := lw_t2 (List.mem_of_getElem? (i := 44) rfl) rfl
set_option maxRecDepth 100000 in
theorem q_285 : (Jvm.Cond.instanceMethod ({ cls := "ElasticKernel$Fraction", name := "compare", desc := "(JJ)I" } : Jvm.MethodName)) ∈ lw_g := lw_t2 (List.mem_of_getElem? (i := 45) rfl) rfl
set_option maxRecDepth 100000 in
theorem q_286 : (Jvm.Cond.selects "ElasticKernel$Fraction" ({ cls := "ElasticKernel$Fraction", name := "compare", desc := "(JJ)I" } : Jvm.MethodName) ({ cls := "ElasticKernel$Fraction", name := "compare", desc := "(JJ)I" } : Jvm.MethodName)) ∈ lw_g := lw_t2 (List.mem_of_getElem? (i := 46) rfl) rfl
set_option maxRecDepth 100000 in
theorem q_287 : (Jvm.Cond.code ({ cls := "ElasticKernel$Fraction", name := "compare", desc := "(JJ)I" } : Jvm.MethodName) prog_3_method_6_code (5 : Nat) (Option.some Jvm.ClassFile.FieldType.int)) ∈ lw_g := lw_t2 (List.mem_of_getElem? (i := 47) rfl) rfl
set_option maxRecDepth 100000 in
theorem q_288 : (Jvm.Cond.methodLink "ElasticKernel$Fraction" (45 : Nat) ({ cls := "ElasticKernel$Natural", name := "compareProducts", desc := "(LElasticKernel$Natural;JLElasticKernel$Natural;J)I" } : Jvm.MethodName)) ∈ lw_g := lw_t2 (List.mem_of_getElem? (i := 48) rfl) rfl
set_option maxRecDepth 100000 in
theorem q_289 : (Jvm.Cond.static ({ cls := "ElasticKernel$Natural", name := "compareProducts", desc := "(LElasticKernel$Natural;JLElasticKernel$Natural;J)I" } : Jvm.MethodName)) ∈ lw_g := lw_t2 (List.mem_of_getElem? (i := 49) rfl) rfl
set_option maxRecDepth 100000 in
theorem q_290 : (Jvm.Cond.code ({ cls := "ElasticKernel$Natural", name := "compareProducts", desc := "(LElasticKernel$Natural;JLElasticKernel$Natural;J)I" } : Jvm.MethodName) prog_4_method_14_code (13 : Nat) (Option.some Jvm.ClassFile.FieldType.int)) ∈ lw_g := lw_t2 (List.mem_of_getElem? (i := 50) rfl) rfl
set_option maxRecDepth 100000 in
theorem q_291 : (Jvm.Cond.methodLink "ElasticKernel" (49 : Nat) ({ cls := "ElasticKernel$Roster", name := "drop", desc := "(LElasticKernel$Task;)V" } : Jvm.MethodName)) ∈ lw_g := lw_t2 (List.mem_of_getElem? (i := 51) rfl) rfl
set_option maxRecDepth 100000 in
theorem q_292 : (Jvm.Cond.instanceMethod ({ cls := "ElasticKernel$Roster", name := "drop", desc := "(LElasticKernel$Task;)V" } : Jvm.MethodName)) ∈ lw_g := lw_t2 (List.mem_of_getElem? (i := 52) rfl) rfl
set_option maxRecDepth 100000 in
theorem q_293 : (Jvm.Cond.selects "ElasticKernel$Roster" ({ cls := "ElasticKernel$Roster", name := "drop", desc := "(LElasticKernel$Task;)V" } : Jvm.MethodName) ({ cls := "ElasticKernel$Roster", name := "drop", desc := "(LElasticKernel$Task;)V" } : Jvm.MethodName)) ∈ lw_g := lw_t2 (List.mem_of_getElem? (i := 53) rfl) rfl
set_option maxRecDepth 100000 in
theorem q_294 : (Jvm.Cond.code ({ cls := "ElasticKernel$Roster", name := "drop", desc := "(LElasticKernel$Task;)V" } : Jvm.MethodName) prog_5_method_4_code (4 : Nat) (Option.none : Option Jvm.ClassFile.FieldType)) ∈ lw_g := lw_t2 (List.mem_of_getElem? (i := 54) rfl) rfl
set_option maxRecDepth 100000 in
theorem q_295 : (Jvm.Cond.methodLink "ElasticKernel" (53 : Nat) ({ cls := "ElasticKernel", name := "solve", desc := "()V" } : Jvm.MethodName)) ∈ lw_g := lw_t2 (List.mem_of_getElem? (i := 55) rfl) rfl
set_option maxRecDepth 100000 in
theorem q_297 : (Jvm.Cond.instanceMethod ({ cls := "ElasticKernel", name := "solve", desc := "()V" } : Jvm.MethodName)) ∈ lw_g := lw_t2 (List.mem_of_getElem? (i := 57) rfl) rfl
set_option maxRecDepth 100000 in
theorem q_298 : (Jvm.Cond.code ({ cls := "ElasticKernel", name := "solve", desc := "()V" } : Jvm.MethodName) prog_1_method_15_code (3 : Nat) (Option.none : Option Jvm.ClassFile.FieldType)) ∈ lw_g := lw_t2 (List.mem_of_getElem? (i := 58) rfl) rfl
set_option maxRecDepth 100000 in
theorem q_299 : (Jvm.Cond.methodLink "ElasticKernel" (176 : Nat) ({ cls := "ElasticKernel$Springs", name := "haveRoom", desc := "(LElasticKernel$Roster;I)Z" } : Jvm.MethodName)) ∈ lw_g := lw_t2 (List.mem_of_getElem? (i := 59) rfl) rfl
set_option maxRecDepth 100000 in
theorem q_300 : (Jvm.Cond.instanceMethod ({ cls := "ElasticKernel$Springs", name := "haveRoom", desc := "(LElasticKernel$Roster;I)Z" } : Jvm.MethodName)) ∈ lw_g := lw_t2 (List.mem_of_getElem? (i := 60) rfl) rfl
set_option maxRecDepth 100000 in
theorem q_301 : (Jvm.Cond.selects "ElasticKernel$Springs" ({ cls := "ElasticKernel$Springs", name := "haveRoom", desc := "(LElasticKernel$Roster;I)Z" } : Jvm.MethodName) ({ cls := "ElasticKernel$Springs", name := "haveRoom", desc := "(LElasticKernel$Roster;I)Z" } : Jvm.MethodName)) ∈ lw_g := lw_t2 (List.mem_of_getElem? (i := 61) rfl) rfl
set_option maxRecDepth 100000 in
theorem q_302 : (Jvm.Cond.code ({ cls := "ElasticKernel$Springs", name := "haveRoom", desc := "(LElasticKernel$Roster;I)Z" } : Jvm.MethodName) prog_6_method_4_code (3 : Nat) (Option.some Jvm.ClassFile.FieldType.boolean)) ∈ lw_g := lw_t2 (List.mem_of_getElem? (i := 62) rfl) rfl
set_option maxRecDepth 100000 in
theorem q_303 : (Jvm.Cond.methodLink "ElasticKernel$Springs" (80 : Nat) ({ cls := "ElasticKernel$Springs", name := "unpin", desc := "(LElasticKernel$Roster;)V" } : Jvm.MethodName)) ∈ lw_g := lw_t2 (List.mem_of_getElem? (i := 63) rfl) rfl
set_option maxRecDepth 100000 in
theorem q_305 : (Jvm.Cond.instanceMethod ({ cls := "ElasticKernel$Springs", name := "unpin", desc := "(LElasticKernel$Roster;)V" } : Jvm.MethodName)) ∈ lw_g := lw_t2 (List.mem_of_getElem? (i := 65) rfl) rfl
set_option maxRecDepth 100000 in
theorem q_306 : (Jvm.Cond.code ({ cls := "ElasticKernel$Springs", name := "unpin", desc := "(LElasticKernel$Roster;)V" } : Jvm.MethodName) prog_6_method_7_code (3 : Nat) (Option.none : Option Jvm.ClassFile.FieldType)) ∈ lw_g := lw_t2 (List.mem_of_getElem? (i := 66) rfl) rfl
set_option maxRecDepth 100000 in
theorem q_307 : (Jvm.Cond.methodLink "ElasticKernel$Springs" (84 : Nat) ({ cls := "ElasticKernel$Springs", name := "addUp", desc := "(LElasticKernel$Roster;)V" } : Jvm.MethodName)) ∈ lw_g := lw_t2 (List.mem_of_getElem? (i := 67) rfl) rfl
set_option maxRecDepth 100000 in
theorem q_309 : (Jvm.Cond.instanceMethod ({ cls := "ElasticKernel$Springs", name := "addUp", desc := "(LElasticKernel$Roster;)V" } : Jvm.MethodName)) ∈ lw_g := lw_t2 (List.mem_of_getElem? (i := 69) rfl) rfl
set_option maxRecDepth 100000 in
theorem q_310 : (Jvm.Cond.code ({ cls := "ElasticKernel$Springs", name := "addUp", desc := "(LElasticKernel$Roster;)V" } : Jvm.MethodName) prog_6_method_8_code (4 : Nat) (Option.none : Option Jvm.ClassFile.FieldType)) ∈ lw_g := lw_t2 (List.mem_of_getElem? (i := 70) rfl) rfl
set_option maxRecDepth 100000 in
theorem q_311 : (Jvm.Cond.methodLink "ElasticKernel$Springs" (109 : Nat) ({ cls := "ElasticKernel$Task", name := "isSolved", desc := "()Z" } : Jvm.MethodName)) ∈ lw_g := lw_t2 (List.mem_of_getElem? (i := 71) rfl) rfl
set_option maxRecDepth 100000 in
theorem q_312 : (Jvm.Cond.instanceMethod ({ cls := "ElasticKernel$Task", name := "isSolved", desc := "()Z" } : Jvm.MethodName)) ∈ lw_g := lw_t2 (List.mem_of_getElem? (i := 72) rfl) rfl
set_option maxRecDepth 100000 in
theorem q_313 : (Jvm.Cond.selects "ElasticKernel$Task" ({ cls := "ElasticKernel$Task", name := "isSolved", desc := "()Z" } : Jvm.MethodName) ({ cls := "ElasticKernel$Task", name := "isSolved", desc := "()Z" } : Jvm.MethodName)) ∈ lw_g := lw_t2 (List.mem_of_getElem? (i := 73) rfl) rfl
set_option maxRecDepth 100000 in
theorem q_314 : (Jvm.Cond.code ({ cls := "ElasticKernel$Task", name := "isSolved", desc := "()Z" } : Jvm.MethodName) prog_7_method_3_code (1 : Nat) (Option.some Jvm.ClassFile.FieldType.boolean)) ∈ lw_g := lw_t2 (List.mem_of_getElem? (i := 74) rfl) rfl
set_option maxRecDepth 100000 in
theorem q_315 : (Jvm.Cond.methodLink "ElasticKernel" (180 : Nat) ({ cls := "ElasticKernel$Springs", name := "relax", desc := "()V" } : Jvm.MethodName)) ∈ lw_g := lw_t2 (List.mem_of_getElem? (i := 75) rfl) rfl
set_option maxRecDepth 100000 in
theorem q_316 : (Jvm.Cond.instanceMethod ({ cls := "ElasticKernel$Springs", name := "relax", desc := "()V" } : Jvm.MethodName)) ∈ lw_g := lw_t2 (List.mem_of_getElem? (i := 76) rfl) rfl
set_option maxRecDepth 100000 in
theorem q_317 : (Jvm.Cond.selects "ElasticKernel$Springs" ({ cls := "ElasticKernel$Springs", name := "relax", desc := "()V" } : Jvm.MethodName) ({ cls := "ElasticKernel$Springs", name := "relax", desc := "()V" } : Jvm.MethodName)) ∈ lw_g := lw_t2 (List.mem_of_getElem? (i := 77) rfl) rfl
set_option maxRecDepth 100000 in
theorem q_318 : (Jvm.Cond.code ({ cls := "ElasticKernel$Springs", name := "relax", desc := "()V" } : Jvm.MethodName) prog_6_method_5_code (1 : Nat) (Option.none : Option Jvm.ClassFile.FieldType)) ∈ lw_g := lw_t2 (List.mem_of_getElem? (i := 78) rfl) rfl
set_option maxRecDepth 100000 in
theorem q_319 : (Jvm.Cond.methodLink "ElasticKernel$Springs" (87 : Nat) ({ cls := "ElasticKernel$Fraction", name := "copy", desc := "(LElasticKernel$Fraction;)V" } : Jvm.MethodName)) ∈ lw_g := lw_t2 (List.mem_of_getElem? (i := 79) rfl) rfl
set_option maxRecDepth 100000 in
theorem q_320 : (Jvm.Cond.instanceMethod ({ cls := "ElasticKernel$Fraction", name := "copy", desc := "(LElasticKernel$Fraction;)V" } : Jvm.MethodName)) ∈ lw_g := lw_t2 (List.mem_of_getElem? (i := 80) rfl) rfl
set_option maxRecDepth 100000 in
theorem q_321 : (Jvm.Cond.selects "ElasticKernel$Fraction" ({ cls := "ElasticKernel$Fraction", name := "copy", desc := "(LElasticKernel$Fraction;)V" } : Jvm.MethodName) ({ cls := "ElasticKernel$Fraction", name := "copy", desc := "(LElasticKernel$Fraction;)V" } : Jvm.MethodName)) ∈ lw_g := lw_t2 (List.mem_of_getElem? (i := 81) rfl) rfl
set_option maxRecDepth 100000 in
theorem q_322 : (Jvm.Cond.code ({ cls := "ElasticKernel$Fraction", name := "copy", desc := "(LElasticKernel$Fraction;)V" } : Jvm.MethodName) prog_3_method_3_code (2 : Nat) (Option.none : Option Jvm.ClassFile.FieldType)) ∈ lw_g := lw_t2 (List.mem_of_getElem? (i := 82) rfl) rfl
set_option maxRecDepth 100000 in
theorem q_323 : (Jvm.Cond.methodLink "ElasticKernel$Fraction" (27 : Nat) ({ cls := "ElasticKernel$Natural", name := "copy", desc := "(LElasticKernel$Natural;)V" } : Jvm.MethodName)) ∈ lw_g := lw_t2 (List.mem_of_getElem? (i := 83) rfl) rfl
set_option maxRecDepth 100000 in
theorem q_324 : (Jvm.Cond.instanceMethod ({ cls := "ElasticKernel$Natural", name := "copy", desc := "(LElasticKernel$Natural;)V" } : Jvm.MethodName)) ∈ lw_g := lw_t2 (List.mem_of_getElem? (i := 84) rfl) rfl
set_option maxRecDepth 100000 in
theorem q_325 : (Jvm.Cond.selects "ElasticKernel$Natural" ({ cls := "ElasticKernel$Natural", name := "copy", desc := "(LElasticKernel$Natural;)V" } : Jvm.MethodName) ({ cls := "ElasticKernel$Natural", name := "copy", desc := "(LElasticKernel$Natural;)V" } : Jvm.MethodName)) ∈ lw_g := lw_t2 (List.mem_of_getElem? (i := 85) rfl) rfl
set_option maxRecDepth 100000 in
theorem q_326 : (Jvm.Cond.code ({ cls := "ElasticKernel$Natural", name := "copy", desc := "(LElasticKernel$Natural;)V" } : Jvm.MethodName) prog_4_method_6_code (2 : Nat) (Option.none : Option Jvm.ClassFile.FieldType)) ∈ lw_g := lw_t2 (List.mem_of_getElem? (i := 86) rfl) rfl
set_option maxRecDepth 100000 in
theorem q_327 : (Jvm.Cond.methodLink "ElasticKernel$Natural" (24 : Nat) ({ cls := "java/lang/System", name := "arraycopy", desc := "(Ljava/lang/Object;ILjava/lang/Object;II)V" } : Jvm.MethodName)) ∈ lw_g := lw_t2 (List.mem_of_getElem? (i := 87) rfl) rfl
set_option maxRecDepth 100000 in
theorem q_328 : (Jvm.Cond.static ({ cls := "java/lang/System", name := "arraycopy", desc := "(Ljava/lang/Object;ILjava/lang/Object;II)V" } : Jvm.MethodName)) ∈ lw_g := lw_t2 (List.mem_of_getElem? (i := 88) rfl) rfl
set_option maxRecDepth 100000 in
theorem q_329 : (Jvm.Cond.native ({ cls := "java/lang/System", name := "arraycopy", desc := "(Ljava/lang/Object;ILjava/lang/Object;II)V" } : Jvm.MethodName)) ∈ lw_g := lw_t2 (List.mem_of_getElem? (i := 89) rfl) rfl
set_option maxRecDepth 100000 in
theorem q_330 : (Jvm.Cond.methodLink "ElasticKernel" (183 : Nat) ({ cls := "ElasticKernel$Springs", name := "press", desc := "(LElasticKernel$Roster;I)V" } : Jvm.MethodName)) ∈ lw_g := lw_t2 (List.mem_of_getElem? (i := 90) rfl) rfl
set_option maxRecDepth 100000 in
theorem q_331 : (Jvm.Cond.instanceMethod ({ cls := "ElasticKernel$Springs", name := "press", desc := "(LElasticKernel$Roster;I)V" } : Jvm.MethodName)) ∈ lw_g := lw_t2 (List.mem_of_getElem? (i := 91) rfl) rfl
set_option maxRecDepth 100000 in
theorem q_332 : (Jvm.Cond.selects "ElasticKernel$Springs" ({ cls := "ElasticKernel$Springs", name := "press", desc := "(LElasticKernel$Roster;I)V" } : Jvm.MethodName) ({ cls := "ElasticKernel$Springs", name := "press", desc := "(LElasticKernel$Roster;I)V" } : Jvm.MethodName)) ∈ lw_g := lw_t2 (List.mem_of_getElem? (i := 92) rfl) rfl
set_option maxRecDepth 100000 in
theorem q_333 : (Jvm.Cond.code ({ cls := "ElasticKernel$Springs", name := "press", desc := "(LElasticKernel$Roster;I)V" } : Jvm.MethodName) prog_6_method_6_code (5 : Nat) (Option.none : Option Jvm.ClassFile.FieldType)) ∈ lw_g := lw_t2 (List.mem_of_getElem? (i := 93) rfl) rfl
set_option maxRecDepth 100000 in
theorem q_334 : (Jvm.Cond.methodLink "ElasticKernel$Springs" (91 : Nat) ({ cls := "ElasticKernel$Springs", name := "addUpSoftness", desc := "(LElasticKernel$Roster;)V" } : Jvm.MethodName)) ∈ lw_g := lw_t2 (List.mem_of_getElem? (i := 94) rfl) rfl
set_option maxRecDepth 100000 in
theorem q_336 : (Jvm.Cond.instanceMethod ({ cls := "ElasticKernel$Springs", name := "addUpSoftness", desc := "(LElasticKernel$Roster;)V" } : Jvm.MethodName)) ∈ lw_g := lw_t2 (List.mem_of_getElem? (i := 96) rfl) rfl
set_option maxRecDepth 100000 in
theorem q_337 : (Jvm.Cond.code ({ cls := "ElasticKernel$Springs", name := "addUpSoftness", desc := "(LElasticKernel$Roster;)V" } : Jvm.MethodName) prog_6_method_9_code (4 : Nat) (Option.none : Option Jvm.ClassFile.FieldType)) ∈ lw_g := lw_t2 (List.mem_of_getElem? (i := 97) rfl) rfl
set_option maxRecDepth 100000 in
theorem q_338 : (Jvm.Cond.methodLink "ElasticKernel$Springs" (94 : Nat) ({ cls := "ElasticKernel$Fraction", name := "setRatio", desc := "(LElasticKernel$Fraction;LElasticKernel$Fraction;)V" } : Jvm.MethodName)) ∈ lw_g := lw_t2 (List.mem_of_getElem? (i := 98) rfl) rfl
set_option maxRecDepth 100000 in
theorem q_339 : (Jvm.Cond.instanceMethod ({ cls := "ElasticKernel$Fraction", name := "setRatio", desc := "(LElasticKernel$Fraction;LElasticKernel$Fraction;)V" } : Jvm.MethodName)) ∈ lw_g := lw_t2 (List.mem_of_getElem? (i := 99) rfl) rfl
set_option maxRecDepth 100000 in
theorem q_340 : (Jvm.Cond.selects "ElasticKernel$Fraction" ({ cls := "ElasticKernel$Fraction", name := "setRatio", desc := "(LElasticKernel$Fraction;LElasticKernel$Fraction;)V" } : Jvm.MethodName) ({ cls := "ElasticKernel$Fraction", name := "setRatio", desc := "(LElasticKernel$Fraction;LElasticKernel$Fraction;)V" } : Jvm.MethodName)) ∈ lw_g := lw_t2 (List.mem_of_getElem? (i := 100) rfl) rfl
set_option maxRecDepth 100000 in
theorem q_341 : (Jvm.Cond.code ({ cls := "ElasticKernel$Fraction", name := "setRatio", desc := "(LElasticKernel$Fraction;LElasticKernel$Fraction;)V" } : Jvm.MethodName) prog_3_method_4_code (3 : Nat) (Option.none : Option Jvm.ClassFile.FieldType)) ∈ lw_g := lw_t2 (List.mem_of_getElem? (i := 101) rfl) rfl
set_option maxRecDepth 100000 in
theorem q_342 : (Jvm.Cond.methodLink "ElasticKernel$Fraction" (31 : Nat) ({ cls := "ElasticKernel$Natural", name := "setProduct", desc := "(LElasticKernel$Natural;LElasticKernel$Natural;)V" } : Jvm.MethodName)) ∈ lw_g := lw_t2 (List.mem_of_getElem? (i := 102) rfl) rfl
set_option maxRecDepth 100000 in
theorem q_343 : (Jvm.Cond.instanceMethod ({ cls := "ElasticKernel$Natural", name := "setProduct", desc := "(LElasticKernel$Natural;LElasticKernel$Natural;)V" } : Jvm.MethodName)) ∈ lw_g := lw_t2 (List.mem_of_getElem? (i := 103) rfl) rfl
set_option maxRecDepth 100000 in
theorem q_344 : (Jvm.Cond.selects "ElasticKernel$Natural" ({ cls := "ElasticKernel$Natural", name := "setProduct", desc := "(LElasticKernel$Natural;LElasticKernel$Natural;)V" } : Jvm.MethodName) ({ cls := "ElasticKernel$Natural", name := "setProduct", desc := "(LElasticKernel$Natural;LElasticKernel$Natural;)V" } : Jvm.MethodName)) ∈ lw_g := lw_t2 (List.mem_of_getElem? (i := 104) rfl) rfl
set_option maxRecDepth 100000 in
theorem q_345 : (Jvm.Cond.code ({ cls := "ElasticKernel$Natural", name := "setProduct", desc := "(LElasticKernel$Natural;LElasticKernel$Natural;)V" } : Jvm.MethodName) prog_4_method_9_code (9 : Nat) (Option.none : Option Jvm.ClassFile.FieldType)) ∈ lw_g := lw_t2 (List.mem_of_getElem? (i := 105) rfl) rfl
set_option maxRecDepth 100000 in
theorem q_346 : (Jvm.Cond.methodLink "ElasticKernel$Natural" (33 : Nat) ({ cls := "ElasticKernel$Natural", name := "set", desc := "(I)V" } : Jvm.MethodName)) ∈ lw_g := lw_t2 (List.mem_of_getElem? (i := 106) rfl) rfl
set_option maxRecDepth 100000 in
theorem q_347 : (Jvm.Cond.methodLink "ElasticKernel$Springs" (98 : Nat) ({ cls := "ElasticKernel$Springs", name := "pinPressed", desc := "(LElasticKernel$Roster;)Z" } : Jvm.MethodName)) ∈ lw_g := lw_t2 (List.mem_of_getElem? (i := 107) rfl) rfl
set_option maxRecDepth 100000 in
theorem q_349 : (Jvm.Cond.instanceMethod ({ cls := "ElasticKernel$Springs", name := "pinPressed", desc := "(LElasticKernel$Roster;)Z" } : Jvm.MethodName)) ∈ lw_g := lw_t2 (List.mem_of_getElem? (i := 109) rfl) rfl
set_option maxRecDepth 100000 in
theorem q_350 : (Jvm.Cond.code ({ cls := "ElasticKernel$Springs", name := "pinPressed", desc := "(LElasticKernel$Roster;)Z" } : Jvm.MethodName) prog_6_method_10_code (5 : Nat) (Option.some Jvm.ClassFile.FieldType.boolean)) ∈ lw_g := lw_t2 (List.mem_of_getElem? (i := 110) rfl) rfl
set_option maxRecDepth 100000 in
theorem q_351 : (Jvm.Cond.methodLink "ElasticKernel$Springs" (119 : Nat) ({ cls := "ElasticKernel$Springs", name := "isTooMuchFor", desc := "(LElasticKernel$Task;)Z" } : Jvm.MethodName)) ∈ lw_g := lw_t2 (List.mem_of_getElem? (i := 111) rfl) rfl
set_option maxRecDepth 100000 in
theorem q_353 : (Jvm.Cond.instanceMethod ({ cls := "ElasticKernel$Springs", name := "isTooMuchFor", desc := "(LElasticKernel$Task;)Z" } : Jvm.MethodName)) ∈ lw_g := lw_t2 (List.mem_of_getElem? (i := 113) rfl) rfl
set_option maxRecDepth 100000 in
theorem q_354 : (Jvm.Cond.code ({ cls := "ElasticKernel$Springs", name := "isTooMuchFor", desc := "(LElasticKernel$Task;)Z" } : Jvm.MethodName) prog_6_method_11_code (4 : Nat) (Option.some Jvm.ClassFile.FieldType.boolean)) ∈ lw_g := lw_t2 (List.mem_of_getElem? (i := 114) rfl) rfl
set_option maxRecDepth 100000 in
theorem q_355 : (Jvm.Cond.methodLink "ElasticKernel$Springs" (102 : Nat) ({ cls := "ElasticKernel$Divider", name := "reduce", desc := "(LElasticKernel$Fraction;)V" } : Jvm.MethodName)) ∈ lw_g := lw_t2 (List.mem_of_getElem? (i := 115) rfl) rfl
set_option maxRecDepth 100000 in
theorem q_356 : (Jvm.Cond.instanceMethod ({ cls := "ElasticKernel$Divider", name := "reduce", desc := "(LElasticKernel$Fraction;)V" } : Jvm.MethodName)) ∈ lw_g := lw_t2 (List.mem_of_getElem? (i := 116) rfl) rfl
set_option maxRecDepth 100000 in
theorem q_357 : (Jvm.Cond.selects "ElasticKernel$Divider" ({ cls := "ElasticKernel$Divider", name := "reduce", desc := "(LElasticKernel$Fraction;)V" } : Jvm.MethodName) ({ cls := "ElasticKernel$Divider", name := "reduce", desc := "(LElasticKernel$Fraction;)V" } : Jvm.MethodName)) ∈ lw_g := lw_t2 (List.mem_of_getElem? (i := 117) rfl) rfl
set_option maxRecDepth 100000 in
theorem q_358 : (Jvm.Cond.code ({ cls := "ElasticKernel$Divider", name := "reduce", desc := "(LElasticKernel$Fraction;)V" } : Jvm.MethodName) prog_2_method_3_code (6 : Nat) (Option.none : Option Jvm.ClassFile.FieldType)) ∈ lw_g := lw_t2 (List.mem_of_getElem? (i := 118) rfl) rfl
set_option maxRecDepth 100000 in
theorem q_359 : (Jvm.Cond.methodLink "ElasticKernel$Divider" (25 : Nat) ({ cls := "ElasticKernel$Natural", name := "copy", desc := "(LElasticKernel$Natural;)V" } : Jvm.MethodName)) ∈ lw_g := lw_t2 (List.mem_of_getElem? (i := 119) rfl) rfl
set_option maxRecDepth 100000 in
theorem q_360 : (Jvm.Cond.methodLink "ElasticKernel$Divider" (41 : Nat) ({ cls := "ElasticKernel$Natural", name := "isZero", desc := "()Z" } : Jvm.MethodName)) ∈ lw_g := lw_t2 (List.mem_of_getElem? (i := 120) rfl) rfl
set_option maxRecDepth 100000 in
theorem q_361 : (Jvm.Cond.instanceMethod ({ cls := "ElasticKernel$Natural", name := "isZero", desc := "()Z" } : Jvm.MethodName)) ∈ lw_g := lw_t2 (List.mem_of_getElem? (i := 121) rfl) rfl
set_option maxRecDepth 100000 in
theorem q_362 : (Jvm.Cond.selects "ElasticKernel$Natural" ({ cls := "ElasticKernel$Natural", name := "isZero", desc := "()Z" } : Jvm.MethodName) ({ cls := "ElasticKernel$Natural", name := "isZero", desc := "()Z" } : Jvm.MethodName)) ∈ lw_g := lw_t2 (List.mem_of_getElem? (i := 122) rfl) rfl
set_option maxRecDepth 100000 in
theorem q_363 : (Jvm.Cond.code ({ cls := "ElasticKernel$Natural", name := "isZero", desc := "()Z" } : Jvm.MethodName) prog_4_method_3_code (1 : Nat) (Option.some Jvm.ClassFile.FieldType.boolean)) ∈ lw_g := lw_t2 (List.mem_of_getElem? (i := 123) rfl) rfl
set_option maxRecDepth 100000 in
theorem q_364 : (Jvm.Cond.methodLink "ElasticKernel$Natural" (13 : Nat) ({ cls := "ElasticKernel$Natural", name := "bitLength", desc := "()I" } : Jvm.MethodName)) ∈ lw_g := lw_t2 (List.mem_of_getElem? (i := 124) rfl) rfl
set_option maxRecDepth 100000 in
theorem q_365 : (Jvm.Cond.instanceMethod ({ cls := "ElasticKernel$Natural", name := "bitLength", desc := "()I" } : Jvm.MethodName)) ∈ lw_g := lw_t2 (List.mem_of_getElem? (i := 125) rfl) rfl
set_option maxRecDepth 100000 in
theorem q_366 : (Jvm.Cond.selects "ElasticKernel$Natural" ({ cls := "ElasticKernel$Natural", name := "bitLength", desc := "()I" } : Jvm.MethodName) ({ cls := "ElasticKernel$Natural", name := "bitLength", desc := "()I" } : Jvm.MethodName)) ∈ lw_g := lw_t2 (List.mem_of_getElem? (i := 126) rfl) rfl
set_option maxRecDepth 100000 in
theorem q_367 : (Jvm.Cond.code ({ cls := "ElasticKernel$Natural", name := "bitLength", desc := "()I" } : Jvm.MethodName) prog_4_method_4_code (2 : Nat) (Option.some Jvm.ClassFile.FieldType.int)) ∈ lw_g := lw_t2 (List.mem_of_getElem? (i := 127) rfl) rfl
set_option maxRecDepth 100000 in
theorem q_368 : (Jvm.Cond.methodLink "ElasticKernel$Natural" (17 : Nat) ({ cls := "java/lang/Integer", name := "numberOfLeadingZeros", desc := "(I)I" } : Jvm.MethodName)) ∈ lw_g := lw_t2 (List.mem_of_getElem? (i := 128) rfl) rfl
set_option maxRecDepth 100000 in
theorem q_369 : (Jvm.Cond.static ({ cls := "java/lang/Integer", name := "numberOfLeadingZeros", desc := "(I)I" } : Jvm.MethodName)) ∈ lw_g := lw_t2 (List.mem_of_getElem? (i := 129) rfl) rfl
set_option maxRecDepth 100000 in
theorem q_370 : (Jvm.Cond.code ({ cls := "java/lang/Integer", name := "numberOfLeadingZeros", desc := "(I)I" } : Jvm.MethodName) prog_12_method_47_code (2 : Nat) (Option.some Jvm.ClassFile.FieldType.int)) ∈ lw_g := lw_t2 (List.mem_of_getElem? (i := 130) rfl) rfl
set_option maxRecDepth 100000 in
theorem q_371 : (Jvm.Cond.constant "java/lang/Integer" (264 : Nat) (65536 : Int32)) ∈ lw_g := lw_t2 (List.mem_of_getElem? (i := 131) rfl) rfl
set_option maxRecDepth 100000 in
theorem q_372 : (Jvm.Cond.methodLink "ElasticKernel$Divider" (33 : Nat) ({ cls := "ElasticKernel$Divider", name := "divide", desc := "(LElasticKernel$Natural;LElasticKernel$Natural;)V" } : Jvm.MethodName)) ∈ lw_g := lw_t2 (List.mem_of_getElem? (i := 132) rfl) rfl
set_option maxRecDepth 100000 in
theorem q_374 : (Jvm.Cond.instanceMethod ({ cls := "ElasticKernel$Divider", name := "divide", desc := "(LElasticKernel$Natural;LElasticKernel$Natural;)V" } : Jvm.MethodName)) ∈ lw_g := lw_t2 (List.mem_of_getElem? (i := 134) rfl) rfl
set_option maxRecDepth 100000 in
theorem q_375 : (Jvm.Cond.code ({ cls := "ElasticKernel$Divider", name := "divide", desc := "(LElasticKernel$Natural;LElasticKernel$Natural;)V" } : Jvm.MethodName) prog_2_method_4_code (5 : Nat) (Option.none : Option Jvm.ClassFile.FieldType)) ∈ lw_g := lw_t2 (List.mem_of_getElem? (i := 135) rfl) rfl
set_option maxRecDepth 100000 in
theorem q_376 : (Jvm.Cond.methodLink "ElasticKernel$Divider" (53 : Nat) ({ cls := "ElasticKernel$Natural", name := "set", desc := "(I)V" } : Jvm.MethodName)) ∈ lw_g := lw_t2 (List.mem_of_getElem? (i := 136) rfl) rfl
set_option maxRecDepth 100000 in
theorem q_377 : (Jvm.Cond.methodLink "ElasticKernel$Divider" (56 : Nat) ({ cls := "ElasticKernel$Natural", name := "bitLength", desc := "()I" } : Jvm.MethodName)) ∈ lw_g := lw_t2 (List.mem_of_getElem? (i := 137) rfl) rfl
set_option maxRecDepth 100000 in
theorem q_378 : (Jvm.Cond.methodLink "ElasticKernel$Divider" (60 : Nat) ({ cls := "ElasticKernel$Natural", name := "setShifted", desc := "(LElasticKernel$Natural;I)V" } : Jvm.MethodName)) ∈ lw_g := lw_t2 (List.mem_of_getElem? (i := 138) rfl) rfl
set_option maxRecDepth 100000 in
theorem q_379 : (Jvm.Cond.instanceMethod ({ cls := "ElasticKernel$Natural", name := "setShifted", desc := "(LElasticKernel$Natural;I)V" } : Jvm.MethodName)) ∈ lw_g := lw_t2 (List.mem_of_getElem? (i := 139) rfl) rfl
set_option maxRecDepth 100000 in
theorem q_380 : (Jvm.Cond.selects "ElasticKernel$Natural" ({ cls := "ElasticKernel$Natural", name := "setShifted", desc := "(LElasticKernel$Natural;I)V" } : Jvm.MethodName) ({ cls := "ElasticKernel$Natural", name := "setShifted", desc := "(LElasticKernel$Natural;I)V" } : Jvm.MethodName)) ∈ lw_g := lw_t2 (List.mem_of_getElem? (i := 140) rfl) rfl
set_option maxRecDepth 100000 in
theorem q_381 : (Jvm.Cond.code ({ cls := "ElasticKernel$Natural", name := "setShifted", desc := "(LElasticKernel$Natural;I)V" } : Jvm.MethodName) prog_4_method_8_code (8 : Nat) (Option.none : Option Jvm.ClassFile.FieldType)) ∈ lw_g := lw_t2 (List.mem_of_getElem? (i := 141) rfl) rfl
set_option maxRecDepth 100000 in
theorem q_382 : (Jvm.Cond.methodLink "ElasticKernel$Natural" (30 : Nat) ({ cls := "ElasticKernel$Natural", name := "word", desc := "(I)I" } : Jvm.MethodName)) ∈ lw_g := lw_t2 (List.mem_of_getElem? (i := 142) rfl) rfl
set_option maxRecDepth 100000 in
theorem q_383 : (Jvm.Cond.instanceMethod ({ cls := "ElasticKernel$Natural", name := "word", desc := "(I)I" } : Jvm.MethodName)) ∈ lw_g := lw_t2 (List.mem_of_getElem? (i := 143) rfl) rfl
set_option maxRecDepth 100000 in
theorem q_384 : (Jvm.Cond.selects "ElasticKernel$Natural" ({ cls := "ElasticKernel$Natural", name := "word", desc := "(I)I" } : Jvm.MethodName) ({ cls := "ElasticKernel$Natural", name := "word", desc := "(I)I" } : Jvm.MethodName)) ∈ lw_g := lw_t2 (List.mem_of_getElem? (i := 144) rfl) rfl
set_option maxRecDepth 100000 in
theorem q_385 : (Jvm.Cond.code ({ cls := "ElasticKernel$Natural", name := "word", desc := "(I)I" } : Jvm.MethodName) prog_4_method_2_code (2 : Nat) (Option.some Jvm.ClassFile.FieldType.int)) ∈ lw_g := lw_t2 (List.mem_of_getElem? (i := 145) rfl) rfl
set_option maxRecDepth 100000 in
theorem q_386 : (Jvm.Cond.methodLink "ElasticKernel$Divider" (64 : Nat) ({ cls := "ElasticKernel$Natural", name := "compareProducts", desc := "(LElasticKernel$Natural;JLElasticKernel$Natural;J)I" } : Jvm.MethodName)) ∈ lw_g := lw_t2 (List.mem_of_getElem? (i := 146) rfl) rfl
set_option maxRecDepth 100000 in
theorem q_387 : (Jvm.Cond.constantLong "ElasticKernel$Divider" (68 : Nat) (-1 : Int64)) ∈ lw_g := lw_t2 (List.mem_of_getElem? (i := 147) rfl) rfl
set_option maxRecDepth 100000 in
theorem q_388 : (Jvm.Cond.methodLink "ElasticKernel$Divider" (70 : Nat) ({ cls := "ElasticKernel$Natural", name := "weigh", desc := "(JLElasticKernel$Natural;J)V" } : Jvm.MethodName)) ∈ lw_g := lw_t2 (List.mem_of_getElem? (i := 148) rfl) rfl
set_option maxRecDepth 100000 in
theorem q_389 : (Jvm.Cond.methodLink "ElasticKernel$Divider" (74 : Nat) ({ cls := "ElasticKernel$Natural", name := "setBit", desc := "(I)V" } : Jvm.MethodName)) ∈ lw_g := lw_t2 (List.mem_of_getElem? (i := 149) rfl) rfl
set_option maxRecDepth 100000 in
theorem q_390 : (Jvm.Cond.instanceMethod ({ cls := "ElasticKernel$Natural", name := "setBit", desc := "(I)V" } : Jvm.MethodName)) ∈ lw_g := lw_t2 (List.mem_of_getElem? (i := 150) rfl) rfl
set_option maxRecDepth 100000 in
theorem q_391 : (Jvm.Cond.selects "ElasticKernel$Natural" ({ cls := "ElasticKernel$Natural", name := "setBit", desc := "(I)V" } : Jvm.MethodName) ({ cls := "ElasticKernel$Natural", name := "setBit", desc := "(I)V" } : Jvm.MethodName)) ∈ lw_g := lw_t2 (List.mem_of_getElem? (i := 151) rfl) rfl
set_option maxRecDepth 100000 in
theorem q_392 : (Jvm.Cond.code ({ cls := "ElasticKernel$Natural", name := "setBit", desc := "(I)V" } : Jvm.MethodName) prog_4_method_7_code (2 : Nat) (Option.none : Option Jvm.ClassFile.FieldType)) ∈ lw_g := lw_t2 (List.mem_of_getElem? (i := 152) rfl) rfl
set_option maxRecDepth 100000 in
theorem q_393 : (Jvm.Cond.methodLink "ElasticKernel" (98 : Nat) ({ cls := "java/lang/Math", name := "max", desc := "(II)I" } : Jvm.MethodName)) ∈ lw_g := lw_t2 (List.mem_of_getElem? (i := 153) rfl) rfl
set_option maxRecDepth 100000 in
theorem q_394 : (Jvm.Cond.methodLink "ElasticKernel" (191 : Nat) ({ cls := "ElasticKernel$Task", name := "isSolved", desc := "()Z" } : Jvm.MethodName)) ∈ lw_g := lw_t2 (List.mem_of_getElem? (i := 154) rfl) rfl
set_option maxRecDepth 100000 in
theorem q_395 : (Jvm.Cond.methodLink "ElasticKernel" (194 : Nat) ({ cls := "ElasticKernel$Springs", name := "setLoad", desc := "(LElasticKernel$Task;)V" } : Jvm.MethodName)) ∈ lw_g := lw_t2 (List.mem_of_getElem? (i := 155) rfl) rfl
set_option maxRecDepth 100000 in
theorem q_396 : (Jvm.Cond.instanceMethod ({ cls := "ElasticKernel$Springs", name := "setLoad", desc := "(LElasticKernel$Task;)V" } : Jvm.MethodName)) ∈ lw_g := lw_t2 (List.mem_of_getElem? (i := 156) rfl) rfl
set_option maxRecDepth 100000 in
theorem q_397 : (Jvm.Cond.selects "ElasticKernel$Springs" ({ cls := "ElasticKernel$Springs", name := "setLoad", desc := "(LElasticKernel$Task;)V" } : Jvm.MethodName) ({ cls := "ElasticKernel$Springs", name := "setLoad", desc := "(LElasticKernel$Task;)V" } : Jvm.MethodName)) ∈ lw_g := lw_t2 (List.mem_of_getElem? (i := 157) rfl) rfl
set_option maxRecDepth 100000 in
theorem q_398 : (Jvm.Cond.code ({ cls := "ElasticKernel$Springs", name := "setLoad", desc := "(LElasticKernel$Task;)V" } : Jvm.MethodName) prog_6_method_12_code (3 : Nat) (Option.none : Option Jvm.ClassFile.FieldType)) ∈ lw_g := lw_t2 (List.mem_of_getElem? (i := 158) rfl) rfl
set_option maxRecDepth 100000 in
theorem q_399 : (Jvm.Cond.methodLink "ElasticKernel$Springs" (126 : Nat) ({ cls := "ElasticKernel$Fraction", name := "divideBy", desc := "(I)V" } : Jvm.MethodName)) ∈ lw_g := lw_t2 (List.mem_of_getElem? (i := 159) rfl) rfl
set_option maxRecDepth 100000 in
theorem q_400 : (Jvm.Cond.instanceMethod ({ cls := "ElasticKernel$Fraction", name := "divideBy", desc := "(I)V" } : Jvm.MethodName)) ∈ lw_g := lw_t2 (List.mem_of_getElem? (i := 160) rfl) rfl
set_option maxRecDepth 100000 in
theorem q_401 : (Jvm.Cond.selects "ElasticKernel$Fraction" ({ cls := "ElasticKernel$Fraction", name := "divideBy", desc := "(I)V" } : Jvm.MethodName) ({ cls := "ElasticKernel$Fraction", name := "divideBy", desc := "(I)V" } : Jvm.MethodName)) ∈ lw_g := lw_t2 (List.mem_of_getElem? (i := 161) rfl) rfl
set_option maxRecDepth 100000 in
theorem q_402 : (Jvm.Cond.code ({ cls := "ElasticKernel$Fraction", name := "divideBy", desc := "(I)V" } : Jvm.MethodName) prog_3_method_5_code (3 : Nat) (Option.none : Option Jvm.ClassFile.FieldType)) ∈ lw_g := lw_t2 (List.mem_of_getElem? (i := 162) rfl) rfl
set_option maxRecDepth 100000 in
theorem q_403 : (Jvm.Cond.methodLink "ElasticKernel$Springs" (76 : Nat) ({ cls := "ElasticKernel$Divider", name := "ratioUp", desc := "(LElasticKernel$Natural;ILElasticKernel$Natural;)I" } : Jvm.MethodName)) ∈ lw_g := lw_t2 (List.mem_of_getElem? (i := 163) rfl) rfl
set_option maxRecDepth 100000 in
theorem q_404 : (Jvm.Cond.instanceMethod ({ cls := "ElasticKernel$Divider", name := "ratioUp", desc := "(LElasticKernel$Natural;ILElasticKernel$Natural;)I" } : Jvm.MethodName)) ∈ lw_g := lw_t2 (List.mem_of_getElem? (i := 164) rfl) rfl
set_option maxRecDepth 100000 in
theorem q_405 : (Jvm.Cond.selects "ElasticKernel$Divider" ({ cls := "ElasticKernel$Divider", name := "ratioUp", desc := "(LElasticKernel$Natural;ILElasticKernel$Natural;)I" } : Jvm.MethodName) ({ cls := "ElasticKernel$Divider", name := "ratioUp", desc := "(LElasticKernel$Natural;ILElasticKernel$Natural;)I" } : Jvm.MethodName)) ∈ lw_g := lw_t2 (List.mem_of_getElem? (i := 165) rfl) rfl
set_option maxRecDepth 100000 in
theorem q_406 : (Jvm.Cond.code ({ cls := "ElasticKernel$Divider", name := "ratioUp", desc := "(LElasticKernel$Natural;ILElasticKernel$Natural;)I" } : Jvm.MethodName) prog_2_method_2_code (4 : Nat) (Option.some Jvm.ClassFile.FieldType.int)) ∈ lw_g := lw_t2 (List.mem_of_getElem? (i := 166) rfl) rfl
set_option maxRecDepth 100000 in
theorem q_407 : (Jvm.Cond.methodLink "ElasticKernel$Divider" (29 : Nat) ({ cls := "ElasticKernel$Natural", name := "multiply", desc := "(I)V" } : Jvm.MethodName)) ∈ lw_g := lw_t2 (List.mem_of_getElem? (i := 167) rfl) rfl
set_option maxRecDepth 100000 in
theorem q_408 : (Jvm.Cond.methodLink "ElasticKernel$Divider" (37 : Nat) ({ cls := "ElasticKernel$Natural", name := "word", desc := "(I)I" } : Jvm.MethodName)) ∈ lw_g := lw_t2 (List.mem_of_getElem? (i := 168) rfl) rfl
set_option maxRecDepth 100000 in
theorem q_409 : (Jvm.Cond.methodLink "ElasticKernel" (197 : Nat) ({ cls := "ElasticKernel$Task", name := "holdsUpChange", desc := "()Z" } : Jvm.MethodName)) ∈ lw_g := lw_t2 (List.mem_of_getElem? (i := 169) rfl) rfl
set_option maxRecDepth 100000 in
theorem q_410 : (Jvm.Cond.instanceMethod ({ cls := "ElasticKernel$Task", name := "holdsUpChange", desc := "()Z" } : Jvm.MethodName)) ∈ lw_g := lw_t2 (List.mem_of_getElem? (i := 170) rfl) rfl
set_option maxRecDepth 100000 in
theorem q_411 : (Jvm.Cond.selects "ElasticKernel$Task" ({ cls := "ElasticKernel$Task", name := "holdsUpChange", desc := "()Z" } : Jvm.MethodName) ({ cls := "ElasticKernel$Task", name := "holdsUpChange", desc := "()Z" } : Jvm.MethodName)) ∈ lw_g := lw_t2 (List.mem_of_getElem? (i := 171) rfl) rfl
set_option maxRecDepth 100000 in
theorem q_412 : (Jvm.Cond.code ({ cls := "ElasticKernel$Task", name := "holdsUpChange", desc := "()Z" } : Jvm.MethodName) prog_7_method_4_code (1 : Nat) (Option.some Jvm.ClassFile.FieldType.boolean)) ∈ lw_g := lw_t2 (List.mem_of_getElem? (i := 172) rfl) rfl
set_option maxRecDepth 100000 in
theorem q_413 : (Jvm.Cond.methodLink "ElasticKernelLaw" (24 : Nat) ({ cls := "ElasticKernel", name := "leave", desc := "(I)Z" } : Jvm.MethodName)) ∈ lw_g := lw_t2 (List.mem_of_getElem? (i := 173) rfl) rfl
set_option maxRecDepth 100000 in
theorem q_414 : (Jvm.Cond.instanceMethod ({ cls := "ElasticKernel", name := "leave", desc := "(I)Z" } : Jvm.MethodName)) ∈ lw_g := lw_t2 (List.mem_of_getElem? (i := 174) rfl) rfl
set_option maxRecDepth 100000 in
theorem q_415 : (Jvm.Cond.selects "ElasticKernel" ({ cls := "ElasticKernel", name := "leave", desc := "(I)Z" } : Jvm.MethodName) ({ cls := "ElasticKernel", name := "leave", desc := "(I)Z" } : Jvm.MethodName)) ∈ lw_g := lw_t2 (List.mem_of_getElem? (i := 175) rfl) rfl
set_option maxRecDepth 100000 in
theorem q_416 : (Jvm.Cond.code ({ cls := "ElasticKernel", name := "leave", desc := "(I)Z" } : Jvm.MethodName) prog_1_method_3_code (3 : Nat) (Option.some Jvm.ClassFile.FieldType.boolean)) ∈ lw_g := lw_t2 (List.mem_of_getElem? (i := 176) rfl) rfl
set_option maxRecDepth 100000 in
theorem q_417 : (Jvm.Cond.methodLink "ElasticKernel" (62 : Nat) ({ cls := "ElasticKernel$Roster", name := "find", desc := "(I)LElasticKernel$Task;" } : Jvm.MethodName)) ∈ lw_g := lw_t2 (List.mem_of_getElem? (i := 177) rfl) rfl
set_option maxRecDepth 100000 in
theorem q_418 : (Jvm.Cond.methodLink "ElasticKernelLaw" (29 : Nat) ({ cls := "ElasticKernel", name := "load", desc := "(I)Z" } : Jvm.MethodName)) ∈ lw_g := lw_t2 (List.mem_of_getElem? (i := 178) rfl) rfl
set_option maxRecDepth 100000 in
theorem q_419 : (Jvm.Cond.instanceMethod ({ cls := "ElasticKernel", name := "load", desc := "(I)Z" } : Jvm.MethodName)) ∈ lw_g := lw_t2 (List.mem_of_getElem? (i := 179) rfl) rfl
set_option maxRecDepth 100000 in
theorem q_420 : (Jvm.Cond.selects "ElasticKernel" ({ cls := "ElasticKernel", name := "load", desc := "(I)Z" } : Jvm.MethodName) ({ cls := "ElasticKernel", name := "load", desc := "(I)Z" } : Jvm.MethodName)) ∈ lw_g := lw_t2 (List.mem_of_getElem? (i := 180) rfl) rfl
set_option maxRecDepth 100000 in
theorem q_421 : (Jvm.Cond.code ({ cls := "ElasticKernel", name := "load", desc := "(I)Z" } : Jvm.MethodName) prog_1_method_4_code (2 : Nat) (Option.some Jvm.ClassFile.FieldType.boolean)) ∈ lw_g := lw_t2 (List.mem_of_getElem? (i := 181) rfl) rfl
set_option maxRecDepth 100000 in
theorem q_422 : (Jvm.Cond.methodLink "ElasticKernelLaw" (33 : Nat) ({ cls := "ElasticKernel", name := "use", desc := "(II)Z" } : Jvm.MethodName)) ∈ lw_g := lw_t2 (List.mem_of_getElem? (i := 182) rfl) rfl
set_option maxRecDepth 100000 in
theorem q_423 : (Jvm.Cond.instanceMethod ({ cls := "ElasticKernel", name := "use", desc := "(II)Z" } : Jvm.MethodName)) ∈ lw_g := lw_t2 (List.mem_of_getElem? (i := 183) rfl) rfl
set_option maxRecDepth 100000 in
theorem q_424 : (Jvm.Cond.selects "ElasticKernel" ({ cls := "ElasticKernel", name := "use", desc := "(II)Z" } : Jvm.MethodName) ({ cls := "ElasticKernel", name := "use", desc := "(II)Z" } : Jvm.MethodName)) ∈ lw_g := lw_t2 (List.mem_of_getElem? (i := 184) rfl) rfl
set_option maxRecDepth 100000 in
theorem q_425 : (Jvm.Cond.code ({ cls := "ElasticKernel", name := "use", desc := "(II)Z" } : Jvm.MethodName) prog_1_method_5_code (4 : Nat) (Option.some Jvm.ClassFile.FieldType.boolean)) ∈ lw_g := lw_t2 (List.mem_of_getElem? (i := 185) rfl) rfl
set_option maxRecDepth 100000 in
theorem q_426 : (Jvm.Cond.methodLink "ElasticKernelLaw" (48 : Nat) ({ cls := "ElasticKernel", name := "task", desc := "(II)I" } : Jvm.MethodName)) ∈ lw_g := lw_t2 (List.mem_of_getElem? (i := 186) rfl) rfl
set_option maxRecDepth 100000 in
theorem q_427 : (Jvm.Cond.instanceMethod ({ cls := "ElasticKernel", name := "task", desc := "(II)I" } : Jvm.MethodName)) ∈ lw_g := lw_t2 (List.mem_of_getElem? (i := 187) rfl) rfl
set_option maxRecDepth 100000 in
theorem q_428 : (Jvm.Cond.selects "ElasticKernel" ({ cls := "ElasticKernel", name := "task", desc := "(II)I" } : Jvm.MethodName) ({ cls := "ElasticKernel", name := "task", desc := "(II)I" } : Jvm.MethodName)) ∈ lw_g := lw_t2 (List.mem_of_getElem? (i := 188) rfl) rfl
set_option maxRecDepth 100000 in
theorem q_429 : (Jvm.Cond.code ({ cls := "ElasticKernel", name := "task", desc := "(II)I" } : Jvm.MethodName) prog_1_method_7_code (4 : Nat) (Option.some Jvm.ClassFile.FieldType.int)) ∈ lw_g := lw_t2 (List.mem_of_getElem? (i := 189) rfl) rfl
set_option maxRecDepth 100000 in
theorem q_430 : (Jvm.Cond.methodLink "ElasticKernel" (126 : Nat) ({ cls := "ElasticKernel$Task", name := "isPressedFlat", desc := "()Z" } : Jvm.MethodName)) ∈ lw_g := lw_t2 (List.mem_of_getElem? (i := 190) rfl) rfl
set_option maxRecDepth 100000 in
theorem q_431 : (Jvm.Cond.instanceMethod ({ cls := "ElasticKernel$Task", name := "isPressedFlat", desc := "()Z" } : Jvm.MethodName)) ∈ lw_g := lw_t2 (List.mem_of_getElem? (i := 191) rfl) rfl
set_option maxRecDepth 100000 in
theorem q_432 : (Jvm.Cond.selects "ElasticKernel$Task" ({ cls := "ElasticKernel$Task", name := "isPressedFlat", desc := "()Z" } : Jvm.MethodName) ({ cls := "ElasticKernel$Task", name := "isPressedFlat", desc := "()Z" } : Jvm.MethodName)) ∈ lw_g := lw_t2 (List.mem_of_getElem? (i := 192) rfl) rfl
set_option maxRecDepth 100000 in
theorem q_433 : (Jvm.Cond.code ({ cls := "ElasticKernel$Task", name := "isPressedFlat", desc := "()Z" } : Jvm.MethodName) prog_7_method_5_code (1 : Nat) (Option.some Jvm.ClassFile.FieldType.boolean)) ∈ lw_g := lw_t2 (List.mem_of_getElem? (i := 193) rfl) rfl
set_option maxRecDepth 100000 in
theorem q_434 : (Jvm.Cond.methodLink "ElasticKernel$Task" (55 : Nat) ({ cls := "ElasticKernel$Task", name := "isSolved", desc := "()Z" } : Jvm.MethodName)) ∈ lw_g := lw_t2 (List.mem_of_getElem? (i := 194) rfl) rfl
set_option maxRecDepth 100000 in
theorem q_435 : (Jvm.Cond.methodLink "ElasticKernel$Task" (59 : Nat) ({ cls := "ElasticKernel$Fraction", name := "compare", desc := "(JJ)I" } : Jvm.MethodName)) ∈ lw_g := lw_t2 (List.mem_of_getElem? (i := 195) rfl) rfl
set_option maxRecDepth 100000 in
theorem q_436 : (Jvm.Cond.methodLink "ElasticKernelLaw" (53 : Nat) ({ cls := "ElasticKernel", name := "rate", desc := "(III)I" } : Jvm.MethodName)) ∈ lw_g := lw_t2 (List.mem_of_getElem? (i := 196) rfl) rfl
set_option maxRecDepth 100000 in
theorem q_437 : (Jvm.Cond.instanceMethod ({ cls := "ElasticKernel", name := "rate", desc := "(III)I" } : Jvm.MethodName)) ∈ lw_g := lw_t2 (List.mem_of_getElem? (i := 197) rfl) rfl
set_option maxRecDepth 100000 in
theorem q_438 : (Jvm.Cond.selects "ElasticKernel" ({ cls := "ElasticKernel", name := "rate", desc := "(III)I" } : Jvm.MethodName) ({ cls := "ElasticKernel", name := "rate", desc := "(III)I" } : Jvm.MethodName)) ∈ lw_g := lw_t2 (List.mem_of_getElem? (i := 198) rfl) rfl
set_option maxRecDepth 100000 in
theorem q_439 : (Jvm.Cond.code ({ cls := "ElasticKernel", name := "rate", desc := "(III)I" } : Jvm.MethodName) prog_1_method_8_code (5 : Nat) (Option.some Jvm.ClassFile.FieldType.int)) ∈ lw_g := lw_t2 (List.mem_of_getElem? (i := 199) rfl) rfl
set_option maxRecDepth 100000 in
theorem q_440 : (Jvm.Cond.methodLink "ElasticKernel" (134 : Nat) ({ cls := "ElasticKernel", name := "wordOf", desc := "(LElasticKernel$Fraction;II)I" } : Jvm.MethodName)) ∈ lw_g := lw_t2 (List.mem_of_getElem? (i := 200) rfl) rfl
set_option maxRecDepth 100000 in
theorem q_441 : (Jvm.Cond.static ({ cls := "ElasticKernel", name := "wordOf", desc := "(LElasticKernel$Fraction;II)I" } : Jvm.MethodName)) ∈ lw_g := lw_t2 (List.mem_of_getElem? (i := 201) rfl) rfl
set_option maxRecDepth 100000 in
theorem q_442 : (Jvm.Cond.code ({ cls := "ElasticKernel", name := "wordOf", desc := "(LElasticKernel$Fraction;II)I" } : Jvm.MethodName) prog_1_method_13_code (3 : Nat) (Option.some Jvm.ClassFile.FieldType.int)) ∈ lw_g := lw_t2 (List.mem_of_getElem? (i := 202) rfl) rfl
set_option maxRecDepth 100000 in
theorem q_443 : (Jvm.Cond.methodLink "ElasticKernel" (163 : Nat) ({ cls := "ElasticKernel$Natural", name := "word", desc := "(I)I" } : Jvm.MethodName)) ∈ lw_g := lw_t2 (List.mem_of_getElem? (i := 203) rfl) rfl
set_option maxRecDepth 100000 in
theorem q_444 : (Jvm.Cond.methodLink "ElasticKernelLaw" (58 : Nat) ({ cls := "ElasticKernel", name := "total", desc := "(II)I" } : Jvm.MethodName)) ∈ lw_g := lw_t2 (List.mem_of_getElem? (i := 204) rfl) rfl
set_option maxRecDepth 100000 in
theorem q_445 : (Jvm.Cond.instanceMethod ({ cls := "ElasticKernel", name := "total", desc := "(II)I" } : Jvm.MethodName)) ∈ lw_g := lw_t2 (List.mem_of_getElem? (i := 205) rfl) rfl
set_option maxRecDepth 100000 in
theorem q_446 : (Jvm.Cond.selects "ElasticKernel" ({ cls := "ElasticKernel", name := "total", desc := "(II)I" } : Jvm.MethodName) ({ cls := "ElasticKernel", name := "total", desc := "(II)I" } : Jvm.MethodName)) ∈ lw_g := lw_t2 (List.mem_of_getElem? (i := 206) rfl) rfl
set_option maxRecDepth 100000 in
theorem q_447 : (Jvm.Cond.code ({ cls := "ElasticKernel", name := "total", desc := "(II)I" } : Jvm.MethodName) prog_1_method_9_code (3 : Nat) (Option.some Jvm.ClassFile.FieldType.int)) ∈ lw_g := lw_t2 (List.mem_of_getElem? (i := 207) rfl) rfl
set_option maxRecDepth 100000 in
theorem q_448 : (Jvm.Cond.methodLink "ElasticKernelLaw" (62 : Nat) ({ cls := "ElasticKernel", name := "state", desc := "(I)I" } : Jvm.MethodName)) ∈ lw_g := lw_t2 (List.mem_of_getElem? (i := 208) rfl) rfl
set_option maxRecDepth 100000 in
theorem q_449 : (Jvm.Cond.instanceMethod ({ cls := "ElasticKernel", name := "state", desc := "(I)I" } : Jvm.MethodName)) ∈ lw_g := lw_t2 (List.mem_of_getElem? (i := 209) rfl) rfl
set_option maxRecDepth 100000 in
theorem q_450 : (Jvm.Cond.selects "ElasticKernel" ({ cls := "ElasticKernel", name := "state", desc := "(I)I" } : Jvm.MethodName) ({ cls := "ElasticKernel", name := "state", desc := "(I)I" } : Jvm.MethodName)) ∈ lw_g := lw_t2 (List.mem_of_getElem? (i := 210) rfl) rfl
set_option maxRecDepth 100000 in
theorem q_451 : (Jvm.Cond.code ({ cls := "ElasticKernel", name := "state", desc := "(I)I" } : Jvm.MethodName) prog_1_method_10_code (2 : Nat) (Option.some Jvm.ClassFile.FieldType.int)) ∈ lw_g := lw_t2 (List.mem_of_getElem? (i := 211) rfl) rfl
set_option maxRecDepth 100000 in
theorem q_452 : (Jvm.Cond.methodLink "ElasticKernel" (147 : Nat) ({ cls := "ElasticKernel$Springs", name := "thousandthsInUse", desc := "()I" } : Jvm.MethodName)) ∈ lw_g := lw_t2 (List.mem_of_getElem? (i := 212) rfl) rfl
set_option maxRecDepth 100000 in
theorem q_453 : (Jvm.Cond.instanceMethod ({ cls := "ElasticKernel$Springs", name := "thousandthsInUse", desc := "()I" } : Jvm.MethodName)) ∈ lw_g := lw_t2 (List.mem_of_getElem? (i := 213) rfl) rfl
set_option maxRecDepth 100000 in
theorem q_454 : (Jvm.Cond.selects "ElasticKernel$Springs" ({ cls := "ElasticKernel$Springs", name := "thousandthsInUse", desc := "()I" } : Jvm.MethodName) ({ cls := "ElasticKernel$Springs", name := "thousandthsInUse", desc := "()I" } : Jvm.MethodName)) ∈ lw_g := lw_t2 (List.mem_of_getElem? (i := 214) rfl) rfl
set_option maxRecDepth 100000 in
theorem q_455 : (Jvm.Cond.code ({ cls := "ElasticKernel$Springs", name := "thousandthsInUse", desc := "()I" } : Jvm.MethodName) prog_6_method_3_code (1 : Nat) (Option.some Jvm.ClassFile.FieldType.int)) ∈ lw_g := lw_t2 (List.mem_of_getElem? (i := 215) rfl) rfl
set_option maxRecDepth 100000 in
theorem q_456 : (Jvm.Cond.methodLink "ElasticKernelLaw" (38 : Nat) ({ cls := "ElasticKernelLaw", name := "tick", desc := "(LElasticKernel;I[J)I" } : Jvm.MethodName)) ∈ lw_g := lw_t2 (List.mem_of_getElem? (i := 216) rfl) rfl
set_option maxRecDepth 100000 in
theorem q_457 : (Jvm.Cond.static ({ cls := "ElasticKernelLaw", name := "tick", desc := "(LElasticKernel;I[J)I" } : Jvm.MethodName)) ∈ lw_g := lw_t2 (List.mem_of_getElem? (i := 217) rfl) rfl
set_option maxRecDepth 100000 in
theorem q_459 : (Jvm.Cond.classLink "ElasticKernelLaw" (13 : Nat) "java/lang/IllegalArgumentException") ∈ lw_g := lw_t2 (List.mem_of_getElem? (i := 219) rfl) rfl
set_option maxRecDepth 100000 in
theorem q_460 : (Jvm.Cond.methodLink "ElasticKernelLaw" (7 : Nat) ({ cls := "ElasticKernel", name := "tick", desc := "(I)I" } : Jvm.MethodName)) ∈ lw_g := lw_t2 (List.mem_of_getElem? (i := 220) rfl) rfl
set_option maxRecDepth 100000 in
theorem q_461 : (Jvm.Cond.instanceMethod ({ cls := "ElasticKernel", name := "tick", desc := "(I)I" } : Jvm.MethodName)) ∈ lw_g := lw_t2 (List.mem_of_getElem? (i := 221) rfl) rfl
set_option maxRecDepth 100000 in
theorem q_462 : (Jvm.Cond.selects "ElasticKernel" ({ cls := "ElasticKernel", name := "tick", desc := "(I)I" } : Jvm.MethodName) ({ cls := "ElasticKernel", name := "tick", desc := "(I)I" } : Jvm.MethodName)) ∈ lw_g := lw_t2 (List.mem_of_getElem? (i := 222) rfl) rfl
set_option maxRecDepth 100000 in
theorem q_463 : (Jvm.Cond.code ({ cls := "ElasticKernel", name := "tick", desc := "(I)I" } : Jvm.MethodName) prog_1_method_6_code (6 : Nat) (Option.some Jvm.ClassFile.FieldType.int)) ∈ lw_g := lw_t2 (List.mem_of_getElem? (i := 223) rfl) rfl
set_option maxRecDepth 100000 in
theorem q_464 : (Jvm.Cond.classLink "ElasticKernel" (74 : Nat) "java/lang/IllegalArgumentException") ∈ lw_g := lw_t2 (List.mem_of_getElem? (i := 224) rfl) rfl
set_option maxRecDepth 100000 in
theorem q_465 : (Jvm.Cond.instantiable "java/lang/IllegalArgumentException" (6 : Nat)) ∈ lw_g := lw_t2 (List.mem_of_getElem? (i := 225) rfl) rfl
set_option maxRecDepth 100000 in
theorem q_473 : (Jvm.Cond.selects "java/lang/IllegalArgumentException" ({ cls := "java/lang/Throwable", name := "fillInStackTrace", desc := "(I)Ljava/lang/Throwable;" } : Jvm.MethodName) ({ cls := "java/lang/Throwable", name := "fillInStackTrace", desc := "(I)Ljava/lang/Throwable;" } : Jvm.MethodName)) ∈ lw_g := lw_t2 (List.mem_of_getElem? (i := 233) rfl) rfl
set_option maxRecDepth 100000 in
theorem q_474 : (Jvm.Cond.selects "java/lang/IllegalArgumentException" ({ cls := "java/lang/Throwable", name := "fillInStackTrace", desc := "()Ljava/lang/Throwable;" } : Jvm.MethodName) ({ cls := "java/lang/Throwable", name := "fillInStackTrace", desc := "()Ljava/lang/Throwable;" } : Jvm.MethodName)) ∈ lw_g := lw_t2 (List.mem_of_getElem? (i := 234) rfl) rfl
set_option maxRecDepth 100000 in
theorem q_475 : (Jvm.Cond.lays "java/lang/IllegalArgumentException" "java/lang/Throwable" "cause" "Ljava/lang/Throwable;") ∈ lw_g := lw_t2 (List.mem_of_getElem? (i := 235) rfl) rfl
set_option maxRecDepth 100000 in
theorem q_476 : (Jvm.Cond.lays "java/lang/Throwable" "java/lang/Throwable" "cause" "Ljava/lang/Throwable;") ∈ lw_g := lw_t2 (List.mem_of_getElem? (i := 236) rfl) rfl
set_option maxRecDepth 100000 in
theorem q_477 : (Jvm.Cond.lays "java/lang/IllegalArgumentException" "java/lang/Throwable" "stackTrace" "[Ljava/lang/StackTraceElement;") ∈ lw_g := lw_t2 (List.mem_of_getElem? (i := 237) rfl) rfl
set_option maxRecDepth 100000 in
theorem q_478 : (Jvm.Cond.lays "java/lang/Throwable" "java/lang/Throwable" "stackTrace" "[Ljava/lang/StackTraceElement;") ∈ lw_g := lw_t2 (List.mem_of_getElem? (i := 238) rfl) rfl
set_option maxRecDepth 100000 in
theorem q_479 : (Jvm.Cond.lays "java/lang/IllegalArgumentException" "java/lang/Throwable" "suppressedExceptions" "Ljava/util/List;") ∈ lw_g := lw_t2 (List.mem_of_getElem? (i := 239) rfl) rfl
set_option maxRecDepth 100000 in
theorem q_480 : (Jvm.Cond.lays "java/lang/Throwable" "java/lang/Throwable" "suppressedExceptions" "Ljava/util/List;") ∈ lw_g := lw_t3 (List.mem_of_getElem? (i := 0) rfl) rfl
set_option maxRecDepth 100000 in
theorem q_481 : (Jvm.Cond.lays "java/lang/IllegalArgumentException" "java/lang/Throwable" "detailMessage" "Ljava/lang/String;") ∈ lw_g := lw_t3 (List.mem_of_getElem? (i := 1) rfl) rfl
set_option maxRecDepth 100000 in
theorem q_482 : (Jvm.Cond.lays "java/lang/Throwable" "java/lang/Throwable" "detailMessage" "Ljava/lang/String;") ∈ lw_g := lw_t3 (List.mem_of_getElem? (i := 2) rfl) rfl
set_option maxRecDepth 100000 in
theorem q_483 : (Jvm.Cond.lays "java/lang/IllegalArgumentException" "java/lang/Throwable" "backtrace" "Ljava/lang/Object;") ∈ lw_g := lw_t3 (List.mem_of_getElem? (i := 3) rfl) rfl
set_option maxRecDepth 100000 in
theorem q_484 : (Jvm.Cond.lays "java/lang/Throwable" "java/lang/Throwable" "backtrace" "Ljava/lang/Object;") ∈ lw_g := lw_t3 (List.mem_of_getElem? (i := 4) rfl) rfl
set_option maxRecDepth 100000 in
theorem q_485 : (Jvm.Cond.fieldLink "java/lang/Throwable" (198 : Nat) "java/lang/Throwable" "backtrace" "Ljava/lang/Object;") ∈ lw_g := lw_t3 (List.mem_of_getElem? (i := 5) rfl) rfl
set_option maxRecDepth 100000 in
theorem q_487 : (Jvm.Cond.instanceMethod ({ cls := "java/lang/Throwable", name := "<init>", desc := "()V" } : Jvm.MethodName)) ∈ lw_g := lw_t3 (List.mem_of_getElem? (i := 7) rfl) rfl
set_option maxRecDepth 100000 in
theorem q_488 : (Jvm.Cond.code ({ cls := "java/lang/Throwable", name := "<init>", desc := "()V" } : Jvm.MethodName) prog_17_method_1_code (1 : Nat) (Option.none : Option Jvm.ClassFile.FieldType)) ∈ lw_g := lw_t3 (List.mem_of_getElem? (i := 8) rfl) rfl
set_option maxRecDepth 100000 in
theorem q_489 : (Jvm.Cond.methodLink "java/lang/Throwable" (1 : Nat) ({ cls := "java/lang/Object", name := "<init>", desc := "()V" } : Jvm.MethodName)) ∈ lw_g := lw_t3 (List.mem_of_getElem? (i := 9) rfl) rfl
set_option maxRecDepth 100000 in
theorem q_490 : (Jvm.Cond.fieldLink "java/lang/Throwable" (13 : Nat) "java/lang/Throwable" "UNASSIGNED_STACK" "[Ljava/lang/StackTraceElement;") ∈ lw_g := lw_t3 (List.mem_of_getElem? (i := 10) rfl) rfl
set_option maxRecDepth 100000 in
theorem q_492 : (Jvm.Cond.fieldLink "java/lang/Throwable" (20 : Nat) "java/lang/Throwable" "SUPPRESSED_SENTINEL" "Ljava/util/List;") ∈ lw_g := lw_t3 (List.mem_of_getElem? (i := 12) rfl) rfl
set_option maxRecDepth 100000 in
theorem q_494 : (Jvm.Cond.methodLink "java/lang/Throwable" (27 : Nat) ({ cls := "java/lang/Throwable", name := "fillInStackTrace", desc := "()Ljava/lang/Throwable;" } : Jvm.MethodName)) ∈ lw_g := lw_t3 (List.mem_of_getElem? (i := 14) rfl) rfl
set_option maxRecDepth 100000 in
theorem q_495 : (Jvm.Cond.instanceMethod ({ cls := "java/lang/Throwable", name := "fillInStackTrace", desc := "()Ljava/lang/Throwable;" } : Jvm.MethodName)) ∈ lw_g := lw_t3 (List.mem_of_getElem? (i := 15) rfl) rfl
set_option maxRecDepth 100000 in
theorem q_498 : (Jvm.Cond.methodLink "java/lang/Throwable" (202 : Nat) ({ cls := "java/lang/Throwable", name := "fillInStackTrace", desc := "(I)Ljava/lang/Throwable;" } : Jvm.MethodName)) ∈ lw_g := lw_t3 (List.mem_of_getElem? (i := 18) rfl) rfl
set_option maxRecDepth 100000 in
theorem q_500 : (Jvm.Cond.instanceMethod ({ cls := "java/lang/Throwable", name := "fillInStackTrace", desc := "(I)Ljava/lang/Throwable;" } : Jvm.MethodName)) ∈ lw_g := lw_t3 (List.mem_of_getElem? (i := 20) rfl) rfl
set_option maxRecDepth 100000 in
theorem q_501 : (Jvm.Cond.instantiable "java/lang/Throwable" (6 : Nat)) ∈ lw_g := lw_t3 (List.mem_of_getElem? (i := 21) rfl) rfl
set_option maxRecDepth 100000 in
theorem q_502 : (Jvm.Cond.native ({ cls := "java/lang/Throwable", name := "fillInStackTrace", desc := "(I)Ljava/lang/Throwable;" } : Jvm.MethodName)) ∈ lw_g := lw_t3 (List.mem_of_getElem? (i := 22) rfl) rfl
set_option maxRecDepth 100000 in
theorem q_504 : (Jvm.Cond.methodLink "ElasticKernel" (78 : Nat) ({ cls := "java/lang/IllegalArgumentException", name := "<init>", desc := "(Ljava/lang/String;)V" } : Jvm.MethodName)) ∈ lw_g := lw_t3 (List.mem_of_getElem? (i := 24) rfl) rfl
set_option maxRecDepth 100000 in
theorem q_505 : (Jvm.Cond.instanceMethod ({ cls := "java/lang/IllegalArgumentException", name := "<init>", desc := "(Ljava/lang/String;)V" } : Jvm.MethodName)) ∈ lw_g := lw_t3 (List.mem_of_getElem? (i := 25) rfl) rfl
set_option maxRecDepth 100000 in
theorem q_506 : (Jvm.Cond.code ({ cls := "java/lang/IllegalArgumentException", name := "<init>", desc := "(Ljava/lang/String;)V" } : Jvm.MethodName) prog_11_method_2_code (2 : Nat) (Option.none : Option Jvm.ClassFile.FieldType)) ∈ lw_g := lw_t3 (List.mem_of_getElem? (i := 26) rfl) rfl
set_option maxRecDepth 100000 in
theorem q_507 : (Jvm.Cond.methodLink "java/lang/IllegalArgumentException" (7 : Nat) ({ cls := "java/lang/RuntimeException", name := "<init>", desc := "(Ljava/lang/String;)V" } : Jvm.MethodName)) ∈ lw_g := lw_t3 (List.mem_of_getElem? (i := 27) rfl) rfl
set_option maxRecDepth 100000 in
theorem q_508 : (Jvm.Cond.instanceMethod ({ cls := "java/lang/RuntimeException", name := "<init>", desc := "(Ljava/lang/String;)V" } : Jvm.MethodName)) ∈ lw_g := lw_t3 (List.mem_of_getElem? (i := 28) rfl) rfl
set_option maxRecDepth 100000 in
theorem q_509 : (Jvm.Cond.code ({ cls := "java/lang/RuntimeException", name := "<init>", desc := "(Ljava/lang/String;)V" } : Jvm.MethodName) prog_14_method_2_code (2 : Nat) (Option.none : Option Jvm.ClassFile.FieldType)) ∈ lw_g := lw_t3 (List.mem_of_getElem? (i := 29) rfl) rfl
set_option maxRecDepth 100000 in
theorem q_510 : (Jvm.Cond.methodLink "java/lang/RuntimeException" (7 : Nat) ({ cls := "java/lang/Exception", name := "<init>", desc := "(Ljava/lang/String;)V" } : Jvm.MethodName)) ∈ lw_g := lw_t3 (List.mem_of_getElem? (i := 30) rfl) rfl
set_option maxRecDepth 100000 in
theorem q_511 : (Jvm.Cond.instanceMethod ({ cls := "java/lang/Exception", name := "<init>", desc := "(Ljava/lang/String;)V" } : Jvm.MethodName)) ∈ lw_g := lw_t3 (List.mem_of_getElem? (i := 31) rfl) rfl
set_option maxRecDepth 100000 in
theorem q_512 : (Jvm.Cond.code ({ cls := "java/lang/Exception", name := "<init>", desc := "(Ljava/lang/String;)V" } : Jvm.MethodName) prog_10_method_2_code (2 : Nat) (Option.none : Option Jvm.ClassFile.FieldType)) ∈ lw_g := lw_t3 (List.mem_of_getElem? (i := 32) rfl) rfl
set_option maxRecDepth 100000 in
theorem q_513 : (Jvm.Cond.methodLink "java/lang/Exception" (7 : Nat) ({ cls := "java/lang/Throwable", name := "<init>", desc := "(Ljava/lang/String;)V" } : Jvm.MethodName)) ∈ lw_g := lw_t3 (List.mem_of_getElem? (i := 33) rfl) rfl
set_option maxRecDepth 100000 in
theorem q_514 : (Jvm.Cond.instanceMethod ({ cls := "java/lang/Throwable", name := "<init>", desc := "(Ljava/lang/String;)V" } : Jvm.MethodName)) ∈ lw_g := lw_t3 (List.mem_of_getElem? (i := 34) rfl) rfl
set_option maxRecDepth 100000 in
theorem q_515 : (Jvm.Cond.code ({ cls := "java/lang/Throwable", name := "<init>", desc := "(Ljava/lang/String;)V" } : Jvm.MethodName) prog_17_method_2_code (2 : Nat) (Option.none : Option Jvm.ClassFile.FieldType)) ∈ lw_g := lw_t3 (List.mem_of_getElem? (i := 35) rfl) rfl
set_option maxRecDepth 100000 in
theorem q_516 : (Jvm.Cond.fieldLink "java/lang/Throwable" (198 : Nat) "java/lang/Throwable" "backtrace" "Ljava/lang/Object;") ∈ lw_g := lw_t3 (List.mem_of_getElem? (i := 36) rfl) rfl
set_option maxRecDepth 100000 in
theorem q_517 : (Jvm.Cond.fieldLink "java/lang/Throwable" (31 : Nat) "java/lang/Throwable" "detailMessage" "Ljava/lang/String;") ∈ lw_g := lw_t3 (List.mem_of_getElem? (i := 37) rfl) rfl
set_option maxRecDepth 100000 in
theorem q_518 : (Jvm.Cond.fieldLink "java/lang/Throwable" (7 : Nat) "java/lang/Throwable" "cause" "Ljava/lang/Throwable;") ∈ lw_g := lw_t3 (List.mem_of_getElem? (i := 38) rfl) rfl
set_option maxRecDepth 100000 in
theorem q_519 : (Jvm.Cond.fieldLink "java/lang/Throwable" (17 : Nat) "java/lang/Throwable" "stackTrace" "[Ljava/lang/StackTraceElement;") ∈ lw_g := lw_t3 (List.mem_of_getElem? (i := 39) rfl) rfl
set_option maxRecDepth 100000 in
theorem q_520 : (Jvm.Cond.fieldLink "java/lang/Throwable" (24 : Nat) "java/lang/Throwable" "suppressedExceptions" "Ljava/util/List;") ∈ lw_g := lw_t3 (List.mem_of_getElem? (i := 40) rfl) rfl
set_option maxRecDepth 100000 in
theorem q_525 : (Jvm.Cond.lays "java/lang/IllegalArgumentException" "java/lang/Throwable" "depth" "I") ∈ lw_g := lw_t3 (List.mem_of_getElem? (i := 45) rfl) rfl
set_option maxRecDepth 100000 in
theorem q_529 : (Jvm.Cond.arrayClass Jvm.ClassFile.FieldType.byte) ∈ lw_g := lw_t3 (List.mem_of_getElem? (i := 49) rfl) rfl
set_option maxRecDepth 100000 in
theorem q_530 : (Jvm.Cond.methodLink "ElasticKernel" (81 : Nat) ({ cls := "ElasticKernel", name := "beginTick", desc := "()V" } : Jvm.MethodName)) ∈ lw_g := lw_t3 (List.mem_of_getElem? (i := 50) rfl) rfl
set_option maxRecDepth 100000 in
theorem q_532 : (Jvm.Cond.instanceMethod ({ cls := "ElasticKernel", name := "beginTick", desc := "()V" } : Jvm.MethodName)) ∈ lw_g := lw_t3 (List.mem_of_getElem? (i := 52) rfl) rfl
set_option maxRecDepth 100000 in
theorem q_533 : (Jvm.Cond.code ({ cls := "ElasticKernel", name := "beginTick", desc := "()V" } : Jvm.MethodName) prog_1_method_16_code (5 : Nat) (Option.none : Option Jvm.ClassFile.FieldType)) ∈ lw_g := lw_t3 (List.mem_of_getElem? (i := 53) rfl) rfl
set_option maxRecDepth 100000 in
theorem q_534 : (Jvm.Cond.methodLink "ElasticKernel" (200 : Nat) ({ cls := "ElasticKernel", name := "dismissLeavers", desc := "()V" } : Jvm.MethodName)) ∈ lw_g := lw_t3 (List.mem_of_getElem? (i := 54) rfl) rfl
set_option maxRecDepth 100000 in
theorem q_536 : (Jvm.Cond.instanceMethod ({ cls := "ElasticKernel", name := "dismissLeavers", desc := "()V" } : Jvm.MethodName)) ∈ lw_g := lw_t3 (List.mem_of_getElem? (i := 56) rfl) rfl
set_option maxRecDepth 100000 in
theorem q_537 : (Jvm.Cond.code ({ cls := "ElasticKernel", name := "dismissLeavers", desc := "()V" } : Jvm.MethodName) prog_1_method_17_code (3 : Nat) (Option.none : Option Jvm.ClassFile.FieldType)) ∈ lw_g := lw_t3 (List.mem_of_getElem? (i := 57) rfl) rfl
set_option maxRecDepth 100000 in
theorem q_538 : (Jvm.Cond.methodLink "ElasticKernel" (203 : Nat) ({ cls := "ElasticKernel", name := "countIfLate", desc := "(LElasticKernel$Task;)V" } : Jvm.MethodName)) ∈ lw_g := lw_t3 (List.mem_of_getElem? (i := 58) rfl) rfl
set_option maxRecDepth 100000 in
theorem q_540 : (Jvm.Cond.instanceMethod ({ cls := "ElasticKernel", name := "countIfLate", desc := "(LElasticKernel$Task;)V" } : Jvm.MethodName)) ∈ lw_g := lw_t3 (List.mem_of_getElem? (i := 60) rfl) rfl
set_option maxRecDepth 100000 in
theorem q_541 : (Jvm.Cond.code ({ cls := "ElasticKernel", name := "countIfLate", desc := "(LElasticKernel$Task;)V" } : Jvm.MethodName) prog_1_method_18_code (2 : Nat) (Option.none : Option Jvm.ClassFile.FieldType)) ∈ lw_g := lw_t3 (List.mem_of_getElem? (i := 61) rfl) rfl
set_option maxRecDepth 100000 in
theorem q_542 : (Jvm.Cond.methodLink "ElasticKernel" (206 : Nat) ({ cls := "ElasticKernel$Task", name := "release", desc := "(IZ)V" } : Jvm.MethodName)) ∈ lw_g := lw_t3 (List.mem_of_getElem? (i := 62) rfl) rfl
set_option maxRecDepth 100000 in
theorem q_543 : (Jvm.Cond.instanceMethod ({ cls := "ElasticKernel$Task", name := "release", desc := "(IZ)V" } : Jvm.MethodName)) ∈ lw_g := lw_t3 (List.mem_of_getElem? (i := 63) rfl) rfl
set_option maxRecDepth 100000 in
theorem q_544 : (Jvm.Cond.selects "ElasticKernel$Task" ({ cls := "ElasticKernel$Task", name := "release", desc := "(IZ)V" } : Jvm.MethodName) ({ cls := "ElasticKernel$Task", name := "release", desc := "(IZ)V" } : Jvm.MethodName)) ∈ lw_g := lw_t3 (List.mem_of_getElem? (i := 64) rfl) rfl
set_option maxRecDepth 100000 in
theorem q_545 : (Jvm.Cond.code ({ cls := "ElasticKernel$Task", name := "release", desc := "(IZ)V" } : Jvm.MethodName) prog_7_method_6_code (3 : Nat) (Option.none : Option Jvm.ClassFile.FieldType)) ∈ lw_g := lw_t3 (List.mem_of_getElem? (i := 65) rfl) rfl
set_option maxRecDepth 100000 in
theorem q_546 : (Jvm.Cond.methodLink "ElasticKernel$Task" (63 : Nat) ({ cls := "ElasticKernel$Task", name := "finish", desc := "(I)V" } : Jvm.MethodName)) ∈ lw_g := lw_t3 (List.mem_of_getElem? (i := 66) rfl) rfl
set_option maxRecDepth 100000 in
theorem q_548 : (Jvm.Cond.instanceMethod ({ cls := "ElasticKernel$Task", name := "finish", desc := "(I)V" } : Jvm.MethodName)) ∈ lw_g := lw_t3 (List.mem_of_getElem? (i := 68) rfl) rfl
set_option maxRecDepth 100000 in
theorem q_549 : (Jvm.Cond.code ({ cls := "ElasticKernel$Task", name := "finish", desc := "(I)V" } : Jvm.MethodName) prog_7_method_8_code (2 : Nat) (Option.none : Option Jvm.ClassFile.FieldType)) ∈ lw_g := lw_t3 (List.mem_of_getElem? (i := 69) rfl) rfl
set_option maxRecDepth 100000 in
theorem q_550 : (Jvm.Cond.methodLink "ElasticKernel" (84 : Nat) ({ cls := "ElasticKernel", name := "mostUrgent", desc := "()LElasticKernel$Task;" } : Jvm.MethodName)) ∈ lw_g := lw_t3 (List.mem_of_getElem? (i := 70) rfl) rfl
set_option maxRecDepth 100000 in
theorem q_552 : (Jvm.Cond.instanceMethod ({ cls := "ElasticKernel", name := "mostUrgent", desc := "()LElasticKernel$Task;" } : Jvm.MethodName)) ∈ lw_g := lw_t3 (List.mem_of_getElem? (i := 72) rfl) rfl
set_option maxRecDepth 100000 in
theorem q_553 : (Jvm.Cond.code ({ cls := "ElasticKernel", name := "mostUrgent", desc := "()LElasticKernel$Task;" } : Jvm.MethodName) prog_1_method_19_code (4 : Nat) (Option.some (Jvm.ClassFile.FieldType.object "ElasticKernel$Task"))) ∈ lw_g := lw_t3 (List.mem_of_getElem? (i := 73) rfl) rfl
set_option maxRecDepth 100000 in
theorem q_554 : (Jvm.Cond.methodLink "ElasticKernel" (88 : Nat) ({ cls := "ElasticKernel", name := "ticksAlike", desc := "(LElasticKernel$Task;)I" } : Jvm.MethodName)) ∈ lw_g := lw_t3 (List.mem_of_getElem? (i := 74) rfl) rfl
set_option maxRecDepth 100000 in
theorem q_556 : (Jvm.Cond.instanceMethod ({ cls := "ElasticKernel", name := "ticksAlike", desc := "(LElasticKernel$Task;)I" } : Jvm.MethodName)) ∈ lw_g := lw_t3 (List.mem_of_getElem? (i := 76) rfl) rfl
set_option maxRecDepth 100000 in
theorem q_557 : (Jvm.Cond.code ({ cls := "ElasticKernel", name := "ticksAlike", desc := "(LElasticKernel$Task;)I" } : Jvm.MethodName) prog_1_method_20_code (6 : Nat) (Option.some Jvm.ClassFile.FieldType.int)) ∈ lw_g := lw_t3 (List.mem_of_getElem? (i := 77) rfl) rfl
set_option maxRecDepth 100000 in
theorem q_558 : (Jvm.Cond.methodLink "ElasticKernel" (92 : Nat) ({ cls := "java/lang/Math", name := "min", desc := "(II)I" } : Jvm.MethodName)) ∈ lw_g := lw_t3 (List.mem_of_getElem? (i := 78) rfl) rfl
set_option maxRecDepth 100000 in
theorem q_559 : (Jvm.Cond.static ({ cls := "java/lang/Math", name := "min", desc := "(II)I" } : Jvm.MethodName)) ∈ lw_g := lw_t3 (List.mem_of_getElem? (i := 79) rfl) rfl
set_option maxRecDepth 100000 in
theorem q_560 : (Jvm.Cond.code ({ cls := "java/lang/Math", name := "min", desc := "(II)I" } : Jvm.MethodName) prog_13_method_69_code (2 : Nat) (Option.some Jvm.ClassFile.FieldType.int)) ∈ lw_g := lw_t3 (List.mem_of_getElem? (i := 80) rfl) rfl
set_option maxRecDepth 100000 in
theorem q_561 : (Jvm.Cond.methodLink "ElasticKernel" (104 : Nat) ({ cls := "ElasticKernel$Task", name := "work", desc := "(II)V" } : Jvm.MethodName)) ∈ lw_g := lw_t3 (List.mem_of_getElem? (i := 81) rfl) rfl
set_option maxRecDepth 100000 in
theorem q_562 : (Jvm.Cond.instanceMethod ({ cls := "ElasticKernel$Task", name := "work", desc := "(II)V" } : Jvm.MethodName)) ∈ lw_g := lw_t3 (List.mem_of_getElem? (i := 82) rfl) rfl
set_option maxRecDepth 100000 in
theorem q_563 : (Jvm.Cond.selects "ElasticKernel$Task" ({ cls := "ElasticKernel$Task", name := "work", desc := "(II)V" } : Jvm.MethodName) ({ cls := "ElasticKernel$Task", name := "work", desc := "(II)V" } : Jvm.MethodName)) ∈ lw_g := lw_t3 (List.mem_of_getElem? (i := 83) rfl) rfl
set_option maxRecDepth 100000 in
theorem q_564 : (Jvm.Cond.code ({ cls := "ElasticKernel$Task", name := "work", desc := "(II)V" } : Jvm.MethodName) prog_7_method_7_code (3 : Nat) (Option.none : Option Jvm.ClassFile.FieldType)) ∈ lw_g := lw_t3 (List.mem_of_getElem? (i := 84) rfl) rfl
set_option maxRecDepth 100000 in
theorem q_565 : (Jvm.Cond.classLink "ElasticKernelLaw" (16 : Nat) "ElasticKernelModel") ∈ lw_g := lw_t3 (List.mem_of_getElem? (i := 85) rfl) rfl
set_option maxRecDepth 100000 in
theorem q_566 : (Jvm.Cond.instantiable "ElasticKernelModel" (25 : Nat)) ∈ lw_g := lw_t3 (List.mem_of_getElem? (i := 86) rfl) rfl
set_option maxRecDepth 100000 in
theorem q_567 : (Jvm.Cond.methodLink "ElasticKernelLaw" (18 : Nat) ({ cls := "ElasticKernelModel", name := "<init>", desc := "()V" } : Jvm.MethodName)) ∈ lw_g := lw_t3 (List.mem_of_getElem? (i := 87) rfl) rfl
set_option maxRecDepth 100000 in
theorem q_568 : (Jvm.Cond.instanceMethod ({ cls := "ElasticKernelModel", name := "<init>", desc := "()V" } : Jvm.MethodName)) ∈ lw_g := lw_t3 (List.mem_of_getElem? (i := 88) rfl) rfl
set_option maxRecDepth 100000 in
theorem q_569 : (Jvm.Cond.code ({ cls := "ElasticKernelModel", name := "<init>", desc := "()V" } : Jvm.MethodName) prog_9_method_1_code (1 : Nat) (Option.none : Option Jvm.ClassFile.FieldType)) ∈ lw_g := lw_t3 (List.mem_of_getElem? (i := 89) rfl) rfl
set_option maxRecDepth 100000 in
theorem q_570 : (Jvm.Cond.methodLink "ElasticKernelModel" (1 : Nat) ({ cls := "java/lang/Object", name := "<init>", desc := "()V" } : Jvm.MethodName)) ∈ lw_g := lw_t3 (List.mem_of_getElem? (i := 90) rfl) rfl
set_option maxRecDepth 100000 in
theorem q_571 : (Jvm.Cond.methodLink "ElasticKernelModel" (66 : Nat) ({ cls := "ElasticKernelModel", name := "be", desc := "(IJ)V" } : Jvm.MethodName)) ∈ lw_g := lw_t3 (List.mem_of_getElem? (i := 91) rfl) rfl
set_option maxRecDepth 100000 in
theorem q_573 : (Jvm.Cond.instanceMethod ({ cls := "ElasticKernelModel", name := "be", desc := "(IJ)V" } : Jvm.MethodName)) ∈ lw_g := lw_t3 (List.mem_of_getElem? (i := 93) rfl) rfl
set_option maxRecDepth 100000 in
theorem q_574 : (Jvm.Cond.code ({ cls := "ElasticKernelModel", name := "be", desc := "(IJ)V" } : Jvm.MethodName) prog_9_method_3_code (5 : Nat) (Option.none : Option Jvm.ClassFile.FieldType)) ∈ lw_g := lw_t3 (List.mem_of_getElem? (i := 94) rfl) rfl
set_option maxRecDepth 100000 in
theorem q_575 : (Jvm.Cond.constantLong "ElasticKernelModel" (73 : Nat) (16777215 : Int64)) ∈ lw_g := lw_t3 (List.mem_of_getElem? (i := 95) rfl) rfl
set_option maxRecDepth 100000 in
theorem q_576 : (Jvm.Cond.fieldLink "ElasticKernelModel" (70 : Nat) "ElasticKernelModel" "code" "I") ∈ lw_g := lw_t3 (List.mem_of_getElem? (i := 96) rfl) rfl
set_option maxRecDepth 100000 in
theorem q_577 : (Jvm.Cond.fieldLink "ElasticKernelModel" (155 : Nat) "ElasticKernelModel" "clock" "I") ∈ lw_g := lw_t3 (List.mem_of_getElem? (i := 97) rfl) rfl
set_option maxRecDepth 100000 in
theorem q_578 : (Jvm.Cond.fieldLink "ElasticKernelModel" (7 : Nat) "ElasticKernelModel" "allowed" "I") ∈ lw_g := lw_t3 (List.mem_of_getElem? (i := 98) rfl) rfl
set_option maxRecDepth 100000 in
theorem q_579 : (Jvm.Cond.fieldLink "ElasticKernelModel" (176 : Nat) "ElasticKernelModel" "missed" "I") ∈ lw_g := lw_t3 (List.mem_of_getElem? (i := 99) rfl) rfl
set_option maxRecDepth 100000 in
theorem q_580 : (Jvm.Cond.fieldLink "ElasticKernelModel" (128 : Nat) "ElasticKernelModel" "solves" "I") ∈ lw_g := lw_t3 (List.mem_of_getElem? (i := 100) rfl) rfl
set_option maxRecDepth 100000 in
theorem q_581 : (Jvm.Cond.fieldLink "ElasticKernelModel" (152 : Nat) "ElasticKernelModel" "instant" "I") ∈ lw_g := lw_t3 (List.mem_of_getElem? (i := 101) rfl) rfl
set_option maxRecDepth 100000 in
theorem q_582 : (Jvm.Cond.fieldLink "ElasticKernelModel" (167 : Nat) "ElasticKernelModel" "refused" "I") ∈ lw_g := lw_t3 (List.mem_of_getElem? (i := 102) rfl) rfl
set_option maxRecDepth 100000 in
theorem q_583 : (Jvm.Cond.fieldLink "ElasticKernelModel" (105 : Nat) "ElasticKernelModel" "many" "I") ∈ lw_g := lw_t3 (List.mem_of_getElem? (i := 103) rfl) rfl
set_option maxRecDepth 100000 in
theorem q_584 : (Jvm.Cond.fieldLink "ElasticKernelModel" (13 : Nat) "ElasticKernelModel" "id" "[I") ∈ lw_g := lw_t3 (List.mem_of_getElem? (i := 104) rfl) rfl
set_option maxRecDepth 100000 in
theorem q_585 : (Jvm.Cond.fieldLink "ElasticKernelModel" (17 : Nat) "ElasticKernelModel" "cost" "[I") ∈ lw_g := lw_t3 (List.mem_of_getElem? (i := 105) rfl) rfl
set_option maxRecDepth 100000 in
theorem q_586 : (Jvm.Cond.fieldLink "ElasticKernelModel" (20 : Nat) "ElasticKernelModel" "shortest" "[I") ∈ lw_g := lw_t3 (List.mem_of_getElem? (i := 106) rfl) rfl
set_option maxRecDepth 100000 in
theorem q_587 : (Jvm.Cond.fieldLink "ElasticKernelModel" (23 : Nat) "ElasticKernelModel" "longest" "[I") ∈ lw_g := lw_t3 (List.mem_of_getElem? (i := 107) rfl) rfl
set_option maxRecDepth 100000 in
theorem q_588 : (Jvm.Cond.fieldLink "ElasticKernelModel" (26 : Nat) "ElasticKernelModel" "stiff" "[I") ∈ lw_g := lw_t3 (List.mem_of_getElem? (i := 108) rfl) rfl
set_option maxRecDepth 100000 in
theorem q_589 : (Jvm.Cond.fieldLink "ElasticKernelModel" (29 : Nat) "ElasticKernelModel" "state" "[I") ∈ lw_g := lw_t3 (List.mem_of_getElem? (i := 109) rfl) rfl
set_option maxRecDepth 100000 in
theorem q_590 : (Jvm.Cond.fieldLink "ElasticKernelModel" (32 : Nat) "ElasticKernelModel" "period" "[I") ∈ lw_g := lw_t3 (List.mem_of_getElem? (i := 110) rfl) rfl
set_option maxRecDepth 100000 in
theorem q_591 : (Jvm.Cond.fieldLink "ElasticKernelModel" (35 : Nat) "ElasticKernelModel" "solved" "[I") ∈ lw_g := lw_t3 (List.mem_of_getElem? (i := 111) rfl) rfl
set_option maxRecDepth 100000 in
theorem q_592 : (Jvm.Cond.fieldLink "ElasticKernelModel" (38 : Nat) "ElasticKernelModel" "ends" "[I") ∈ lw_g := lw_t3 (List.mem_of_getElem? (i := 112) rfl) rfl
set_option maxRecDepth 100000 in
theorem q_593 : (Jvm.Cond.fieldLink "ElasticKernelModel" (41 : Nat) "ElasticKernelModel" "needs" "[I") ∈ lw_g := lw_t3 (List.mem_of_getElem? (i := 113) rfl) rfl
set_option maxRecDepth 100000 in
theorem q_594 : (Jvm.Cond.fieldLink "ElasticKernelModel" (44 : Nat) "ElasticKernelModel" "told" "[I") ∈ lw_g := lw_t3 (List.mem_of_getElem? (i := 114) rfl) rfl
set_option maxRecDepth 100000 in
theorem q_595 : (Jvm.Cond.fieldLink "ElasticKernelModel" (47 : Nat) "ElasticKernelModel" "done" "[I") ∈ lw_g := lw_t3 (List.mem_of_getElem? (i := 115) rfl) rfl
set_option maxRecDepth 100000 in
theorem q_596 : (Jvm.Cond.fieldLink "ElasticKernelModel" (50 : Nat) "ElasticKernelModel" "latest" "[I") ∈ lw_g := lw_t3 (List.mem_of_getElem? (i := 116) rfl) rfl
set_option maxRecDepth 100000 in
theorem q_597 : (Jvm.Cond.fieldLink "ElasticKernelModel" (53 : Nat) "ElasticKernelModel" "due" "[I") ∈ lw_g := lw_t3 (List.mem_of_getElem? (i := 117) rfl) rfl
set_option maxRecDepth 100000 in
theorem q_598 : (Jvm.Cond.fieldLink "ElasticKernelModel" (56 : Nat) "ElasticKernelModel" "least" "[Z") ∈ lw_g := lw_t3 (List.mem_of_getElem? (i := 118) rfl) rfl
set_option maxRecDepth 100000 in
theorem q_599 : (Jvm.Cond.fieldLink "ElasticKernelModel" (60 : Nat) "ElasticKernelModel" "word" "[I") ∈ lw_g := lw_t3 (List.mem_of_getElem? (i := 119) rfl) rfl
set_option maxRecDepth 100000 in
theorem q_600 : (Jvm.Cond.fieldLink "ElasticKernelModel" (63 : Nat) "ElasticKernelModel" "rank" "[I") ∈ lw_g := lw_t3 (List.mem_of_getElem? (i := 120) rfl) rfl
set_option maxRecDepth 100000 in
theorem q_601 : (Jvm.Cond.lays "ElasticKernelModel" "ElasticKernelModel" "code" "I") ∈ lw_g := lw_t3 (List.mem_of_getElem? (i := 121) rfl) rfl
set_option maxRecDepth 100000 in
theorem q_603 : (Jvm.Cond.lays "ElasticKernelModel" "ElasticKernelModel" "clock" "I") ∈ lw_g := lw_t3 (List.mem_of_getElem? (i := 123) rfl) rfl
set_option maxRecDepth 100000 in
theorem q_605 : (Jvm.Cond.lays "ElasticKernelModel" "ElasticKernelModel" "allowed" "I") ∈ lw_g := lw_t3 (List.mem_of_getElem? (i := 125) rfl) rfl
set_option maxRecDepth 100000 in
theorem q_607 : (Jvm.Cond.lays "ElasticKernelModel" "ElasticKernelModel" "missed" "I") ∈ lw_g := lw_t3 (List.mem_of_getElem? (i := 127) rfl) rfl
set_option maxRecDepth 100000 in
theorem q_609 : (Jvm.Cond.lays "ElasticKernelModel" "ElasticKernelModel" "solves" "I") ∈ lw_g := lw_t3 (List.mem_of_getElem? (i := 129) rfl) rfl
set_option maxRecDepth 100000 in
theorem q_611 : (Jvm.Cond.lays "ElasticKernelModel" "ElasticKernelModel" "instant" "I") ∈ lw_g := lw_t3 (List.mem_of_getElem? (i := 131) rfl) rfl
set_option maxRecDepth 100000 in
theorem q_613 : (Jvm.Cond.lays "ElasticKernelModel" "ElasticKernelModel" "refused" "I") ∈ lw_g := lw_t3 (List.mem_of_getElem? (i := 133) rfl) rfl
set_option maxRecDepth 100000 in
theorem q_615 : (Jvm.Cond.lays "ElasticKernelModel" "ElasticKernelModel" "many" "I") ∈ lw_g := lw_t3 (List.mem_of_getElem? (i := 135) rfl) rfl
set_option maxRecDepth 100000 in
theorem q_617 : (Jvm.Cond.laysFinal "ElasticKernelModel" "ElasticKernelModel" "id" "[I") ∈ lw_g := lw_t3 (List.mem_of_getElem? (i := 137) rfl) rfl
set_option maxRecDepth 100000 in
theorem q_619 : (Jvm.Cond.laysFinal "ElasticKernelModel" "ElasticKernelModel" "cost" "[I") ∈ lw_g := lw_t3 (List.mem_of_getElem? (i := 139) rfl) rfl
set_option maxRecDepth 100000 in
theorem q_621 : (Jvm.Cond.laysFinal "ElasticKernelModel" "ElasticKernelModel" "shortest" "[I") ∈ lw_g := lw_t3 (List.mem_of_getElem? (i := 141) rfl) rfl
set_option maxRecDepth 100000 in
theorem q_623 : (Jvm.Cond.laysFinal "ElasticKernelModel" "ElasticKernelModel" "longest" "[I") ∈ lw_g := lw_t3 (List.mem_of_getElem? (i := 143) rfl) rfl
set_option maxRecDepth 100000 in
theorem q_625 : (Jvm.Cond.laysFinal "ElasticKernelModel" "ElasticKernelModel" "stiff" "[I") ∈ lw_g := lw_t3 (List.mem_of_getElem? (i := 145) rfl) rfl
set_option maxRecDepth 100000 in
theorem q_627 : (Jvm.Cond.laysFinal "ElasticKernelModel" "ElasticKernelModel" "state" "[I") ∈ lw_g := lw_t3 (List.mem_of_getElem? (i := 147) rfl) rfl
set_option maxRecDepth 100000 in
theorem q_629 : (Jvm.Cond.laysFinal "ElasticKernelModel" "ElasticKernelModel" "period" "[I") ∈ lw_g := lw_t3 (List.mem_of_getElem? (i := 149) rfl) rfl
set_option maxRecDepth 100000 in
theorem q_631 : (Jvm.Cond.laysFinal "ElasticKernelModel" "ElasticKernelModel" "solved" "[I") ∈ lw_g := lw_t3 (List.mem_of_getElem? (i := 151) rfl) rfl
set_option maxRecDepth 100000 in
theorem q_633 : (Jvm.Cond.laysFinal "ElasticKernelModel" "ElasticKernelModel" "ends" "[I") ∈ lw_g := lw_t3 (List.mem_of_getElem? (i := 153) rfl) rfl
set_option maxRecDepth 100000 in
theorem q_635 : (Jvm.Cond.laysFinal "ElasticKernelModel" "ElasticKernelModel" "needs" "[I") ∈ lw_g := lw_t3 (List.mem_of_getElem? (i := 155) rfl) rfl
set_option maxRecDepth 100000 in
theorem q_637 : (Jvm.Cond.laysFinal "ElasticKernelModel" "ElasticKernelModel" "told" "[I") ∈ lw_g := lw_t3 (List.mem_of_getElem? (i := 157) rfl) rfl
set_option maxRecDepth 100000 in
theorem q_639 : (Jvm.Cond.laysFinal "ElasticKernelModel" "ElasticKernelModel" "done" "[I") ∈ lw_g := lw_t3 (List.mem_of_getElem? (i := 159) rfl) rfl
set_option maxRecDepth 100000 in
theorem q_641 : (Jvm.Cond.laysFinal "ElasticKernelModel" "ElasticKernelModel" "latest" "[I") ∈ lw_g := lw_t3 (List.mem_of_getElem? (i := 161) rfl) rfl
set_option maxRecDepth 100000 in
theorem q_643 : (Jvm.Cond.laysFinal "ElasticKernelModel" "ElasticKernelModel" "due" "[I") ∈ lw_g := lw_t3 (List.mem_of_getElem? (i := 163) rfl) rfl
set_option maxRecDepth 100000 in
theorem q_645 : (Jvm.Cond.laysFinal "ElasticKernelModel" "ElasticKernelModel" "least" "[Z") ∈ lw_g := lw_t3 (List.mem_of_getElem? (i := 165) rfl) rfl
set_option maxRecDepth 100000 in
theorem q_647 : (Jvm.Cond.laysFinal "ElasticKernelModel" "ElasticKernelModel" "word" "[I") ∈ lw_g := lw_t3 (List.mem_of_getElem? (i := 167) rfl) rfl
set_option maxRecDepth 100000 in
theorem q_649 : (Jvm.Cond.laysFinal "ElasticKernelModel" "ElasticKernelModel" "rank" "[I") ∈ lw_g := lw_t3 (List.mem_of_getElem? (i := 169) rfl) rfl
set_option maxRecDepth 100000 in
theorem q_652 : (Jvm.Cond.arrayClass Jvm.ClassFile.FieldType.boolean) ∈ lw_g := lw_t3 (List.mem_of_getElem? (i := 172) rfl) rfl
set_option maxRecDepth 100000 in
theorem q_653 : (Jvm.Cond.methodLink "ElasticKernelLaw" (44 : Nat) ({ cls := "ElasticKernelModel", name := "thrown", desc := "()I" } : Jvm.MethodName)) ∈ lw_g := lw_t3 (List.mem_of_getElem? (i := 173) rfl) rfl
set_option maxRecDepth 100000 in
theorem q_654 : (Jvm.Cond.instanceMethod ({ cls := "ElasticKernelModel", name := "thrown", desc := "()I" } : Jvm.MethodName)) ∈ lw_g := lw_t3 (List.mem_of_getElem? (i := 174) rfl) rfl
set_option maxRecDepth 100000 in
theorem q_655 : (Jvm.Cond.selects "ElasticKernelModel" ({ cls := "ElasticKernelModel", name := "thrown", desc := "()I" } : Jvm.MethodName) ({ cls := "ElasticKernelModel", name := "thrown", desc := "()I" } : Jvm.MethodName)) ∈ lw_g := lw_t3 (List.mem_of_getElem? (i := 175) rfl) rfl
set_option maxRecDepth 100000 in
theorem q_656 : (Jvm.Cond.code ({ cls := "ElasticKernelModel", name := "thrown", desc := "()I" } : Jvm.MethodName) prog_9_method_2_code (1 : Nat) (Option.some Jvm.ClassFile.FieldType.int)) ∈ lw_g := lw_t3 (List.mem_of_getElem? (i := 176) rfl) rfl
set_option maxRecDepth 100000 in
theorem q_657 : (Jvm.Cond.methodLink "ElasticKernelLaw" (23 : Nat) ({ cls := "ElasticKernelModel", name := "add", desc := "(IIIII)I" } : Jvm.MethodName)) ∈ lw_g := lw_t3 (List.mem_of_getElem? (i := 177) rfl) rfl
set_option maxRecDepth 100000 in
theorem q_658 : (Jvm.Cond.instanceMethod ({ cls := "ElasticKernelModel", name := "add", desc := "(IIIII)I" } : Jvm.MethodName)) ∈ lw_g := lw_t3 (List.mem_of_getElem? (i := 178) rfl) rfl
set_option maxRecDepth 100000 in
theorem q_659 : (Jvm.Cond.selects "ElasticKernelModel" ({ cls := "ElasticKernelModel", name := "add", desc := "(IIIII)I" } : Jvm.MethodName) ({ cls := "ElasticKernelModel", name := "add", desc := "(IIIII)I" } : Jvm.MethodName)) ∈ lw_g := lw_t3 (List.mem_of_getElem? (i := 179) rfl) rfl
set_option maxRecDepth 100000 in
theorem q_660 : (Jvm.Cond.code ({ cls := "ElasticKernelModel", name := "add", desc := "(IIIII)I" } : Jvm.MethodName) prog_9_method_30_code (8 : Nat) (Option.some Jvm.ClassFile.FieldType.int)) ∈ lw_g := lw_t3 (List.mem_of_getElem? (i := 180) rfl) rfl
set_option maxRecDepth 100000 in
theorem q_661 : (Jvm.Cond.methodLink "ElasticKernelModel" (161 : Nat) ({ cls := "ElasticKernelModel", name := "find", desc := "(I)I" } : Jvm.MethodName)) ∈ lw_g := lw_t3 (List.mem_of_getElem? (i := 181) rfl) rfl
set_option maxRecDepth 100000 in
theorem q_663 : (Jvm.Cond.instanceMethod ({ cls := "ElasticKernelModel", name := "find", desc := "(I)I" } : Jvm.MethodName)) ∈ lw_g := lw_t3 (List.mem_of_getElem? (i := 183) rfl) rfl
set_option maxRecDepth 100000 in
theorem q_664 : (Jvm.Cond.code ({ cls := "ElasticKernelModel", name := "find", desc := "(I)I" } : Jvm.MethodName) prog_9_method_26_code (3 : Nat) (Option.some Jvm.ClassFile.FieldType.int)) ∈ lw_g := lw_t3 (List.mem_of_getElem? (i := 184) rfl) rfl
set_option maxRecDepth 100000 in
theorem q_665 : (Jvm.Cond.methodLink "ElasticKernelModel" (158 : Nat) ({ cls := "ElasticKernelModel", name := "move", desc := "(II)V" } : Jvm.MethodName)) ∈ lw_g := lw_t3 (List.mem_of_getElem? (i := 185) rfl) rfl
set_option maxRecDepth 100000 in
theorem q_667 : (Jvm.Cond.instanceMethod ({ cls := "ElasticKernelModel", name := "move", desc := "(II)V" } : Jvm.MethodName)) ∈ lw_g := lw_t3 (List.mem_of_getElem? (i := 187) rfl) rfl
set_option maxRecDepth 100000 in
theorem q_668 : (Jvm.Cond.code ({ cls := "ElasticKernelModel", name := "move", desc := "(II)V" } : Jvm.MethodName) prog_9_method_27_code (3 : Nat) (Option.none : Option Jvm.ClassFile.FieldType)) ∈ lw_g := lw_t3 (List.mem_of_getElem? (i := 188) rfl) rfl
set_option maxRecDepth 100000 in
theorem q_669 : (Jvm.Cond.methodLink "ElasticKernelModel" (87 : Nat) ({ cls := "ElasticKernelModel", name := "copy", desc := "(II)V" } : Jvm.MethodName)) ∈ lw_g := lw_t3 (List.mem_of_getElem? (i := 189) rfl) rfl
set_option maxRecDepth 100000 in
theorem q_671 : (Jvm.Cond.instanceMethod ({ cls := "ElasticKernelModel", name := "copy", desc := "(II)V" } : Jvm.MethodName)) ∈ lw_g := lw_t3 (List.mem_of_getElem? (i := 191) rfl) rfl
set_option maxRecDepth 100000 in
theorem q_672 : (Jvm.Cond.code ({ cls := "ElasticKernelModel", name := "copy", desc := "(II)V" } : Jvm.MethodName) prog_9_method_4_code (4 : Nat) (Option.none : Option Jvm.ClassFile.FieldType)) ∈ lw_g := lw_t3 (List.mem_of_getElem? (i := 192) rfl) rfl
set_option maxRecDepth 100000 in
theorem q_673 : (Jvm.Cond.methodLink "ElasticKernelModel" (164 : Nat) ({ cls := "ElasticKernelModel", name := "tooMuch", desc := "(I)I" } : Jvm.MethodName)) ∈ lw_g := lw_t3 (List.mem_of_getElem? (i := 193) rfl) rfl
set_option maxRecDepth 100000 in
theorem q_675 : (Jvm.Cond.instanceMethod ({ cls := "ElasticKernelModel", name := "tooMuch", desc := "(I)I" } : Jvm.MethodName)) ∈ lw_g := lw_t3 (List.mem_of_getElem? (i := 195) rfl) rfl
set_option maxRecDepth 100000 in
theorem q_676 : (Jvm.Cond.code ({ cls := "ElasticKernelModel", name := "tooMuch", desc := "(I)I" } : Jvm.MethodName) prog_9_method_29_code (3 : Nat) (Option.some Jvm.ClassFile.FieldType.int)) ∈ lw_g := lw_t3 (List.mem_of_getElem? (i := 196) rfl) rfl
set_option maxRecDepth 100000 in
theorem q_677 : (Jvm.Cond.methodLink "ElasticKernelModel" (115 : Nat) ({ cls := "ElasticKernelModel", name := "none", desc := "()V" } : Jvm.MethodName)) ∈ lw_g := lw_t3 (List.mem_of_getElem? (i := 197) rfl) rfl
set_option maxRecDepth 100000 in
theorem q_679 : (Jvm.Cond.instanceMethod ({ cls := "ElasticKernelModel", name := "none", desc := "()V" } : Jvm.MethodName)) ∈ lw_g := lw_t3 (List.mem_of_getElem? (i := 199) rfl) rfl
set_option maxRecDepth 100000 in
theorem q_680 : (Jvm.Cond.code ({ cls := "ElasticKernelModel", name := "none", desc := "()V" } : Jvm.MethodName) prog_9_method_17_code (1 : Nat) (Option.none : Option Jvm.ClassFile.FieldType)) ∈ lw_g := lw_t3 (List.mem_of_getElem? (i := 200) rfl) rfl
set_option maxRecDepth 100000 in
theorem q_681 : (Jvm.Cond.methodLink "ElasticKernelModel" (118 : Nat) ({ cls := "ElasticKernelModel", name := "addFraction", desc := "(II)V" } : Jvm.MethodName)) ∈ lw_g := lw_t3 (List.mem_of_getElem? (i := 201) rfl) rfl
set_option maxRecDepth 100000 in
theorem q_683 : (Jvm.Cond.instanceMethod ({ cls := "ElasticKernelModel", name := "addFraction", desc := "(II)V" } : Jvm.MethodName)) ∈ lw_g := lw_t3 (List.mem_of_getElem? (i := 203) rfl) rfl
set_option maxRecDepth 100000 in
theorem q_684 : (Jvm.Cond.code ({ cls := "ElasticKernelModel", name := "addFraction", desc := "(II)V" } : Jvm.MethodName) prog_9_method_15_code (3 : Nat) (Option.none : Option Jvm.ClassFile.FieldType)) ∈ lw_g := lw_t3 (List.mem_of_getElem? (i := 204) rfl) rfl
set_option maxRecDepth 100000 in
theorem q_685 : (Jvm.Cond.methodLink "ElasticKernelModel" (102 : Nat) ({ cls := "ElasticKernelModel", name := "times", desc := "(II)V" } : Jvm.MethodName)) ∈ lw_g := lw_t3 (List.mem_of_getElem? (i := 205) rfl) rfl
set_option maxRecDepth 100000 in
theorem q_687 : (Jvm.Cond.instanceMethod ({ cls := "ElasticKernelModel", name := "times", desc := "(II)V" } : Jvm.MethodName)) ∈ lw_g := lw_t3 (List.mem_of_getElem? (i := 207) rfl) rfl
set_option maxRecDepth 100000 in
theorem q_688 : (Jvm.Cond.code ({ cls := "ElasticKernelModel", name := "times", desc := "(II)V" } : Jvm.MethodName) prog_9_method_8_code (8 : Nat) (Option.none : Option Jvm.ClassFile.FieldType)) ∈ lw_g := lw_t3 (List.mem_of_getElem? (i := 208) rfl) rfl
set_option maxRecDepth 100000 in
theorem q_689 : (Jvm.Cond.methodLink "ElasticKernelModel" (95 : Nat) ({ cls := "ElasticKernelModel", name := "add", desc := "(IIZ)V" } : Jvm.MethodName)) ∈ lw_g := lw_t3 (List.mem_of_getElem? (i := 209) rfl) rfl
set_option maxRecDepth 100000 in
theorem q_691 : (Jvm.Cond.instanceMethod ({ cls := "ElasticKernelModel", name := "add", desc := "(IIZ)V" } : Jvm.MethodName)) ∈ lw_g := lw_t3 (List.mem_of_getElem? (i := 211) rfl) rfl
set_option maxRecDepth 100000 in
theorem q_692 : (Jvm.Cond.code ({ cls := "ElasticKernelModel", name := "add", desc := "(IIZ)V" } : Jvm.MethodName) prog_9_method_7_code (7 : Nat) (Option.none : Option Jvm.ClassFile.FieldType)) ∈ lw_g := lw_t3 (List.mem_of_getElem? (i := 212) rfl) rfl
set_option maxRecDepth 100000 in
theorem q_693 : (Jvm.Cond.constant "ElasticKernelModel" (75 : Nat) (16777215 : Int32)) ∈ lw_g := lw_t3 (List.mem_of_getElem? (i := 213) rfl) rfl
set_option maxRecDepth 100000 in
theorem q_694 : (Jvm.Cond.methodLink "ElasticKernelModel" (131 : Nat) ({ cls := "ElasticKernelModel", name := "isAbove", desc := "(I)Z" } : Jvm.MethodName)) ∈ lw_g := lw_t3 (List.mem_of_getElem? (i := 214) rfl) rfl
set_option maxRecDepth 100000 in
theorem q_696 : (Jvm.Cond.instanceMethod ({ cls := "ElasticKernelModel", name := "isAbove", desc := "(I)Z" } : Jvm.MethodName)) ∈ lw_g := lw_t3 (List.mem_of_getElem? (i := 216) rfl) rfl
set_option maxRecDepth 100000 in
theorem q_697 : (Jvm.Cond.code ({ cls := "ElasticKernelModel", name := "isAbove", desc := "(I)Z" } : Jvm.MethodName) prog_9_method_16_code (2 : Nat) (Option.some Jvm.ClassFile.FieldType.boolean)) ∈ lw_g := lw_t3 (List.mem_of_getElem? (i := 217) rfl) rfl
set_option maxRecDepth 100000 in
theorem q_698 : (Jvm.Cond.methodLink "ElasticKernelModel" (91 : Nat) ({ cls := "ElasticKernelModel", name := "compare", desc := "(II)I" } : Jvm.MethodName)) ∈ lw_g := lw_t3 (List.mem_of_getElem? (i := 218) rfl) rfl
set_option maxRecDepth 100000 in
theorem q_700 : (Jvm.Cond.instanceMethod ({ cls := "ElasticKernelModel", name := "compare", desc := "(II)I" } : Jvm.MethodName)) ∈ lw_g := lw_t3 (List.mem_of_getElem? (i := 220) rfl) rfl
set_option maxRecDepth 100000 in
theorem q_701 : (Jvm.Cond.code ({ cls := "ElasticKernelModel", name := "compare", desc := "(II)I" } : Jvm.MethodName) prog_9_method_5_code (5 : Nat) (Option.some Jvm.ClassFile.FieldType.int)) ∈ lw_g := lw_t3 (List.mem_of_getElem? (i := 221) rfl) rfl
set_option maxRecDepth 100000 in
theorem q_702 : (Jvm.Cond.methodLink "ElasticKernelModel" (170 : Nat) ({ cls := "ElasticKernelModel", name := "remove", desc := "(I)V" } : Jvm.MethodName)) ∈ lw_g := lw_t3 (List.mem_of_getElem? (i := 222) rfl) rfl
set_option maxRecDepth 100000 in
theorem q_704 : (Jvm.Cond.instanceMethod ({ cls := "ElasticKernelModel", name := "remove", desc := "(I)V" } : Jvm.MethodName)) ∈ lw_g := lw_t3 (List.mem_of_getElem? (i := 224) rfl) rfl
set_option maxRecDepth 100000 in
theorem q_705 : (Jvm.Cond.code ({ cls := "ElasticKernelModel", name := "remove", desc := "(I)V" } : Jvm.MethodName) prog_9_method_28_code (3 : Nat) (Option.none : Option Jvm.ClassFile.FieldType)) ∈ lw_g := lw_t3 (List.mem_of_getElem? (i := 225) rfl) rfl
set_option maxRecDepth 100000 in
theorem q_706 : (Jvm.Cond.methodLink "ElasticKernelModel" (173 : Nat) ({ cls := "ElasticKernelModel", name := "solve", desc := "()V" } : Jvm.MethodName)) ∈ lw_g := lw_t3 (List.mem_of_getElem? (i := 226) rfl) rfl
set_option maxRecDepth 100000 in
theorem q_708 : (Jvm.Cond.instanceMethod ({ cls := "ElasticKernelModel", name := "solve", desc := "()V" } : Jvm.MethodName)) ∈ lw_g := lw_t3 (List.mem_of_getElem? (i := 228) rfl) rfl
set_option maxRecDepth 100000 in
theorem q_709 : (Jvm.Cond.code ({ cls := "ElasticKernelModel", name := "solve", desc := "()V" } : Jvm.MethodName) prog_9_method_22_code (5 : Nat) (Option.none : Option Jvm.ClassFile.FieldType)) ∈ lw_g := lw_t3 (List.mem_of_getElem? (i := 229) rfl) rfl
set_option maxRecDepth 100000 in
theorem q_710 : (Jvm.Cond.methodLink "ElasticKernelModel" (108 : Nat) ({ cls := "ElasticKernelModel", name := "counts", desc := "(I)Z" } : Jvm.MethodName)) ∈ lw_g := lw_t3 (List.mem_of_getElem? (i := 230) rfl) rfl
set_option maxRecDepth 100000 in
theorem q_712 : (Jvm.Cond.instanceMethod ({ cls := "ElasticKernelModel", name := "counts", desc := "(I)Z" } : Jvm.MethodName)) ∈ lw_g := lw_t3 (List.mem_of_getElem? (i := 232) rfl) rfl
set_option maxRecDepth 100000 in
theorem q_713 : (Jvm.Cond.code ({ cls := "ElasticKernelModel", name := "counts", desc := "(I)Z" } : Jvm.MethodName) prog_9_method_14_code (2 : Nat) (Option.some Jvm.ClassFile.FieldType.boolean)) ∈ lw_g := lw_t3 (List.mem_of_getElem? (i := 233) rfl) rfl
set_option maxRecDepth 100000 in
theorem q_714 : (Jvm.Cond.constantLong "ElasticKernelModel" (134 : Nat) (1000 : Int64)) ∈ lw_g := lw_t3 (List.mem_of_getElem? (i := 234) rfl) rfl
set_option maxRecDepth 100000 in
theorem q_715 : (Jvm.Cond.methodLink "ElasticKernelModel" (136 : Nat) ({ cls := "ElasticKernelModel", name := "rankOf", desc := "(I)I" } : Jvm.MethodName)) ∈ lw_g := lw_t3 (List.mem_of_getElem? (i := 235) rfl) rfl
set_option maxRecDepth 100000 in
theorem q_717 : (Jvm.Cond.instanceMethod ({ cls := "ElasticKernelModel", name := "rankOf", desc := "(I)I" } : Jvm.MethodName)) ∈ lw_g := lw_t3 (List.mem_of_getElem? (i := 237) rfl) rfl
set_option maxRecDepth 100000 in
theorem q_718 : (Jvm.Cond.code ({ cls := "ElasticKernelModel", name := "rankOf", desc := "(I)I" } : Jvm.MethodName) prog_9_method_19_code (4 : Nat) (Option.some Jvm.ClassFile.FieldType.int)) ∈ lw_g := lw_t3 (List.mem_of_getElem? (i := 238) rfl) rfl
set_option maxRecDepth 100000 in
theorem q_719 : (Jvm.Cond.methodLink "ElasticKernelModel" (111 : Nat) ({ cls := "ElasticKernelModel", name := "isSofter", desc := "(II)Z" } : Jvm.MethodName)) ∈ lw_g := lw_t3 (List.mem_of_getElem? (i := 239) rfl) rfl
set_option maxRecDepth 100000 in
theorem q_721 : (Jvm.Cond.instanceMethod ({ cls := "ElasticKernelModel", name := "isSofter", desc := "(II)Z" } : Jvm.MethodName)) ∈ lw_g := lw_t4 (List.mem_of_getElem? (i := 1) rfl) rfl
set_option maxRecDepth 100000 in
theorem q_722 : (Jvm.Cond.code ({ cls := "ElasticKernelModel", name := "isSofter", desc := "(II)Z" } : Jvm.MethodName) prog_9_method_18_code (8 : Nat) (Option.some Jvm.ClassFile.FieldType.boolean)) ∈ lw_g := lw_t4 (List.mem_of_getElem? (i := 2) rfl) rfl
set_option maxRecDepth 100000 in
theorem q_723 : (Jvm.Cond.methodLink "ElasticKernelModel" (140 : Nat) ({ cls := "ElasticKernelModel", name := "tryLeast", desc := "(I)Z" } : Jvm.MethodName)) ∈ lw_g := lw_t4 (List.mem_of_getElem? (i := 3) rfl) rfl
set_option maxRecDepth 100000 in
theorem q_725 : (Jvm.Cond.instanceMethod ({ cls := "ElasticKernelModel", name := "tryLeast", desc := "(I)Z" } : Jvm.MethodName)) ∈ lw_g := lw_t4 (List.mem_of_getElem? (i := 5) rfl) rfl
set_option maxRecDepth 100000 in
theorem q_726 : (Jvm.Cond.code ({ cls := "ElasticKernelModel", name := "tryLeast", desc := "(I)Z" } : Jvm.MethodName) prog_9_method_20_code (5 : Nat) (Option.some Jvm.ClassFile.FieldType.boolean)) ∈ lw_g := lw_t4 (List.mem_of_getElem? (i := 6) rfl) rfl
set_option maxRecDepth 100000 in
theorem q_727 : (Jvm.Cond.methodLink "ElasticKernelModel" (121 : Nat) ({ cls := "ElasticKernelModel", name := "product", desc := "(III)V" } : Jvm.MethodName)) ∈ lw_g := lw_t4 (List.mem_of_getElem? (i := 7) rfl) rfl
set_option maxRecDepth 100000 in
theorem q_729 : (Jvm.Cond.instanceMethod ({ cls := "ElasticKernelModel", name := "product", desc := "(III)V" } : Jvm.MethodName)) ∈ lw_g := lw_t4 (List.mem_of_getElem? (i := 9) rfl) rfl
set_option maxRecDepth 100000 in
theorem q_730 : (Jvm.Cond.code ({ cls := "ElasticKernelModel", name := "product", desc := "(III)V" } : Jvm.MethodName) prog_9_method_9_code (10 : Nat) (Option.none : Option Jvm.ClassFile.FieldType)) ∈ lw_g := lw_t4 (List.mem_of_getElem? (i := 10) rfl) rfl
set_option maxRecDepth 100000 in
theorem q_731 : (Jvm.Cond.methodLink "ElasticKernelModel" (125 : Nat) ({ cls := "ElasticKernelModel", name := "fits", desc := "(I)Z" } : Jvm.MethodName)) ∈ lw_g := lw_t4 (List.mem_of_getElem? (i := 11) rfl) rfl
set_option maxRecDepth 100000 in
theorem q_733 : (Jvm.Cond.instanceMethod ({ cls := "ElasticKernelModel", name := "fits", desc := "(I)Z" } : Jvm.MethodName)) ∈ lw_g := lw_t4 (List.mem_of_getElem? (i := 13) rfl) rfl
set_option maxRecDepth 100000 in
theorem q_734 : (Jvm.Cond.code ({ cls := "ElasticKernelModel", name := "fits", desc := "(I)Z" } : Jvm.MethodName) prog_9_method_21_code (4 : Nat) (Option.some Jvm.ClassFile.FieldType.boolean)) ∈ lw_g := lw_t4 (List.mem_of_getElem? (i := 14) rfl) rfl
set_option maxRecDepth 100000 in
theorem q_735 : (Jvm.Cond.methodLink "ElasticKernelModel" (143 : Nat) ({ cls := "ElasticKernelModel", name := "press", desc := "(II)V" } : Jvm.MethodName)) ∈ lw_g := lw_t4 (List.mem_of_getElem? (i := 15) rfl) rfl
set_option maxRecDepth 100000 in
theorem q_737 : (Jvm.Cond.instanceMethod ({ cls := "ElasticKernelModel", name := "press", desc := "(II)V" } : Jvm.MethodName)) ∈ lw_g := lw_t4 (List.mem_of_getElem? (i := 17) rfl) rfl
set_option maxRecDepth 100000 in
theorem q_738 : (Jvm.Cond.code ({ cls := "ElasticKernelModel", name := "press", desc := "(II)V" } : Jvm.MethodName) prog_9_method_23_code (3 : Nat) (Option.none : Option Jvm.ClassFile.FieldType)) ∈ lw_g := lw_t4 (List.mem_of_getElem? (i := 18) rfl) rfl
set_option maxRecDepth 100000 in
theorem q_739 : (Jvm.Cond.methodLink "ElasticKernelModel" (146 : Nat) ({ cls := "ElasticKernelModel", name := "settle", desc := "(I)V" } : Jvm.MethodName)) ∈ lw_g := lw_t4 (List.mem_of_getElem? (i := 19) rfl) rfl
set_option maxRecDepth 100000 in
theorem q_741 : (Jvm.Cond.instanceMethod ({ cls := "ElasticKernelModel", name := "settle", desc := "(I)V" } : Jvm.MethodName)) ∈ lw_g := lw_t4 (List.mem_of_getElem? (i := 21) rfl) rfl
set_option maxRecDepth 100000 in
theorem q_742 : (Jvm.Cond.code ({ cls := "ElasticKernelModel", name := "settle", desc := "(I)V" } : Jvm.MethodName) prog_9_method_24_code (5 : Nat) (Option.none : Option Jvm.ClassFile.FieldType)) ∈ lw_g := lw_t4 (List.mem_of_getElem? (i := 22) rfl) rfl
set_option maxRecDepth 100000 in
theorem q_743 : (Jvm.Cond.methodLink "ElasticKernelModel" (149 : Nat) ({ cls := "ElasticKernelModel", name := "findInstant", desc := "()V" } : Jvm.MethodName)) ∈ lw_g := lw_t4 (List.mem_of_getElem? (i := 23) rfl) rfl
set_option maxRecDepth 100000 in
theorem q_745 : (Jvm.Cond.instanceMethod ({ cls := "ElasticKernelModel", name := "findInstant", desc := "()V" } : Jvm.MethodName)) ∈ lw_g := lw_t4 (List.mem_of_getElem? (i := 25) rfl) rfl
set_option maxRecDepth 100000 in
theorem q_746 : (Jvm.Cond.code ({ cls := "ElasticKernelModel", name := "findInstant", desc := "()V" } : Jvm.MethodName) prog_9_method_25_code (3 : Nat) (Option.none : Option Jvm.ClassFile.FieldType)) ∈ lw_g := lw_t4 (List.mem_of_getElem? (i := 26) rfl) rfl
set_option maxRecDepth 100000 in
theorem q_747 : (Jvm.Cond.methodLink "ElasticKernelLaw" (28 : Nat) ({ cls := "ElasticKernelModel", name := "leave", desc := "(I)Z" } : Jvm.MethodName)) ∈ lw_g := lw_t4 (List.mem_of_getElem? (i := 27) rfl) rfl
set_option maxRecDepth 100000 in
theorem q_748 : (Jvm.Cond.instanceMethod ({ cls := "ElasticKernelModel", name := "leave", desc := "(I)Z" } : Jvm.MethodName)) ∈ lw_g := lw_t4 (List.mem_of_getElem? (i := 28) rfl) rfl
set_option maxRecDepth 100000 in
theorem q_749 : (Jvm.Cond.selects "ElasticKernelModel" ({ cls := "ElasticKernelModel", name := "leave", desc := "(I)Z" } : Jvm.MethodName) ({ cls := "ElasticKernelModel", name := "leave", desc := "(I)Z" } : Jvm.MethodName)) ∈ lw_g := lw_t4 (List.mem_of_getElem? (i := 29) rfl) rfl
set_option maxRecDepth 100000 in
theorem q_750 : (Jvm.Cond.code ({ cls := "ElasticKernelModel", name := "leave", desc := "(I)Z" } : Jvm.MethodName) prog_9_method_31_code (3 : Nat) (Option.some Jvm.ClassFile.FieldType.boolean)) ∈ lw_g := lw_t4 (List.mem_of_getElem? (i := 30) rfl) rfl
set_option maxRecDepth 100000 in
theorem q_751 : (Jvm.Cond.methodLink "ElasticKernelLaw" (32 : Nat) ({ cls := "ElasticKernelModel", name := "load", desc := "(I)Z" } : Jvm.MethodName)) ∈ lw_g := lw_t4 (List.mem_of_getElem? (i := 31) rfl) rfl
set_option maxRecDepth 100000 in
theorem q_752 : (Jvm.Cond.instanceMethod ({ cls := "ElasticKernelModel", name := "load", desc := "(I)Z" } : Jvm.MethodName)) ∈ lw_g := lw_t4 (List.mem_of_getElem? (i := 32) rfl) rfl
set_option maxRecDepth 100000 in
theorem q_753 : (Jvm.Cond.selects "ElasticKernelModel" ({ cls := "ElasticKernelModel", name := "load", desc := "(I)Z" } : Jvm.MethodName) ({ cls := "ElasticKernelModel", name := "load", desc := "(I)Z" } : Jvm.MethodName)) ∈ lw_g := lw_t4 (List.mem_of_getElem? (i := 33) rfl) rfl
set_option maxRecDepth 100000 in
theorem q_754 : (Jvm.Cond.code ({ cls := "ElasticKernelModel", name := "load", desc := "(I)Z" } : Jvm.MethodName) prog_9_method_32_code (3 : Nat) (Option.some Jvm.ClassFile.FieldType.boolean)) ∈ lw_g := lw_t4 (List.mem_of_getElem? (i := 34) rfl) rfl
set_option maxRecDepth 100000 in
theorem q_755 : (Jvm.Cond.methodLink "ElasticKernelLaw" (37 : Nat) ({ cls := "ElasticKernelModel", name := "use", desc := "(II)Z" } : Jvm.MethodName)) ∈ lw_g := lw_t4 (List.mem_of_getElem? (i := 35) rfl) rfl
set_option maxRecDepth 100000 in
theorem q_756 : (Jvm.Cond.instanceMethod ({ cls := "ElasticKernelModel", name := "use", desc := "(II)Z" } : Jvm.MethodName)) ∈ lw_g := lw_t4 (List.mem_of_getElem? (i := 36) rfl) rfl
set_option maxRecDepth 100000 in
theorem q_757 : (Jvm.Cond.selects "ElasticKernelModel" ({ cls := "ElasticKernelModel", name := "use", desc := "(II)Z" } : Jvm.MethodName) ({ cls := "ElasticKernelModel", name := "use", desc := "(II)Z" } : Jvm.MethodName)) ∈ lw_g := lw_t4 (List.mem_of_getElem? (i := 37) rfl) rfl
set_option maxRecDepth 100000 in
theorem q_758 : (Jvm.Cond.code ({ cls := "ElasticKernelModel", name := "use", desc := "(II)Z" } : Jvm.MethodName) prog_9_method_33_code (4 : Nat) (Option.some Jvm.ClassFile.FieldType.boolean)) ∈ lw_g := lw_t4 (List.mem_of_getElem? (i := 38) rfl) rfl
set_option maxRecDepth 100000 in
theorem q_759 : (Jvm.Cond.methodLink "ElasticKernelLaw" (43 : Nat) ({ cls := "ElasticKernelModel", name := "tick", desc := "(I)I" } : Jvm.MethodName)) ∈ lw_g := lw_t4 (List.mem_of_getElem? (i := 39) rfl) rfl
set_option maxRecDepth 100000 in
theorem q_760 : (Jvm.Cond.instanceMethod ({ cls := "ElasticKernelModel", name := "tick", desc := "(I)I" } : Jvm.MethodName)) ∈ lw_g := lw_t4 (List.mem_of_getElem? (i := 40) rfl) rfl
set_option maxRecDepth 100000 in
theorem q_761 : (Jvm.Cond.selects "ElasticKernelModel" ({ cls := "ElasticKernelModel", name := "tick", desc := "(I)I" } : Jvm.MethodName) ({ cls := "ElasticKernelModel", name := "tick", desc := "(I)I" } : Jvm.MethodName)) ∈ lw_g := lw_t4 (List.mem_of_getElem? (i := 41) rfl) rfl
set_option maxRecDepth 100000 in
theorem q_762 : (Jvm.Cond.code ({ cls := "ElasticKernelModel", name := "tick", desc := "(I)I" } : Jvm.MethodName) prog_9_method_36_code (4 : Nat) (Option.some Jvm.ClassFile.FieldType.int)) ∈ lw_g := lw_t4 (List.mem_of_getElem? (i := 42) rfl) rfl
set_option maxRecDepth 100000 in
theorem q_763 : (Jvm.Cond.methodLink "ElasticKernelModel" (183 : Nat) ({ cls := "ElasticKernelModel", name := "step", desc := "()I" } : Jvm.MethodName)) ∈ lw_g := lw_t4 (List.mem_of_getElem? (i := 43) rfl) rfl
set_option maxRecDepth 100000 in
theorem q_765 : (Jvm.Cond.instanceMethod ({ cls := "ElasticKernelModel", name := "step", desc := "()I" } : Jvm.MethodName)) ∈ lw_g := lw_t4 (List.mem_of_getElem? (i := 45) rfl) rfl
set_option maxRecDepth 100000 in
theorem q_766 : (Jvm.Cond.code ({ cls := "ElasticKernelModel", name := "step", desc := "()I" } : Jvm.MethodName) prog_9_method_35_code (3 : Nat) (Option.some Jvm.ClassFile.FieldType.int)) ∈ lw_g := lw_t4 (List.mem_of_getElem? (i := 46) rfl) rfl
set_option maxRecDepth 100000 in
theorem q_767 : (Jvm.Cond.methodLink "ElasticKernelModel" (179 : Nat) ({ cls := "ElasticKernelModel", name := "release", desc := "(IZ)V" } : Jvm.MethodName)) ∈ lw_g := lw_t4 (List.mem_of_getElem? (i := 47) rfl) rfl
set_option maxRecDepth 100000 in
theorem q_769 : (Jvm.Cond.instanceMethod ({ cls := "ElasticKernelModel", name := "release", desc := "(IZ)V" } : Jvm.MethodName)) ∈ lw_g := lw_t4 (List.mem_of_getElem? (i := 49) rfl) rfl
set_option maxRecDepth 100000 in
theorem q_770 : (Jvm.Cond.code ({ cls := "ElasticKernelModel", name := "release", desc := "(IZ)V" } : Jvm.MethodName) prog_9_method_34_code (3 : Nat) (Option.none : Option Jvm.ClassFile.FieldType)) ∈ lw_g := lw_t4 (List.mem_of_getElem? (i := 50) rfl) rfl
set_option maxRecDepth 100000 in
theorem q_771 : (Jvm.Cond.methodLink "ElasticKernelLaw" (52 : Nat) ({ cls := "ElasticKernelModel", name := "task", desc := "(II)I" } : Jvm.MethodName)) ∈ lw_g := lw_t4 (List.mem_of_getElem? (i := 51) rfl) rfl
set_option maxRecDepth 100000 in
theorem q_772 : (Jvm.Cond.instanceMethod ({ cls := "ElasticKernelModel", name := "task", desc := "(II)I" } : Jvm.MethodName)) ∈ lw_g := lw_t4 (List.mem_of_getElem? (i := 52) rfl) rfl
set_option maxRecDepth 100000 in
theorem q_773 : (Jvm.Cond.selects "ElasticKernelModel" ({ cls := "ElasticKernelModel", name := "task", desc := "(II)I" } : Jvm.MethodName) ({ cls := "ElasticKernelModel", name := "task", desc := "(II)I" } : Jvm.MethodName)) ∈ lw_g := lw_t4 (List.mem_of_getElem? (i := 53) rfl) rfl
set_option maxRecDepth 100000 in
theorem q_774 : (Jvm.Cond.code ({ cls := "ElasticKernelModel", name := "task", desc := "(II)I" } : Jvm.MethodName) prog_9_method_37_code (4 : Nat) (Option.some Jvm.ClassFile.FieldType.int)) ∈ lw_g := lw_t4 (List.mem_of_getElem? (i := 54) rfl) rfl
set_option maxRecDepth 100000 in
theorem q_775 : (Jvm.Cond.methodLink "ElasticKernelLaw" (57 : Nat) ({ cls := "ElasticKernelModel", name := "rate", desc := "(III)I" } : Jvm.MethodName)) ∈ lw_g := lw_t4 (List.mem_of_getElem? (i := 55) rfl) rfl
set_option maxRecDepth 100000 in
theorem q_776 : (Jvm.Cond.instanceMethod ({ cls := "ElasticKernelModel", name := "rate", desc := "(III)I" } : Jvm.MethodName)) ∈ lw_g := lw_t4 (List.mem_of_getElem? (i := 56) rfl) rfl
set_option maxRecDepth 100000 in
theorem q_777 : (Jvm.Cond.selects "ElasticKernelModel" ({ cls := "ElasticKernelModel", name := "rate", desc := "(III)I" } : Jvm.MethodName) ({ cls := "ElasticKernelModel", name := "rate", desc := "(III)I" } : Jvm.MethodName)) ∈ lw_g := lw_t4 (List.mem_of_getElem? (i := 57) rfl) rfl
set_option maxRecDepth 100000 in
theorem q_778 : (Jvm.Cond.code ({ cls := "ElasticKernelModel", name := "rate", desc := "(III)I" } : Jvm.MethodName) prog_9_method_39_code (5 : Nat) (Option.some Jvm.ClassFile.FieldType.int)) ∈ lw_g := lw_t4 (List.mem_of_getElem? (i := 58) rfl) rfl
set_option maxRecDepth 100000 in
theorem q_779 : (Jvm.Cond.methodLink "ElasticKernelModel" (190 : Nat) ({ cls := "ElasticKernelModel", name := "wordOf", desc := "(III)I" } : Jvm.MethodName)) ∈ lw_g := lw_t4 (List.mem_of_getElem? (i := 59) rfl) rfl
set_option maxRecDepth 100000 in
theorem q_781 : (Jvm.Cond.instanceMethod ({ cls := "ElasticKernelModel", name := "wordOf", desc := "(III)I" } : Jvm.MethodName)) ∈ lw_g := lw_t4 (List.mem_of_getElem? (i := 61) rfl) rfl
set_option maxRecDepth 100000 in
theorem q_782 : (Jvm.Cond.code ({ cls := "ElasticKernelModel", name := "wordOf", desc := "(III)I" } : Jvm.MethodName) prog_9_method_38_code (4 : Nat) (Option.some Jvm.ClassFile.FieldType.int)) ∈ lw_g := lw_t4 (List.mem_of_getElem? (i := 62) rfl) rfl
set_option maxRecDepth 100000 in
theorem q_783 : (Jvm.Cond.methodLink "ElasticKernelModel" (187 : Nat) ({ cls := "ElasticKernelModel", name := "reduce", desc := "(II)V" } : Jvm.MethodName)) ∈ lw_g := lw_t4 (List.mem_of_getElem? (i := 63) rfl) rfl
set_option maxRecDepth 100000 in
theorem q_785 : (Jvm.Cond.instanceMethod ({ cls := "ElasticKernelModel", name := "reduce", desc := "(II)V" } : Jvm.MethodName)) ∈ lw_g := lw_t4 (List.mem_of_getElem? (i := 65) rfl) rfl
set_option maxRecDepth 100000 in
theorem q_786 : (Jvm.Cond.code ({ cls := "ElasticKernelModel", name := "reduce", desc := "(II)V" } : Jvm.MethodName) prog_9_method_12_code (3 : Nat) (Option.none : Option Jvm.ClassFile.FieldType)) ∈ lw_g := lw_t4 (List.mem_of_getElem? (i := 66) rfl) rfl
set_option maxRecDepth 100000 in
theorem q_787 : (Jvm.Cond.methodLink "ElasticKernelModel" (76 : Nat) ({ cls := "ElasticKernelModel", name := "isZero", desc := "(I)Z" } : Jvm.MethodName)) ∈ lw_g := lw_t4 (List.mem_of_getElem? (i := 67) rfl) rfl
set_option maxRecDepth 100000 in
theorem q_789 : (Jvm.Cond.instanceMethod ({ cls := "ElasticKernelModel", name := "isZero", desc := "(I)Z" } : Jvm.MethodName)) ∈ lw_g := lw_t4 (List.mem_of_getElem? (i := 69) rfl) rfl
set_option maxRecDepth 100000 in
theorem q_790 : (Jvm.Cond.code ({ cls := "ElasticKernelModel", name := "isZero", desc := "(I)Z" } : Jvm.MethodName) prog_9_method_6_code (3 : Nat) (Option.some Jvm.ClassFile.FieldType.boolean)) ∈ lw_g := lw_t4 (List.mem_of_getElem? (i := 70) rfl) rfl
set_option maxRecDepth 100000 in
theorem q_791 : (Jvm.Cond.methodLink "ElasticKernelModel" (80 : Nat) ({ cls := "ElasticKernelModel", name := "isEven", desc := "(I)Z" } : Jvm.MethodName)) ∈ lw_g := lw_t4 (List.mem_of_getElem? (i := 71) rfl) rfl
set_option maxRecDepth 100000 in
theorem q_793 : (Jvm.Cond.instanceMethod ({ cls := "ElasticKernelModel", name := "isEven", desc := "(I)Z" } : Jvm.MethodName)) ∈ lw_g := lw_t4 (List.mem_of_getElem? (i := 73) rfl) rfl
set_option maxRecDepth 100000 in
theorem q_794 : (Jvm.Cond.code ({ cls := "ElasticKernelModel", name := "isEven", desc := "(I)Z" } : Jvm.MethodName) prog_9_method_11_code (2 : Nat) (Option.some Jvm.ClassFile.FieldType.boolean)) ∈ lw_g := lw_t4 (List.mem_of_getElem? (i := 74) rfl) rfl
set_option maxRecDepth 100000 in
theorem q_795 : (Jvm.Cond.methodLink "ElasticKernelModel" (83 : Nat) ({ cls := "ElasticKernelModel", name := "halve", desc := "(I)V" } : Jvm.MethodName)) ∈ lw_g := lw_t4 (List.mem_of_getElem? (i := 75) rfl) rfl
set_option maxRecDepth 100000 in
theorem q_797 : (Jvm.Cond.instanceMethod ({ cls := "ElasticKernelModel", name := "halve", desc := "(I)V" } : Jvm.MethodName)) ∈ lw_g := lw_t4 (List.mem_of_getElem? (i := 77) rfl) rfl
set_option maxRecDepth 100000 in
theorem q_798 : (Jvm.Cond.code ({ cls := "ElasticKernelModel", name := "halve", desc := "(I)V" } : Jvm.MethodName) prog_9_method_10_code (4 : Nat) (Option.none : Option Jvm.ClassFile.FieldType)) ∈ lw_g := lw_t4 (List.mem_of_getElem? (i := 78) rfl) rfl
set_option maxRecDepth 100000 in
theorem q_799 : (Jvm.Cond.methodLink "ElasticKernelModel" (99 : Nat) ({ cls := "ElasticKernelModel", name := "quotient", desc := "(I)V" } : Jvm.MethodName)) ∈ lw_g := lw_t4 (List.mem_of_getElem? (i := 79) rfl) rfl
set_option maxRecDepth 100000 in
theorem q_801 : (Jvm.Cond.instanceMethod ({ cls := "ElasticKernelModel", name := "quotient", desc := "(I)V" } : Jvm.MethodName)) ∈ lw_g := lw_t4 (List.mem_of_getElem? (i := 81) rfl) rfl
set_option maxRecDepth 100000 in
theorem q_802 : (Jvm.Cond.code ({ cls := "ElasticKernelModel", name := "quotient", desc := "(I)V" } : Jvm.MethodName) prog_9_method_13_code (3 : Nat) (Option.none : Option Jvm.ClassFile.FieldType)) ∈ lw_g := lw_t4 (List.mem_of_getElem? (i := 82) rfl) rfl
set_option maxRecDepth 100000 in
theorem q_803 : (Jvm.Cond.methodLink "ElasticKernelLaw" (61 : Nat) ({ cls := "ElasticKernelModel", name := "total", desc := "(II)I" } : Jvm.MethodName)) ∈ lw_g := lw_t4 (List.mem_of_getElem? (i := 83) rfl) rfl
set_option maxRecDepth 100000 in
theorem q_804 : (Jvm.Cond.instanceMethod ({ cls := "ElasticKernelModel", name := "total", desc := "(II)I" } : Jvm.MethodName)) ∈ lw_g := lw_t4 (List.mem_of_getElem? (i := 84) rfl) rfl
set_option maxRecDepth 100000 in
theorem q_805 : (Jvm.Cond.selects "ElasticKernelModel" ({ cls := "ElasticKernelModel", name := "total", desc := "(II)I" } : Jvm.MethodName) ({ cls := "ElasticKernelModel", name := "total", desc := "(II)I" } : Jvm.MethodName)) ∈ lw_g := lw_t4 (List.mem_of_getElem? (i := 85) rfl) rfl
set_option maxRecDepth 100000 in
theorem q_806 : (Jvm.Cond.code ({ cls := "ElasticKernelModel", name := "total", desc := "(II)I" } : Jvm.MethodName) prog_9_method_40_code (3 : Nat) (Option.some Jvm.ClassFile.FieldType.int)) ∈ lw_g := lw_t4 (List.mem_of_getElem? (i := 86) rfl) rfl
set_option maxRecDepth 100000 in
theorem q_807 : (Jvm.Cond.methodLink "ElasticKernelLaw" (65 : Nat) ({ cls := "ElasticKernelModel", name := "state", desc := "(I)I" } : Jvm.MethodName)) ∈ lw_g := lw_t4 (List.mem_of_getElem? (i := 87) rfl) rfl
set_option maxRecDepth 100000 in
theorem q_808 : (Jvm.Cond.instanceMethod ({ cls := "ElasticKernelModel", name := "state", desc := "(I)I" } : Jvm.MethodName)) ∈ lw_g := lw_t4 (List.mem_of_getElem? (i := 88) rfl) rfl
set_option maxRecDepth 100000 in
theorem q_809 : (Jvm.Cond.selects "ElasticKernelModel" ({ cls := "ElasticKernelModel", name := "state", desc := "(I)I" } : Jvm.MethodName) ({ cls := "ElasticKernelModel", name := "state", desc := "(I)I" } : Jvm.MethodName)) ∈ lw_g := lw_t4 (List.mem_of_getElem? (i := 89) rfl) rfl
set_option maxRecDepth 100000 in
theorem q_810 : (Jvm.Cond.code ({ cls := "ElasticKernelModel", name := "state", desc := "(I)I" } : Jvm.MethodName) prog_9_method_42_code (2 : Nat) (Option.some Jvm.ClassFile.FieldType.int)) ∈ lw_g := lw_t4 (List.mem_of_getElem? (i := 90) rfl) rfl
set_option maxRecDepth 100000 in
theorem q_811 : (Jvm.Cond.methodLink "ElasticKernelModel" (194 : Nat) ({ cls := "ElasticKernelModel", name := "unused", desc := "()I" } : Jvm.MethodName)) ∈ lw_g := lw_t4 (List.mem_of_getElem? (i := 91) rfl) rfl
set_option maxRecDepth 100000 in
theorem q_813 : (Jvm.Cond.instanceMethod ({ cls := "ElasticKernelModel", name := "unused", desc := "()I" } : Jvm.MethodName)) ∈ lw_g := lw_t4 (List.mem_of_getElem? (i := 93) rfl) rfl
set_option maxRecDepth 100000 in
theorem q_814 : (Jvm.Cond.code ({ cls := "ElasticKernelModel", name := "unused", desc := "()I" } : Jvm.MethodName) prog_9_method_41_code (2 : Nat) (Option.some Jvm.ClassFile.FieldType.int)) ∈ lw_g := lw_t4 (List.mem_of_getElem? (i := 94) rfl) rfl
set_option maxRecDepth 100000 in
theorem q_815 : (Jvm.Cond.arrayClass Jvm.ClassFile.FieldType.long) ∈ lw_g := lw_t4 (List.mem_of_getElem? (i := 95) rfl) rfl
set_option maxRecDepth 100000 in
theorem p_0 : Cond.selects "ElasticKernel" ⟨"ElasticKernel", "isRefused", "(I)Z"⟩ ⟨"ElasticKernel", "isRefused", "(I)Z"⟩ ∈ lw_g := lw_gp (List.mem_of_getElem? (i := 0) rfl) rfl
set_option maxRecDepth 100000 in
theorem p_1 : Cond.selects "ElasticKernel" ⟨"ElasticKernel", "solve", "()V"⟩ ⟨"ElasticKernel", "solve", "()V"⟩ ∈ lw_g := lw_gp (List.mem_of_getElem? (i := 1) rfl) rfl
set_option maxRecDepth 100000 in
theorem p_2 : Cond.selects "ElasticKernel$Springs" ⟨"ElasticKernel$Springs", "unpin", "(LElasticKernel$Roster;)V"⟩ ⟨"ElasticKernel$Springs", "unpin", "(LElasticKernel$Roster;)V"⟩ ∈ lw_g := lw_gp (List.mem_of_getElem? (i := 2) rfl) rfl
set_option maxRecDepth 100000 in
theorem p_3 : Cond.selects "ElasticKernel$Springs" ⟨"ElasticKernel$Springs", "addUp", "(LElasticKernel$Roster;)V"⟩ ⟨"ElasticKernel$Springs", "addUp", "(LElasticKernel$Roster;)V"⟩ ∈ lw_g := lw_gp (List.mem_of_getElem? (i := 3) rfl) rfl
set_option maxRecDepth 100000 in
theorem p_4 : Cond.selects "ElasticKernel$Springs" ⟨"ElasticKernel$Springs", "addUpSoftness", "(LElasticKernel$Roster;)V"⟩ ⟨"ElasticKernel$Springs", "addUpSoftness", "(LElasticKernel$Roster;)V"⟩ ∈ lw_g := lw_gp (List.mem_of_getElem? (i := 4) rfl) rfl
set_option maxRecDepth 100000 in
theorem p_5 : Cond.selects "ElasticKernel$Springs" ⟨"ElasticKernel$Springs", "pinPressed", "(LElasticKernel$Roster;)Z"⟩ ⟨"ElasticKernel$Springs", "pinPressed", "(LElasticKernel$Roster;)Z"⟩ ∈ lw_g := lw_gp (List.mem_of_getElem? (i := 5) rfl) rfl
set_option maxRecDepth 100000 in
theorem p_6 : Cond.selects "ElasticKernel$Springs" ⟨"ElasticKernel$Springs", "isTooMuchFor", "(LElasticKernel$Task;)Z"⟩ ⟨"ElasticKernel$Springs", "isTooMuchFor", "(LElasticKernel$Task;)Z"⟩ ∈ lw_g := lw_gp (List.mem_of_getElem? (i := 6) rfl) rfl
set_option maxRecDepth 100000 in
theorem p_7 : Cond.selects "ElasticKernel$Divider" ⟨"ElasticKernel$Divider", "divide", "(LElasticKernel$Natural;LElasticKernel$Natural;)V"⟩ ⟨"ElasticKernel$Divider", "divide", "(LElasticKernel$Natural;LElasticKernel$Natural;)V"⟩ ∈ lw_g := lw_gp (List.mem_of_getElem? (i := 7) rfl) rfl
set_option maxRecDepth 100000 in
theorem p_8 : Cond.selects "java/lang/Throwable" ⟨"java/lang/Throwable", "fillInStackTrace", "(I)Ljava/lang/Throwable;"⟩ ⟨"java/lang/Throwable", "fillInStackTrace", "(I)Ljava/lang/Throwable;"⟩ ∈ lw_g := lw_gp (List.mem_of_getElem? (i := 8) rfl) rfl
set_option maxRecDepth 100000 in
theorem p_9 : Cond.selects "ElasticKernel" ⟨"ElasticKernel", "beginTick", "()V"⟩ ⟨"ElasticKernel", "beginTick", "()V"⟩ ∈ lw_g := lw_gp (List.mem_of_getElem? (i := 9) rfl) rfl
set_option maxRecDepth 100000 in
theorem p_10 : Cond.selects "ElasticKernel" ⟨"ElasticKernel", "dismissLeavers", "()V"⟩ ⟨"ElasticKernel", "dismissLeavers", "()V"⟩ ∈ lw_g := lw_gp (List.mem_of_getElem? (i := 10) rfl) rfl
set_option maxRecDepth 100000 in
theorem p_11 : Cond.selects "ElasticKernel" ⟨"ElasticKernel", "countIfLate", "(LElasticKernel$Task;)V"⟩ ⟨"ElasticKernel", "countIfLate", "(LElasticKernel$Task;)V"⟩ ∈ lw_g := lw_gp (List.mem_of_getElem? (i := 11) rfl) rfl
set_option maxRecDepth 100000 in
theorem p_12 : Cond.selects "ElasticKernel$Task" ⟨"ElasticKernel$Task", "finish", "(I)V"⟩ ⟨"ElasticKernel$Task", "finish", "(I)V"⟩ ∈ lw_g := lw_gp (List.mem_of_getElem? (i := 12) rfl) rfl
set_option maxRecDepth 100000 in
theorem p_13 : Cond.selects "ElasticKernel" ⟨"ElasticKernel", "mostUrgent", "()LElasticKernel$Task;"⟩ ⟨"ElasticKernel", "mostUrgent", "()LElasticKernel$Task;"⟩ ∈ lw_g := lw_gp (List.mem_of_getElem? (i := 13) rfl) rfl
set_option maxRecDepth 100000 in
theorem p_14 : Cond.selects "ElasticKernel" ⟨"ElasticKernel", "ticksAlike", "(LElasticKernel$Task;)I"⟩ ⟨"ElasticKernel", "ticksAlike", "(LElasticKernel$Task;)I"⟩ ∈ lw_g := lw_gp (List.mem_of_getElem? (i := 14) rfl) rfl
set_option maxRecDepth 100000 in
theorem p_15 : Cond.selects "ElasticKernelModel" ⟨"ElasticKernelModel", "be", "(IJ)V"⟩ ⟨"ElasticKernelModel", "be", "(IJ)V"⟩ ∈ lw_g := lw_gp (List.mem_of_getElem? (i := 15) rfl) rfl
set_option maxRecDepth 100000 in
theorem p_16 : Cond.selects "ElasticKernelModel" ⟨"ElasticKernelModel", "find", "(I)I"⟩ ⟨"ElasticKernelModel", "find", "(I)I"⟩ ∈ lw_g := lw_gp (List.mem_of_getElem? (i := 16) rfl) rfl
set_option maxRecDepth 100000 in
theorem p_17 : Cond.selects "ElasticKernelModel" ⟨"ElasticKernelModel", "move", "(II)V"⟩ ⟨"ElasticKernelModel", "move", "(II)V"⟩ ∈ lw_g := lw_gp (List.mem_of_getElem? (i := 17) rfl) rfl
set_option maxRecDepth 100000 in
theorem p_18 : Cond.selects "ElasticKernelModel" ⟨"ElasticKernelModel", "copy", "(II)V"⟩ ⟨"ElasticKernelModel", "copy", "(II)V"⟩ ∈ lw_g := lw_gp (List.mem_of_getElem? (i := 18) rfl) rfl
set_option maxRecDepth 100000 in
theorem p_19 : Cond.selects "ElasticKernelModel" ⟨"ElasticKernelModel", "tooMuch", "(I)I"⟩ ⟨"ElasticKernelModel", "tooMuch", "(I)I"⟩ ∈ lw_g := lw_gp (List.mem_of_getElem? (i := 19) rfl) rfl
set_option maxRecDepth 100000 in
theorem p_20 : Cond.selects "ElasticKernelModel" ⟨"ElasticKernelModel", "none", "()V"⟩ ⟨"ElasticKernelModel", "none", "()V"⟩ ∈ lw_g := lw_gp (List.mem_of_getElem? (i := 20) rfl) rfl
set_option maxRecDepth 100000 in
theorem p_21 : Cond.selects "ElasticKernelModel" ⟨"ElasticKernelModel", "addFraction", "(II)V"⟩ ⟨"ElasticKernelModel", "addFraction", "(II)V"⟩ ∈ lw_g := lw_gp (List.mem_of_getElem? (i := 21) rfl) rfl
set_option maxRecDepth 100000 in
theorem p_22 : Cond.selects "ElasticKernelModel" ⟨"ElasticKernelModel", "times", "(II)V"⟩ ⟨"ElasticKernelModel", "times", "(II)V"⟩ ∈ lw_g := lw_gp (List.mem_of_getElem? (i := 22) rfl) rfl
set_option maxRecDepth 100000 in
theorem p_23 : Cond.selects "ElasticKernelModel" ⟨"ElasticKernelModel", "add", "(IIZ)V"⟩ ⟨"ElasticKernelModel", "add", "(IIZ)V"⟩ ∈ lw_g := lw_gp (List.mem_of_getElem? (i := 23) rfl) rfl
set_option maxRecDepth 100000 in
theorem p_24 : Cond.selects "ElasticKernelModel" ⟨"ElasticKernelModel", "isAbove", "(I)Z"⟩ ⟨"ElasticKernelModel", "isAbove", "(I)Z"⟩ ∈ lw_g := lw_gp (List.mem_of_getElem? (i := 24) rfl) rfl
set_option maxRecDepth 100000 in
theorem p_25 : Cond.selects "ElasticKernelModel" ⟨"ElasticKernelModel", "compare", "(II)I"⟩ ⟨"ElasticKernelModel", "compare", "(II)I"⟩ ∈ lw_g := lw_gp (List.mem_of_getElem? (i := 25) rfl) rfl
set_option maxRecDepth 100000 in
theorem p_26 : Cond.selects "ElasticKernelModel" ⟨"ElasticKernelModel", "remove", "(I)V"⟩ ⟨"ElasticKernelModel", "remove", "(I)V"⟩ ∈ lw_g := lw_gp (List.mem_of_getElem? (i := 26) rfl) rfl
set_option maxRecDepth 100000 in
theorem p_27 : Cond.selects "ElasticKernelModel" ⟨"ElasticKernelModel", "solve", "()V"⟩ ⟨"ElasticKernelModel", "solve", "()V"⟩ ∈ lw_g := lw_gp (List.mem_of_getElem? (i := 27) rfl) rfl
set_option maxRecDepth 100000 in
theorem p_28 : Cond.selects "ElasticKernelModel" ⟨"ElasticKernelModel", "counts", "(I)Z"⟩ ⟨"ElasticKernelModel", "counts", "(I)Z"⟩ ∈ lw_g := lw_gp (List.mem_of_getElem? (i := 28) rfl) rfl
set_option maxRecDepth 100000 in
theorem p_29 : Cond.selects "ElasticKernelModel" ⟨"ElasticKernelModel", "rankOf", "(I)I"⟩ ⟨"ElasticKernelModel", "rankOf", "(I)I"⟩ ∈ lw_g := lw_gp (List.mem_of_getElem? (i := 29) rfl) rfl
set_option maxRecDepth 100000 in
theorem p_30 : Cond.selects "ElasticKernelModel" ⟨"ElasticKernelModel", "isSofter", "(II)Z"⟩ ⟨"ElasticKernelModel", "isSofter", "(II)Z"⟩ ∈ lw_g := lw_gp (List.mem_of_getElem? (i := 30) rfl) rfl
set_option maxRecDepth 100000 in
theorem p_31 : Cond.selects "ElasticKernelModel" ⟨"ElasticKernelModel", "tryLeast", "(I)Z"⟩ ⟨"ElasticKernelModel", "tryLeast", "(I)Z"⟩ ∈ lw_g := lw_gp (List.mem_of_getElem? (i := 31) rfl) rfl
set_option maxRecDepth 100000 in
theorem p_32 : Cond.selects "ElasticKernelModel" ⟨"ElasticKernelModel", "product", "(III)V"⟩ ⟨"ElasticKernelModel", "product", "(III)V"⟩ ∈ lw_g := lw_gp (List.mem_of_getElem? (i := 32) rfl) rfl
set_option maxRecDepth 100000 in
theorem p_33 : Cond.selects "ElasticKernelModel" ⟨"ElasticKernelModel", "fits", "(I)Z"⟩ ⟨"ElasticKernelModel", "fits", "(I)Z"⟩ ∈ lw_g := lw_gp (List.mem_of_getElem? (i := 33) rfl) rfl
set_option maxRecDepth 100000 in
theorem p_34 : Cond.selects "ElasticKernelModel" ⟨"ElasticKernelModel", "press", "(II)V"⟩ ⟨"ElasticKernelModel", "press", "(II)V"⟩ ∈ lw_g := lw_gp (List.mem_of_getElem? (i := 34) rfl) rfl
set_option maxRecDepth 100000 in
theorem p_35 : Cond.selects "ElasticKernelModel" ⟨"ElasticKernelModel", "settle", "(I)V"⟩ ⟨"ElasticKernelModel", "settle", "(I)V"⟩ ∈ lw_g := lw_gp (List.mem_of_getElem? (i := 35) rfl) rfl
set_option maxRecDepth 100000 in
theorem p_36 : Cond.selects "ElasticKernelModel" ⟨"ElasticKernelModel", "findInstant", "()V"⟩ ⟨"ElasticKernelModel", "findInstant", "()V"⟩ ∈ lw_g := lw_gp (List.mem_of_getElem? (i := 36) rfl) rfl
set_option maxRecDepth 100000 in
theorem p_37 : Cond.selects "ElasticKernelModel" ⟨"ElasticKernelModel", "step", "()I"⟩ ⟨"ElasticKernelModel", "step", "()I"⟩ ∈ lw_g := lw_gp (List.mem_of_getElem? (i := 37) rfl) rfl
set_option maxRecDepth 100000 in
theorem p_38 : Cond.selects "ElasticKernelModel" ⟨"ElasticKernelModel", "release", "(IZ)V"⟩ ⟨"ElasticKernelModel", "release", "(IZ)V"⟩ ∈ lw_g := lw_gp (List.mem_of_getElem? (i := 38) rfl) rfl
set_option maxRecDepth 100000 in
theorem p_39 : Cond.selects "ElasticKernelModel" ⟨"ElasticKernelModel", "wordOf", "(III)I"⟩ ⟨"ElasticKernelModel", "wordOf", "(III)I"⟩ ∈ lw_g := lw_gp (List.mem_of_getElem? (i := 39) rfl) rfl
set_option maxRecDepth 100000 in
theorem p_40 : Cond.selects "ElasticKernelModel" ⟨"ElasticKernelModel", "reduce", "(II)V"⟩ ⟨"ElasticKernelModel", "reduce", "(II)V"⟩ ∈ lw_g := lw_gp (List.mem_of_getElem? (i := 40) rfl) rfl
set_option maxRecDepth 100000 in
theorem p_41 : Cond.selects "ElasticKernelModel" ⟨"ElasticKernelModel", "isZero", "(I)Z"⟩ ⟨"ElasticKernelModel", "isZero", "(I)Z"⟩ ∈ lw_g := lw_gp (List.mem_of_getElem? (i := 41) rfl) rfl
set_option maxRecDepth 100000 in
theorem p_42 : Cond.selects "ElasticKernelModel" ⟨"ElasticKernelModel", "isEven", "(I)Z"⟩ ⟨"ElasticKernelModel", "isEven", "(I)Z"⟩ ∈ lw_g := lw_gp (List.mem_of_getElem? (i := 42) rfl) rfl
set_option maxRecDepth 100000 in
theorem p_43 : Cond.selects "ElasticKernelModel" ⟨"ElasticKernelModel", "halve", "(I)V"⟩ ⟨"ElasticKernelModel", "halve", "(I)V"⟩ ∈ lw_g := lw_gp (List.mem_of_getElem? (i := 43) rfl) rfl
set_option maxRecDepth 100000 in
theorem p_44 : Cond.selects "ElasticKernelModel" ⟨"ElasticKernelModel", "quotient", "(I)V"⟩ ⟨"ElasticKernelModel", "quotient", "(I)V"⟩ ∈ lw_g := lw_gp (List.mem_of_getElem? (i := 44) rfl) rfl
set_option maxRecDepth 100000 in
theorem p_45 : Cond.selects "ElasticKernelModel" ⟨"ElasticKernelModel", "unused", "()I"⟩ ⟨"ElasticKernelModel", "unused", "()I"⟩ ∈ lw_g := lw_gp (List.mem_of_getElem? (i := 45) rfl) rfl
/-- the links to nest mates' fields -/
def ek_nest : List Cond := [(Jvm.Cond.fieldLinkNest "ElasticKernel$Divider" (45 : Nat) "ElasticKernel$Fraction" "above" "LElasticKernel$Natural;" "ElasticKernel"), (Jvm.Cond.fieldLinkNest "ElasticKernel$Springs" (69 : Nat) "ElasticKernel$Fraction" "above" "LElasticKernel$Natural;" "ElasticKernel"), (Jvm.Cond.fieldLinkNest "ElasticKernel" (157 : Nat) "ElasticKernel$Fraction" "above" "LElasticKernel$Natural;" "ElasticKernel"), (Jvm.Cond.fieldLinkNest "ElasticKernel$Divider" (50 : Nat) "ElasticKernel$Fraction" "below" "LElasticKernel$Natural;" "ElasticKernel"), (Jvm.Cond.fieldLinkNest "ElasticKernel$Springs" (73 : Nat) "ElasticKernel$Fraction" "below" "LElasticKernel$Natural;" "ElasticKernel"), (Jvm.Cond.fieldLinkNest "ElasticKernel" (169 : Nat) "ElasticKernel$Fraction" "below" "LElasticKernel$Natural;" "ElasticKernel"), (Jvm.Cond.fieldLinkNest "ElasticKernel$Roster" (22 : Nat) "ElasticKernel$Task" "id" "I" "ElasticKernel"), (Jvm.Cond.fieldLinkNest "ElasticKernel$Springs" (66 : Nat) "ElasticKernel$Task" "id" "I" "ElasticKernel"), (Jvm.Cond.fieldLinkNest "ElasticKernel" (101 : Nat) "ElasticKernel$Task" "id" "I" "ElasticKernel"), (Jvm.Cond.fieldLinkNest "ElasticKernel$Springs" (48 : Nat) "ElasticKernel$Task" "cost" "I" "ElasticKernel"), (Jvm.Cond.fieldLinkNest "ElasticKernel" (68 : Nat) "ElasticKernel$Task" "cost" "I" "ElasticKernel"), (Jvm.Cond.fieldLinkNest "ElasticKernel$Springs" (113 : Nat) "ElasticKernel$Task" "shortest" "I" "ElasticKernel"), (Jvm.Cond.fieldLinkNest "ElasticKernel$Springs" (53 : Nat) "ElasticKernel$Task" "longest" "I" "ElasticKernel"), (Jvm.Cond.fieldLinkNest "ElasticKernel$Springs" (116 : Nat) "ElasticKernel$Task" "stiffness" "I" "ElasticKernel"), (Jvm.Cond.fieldLinkNest "ElasticKernel" (65 : Nat) "ElasticKernel$Task" "phase" "I" "ElasticKernel"), (Jvm.Cond.fieldLinkNest "ElasticKernel" (108 : Nat) "ElasticKernel$Task" "period" "I" "ElasticKernel"), (Jvm.Cond.fieldLinkNest "ElasticKernel" (111 : Nat) "ElasticKernel$Task" "solvedPeriod" "I" "ElasticKernel"), (Jvm.Cond.fieldLinkNest "ElasticKernel$Springs" (130 : Nat) "ElasticKernel$Task" "solvedPeriod" "I" "ElasticKernel"), (Jvm.Cond.fieldLinkNest "ElasticKernel" (114 : Nat) "ElasticKernel$Task" "end" "I" "ElasticKernel"), (Jvm.Cond.fieldLinkNest "ElasticKernel" (117 : Nat) "ElasticKernel$Task" "needs" "I" "ElasticKernel"), (Jvm.Cond.fieldLinkNest "ElasticKernel" (71 : Nat) "ElasticKernel$Task" "told" "I" "ElasticKernel"), (Jvm.Cond.fieldLinkNest "ElasticKernel" (120 : Nat) "ElasticKernel$Task" "ends" "I" "ElasticKernel"), (Jvm.Cond.fieldLinkNest "ElasticKernel" (123 : Nat) "ElasticKernel$Task" "latestEnd" "I" "ElasticKernel"), (Jvm.Cond.fieldLinkNest "ElasticKernel$Springs" (105 : Nat) "ElasticKernel$Task" "isPinned" "Z" "ElasticKernel"), (Jvm.Cond.fieldLinkNest "ElasticKernel" (130 : Nat) "ElasticKernel$Task" "solvedLoad" "LElasticKernel$Fraction;" "ElasticKernel"), (Jvm.Cond.fieldLinkNest "ElasticKernel$Springs" (123 : Nat) "ElasticKernel$Task" "solvedLoad" "LElasticKernel$Fraction;" "ElasticKernel"), (Jvm.Cond.fieldLinkNest "ElasticKernel$Springs" (44 : Nat) "ElasticKernel$Roster" "row" "[LElasticKernel$Task;" "ElasticKernel"), (Jvm.Cond.fieldLinkNest "ElasticKernel" (187 : Nat) "ElasticKernel$Roster" "row" "[LElasticKernel$Task;" "ElasticKernel"), (Jvm.Cond.fieldLinkNest "ElasticKernel$Springs" (38 : Nat) "ElasticKernel$Roster" "size" "I" "ElasticKernel"), (Jvm.Cond.fieldLinkNest "ElasticKernel" (151 : Nat) "ElasticKernel$Roster" "size" "I" "ElasticKernel"), (Jvm.Cond.fieldLinkNest "ElasticKernel" (138 : Nat) "ElasticKernel$Springs" "allLoads" "LElasticKernel$Fraction;" "ElasticKernel")]
theorem n_60 : (Jvm.Cond.fieldLinkNest "ElasticKernel$Divider" (45 : Nat) "ElasticKernel$Fraction" "above" "LElasticKernel$Natural;" "ElasticKernel") ∈ ek_nest := List.mem_of_getElem? (i := 0) rfl
theorem n_61 : (Jvm.Cond.fieldLinkNest "ElasticKernel$Springs" (69 : Nat) "ElasticKernel$Fraction" "above" "LElasticKernel$Natural;" "ElasticKernel") ∈ ek_nest := List.mem_of_getElem? (i := 1) rfl
theorem n_62 : (Jvm.Cond.fieldLinkNest "ElasticKernel" (157 : Nat) "ElasticKernel$Fraction" "above" "LElasticKernel$Natural;" "ElasticKernel") ∈ ek_nest := List.mem_of_getElem? (i := 2) rfl
theorem n_64 : (Jvm.Cond.fieldLinkNest "ElasticKernel$Divider" (50 : Nat) "ElasticKernel$Fraction" "below" "LElasticKernel$Natural;" "ElasticKernel") ∈ ek_nest := List.mem_of_getElem? (i := 3) rfl
theorem n_65 : (Jvm.Cond.fieldLinkNest "ElasticKernel$Springs" (73 : Nat) "ElasticKernel$Fraction" "below" "LElasticKernel$Natural;" "ElasticKernel") ∈ ek_nest := List.mem_of_getElem? (i := 4) rfl
theorem n_66 : (Jvm.Cond.fieldLinkNest "ElasticKernel" (169 : Nat) "ElasticKernel$Fraction" "below" "LElasticKernel$Natural;" "ElasticKernel") ∈ ek_nest := List.mem_of_getElem? (i := 5) rfl
theorem n_72 : (Jvm.Cond.fieldLinkNest "ElasticKernel$Roster" (22 : Nat) "ElasticKernel$Task" "id" "I" "ElasticKernel") ∈ ek_nest := List.mem_of_getElem? (i := 6) rfl
theorem n_73 : (Jvm.Cond.fieldLinkNest "ElasticKernel$Springs" (66 : Nat) "ElasticKernel$Task" "id" "I" "ElasticKernel") ∈ ek_nest := List.mem_of_getElem? (i := 7) rfl
theorem n_74 : (Jvm.Cond.fieldLinkNest "ElasticKernel" (101 : Nat) "ElasticKernel$Task" "id" "I" "ElasticKernel") ∈ ek_nest := List.mem_of_getElem? (i := 8) rfl
theorem n_76 : (Jvm.Cond.fieldLinkNest "ElasticKernel$Springs" (48 : Nat) "ElasticKernel$Task" "cost" "I" "ElasticKernel") ∈ ek_nest := List.mem_of_getElem? (i := 9) rfl
theorem n_77 : (Jvm.Cond.fieldLinkNest "ElasticKernel" (68 : Nat) "ElasticKernel$Task" "cost" "I" "ElasticKernel") ∈ ek_nest := List.mem_of_getElem? (i := 10) rfl
theorem n_79 : (Jvm.Cond.fieldLinkNest "ElasticKernel$Springs" (113 : Nat) "ElasticKernel$Task" "shortest" "I" "ElasticKernel") ∈ ek_nest := List.mem_of_getElem? (i := 11) rfl
theorem n_81 : (Jvm.Cond.fieldLinkNest "ElasticKernel$Springs" (53 : Nat) "ElasticKernel$Task" "longest" "I" "ElasticKernel") ∈ ek_nest := List.mem_of_getElem? (i := 12) rfl
theorem n_83 : (Jvm.Cond.fieldLinkNest "ElasticKernel$Springs" (116 : Nat) "ElasticKernel$Task" "stiffness" "I" "ElasticKernel") ∈ ek_nest := List.mem_of_getElem? (i := 13) rfl
theorem n_85 : (Jvm.Cond.fieldLinkNest "ElasticKernel" (65 : Nat) "ElasticKernel$Task" "phase" "I" "ElasticKernel") ∈ ek_nest := List.mem_of_getElem? (i := 14) rfl
theorem n_87 : (Jvm.Cond.fieldLinkNest "ElasticKernel" (108 : Nat) "ElasticKernel$Task" "period" "I" "ElasticKernel") ∈ ek_nest := List.mem_of_getElem? (i := 15) rfl
theorem n_89 : (Jvm.Cond.fieldLinkNest "ElasticKernel" (111 : Nat) "ElasticKernel$Task" "solvedPeriod" "I" "ElasticKernel") ∈ ek_nest := List.mem_of_getElem? (i := 16) rfl
theorem n_90 : (Jvm.Cond.fieldLinkNest "ElasticKernel$Springs" (130 : Nat) "ElasticKernel$Task" "solvedPeriod" "I" "ElasticKernel") ∈ ek_nest := List.mem_of_getElem? (i := 17) rfl
theorem n_92 : (Jvm.Cond.fieldLinkNest "ElasticKernel" (114 : Nat) "ElasticKernel$Task" "end" "I" "ElasticKernel") ∈ ek_nest := List.mem_of_getElem? (i := 18) rfl
theorem n_94 : (Jvm.Cond.fieldLinkNest "ElasticKernel" (117 : Nat) "ElasticKernel$Task" "needs" "I" "ElasticKernel") ∈ ek_nest := List.mem_of_getElem? (i := 19) rfl
theorem n_96 : (Jvm.Cond.fieldLinkNest "ElasticKernel" (71 : Nat) "ElasticKernel$Task" "told" "I" "ElasticKernel") ∈ ek_nest := List.mem_of_getElem? (i := 20) rfl
theorem n_98 : (Jvm.Cond.fieldLinkNest "ElasticKernel" (120 : Nat) "ElasticKernel$Task" "ends" "I" "ElasticKernel") ∈ ek_nest := List.mem_of_getElem? (i := 21) rfl
theorem n_100 : (Jvm.Cond.fieldLinkNest "ElasticKernel" (123 : Nat) "ElasticKernel$Task" "latestEnd" "I" "ElasticKernel") ∈ ek_nest := List.mem_of_getElem? (i := 22) rfl
theorem n_101 : (Jvm.Cond.fieldLinkNest "ElasticKernel$Springs" (105 : Nat) "ElasticKernel$Task" "isPinned" "Z" "ElasticKernel") ∈ ek_nest := List.mem_of_getElem? (i := 23) rfl
theorem n_103 : (Jvm.Cond.fieldLinkNest "ElasticKernel" (130 : Nat) "ElasticKernel$Task" "solvedLoad" "LElasticKernel$Fraction;" "ElasticKernel") ∈ ek_nest := List.mem_of_getElem? (i := 24) rfl
theorem n_104 : (Jvm.Cond.fieldLinkNest "ElasticKernel$Springs" (123 : Nat) "ElasticKernel$Task" "solvedLoad" "LElasticKernel$Fraction;" "ElasticKernel") ∈ ek_nest := List.mem_of_getElem? (i := 25) rfl
theorem n_137 : (Jvm.Cond.fieldLinkNest "ElasticKernel$Springs" (44 : Nat) "ElasticKernel$Roster" "row" "[LElasticKernel$Task;" "ElasticKernel") ∈ ek_nest := List.mem_of_getElem? (i := 26) rfl
theorem n_138 : (Jvm.Cond.fieldLinkNest "ElasticKernel" (187 : Nat) "ElasticKernel$Roster" "row" "[LElasticKernel$Task;" "ElasticKernel") ∈ ek_nest := List.mem_of_getElem? (i := 27) rfl
theorem n_140 : (Jvm.Cond.fieldLinkNest "ElasticKernel$Springs" (38 : Nat) "ElasticKernel$Roster" "size" "I" "ElasticKernel") ∈ ek_nest := List.mem_of_getElem? (i := 28) rfl
theorem n_141 : (Jvm.Cond.fieldLinkNest "ElasticKernel" (151 : Nat) "ElasticKernel$Roster" "size" "I" "ElasticKernel") ∈ ek_nest := List.mem_of_getElem? (i := 29) rfl
theorem n_177 : (Jvm.Cond.fieldLinkNest "ElasticKernel" (138 : Nat) "ElasticKernel$Springs" "allLoads" "LElasticKernel$Fraction;" "ElasticKernel") ∈ ek_nest := List.mem_of_getElem? (i := 30) rfl
def T_Dv : u_T := fun k => match k with
  | 0 => ("ElasticKernel$Divider", "quotient", "LElasticKernel$Natural;", true)
  | 1 => ("ElasticKernel$Divider", "shifted", "LElasticKernel$Natural;", true)
  | 2 => ("ElasticKernel$Divider", "first", "LElasticKernel$Natural;", true)
  | _ => ("ElasticKernel$Divider", "second", "LElasticKernel$Natural;", true)
def ty_Dv : Nat → FieldType := fun k => match k with
  | 0 => .object "ElasticKernel$Natural"
  | 1 => .object "ElasticKernel$Natural"
  | 2 => .object "ElasticKernel$Natural"
  | _ => .object "ElasticKernel$Natural"
theorem nm_Dv : ∀ a, a < 4 → ∀ b, b < 4 → a ≠ b → (T_Dv a).2.1 ≠ (T_Dv b).2.1 := by decide +kernel
theorem ty_Dv_ok : ∀ k, k < 4 → parseFieldDescriptor (T_Dv k).2.2.1 = some (ty_Dv k) := by decide +kernel
theorem in_Dv : ∀ w ∈ u_ws "ElasticKernel$Divider" T_Dv 4, w ∈ lw_g := by
  intro w hw
  obtain ⟨k, hk, rfl⟩ := List.mem_map.mp hw
  have hk := List.mem_range.mp hk
  match k, hk with
  | 0, _ => exact q_167
  | 1, _ => exact q_169
  | 2, _ => exact q_171
  | 3, _ => exact q_173
  | j + 4, h => exact absurd h (by omega)
def T_Fr : u_T := fun k => match k with
  | 0 => ("ElasticKernel$Fraction", "above", "LElasticKernel$Natural;", true)
  | _ => ("ElasticKernel$Fraction", "below", "LElasticKernel$Natural;", true)
def ty_Fr : Nat → FieldType := fun k => match k with
  | 0 => .object "ElasticKernel$Natural"
  | _ => .object "ElasticKernel$Natural"
theorem nm_Fr : ∀ a, a < 2 → ∀ b, b < 2 → a ≠ b → (T_Fr a).2.1 ≠ (T_Fr b).2.1 := by decide +kernel
theorem ty_Fr_ok : ∀ k, k < 2 → parseFieldDescriptor (T_Fr k).2.2.1 = some (ty_Fr k) := by decide +kernel
theorem in_Fr : ∀ w ∈ u_ws "ElasticKernel$Fraction" T_Fr 2, w ∈ lw_g := by
  intro w hw
  obtain ⟨k, hk, rfl⟩ := List.mem_map.mp hw
  have hk := List.mem_range.mp hk
  match k, hk with
  | 0, _ => exact q_67
  | 1, _ => exact q_69
  | j + 2, h => exact absurd h (by omega)
def T_Na : u_T := fun k => match k with
  | _ => ("ElasticKernel$Natural", "words", "[I", true)
def ty_Na : Nat → FieldType := fun k => match k with
  | _ => .array (.int)
theorem nm_Na : ∀ a, a < 1 → ∀ b, b < 1 → a ≠ b → (T_Na a).2.1 ≠ (T_Na b).2.1 := by decide +kernel
theorem ty_Na_ok : ∀ k, k < 1 → parseFieldDescriptor (T_Na k).2.2.1 = some (ty_Na k) := by decide +kernel
theorem in_Na : ∀ w ∈ u_ws "ElasticKernel$Natural" T_Na 1, w ∈ lw_g := by
  intro w hw
  obtain ⟨k, hk, rfl⟩ := List.mem_map.mp hw
  have hk := List.mem_range.mp hk
  match k, hk with
  | 0, _ => exact q_50
  | j + 1, h => exact absurd h (by omega)
def T_Ro : u_T := fun k => match k with
  | 0 => ("ElasticKernel$Roster", "row", "[LElasticKernel$Task;", true)
  | _ => ("ElasticKernel$Roster", "size", "I", false)
def ty_Ro : Nat → FieldType := fun k => match k with
  | 0 => .array (.object "ElasticKernel$Task")
  | _ => .int
theorem nm_Ro : ∀ a, a < 2 → ∀ b, b < 2 → a ≠ b → (T_Ro a).2.1 ≠ (T_Ro b).2.1 := by decide +kernel
theorem ty_Ro_ok : ∀ k, k < 2 → parseFieldDescriptor (T_Ro k).2.2.1 = some (ty_Ro k) := by decide +kernel
theorem in_Ro : ∀ w ∈ u_ws "ElasticKernel$Roster" T_Ro 2, w ∈ lw_g := by
  intro w hw
  obtain ⟨k, hk, rfl⟩ := List.mem_map.mp hw
  have hk := List.mem_range.mp hk
  match k, hk with
  | 0, _ => exact q_142
  | 1, _ => exact q_144
  | j + 2, h => exact absurd h (by omega)
def T_Sp : u_T := fun k => match k with
  | 0 => ("ElasticKernel$Springs", "allLoads", "LElasticKernel$Fraction;", true)
  | 1 => ("ElasticKernel$Springs", "sum", "LElasticKernel$Fraction;", true)
  | 2 => ("ElasticKernel$Springs", "softness", "LElasticKernel$Fraction;", true)
  | 3 => ("ElasticKernel$Springs", "push", "LElasticKernel$Fraction;", true)
  | _ => ("ElasticKernel$Springs", "divider", "LElasticKernel$Divider;", true)
def ty_Sp : Nat → FieldType := fun k => match k with
  | 0 => .object "ElasticKernel$Fraction"
  | 1 => .object "ElasticKernel$Fraction"
  | 2 => .object "ElasticKernel$Fraction"
  | 3 => .object "ElasticKernel$Fraction"
  | _ => .object "ElasticKernel$Divider"
theorem nm_Sp : ∀ a, a < 5 → ∀ b, b < 5 → a ≠ b → (T_Sp a).2.1 ≠ (T_Sp b).2.1 := by decide +kernel
theorem ty_Sp_ok : ∀ k, k < 5 → parseFieldDescriptor (T_Sp k).2.2.1 = some (ty_Sp k) := by decide +kernel
theorem in_Sp : ∀ w ∈ u_ws "ElasticKernel$Springs" T_Sp 5, w ∈ lw_g := by
  intro w hw
  obtain ⟨k, hk, rfl⟩ := List.mem_map.mp hw
  have hk := List.mem_range.mp hk
  match k, hk with
  | 0, _ => exact q_182
  | 1, _ => exact q_184
  | 2, _ => exact q_186
  | 3, _ => exact q_188
  | 4, _ => exact q_190
  | j + 5, h => exact absurd h (by omega)
def T_Ta : u_T := fun k => match k with
  | 0 => ("ElasticKernel$Task", "id", "I", false)
  | 1 => ("ElasticKernel$Task", "cost", "I", false)
  | 2 => ("ElasticKernel$Task", "shortest", "I", false)
  | 3 => ("ElasticKernel$Task", "longest", "I", false)
  | 4 => ("ElasticKernel$Task", "stiffness", "I", false)
  | 5 => ("ElasticKernel$Task", "phase", "I", false)
  | 6 => ("ElasticKernel$Task", "period", "I", false)
  | 7 => ("ElasticKernel$Task", "solvedPeriod", "I", false)
  | 8 => ("ElasticKernel$Task", "end", "I", false)
  | 9 => ("ElasticKernel$Task", "needs", "I", false)
  | 10 => ("ElasticKernel$Task", "told", "I", false)
  | 11 => ("ElasticKernel$Task", "ends", "I", false)
  | 12 => ("ElasticKernel$Task", "latestEnd", "I", false)
  | 13 => ("ElasticKernel$Task", "isPinned", "Z", false)
  | _ => ("ElasticKernel$Task", "solvedLoad", "LElasticKernel$Fraction;", true)
def ty_Ta : Nat → FieldType := fun k => match k with
  | 0 => .int
  | 1 => .int
  | 2 => .int
  | 3 => .int
  | 4 => .int
  | 5 => .int
  | 6 => .int
  | 7 => .int
  | 8 => .int
  | 9 => .int
  | 10 => .int
  | 11 => .int
  | 12 => .int
  | 13 => .boolean
  | _ => .object "ElasticKernel$Fraction"
theorem nm_Ta : ∀ a, a < 15 → ∀ b, b < 15 → a ≠ b → (T_Ta a).2.1 ≠ (T_Ta b).2.1 := by decide +kernel
theorem ty_Ta_ok : ∀ k, k < 15 → parseFieldDescriptor (T_Ta k).2.2.1 = some (ty_Ta k) := by decide +kernel
theorem in_Ta : ∀ w ∈ u_ws "ElasticKernel$Task" T_Ta 15, w ∈ lw_g := by
  intro w hw
  obtain ⟨k, hk, rfl⟩ := List.mem_map.mp hw
  have hk := List.mem_range.mp hk
  match k, hk with
  | 0, _ => exact q_105
  | 1, _ => exact q_107
  | 2, _ => exact q_109
  | 3, _ => exact q_111
  | 4, _ => exact q_113
  | 5, _ => exact q_115
  | 6, _ => exact q_117
  | 7, _ => exact q_119
  | 8, _ => exact q_121
  | 9, _ => exact q_123
  | 10, _ => exact q_125
  | 11, _ => exact q_127
  | 12, _ => exact q_129
  | 13, _ => exact q_131
  | 14, _ => exact q_133
  | j + 15, h => exact absurd h (by omega)
def T_Ke : u_T := fun k => match k with
  | 0 => ("ElasticKernel", "roster", "LElasticKernel$Roster;", true)
  | 1 => ("ElasticKernel", "springs", "LElasticKernel$Springs;", true)
  | 2 => ("ElasticKernel", "clock", "I", false)
  | 3 => ("ElasticKernel", "allowed", "I", false)
  | 4 => ("ElasticKernel", "missed", "I", false)
  | 5 => ("ElasticKernel", "solves", "I", false)
  | 6 => ("ElasticKernel", "instant", "I", false)
  | _ => ("ElasticKernel", "refusedAt", "I", false)
def ty_Ke : Nat → FieldType := fun k => match k with
  | 0 => .object "ElasticKernel$Roster"
  | 1 => .object "ElasticKernel$Springs"
  | 2 => .int
  | 3 => .int
  | 4 => .int
  | 5 => .int
  | 6 => .int
  | _ => .int
theorem nm_Ke : ∀ a, a < 8 → ∀ b, b < 8 → a ≠ b → (T_Ke a).2.1 ≠ (T_Ke b).2.1 := by decide +kernel
theorem ty_Ke_ok : ∀ k, k < 8 → parseFieldDescriptor (T_Ke k).2.2.1 = some (ty_Ke k) := by decide +kernel
theorem in_Ke : ∀ w ∈ u_ws "ElasticKernel" T_Ke 8, w ∈ lw_g := by
  intro w hw
  obtain ⟨k, hk, rfl⟩ := List.mem_map.mp hw
  have hk := List.mem_range.mp hk
  match k, hk with
  | 0, _ => exact q_201
  | 1, _ => exact q_203
  | 2, _ => exact q_205
  | 3, _ => exact q_207
  | 4, _ => exact q_209
  | 5, _ => exact q_211
  | 6, _ => exact q_213
  | 7, _ => exact q_215
  | j + 8, h => exact absurd h (by omega)
def T_Mo : u_T := fun k => match k with
  | 0 => ("ElasticKernelModel", "code", "I", false)
  | 1 => ("ElasticKernelModel", "clock", "I", false)
  | 2 => ("ElasticKernelModel", "allowed", "I", false)
  | 3 => ("ElasticKernelModel", "missed", "I", false)
  | 4 => ("ElasticKernelModel", "solves", "I", false)
  | 5 => ("ElasticKernelModel", "instant", "I", false)
  | 6 => ("ElasticKernelModel", "refused", "I", false)
  | 7 => ("ElasticKernelModel", "many", "I", false)
  | 8 => ("ElasticKernelModel", "id", "[I", true)
  | 9 => ("ElasticKernelModel", "cost", "[I", true)
  | 10 => ("ElasticKernelModel", "shortest", "[I", true)
  | 11 => ("ElasticKernelModel", "longest", "[I", true)
  | 12 => ("ElasticKernelModel", "stiff", "[I", true)
  | 13 => ("ElasticKernelModel", "state", "[I", true)
  | 14 => ("ElasticKernelModel", "period", "[I", true)
  | 15 => ("ElasticKernelModel", "solved", "[I", true)
  | 16 => ("ElasticKernelModel", "ends", "[I", true)
  | 17 => ("ElasticKernelModel", "needs", "[I", true)
  | 18 => ("ElasticKernelModel", "told", "[I", true)
  | 19 => ("ElasticKernelModel", "done", "[I", true)
  | 20 => ("ElasticKernelModel", "latest", "[I", true)
  | 21 => ("ElasticKernelModel", "due", "[I", true)
  | 22 => ("ElasticKernelModel", "least", "[Z", true)
  | 23 => ("ElasticKernelModel", "word", "[I", true)
  | _ => ("ElasticKernelModel", "rank", "[I", true)
def ty_Mo : Nat → FieldType := fun k => match k with
  | 0 => .int
  | 1 => .int
  | 2 => .int
  | 3 => .int
  | 4 => .int
  | 5 => .int
  | 6 => .int
  | 7 => .int
  | 8 => .array (.int)
  | 9 => .array (.int)
  | 10 => .array (.int)
  | 11 => .array (.int)
  | 12 => .array (.int)
  | 13 => .array (.int)
  | 14 => .array (.int)
  | 15 => .array (.int)
  | 16 => .array (.int)
  | 17 => .array (.int)
  | 18 => .array (.int)
  | 19 => .array (.int)
  | 20 => .array (.int)
  | 21 => .array (.int)
  | 22 => .array (.boolean)
  | 23 => .array (.int)
  | _ => .array (.int)
theorem nm_Mo : ∀ a, a < 25 → ∀ b, b < 25 → a ≠ b → (T_Mo a).2.1 ≠ (T_Mo b).2.1 := by decide +kernel
theorem ty_Mo_ok : ∀ k, k < 25 → parseFieldDescriptor (T_Mo k).2.2.1 = some (ty_Mo k) := by decide +kernel
theorem in_Mo : ∀ w ∈ u_ws "ElasticKernelModel" T_Mo 25, w ∈ lw_g := by
  intro w hw
  obtain ⟨k, hk, rfl⟩ := List.mem_map.mp hw
  have hk := List.mem_range.mp hk
  match k, hk with
  | 0, _ => exact q_601
  | 1, _ => exact q_603
  | 2, _ => exact q_605
  | 3, _ => exact q_607
  | 4, _ => exact q_609
  | 5, _ => exact q_611
  | 6, _ => exact q_613
  | 7, _ => exact q_615
  | 8, _ => exact q_617
  | 9, _ => exact q_619
  | 10, _ => exact q_621
  | 11, _ => exact q_623
  | 12, _ => exact q_625
  | 13, _ => exact q_627
  | 14, _ => exact q_629
  | 15, _ => exact q_631
  | 16, _ => exact q_633
  | 17, _ => exact q_635
  | 18, _ => exact q_637
  | 19, _ => exact q_639
  | 20, _ => exact q_641
  | 21, _ => exact q_643
  | 22, _ => exact q_645
  | 23, _ => exact q_647
  | 24, _ => exact q_649
  | j + 25, h => exact absurd h (by omega)
abbrev ek_TaskC : String := "ElasticKernel$Task"
abbrev vwCl : List vw_C := [("ElasticKernel$Divider", T_Dv, 4), ("ElasticKernel$Fraction", T_Fr, 2), ("ElasticKernel$Natural", T_Na, 1), ("ElasticKernel$Roster", T_Ro, 2), ("ElasticKernel$Springs", T_Sp, 5), ("ElasticKernel$Task", T_Ta, 15), ("ElasticKernel", T_Ke, 8), ("ElasticKernelModel", T_Mo, 25)]
/-- references in fields: how many cells on -/
def ek_ro : Nat → Nat → Nat
  | 1, 0 => 1
  | 1, 1 => 3
  | 1, 2 => 5
  | 1, 3 => 7
  | 2, 0 => 1
  | 2, 1 => 3
  | 3, 0 => 1
  | 4, 0 => 1
  | 5, 0 => 1
  | 5, 1 => 6
  | 5, 2 => 11
  | 5, 3 => 16
  | 5, 4 => 21
  | 6, 14 => 1
  | 7, 0 => 1
  | 7, 1 => 75
  | 8, 8 => 1
  | 8, 9 => 2
  | 8, 10 => 3
  | 8, 11 => 4
  | 8, 12 => 5
  | 8, 13 => 6
  | 8, 14 => 7
  | 8, 15 => 8
  | 8, 16 => 9
  | 8, 17 => 10
  | 8, 18 => 11
  | 8, 19 => 12
  | 8, 20 => 13
  | 8, 21 => 14
  | 8, 22 => 15
  | 8, 23 => 16
  | 8, 24 => 17
  | _, _ => 0
abbrev y_Ke_init : MethodName := ⟨"ElasticKernel", "<init>", "()V"⟩
abbrev y_Ke_add : MethodName := ⟨"ElasticKernel", "add", "(IIIII)I"⟩
abbrev y_Ke_leave : MethodName := ⟨"ElasticKernel", "leave", "(I)Z"⟩
abbrev y_Ke_load : MethodName := ⟨"ElasticKernel", "load", "(I)Z"⟩
abbrev y_Ke_use : MethodName := ⟨"ElasticKernel", "use", "(II)Z"⟩
abbrev y_Ke_tick : MethodName := ⟨"ElasticKernel", "tick", "(I)I"⟩
abbrev y_Ke_task : MethodName := ⟨"ElasticKernel", "task", "(II)I"⟩
abbrev y_Ke_rate : MethodName := ⟨"ElasticKernel", "rate", "(III)I"⟩
abbrev y_Ke_total : MethodName := ⟨"ElasticKernel", "total", "(II)I"⟩
abbrev y_Ke_state : MethodName := ⟨"ElasticKernel", "state", "(I)I"⟩
abbrev y_Ke_isWithin : MethodName := ⟨"ElasticKernel", "isWithin", "(II)Z"⟩
abbrev y_Ke_arePeriods : MethodName := ⟨"ElasticKernel", "arePeriods", "(III)Z"⟩
abbrev y_Ke_wordOf : MethodName := ⟨"ElasticKernel", "wordOf", "(LElasticKernel$Fraction;II)I"⟩
abbrev y_Ke_isRefused : MethodName := ⟨"ElasticKernel", "isRefused", "(I)Z"⟩
abbrev y_Ke_solve : MethodName := ⟨"ElasticKernel", "solve", "()V"⟩
abbrev y_Ke_beginTick : MethodName := ⟨"ElasticKernel", "beginTick", "()V"⟩
abbrev y_Ke_dismissLeavers : MethodName := ⟨"ElasticKernel", "dismissLeavers", "()V"⟩
abbrev y_Ke_countIfLate : MethodName := ⟨"ElasticKernel", "countIfLate", "(LElasticKernel$Task;)V"⟩
abbrev y_Ke_mostUrgent : MethodName := ⟨"ElasticKernel", "mostUrgent", "()LElasticKernel$Task;"⟩
abbrev y_Ke_ticksAlike : MethodName := ⟨"ElasticKernel", "ticksAlike", "(LElasticKernel$Task;)I"⟩
abbrev y_Mo_init : MethodName := ⟨"ElasticKernelModel", "<init>", "()V"⟩
abbrev y_Mo_thrown : MethodName := ⟨"ElasticKernelModel", "thrown", "()I"⟩
abbrev y_Mo_be : MethodName := ⟨"ElasticKernelModel", "be", "(IJ)V"⟩
abbrev y_Mo_copy : MethodName := ⟨"ElasticKernelModel", "copy", "(II)V"⟩
abbrev y_Mo_compare : MethodName := ⟨"ElasticKernelModel", "compare", "(II)I"⟩
abbrev y_Mo_isZero : MethodName := ⟨"ElasticKernelModel", "isZero", "(I)Z"⟩
abbrev y_Mo_add3 : MethodName := ⟨"ElasticKernelModel", "add", "(IIZ)V"⟩
abbrev y_Mo_times : MethodName := ⟨"ElasticKernelModel", "times", "(II)V"⟩
abbrev y_Mo_product : MethodName := ⟨"ElasticKernelModel", "product", "(III)V"⟩
abbrev y_Mo_halve : MethodName := ⟨"ElasticKernelModel", "halve", "(I)V"⟩
abbrev y_Mo_isEven : MethodName := ⟨"ElasticKernelModel", "isEven", "(I)Z"⟩
abbrev y_Mo_reduce : MethodName := ⟨"ElasticKernelModel", "reduce", "(II)V"⟩
abbrev y_Mo_quotient : MethodName := ⟨"ElasticKernelModel", "quotient", "(I)V"⟩
abbrev y_Mo_counts : MethodName := ⟨"ElasticKernelModel", "counts", "(I)Z"⟩
abbrev y_Mo_addFraction : MethodName := ⟨"ElasticKernelModel", "addFraction", "(II)V"⟩
abbrev y_Mo_isAbove : MethodName := ⟨"ElasticKernelModel", "isAbove", "(I)Z"⟩
abbrev y_Mo_none : MethodName := ⟨"ElasticKernelModel", "none", "()V"⟩
abbrev y_Mo_isSofter : MethodName := ⟨"ElasticKernelModel", "isSofter", "(II)Z"⟩
abbrev y_Mo_rankOf : MethodName := ⟨"ElasticKernelModel", "rankOf", "(I)I"⟩
abbrev y_Mo_tryLeast : MethodName := ⟨"ElasticKernelModel", "tryLeast", "(I)Z"⟩
abbrev y_Mo_fits : MethodName := ⟨"ElasticKernelModel", "fits", "(I)Z"⟩
abbrev y_Mo_solve : MethodName := ⟨"ElasticKernelModel", "solve", "()V"⟩
abbrev y_Mo_press : MethodName := ⟨"ElasticKernelModel", "press", "(II)V"⟩
abbrev y_Mo_settle : MethodName := ⟨"ElasticKernelModel", "settle", "(I)V"⟩
abbrev y_Mo_findInstant : MethodName := ⟨"ElasticKernelModel", "findInstant", "()V"⟩
abbrev y_Mo_find : MethodName := ⟨"ElasticKernelModel", "find", "(I)I"⟩
abbrev y_Mo_move : MethodName := ⟨"ElasticKernelModel", "move", "(II)V"⟩
abbrev y_Mo_remove : MethodName := ⟨"ElasticKernelModel", "remove", "(I)V"⟩
abbrev y_Mo_tooMuch : MethodName := ⟨"ElasticKernelModel", "tooMuch", "(I)I"⟩
abbrev y_Mo_add5 : MethodName := ⟨"ElasticKernelModel", "add", "(IIIII)I"⟩
abbrev y_Mo_leave : MethodName := ⟨"ElasticKernelModel", "leave", "(I)Z"⟩
abbrev y_Mo_load : MethodName := ⟨"ElasticKernelModel", "load", "(I)Z"⟩
abbrev y_Mo_use : MethodName := ⟨"ElasticKernelModel", "use", "(II)Z"⟩
abbrev y_Mo_release : MethodName := ⟨"ElasticKernelModel", "release", "(IZ)V"⟩
abbrev y_Mo_step : MethodName := ⟨"ElasticKernelModel", "step", "()I"⟩
abbrev y_Mo_tick : MethodName := ⟨"ElasticKernelModel", "tick", "(I)I"⟩
abbrev y_Mo_task : MethodName := ⟨"ElasticKernelModel", "task", "(II)I"⟩
abbrev y_Mo_wordOf : MethodName := ⟨"ElasticKernelModel", "wordOf", "(III)I"⟩
abbrev y_Mo_rate : MethodName := ⟨"ElasticKernelModel", "rate", "(III)I"⟩
abbrev y_Mo_total : MethodName := ⟨"ElasticKernelModel", "total", "(II)I"⟩
abbrev y_Mo_unused : MethodName := ⟨"ElasticKernelModel", "unused", "()I"⟩
abbrev y_Mo_state : MethodName := ⟨"ElasticKernelModel", "state", "(I)I"⟩
abbrev y_Dv_init : MethodName := ⟨"ElasticKernel$Divider", "<init>", "()V"⟩
abbrev y_Dv_ratioUp : MethodName := ⟨"ElasticKernel$Divider", "ratioUp", "(LElasticKernel$Natural;ILElasticKernel$Natural;)I"⟩
abbrev y_Dv_reduce : MethodName := ⟨"ElasticKernel$Divider", "reduce", "(LElasticKernel$Fraction;)V"⟩
abbrev y_Dv_divide : MethodName := ⟨"ElasticKernel$Divider", "divide", "(LElasticKernel$Natural;LElasticKernel$Natural;)V"⟩
abbrev y_Fr_init : MethodName := ⟨"ElasticKernel$Fraction", "<init>", "()V"⟩
abbrev y_Fr_set : MethodName := ⟨"ElasticKernel$Fraction", "set", "(II)V"⟩
abbrev y_Fr_copy : MethodName := ⟨"ElasticKernel$Fraction", "copy", "(LElasticKernel$Fraction;)V"⟩
abbrev y_Fr_setRatio : MethodName := ⟨"ElasticKernel$Fraction", "setRatio", "(LElasticKernel$Fraction;LElasticKernel$Fraction;)V"⟩
abbrev y_Fr_divideBy : MethodName := ⟨"ElasticKernel$Fraction", "divideBy", "(I)V"⟩
abbrev y_Fr_compare : MethodName := ⟨"ElasticKernel$Fraction", "compare", "(JJ)I"⟩
abbrev y_Fr_join : MethodName := ⟨"ElasticKernel$Fraction", "join", "(III)V"⟩
abbrev y_Fr_commonFactor : MethodName := ⟨"ElasticKernel$Fraction", "commonFactor", "(II)I"⟩
abbrev y_Na_init : MethodName := ⟨"ElasticKernel$Natural", "<init>", "()V"⟩
abbrev y_Na_word : MethodName := ⟨"ElasticKernel$Natural", "word", "(I)I"⟩
abbrev y_Na_isZero : MethodName := ⟨"ElasticKernel$Natural", "isZero", "()Z"⟩
abbrev y_Na_bitLength : MethodName := ⟨"ElasticKernel$Natural", "bitLength", "()I"⟩
abbrev y_Na_set : MethodName := ⟨"ElasticKernel$Natural", "set", "(I)V"⟩
abbrev y_Na_copy : MethodName := ⟨"ElasticKernel$Natural", "copy", "(LElasticKernel$Natural;)V"⟩
abbrev y_Na_setBit : MethodName := ⟨"ElasticKernel$Natural", "setBit", "(I)V"⟩
abbrev y_Na_setShifted : MethodName := ⟨"ElasticKernel$Natural", "setShifted", "(LElasticKernel$Natural;I)V"⟩
abbrev y_Na_setProduct : MethodName := ⟨"ElasticKernel$Natural", "setProduct", "(LElasticKernel$Natural;LElasticKernel$Natural;)V"⟩
abbrev y_Na_multiply : MethodName := ⟨"ElasticKernel$Natural", "multiply", "(I)V"⟩
abbrev y_Na_weigh : MethodName := ⟨"ElasticKernel$Natural", "weigh", "(JLElasticKernel$Natural;J)V"⟩
abbrev y_Na_remainder : MethodName := ⟨"ElasticKernel$Natural", "remainder", "(I)I"⟩
abbrev y_Na_divideExactly : MethodName := ⟨"ElasticKernel$Natural", "divideExactly", "(I)V"⟩
abbrev y_Na_compareProducts : MethodName := ⟨"ElasticKernel$Natural", "compareProducts", "(LElasticKernel$Natural;JLElasticKernel$Natural;J)I"⟩
abbrev y_Ro_init : MethodName := ⟨"ElasticKernel$Roster", "<init>", "()V"⟩
abbrev y_Ro_find : MethodName := ⟨"ElasticKernel$Roster", "find", "(I)LElasticKernel$Task;"⟩
abbrev y_Ro_enter : MethodName := ⟨"ElasticKernel$Roster", "enter", "(I)LElasticKernel$Task;"⟩
abbrev y_Ro_drop : MethodName := ⟨"ElasticKernel$Roster", "drop", "(LElasticKernel$Task;)V"⟩
abbrev y_Sp_init : MethodName := ⟨"ElasticKernel$Springs", "<init>", "()V"⟩
abbrev y_Sp_firstTooMuch : MethodName := ⟨"ElasticKernel$Springs", "firstTooMuch", "(LElasticKernel$Roster;I)I"⟩
abbrev y_Sp_thousandthsInUse : MethodName := ⟨"ElasticKernel$Springs", "thousandthsInUse", "()I"⟩
abbrev y_Sp_haveRoom : MethodName := ⟨"ElasticKernel$Springs", "haveRoom", "(LElasticKernel$Roster;I)Z"⟩
abbrev y_Sp_relax : MethodName := ⟨"ElasticKernel$Springs", "relax", "()V"⟩
abbrev y_Sp_press : MethodName := ⟨"ElasticKernel$Springs", "press", "(LElasticKernel$Roster;I)V"⟩
abbrev y_Sp_unpin : MethodName := ⟨"ElasticKernel$Springs", "unpin", "(LElasticKernel$Roster;)V"⟩
abbrev y_Sp_addUp : MethodName := ⟨"ElasticKernel$Springs", "addUp", "(LElasticKernel$Roster;)V"⟩
abbrev y_Sp_addUpSoftness : MethodName := ⟨"ElasticKernel$Springs", "addUpSoftness", "(LElasticKernel$Roster;)V"⟩
abbrev y_Sp_pinPressed : MethodName := ⟨"ElasticKernel$Springs", "pinPressed", "(LElasticKernel$Roster;)Z"⟩
abbrev y_Sp_isTooMuchFor : MethodName := ⟨"ElasticKernel$Springs", "isTooMuchFor", "(LElasticKernel$Task;)Z"⟩
abbrev y_Sp_setLoad : MethodName := ⟨"ElasticKernel$Springs", "setLoad", "(LElasticKernel$Task;)V"⟩
abbrev y_Ta_init : MethodName := ⟨"ElasticKernel$Task", "<init>", "()V"⟩
abbrev y_Ta_announce : MethodName := ⟨"ElasticKernel$Task", "announce", "(IIII)V"⟩
abbrev y_Ta_isSolved : MethodName := ⟨"ElasticKernel$Task", "isSolved", "()Z"⟩
abbrev y_Ta_holdsUpChange : MethodName := ⟨"ElasticKernel$Task", "holdsUpChange", "()Z"⟩
abbrev y_Ta_isPressedFlat : MethodName := ⟨"ElasticKernel$Task", "isPressedFlat", "()Z"⟩
abbrev y_Ta_release : MethodName := ⟨"ElasticKernel$Task", "release", "(IZ)V"⟩
abbrev y_Ta_work : MethodName := ⟨"ElasticKernel$Task", "work", "(II)V"⟩
abbrev y_Ta_finish : MethodName := ⟨"ElasticKernel$Task", "finish", "(I)V"⟩
abbrev y_Ig_numberOfLeadingZeros : MethodName := ⟨"java/lang/Integer", "numberOfLeadingZeros", "(I)I"⟩
