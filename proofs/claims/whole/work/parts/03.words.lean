/-- the good words of the tables -/
def UU : List Cond := lw_tbl.filter goodWord
theorem UU_of {w : Cond} (h : w ∈ lw_tbl) (g : goodWord w = true) : w ∈ UU := List.mem_filter.mpr ⟨h, g⟩
theorem UU_tbl {w : Cond} (h : w ∈ UU) : w ∈ lw_tbl := (List.mem_filter.mp h).1
theorem UU_good {w : Cond} (h : w ∈ UU) : goodWord w = true := (List.mem_filter.mp h).2
theorem tb_1 {w : Cond} (h : w ∈ tables_1_1) (g : goodWord w = true) : w ∈ UU := UU_of (List.mem_append_right _ (List.mem_append_left _ h)) g
theorem tb_2 {w : Cond} (h : w ∈ tables_1_2) (g : goodWord w = true) : w ∈ UU := UU_of (List.mem_append_right _ (List.mem_append_right _ (List.mem_append_left _ h))) g
theorem tb_3 {w : Cond} (h : w ∈ tables_1_3) (g : goodWord w = true) : w ∈ UU := UU_of (List.mem_append_right _ (List.mem_append_right _ (List.mem_append_right _ (List.mem_append_left _ h)))) g
theorem tb_4 {w : Cond} (h : w ∈ tables_1_4) (g : goodWord w = true) : w ∈ UU := UU_of (List.mem_append_right _ (List.mem_append_right _ (List.mem_append_right _ (List.mem_append_right _ (List.mem_append_left _ h))))) g
theorem tb_5 {w : Cond} (h : w ∈ tables_1_5) (g : goodWord w = true) : w ∈ UU := UU_of (List.mem_append_right _ (List.mem_append_right _ (List.mem_append_right _ (List.mem_append_right _ (List.mem_append_right _ (List.mem_append_left _ h)))))) g
theorem tb_6 {w : Cond} (h : w ∈ tables_1_6) (g : goodWord w = true) : w ∈ UU := UU_of (List.mem_append_right _ (List.mem_append_right _ (List.mem_append_right _ (List.mem_append_right _ (List.mem_append_right _ (List.mem_append_right _ (List.mem_append_left _ h))))))) g
theorem tb_7 {w : Cond} (h : w ∈ tables_1_7) (g : goodWord w = true) : w ∈ UU := UU_of (List.mem_append_right _ (List.mem_append_right _ (List.mem_append_right _ (List.mem_append_right _ (List.mem_append_right _ (List.mem_append_right _ (List.mem_append_right _ (List.mem_append_left _ h)))))))) g
theorem tb_8 {w : Cond} (h : w ∈ tables_1_8) (g : goodWord w = true) : w ∈ UU := UU_of (List.mem_append_right _ (List.mem_append_right _ (List.mem_append_right _ (List.mem_append_right _ (List.mem_append_right _ (List.mem_append_right _ (List.mem_append_right _ (List.mem_append_right _ (h))))))))) g
theorem pv_1 {q : MethodName × Nat} (h : q ∈ lw_privs_1) : Cond.selects q.1.cls q.1 q.1 ∈ UU := UU_of (List.mem_append_left _ (List.mem_map.mpr ⟨q, List.mem_append_left _ h, rfl⟩)) rfl
theorem pv_2 {q : MethodName × Nat} (h : q ∈ lw_privs_2) : Cond.selects q.1.cls q.1 q.1 ∈ UU := UU_of (List.mem_append_left _ (List.mem_map.mpr ⟨q, List.mem_append_right _ (List.mem_append_left _ h), rfl⟩)) rfl
theorem pv_3 {q : MethodName × Nat} (h : q ∈ lw_privs_3) : Cond.selects q.1.cls q.1 q.1 ∈ UU := UU_of (List.mem_append_left _ (List.mem_map.mpr ⟨q, List.mem_append_right _ (List.mem_append_right _ (List.mem_append_left _ h)), rfl⟩)) rfl
theorem pv_4 {q : MethodName × Nat} (h : q ∈ lw_privs_4) : Cond.selects q.1.cls q.1 q.1 ∈ UU := UU_of (List.mem_append_left _ (List.mem_map.mpr ⟨q, List.mem_append_right _ (List.mem_append_right _ (List.mem_append_right _ (List.mem_append_left _ h))), rfl⟩)) rfl
theorem pv_5 {q : MethodName × Nat} (h : q ∈ lw_privs_5) : Cond.selects q.1.cls q.1 q.1 ∈ UU := UU_of (List.mem_append_left _ (List.mem_map.mpr ⟨q, List.mem_append_right _ (List.mem_append_right _ (List.mem_append_right _ (List.mem_append_right _ (List.mem_append_left _ h)))), rfl⟩)) rfl
theorem pv_6 {q : MethodName × Nat} (h : q ∈ lw_privs_6) : Cond.selects q.1.cls q.1 q.1 ∈ UU := UU_of (List.mem_append_left _ (List.mem_map.mpr ⟨q, List.mem_append_right _ (List.mem_append_right _ (List.mem_append_right _ (List.mem_append_right _ (List.mem_append_right _ (List.mem_append_left _ h))))), rfl⟩)) rfl
theorem pv_7 {q : MethodName × Nat} (h : q ∈ lw_privs_7) : Cond.selects q.1.cls q.1 q.1 ∈ UU := UU_of (List.mem_append_left _ (List.mem_map.mpr ⟨q, List.mem_append_right _ (List.mem_append_right _ (List.mem_append_right _ (List.mem_append_right _ (List.mem_append_right _ (List.mem_append_right _ (h)))))), rfl⟩)) rfl
theorem u1_0 : (Jvm.Cond.initialized "GapLinksLaw") ∈ UU := tb_1 (List.mem_of_getElem? (i := 0) rfl) rfl
theorem u1_1 : (Jvm.Cond.initialized "GapLinks") ∈ UU := tb_1 (List.mem_of_getElem? (i := 1) rfl) rfl
theorem u1_2 : (Jvm.Cond.initialized "GapLinks$Reader") ∈ UU := tb_1 (List.mem_of_getElem? (i := 2) rfl) rfl
theorem u1_3 : (Jvm.Cond.initialized "GapLinks$Plan") ∈ UU := tb_1 (List.mem_of_getElem? (i := 3) rfl) rfl
theorem u1_4 : (Jvm.Cond.initialized "GapLinks$Ways") ∈ UU := tb_1 (List.mem_of_getElem? (i := 4) rfl) rfl
theorem u1_5 : (Jvm.Cond.initialized "GapLinks$Envelope") ∈ UU := tb_1 (List.mem_of_getElem? (i := 5) rfl) rfl
theorem u1_6 : (Jvm.Cond.initialized "GapLinks$State") ∈ UU := tb_1 (List.mem_of_getElem? (i := 6) rfl) rfl
theorem u1_7 : (Jvm.Cond.initialized "GapLinks$Ports") ∈ UU := tb_1 (List.mem_of_getElem? (i := 7) rfl) rfl
theorem u1_8 : (Jvm.Cond.initialized "GapLinks$Ears") ∈ UU := tb_1 (List.mem_of_getElem? (i := 8) rfl) rfl
theorem u1_9 : (Jvm.Cond.initialized "GapLinksModel") ∈ UU := tb_1 (List.mem_of_getElem? (i := 9) rfl) rfl
theorem u1_10 : (Jvm.Cond.initialized "java/lang/Math") ∈ UU := tb_1 (List.mem_of_getElem? (i := 10) rfl) rfl
theorem u1_11 : (Jvm.Cond.initialized "java/lang/Number") ∈ UU := tb_1 (List.mem_of_getElem? (i := 11) rfl) rfl
theorem u1_12 : (Jvm.Cond.initialized "java/lang/Integer") ∈ UU := tb_1 (List.mem_of_getElem? (i := 12) rfl) rfl
theorem u1_13 : (Jvm.Cond.initialized "java/util/Arrays") ∈ UU := tb_1 (List.mem_of_getElem? (i := 13) rfl) rfl
theorem u1_14 : (Jvm.Cond.initialized "java/lang/String") ∈ UU := tb_1 (List.mem_of_getElem? (i := 14) rfl) rfl
theorem u1_15 : (Jvm.Cond.initialized "java/lang/StringLatin1") ∈ UU := tb_1 (List.mem_of_getElem? (i := 15) rfl) rfl
theorem u1_16 : (Jvm.Cond.initialized "jdk/internal/util/Preconditions") ∈ UU := tb_1 (List.mem_of_getElem? (i := 16) rfl) rfl
theorem u1_17 : (Jvm.Cond.initialized "java/lang/StringUTF16") ∈ UU := tb_1 (List.mem_of_getElem? (i := 17) rfl) rfl
theorem u1_18 : (Jvm.Cond.initialized "java/lang/Long") ∈ UU := tb_1 (List.mem_of_getElem? (i := 18) rfl) rfl
theorem u1_19 : (Jvm.Cond.initialized "java/lang/System") ∈ UU := tb_1 (List.mem_of_getElem? (i := 19) rfl) rfl
theorem u1_20 : (Jvm.Cond.initialized "java/lang/Throwable") ∈ UU := tb_1 (List.mem_of_getElem? (i := 20) rfl) rfl
theorem u1_21 : (Jvm.Cond.initialized "java/lang/Exception") ∈ UU := tb_1 (List.mem_of_getElem? (i := 21) rfl) rfl
theorem u1_22 : (Jvm.Cond.initialized "java/lang/RuntimeException") ∈ UU := tb_1 (List.mem_of_getElem? (i := 22) rfl) rfl
theorem u1_23 : (Jvm.Cond.initialized "java/util/NoSuchElementException") ∈ UU := tb_1 (List.mem_of_getElem? (i := 23) rfl) rfl
theorem u1_24 : (Jvm.Cond.classLink "GapLinksLaw" (8 : Nat) "GapLinks") ∈ UU := tb_1 (List.mem_of_getElem? (i := 24) rfl) rfl
theorem u1_25 : (Jvm.Cond.instantiable "GapLinks" (10 : Nat)) ∈ UU := tb_1 (List.mem_of_getElem? (i := 25) rfl) rfl
theorem u1_26 : (Jvm.Cond.methodLink "GapLinksLaw" (15 : Nat) ({ cls := "GapLinks", name := "<init>", desc := "()V" } : Jvm.MethodName)) ∈ UU := tb_1 (List.mem_of_getElem? (i := 26) rfl) rfl
theorem u1_27 : (Jvm.Cond.instanceMethod ({ cls := "GapLinks", name := "<init>", desc := "()V" } : Jvm.MethodName)) ∈ UU := tb_1 (List.mem_of_getElem? (i := 27) rfl) rfl
theorem u1_28 : (Jvm.Cond.code ({ cls := "GapLinks", name := "<init>", desc := "()V" } : Jvm.MethodName) prog_1_method_1_code (1 : Nat) (Option.none : Option Jvm.ClassFile.FieldType)) ∈ UU := tb_1 (List.mem_of_getElem? (i := 28) rfl) rfl
theorem u1_29 : (Jvm.Cond.methodLink "GapLinks" (3 : Nat) ({ cls := "java/lang/Object", name := "<init>", desc := "()V" } : Jvm.MethodName)) ∈ UU := tb_1 (List.mem_of_getElem? (i := 29) rfl) rfl
theorem u1_30 : (Jvm.Cond.instanceMethod ({ cls := "java/lang/Object", name := "<init>", desc := "()V" } : Jvm.MethodName)) ∈ UU := tb_1 (List.mem_of_getElem? (i := 30) rfl) rfl
theorem u1_31 : (Jvm.Cond.code ({ cls := "java/lang/Object", name := "<init>", desc := "()V" } : Jvm.MethodName) object_method_1_code (1 : Nat) (Option.none : Option Jvm.ClassFile.FieldType)) ∈ UU := tb_1 (List.mem_of_getElem? (i := 31) rfl) rfl
theorem u1_32 : (Jvm.Cond.classLink "GapLinks" (9 : Nat) "GapLinks$Reader") ∈ UU := tb_1 (List.mem_of_getElem? (i := 32) rfl) rfl
theorem u1_33 : (Jvm.Cond.instantiable "GapLinks$Reader" (12 : Nat)) ∈ UU := tb_1 (List.mem_of_getElem? (i := 33) rfl) rfl
theorem u1_35 : (Jvm.Cond.instanceMethod ({ cls := "GapLinks$Reader", name := "<init>", desc := "()V" } : Jvm.MethodName)) ∈ UU := tb_1 (List.mem_of_getElem? (i := 35) rfl) rfl
theorem u1_36 : (Jvm.Cond.code ({ cls := "GapLinks$Reader", name := "<init>", desc := "()V" } : Jvm.MethodName) prog_6_method_1_code (1 : Nat) (Option.none : Option Jvm.ClassFile.FieldType)) ∈ UU := tb_1 (List.mem_of_getElem? (i := 36) rfl) rfl
theorem u1_37 : (Jvm.Cond.methodLink "GapLinks$Reader" (3 : Nat) ({ cls := "java/lang/Object", name := "<init>", desc := "()V" } : Jvm.MethodName)) ∈ UU := tb_1 (List.mem_of_getElem? (i := 37) rfl) rfl
theorem u1_38 : (Jvm.Cond.classLink "GapLinks$Reader" (19 : Nat) "GapLinks$Plan") ∈ UU := tb_1 (List.mem_of_getElem? (i := 38) rfl) rfl
theorem u1_39 : (Jvm.Cond.instantiable "GapLinks$Plan" (16 : Nat)) ∈ UU := tb_1 (List.mem_of_getElem? (i := 39) rfl) rfl
theorem u1_41 : (Jvm.Cond.instanceMethod ({ cls := "GapLinks$Plan", name := "<init>", desc := "()V" } : Jvm.MethodName)) ∈ UU := tb_1 (List.mem_of_getElem? (i := 41) rfl) rfl
theorem u1_42 : (Jvm.Cond.code ({ cls := "GapLinks$Plan", name := "<init>", desc := "()V" } : Jvm.MethodName) prog_4_method_1_code (1 : Nat) (Option.none : Option Jvm.ClassFile.FieldType)) ∈ UU := tb_1 (List.mem_of_getElem? (i := 42) rfl) rfl
theorem u1_43 : (Jvm.Cond.methodLink "GapLinks$Plan" (3 : Nat) ({ cls := "java/lang/Object", name := "<init>", desc := "()V" } : Jvm.MethodName)) ∈ UU := tb_1 (List.mem_of_getElem? (i := 43) rfl) rfl
theorem u1_44 : (Jvm.Cond.classLink "GapLinks$Plan" (59 : Nat) "GapLinks$Ways") ∈ UU := tb_1 (List.mem_of_getElem? (i := 44) rfl) rfl
theorem u1_45 : (Jvm.Cond.instantiable "GapLinks$Ways" (5 : Nat)) ∈ UU := tb_1 (List.mem_of_getElem? (i := 45) rfl) rfl
theorem u1_47 : (Jvm.Cond.instanceMethod ({ cls := "GapLinks$Ways", name := "<init>", desc := "()V" } : Jvm.MethodName)) ∈ UU := tb_1 (List.mem_of_getElem? (i := 47) rfl) rfl
theorem u1_48 : (Jvm.Cond.code ({ cls := "GapLinks$Ways", name := "<init>", desc := "()V" } : Jvm.MethodName) prog_8_method_1_code (1 : Nat) (Option.none : Option Jvm.ClassFile.FieldType)) ∈ UU := tb_1 (List.mem_of_getElem? (i := 48) rfl) rfl
theorem u1_49 : (Jvm.Cond.methodLink "GapLinks$Ways" (3 : Nat) ({ cls := "java/lang/Object", name := "<init>", desc := "()V" } : Jvm.MethodName)) ∈ UU := tb_1 (List.mem_of_getElem? (i := 49) rfl) rfl
theorem u1_50 : (Jvm.Cond.fieldLink "GapLinks$Ways" (9 : Nat) "GapLinks$Ways" "ports" "[I") ∈ UU := tb_1 (List.mem_of_getElem? (i := 50) rfl) rfl
theorem u1_51 : (Jvm.Cond.fieldLink "GapLinks$Ways" (15 : Nat) "GapLinks$Ways" "lengths" "[I") ∈ UU := tb_1 (List.mem_of_getElem? (i := 51) rfl) rfl
theorem u1_52 : (Jvm.Cond.fieldLink "GapLinks$Envelope" (80 : Nat) "GapLinks$Ways" "lengths" "[I") ∈ UU := tb_1 (List.mem_of_getElem? (i := 52) rfl) rfl
theorem u1_53 : (Jvm.Cond.fieldLink "GapLinks" (348 : Nat) "GapLinks$Ways" "lengths" "[I") ∈ UU := tb_1 (List.mem_of_getElem? (i := 53) rfl) rfl
theorem u1_54 : (Jvm.Cond.fieldLink "GapLinks$Ways" (18 : Nat) "GapLinks$Ways" "users" "[I") ∈ UU := tb_1 (List.mem_of_getElem? (i := 54) rfl) rfl
theorem u1_55 : (Jvm.Cond.fieldLink "GapLinks" (291 : Nat) "GapLinks$Ways" "users" "[I") ∈ UU := tb_1 (List.mem_of_getElem? (i := 55) rfl) rfl
theorem u1_56 : (Jvm.Cond.fieldLink "GapLinks$Ways" (21 : Nat) "GapLinks$Ways" "onward" "[I") ∈ UU := tb_1 (List.mem_of_getElem? (i := 56) rfl) rfl
theorem u1_57 : (Jvm.Cond.fieldLink "GapLinks$State" (176 : Nat) "GapLinks$Ways" "onward" "[I") ∈ UU := tb_1 (List.mem_of_getElem? (i := 57) rfl) rfl
theorem u1_58 : (Jvm.Cond.fieldLink "GapLinks$Ways" (24 : Nat) "GapLinks$Ways" "ahead" "[I") ∈ UU := tb_1 (List.mem_of_getElem? (i := 58) rfl) rfl
theorem u1_59 : (Jvm.Cond.fieldLink "GapLinks$Envelope" (68 : Nat) "GapLinks$Ways" "ahead" "[I") ∈ UU := tb_1 (List.mem_of_getElem? (i := 59) rfl) rfl
theorem u1_60 : (Jvm.Cond.laysFinal "GapLinks$Ways" "GapLinks$Ways" "ports" "[I") ∈ UU := tb_1 (List.mem_of_getElem? (i := 60) rfl) rfl
theorem u1_61 : (Jvm.Cond.soleField "GapLinks$Ways" "ports") ∈ UU := tb_1 (List.mem_of_getElem? (i := 61) rfl) rfl
theorem u1_62 : (Jvm.Cond.laysFinal "GapLinks$Ways" "GapLinks$Ways" "lengths" "[I") ∈ UU := tb_1 (List.mem_of_getElem? (i := 62) rfl) rfl
theorem u1_63 : (Jvm.Cond.soleField "GapLinks$Ways" "lengths") ∈ UU := tb_1 (List.mem_of_getElem? (i := 63) rfl) rfl
theorem u1_64 : (Jvm.Cond.laysFinal "GapLinks$Ways" "GapLinks$Ways" "users" "[I") ∈ UU := tb_1 (List.mem_of_getElem? (i := 64) rfl) rfl
theorem u1_65 : (Jvm.Cond.soleField "GapLinks$Ways" "users") ∈ UU := tb_1 (List.mem_of_getElem? (i := 65) rfl) rfl
theorem u1_66 : (Jvm.Cond.laysFinal "GapLinks$Ways" "GapLinks$Ways" "onward" "[I") ∈ UU := tb_1 (List.mem_of_getElem? (i := 66) rfl) rfl
theorem u1_67 : (Jvm.Cond.soleField "GapLinks$Ways" "onward") ∈ UU := tb_1 (List.mem_of_getElem? (i := 67) rfl) rfl
theorem u1_68 : (Jvm.Cond.laysFinal "GapLinks$Ways" "GapLinks$Ways" "ahead" "[I") ∈ UU := tb_1 (List.mem_of_getElem? (i := 68) rfl) rfl
theorem u1_69 : (Jvm.Cond.soleField "GapLinks$Ways" "ahead") ∈ UU := tb_1 (List.mem_of_getElem? (i := 69) rfl) rfl
theorem u1_70 : (Jvm.Cond.superclass "GapLinks$Ways" "java/lang/Object") ∈ UU := tb_1 (List.mem_of_getElem? (i := 70) rfl) rfl
theorem u1_71 : (Jvm.Cond.arrayClass Jvm.ClassFile.FieldType.byte) ∈ UU := tb_1 (List.mem_of_getElem? (i := 71) rfl) rfl
theorem u1_72 : (Jvm.Cond.arrayClass Jvm.ClassFile.FieldType.int) ∈ UU := tb_1 (List.mem_of_getElem? (i := 72) rfl) rfl
theorem u1_73 : (Jvm.Cond.arrayClass Jvm.ClassFile.FieldType.long) ∈ UU := tb_1 (List.mem_of_getElem? (i := 73) rfl) rfl
theorem u1_74 : (Jvm.Cond.fieldLink "GapLinks$Plan" (9 : Nat) "GapLinks$Plan" "switches" "I") ∈ UU := tb_1 (List.mem_of_getElem? (i := 74) rfl) rfl
theorem u1_75 : (Jvm.Cond.fieldLink "GapLinks$Reader" (102 : Nat) "GapLinks$Plan" "switches" "I") ∈ UU := tb_1 (List.mem_of_getElem? (i := 75) rfl) rfl
theorem u1_76 : (Jvm.Cond.fieldLink "GapLinks" (107 : Nat) "GapLinks$Plan" "switches" "I") ∈ UU := tb_1 (List.mem_of_getElem? (i := 76) rfl) rfl
theorem u1_77 : (Jvm.Cond.fieldLink "GapLinks$Plan" (15 : Nat) "GapLinks$Plan" "room" "I") ∈ UU := tb_1 (List.mem_of_getElem? (i := 77) rfl) rfl
theorem u1_78 : (Jvm.Cond.fieldLink "GapLinks$Reader" (107 : Nat) "GapLinks$Plan" "room" "I") ∈ UU := tb_1 (List.mem_of_getElem? (i := 78) rfl) rfl
theorem u1_79 : (Jvm.Cond.fieldLink "GapLinks" (110 : Nat) "GapLinks$Plan" "room" "I") ∈ UU := tb_1 (List.mem_of_getElem? (i := 79) rfl) rfl
theorem u1_80 : (Jvm.Cond.fieldLink "GapLinks$State" (188 : Nat) "GapLinks$Plan" "room" "I") ∈ UU := tb_1 (List.mem_of_getElem? (i := 80) rfl) rfl
theorem u1_81 : (Jvm.Cond.fieldLink "GapLinks$Plan" (18 : Nat) "GapLinks$Plan" "jitter" "I") ∈ UU := tb_1 (List.mem_of_getElem? (i := 81) rfl) rfl
theorem u1_82 : (Jvm.Cond.fieldLink "GapLinks$Envelope" (71 : Nat) "GapLinks$Plan" "jitter" "I") ∈ UU := tb_1 (List.mem_of_getElem? (i := 82) rfl) rfl
theorem u1_83 : (Jvm.Cond.fieldLink "GapLinks$Reader" (112 : Nat) "GapLinks$Plan" "jitter" "I") ∈ UU := tb_1 (List.mem_of_getElem? (i := 83) rfl) rfl
theorem u1_84 : (Jvm.Cond.fieldLink "GapLinks" (113 : Nat) "GapLinks$Plan" "jitter" "I") ∈ UU := tb_1 (List.mem_of_getElem? (i := 84) rfl) rfl
theorem u1_85 : (Jvm.Cond.fieldLink "GapLinks$Plan" (21 : Nat) "GapLinks$Plan" "window" "I") ∈ UU := tb_1 (List.mem_of_getElem? (i := 85) rfl) rfl
theorem u1_86 : (Jvm.Cond.fieldLink "GapLinks" (116 : Nat) "GapLinks$Plan" "window" "I") ∈ UU := tb_1 (List.mem_of_getElem? (i := 86) rfl) rfl
theorem u1_87 : (Jvm.Cond.fieldLink "GapLinks$Reader" (117 : Nat) "GapLinks$Plan" "window" "I") ∈ UU := tb_1 (List.mem_of_getElem? (i := 87) rfl) rfl
theorem u1_88 : (Jvm.Cond.fieldLink "GapLinks$Ears" (89 : Nat) "GapLinks$Plan" "window" "I") ∈ UU := tb_1 (List.mem_of_getElem? (i := 88) rfl) rfl
theorem u1_89 : (Jvm.Cond.fieldLink "GapLinks$Plan" (24 : Nat) "GapLinks$Plan" "skew" "I") ∈ UU := tb_1 (List.mem_of_getElem? (i := 89) rfl) rfl
theorem u1_90 : (Jvm.Cond.fieldLink "GapLinks" (119 : Nat) "GapLinks$Plan" "skew" "I") ∈ UU := tb_1 (List.mem_of_getElem? (i := 90) rfl) rfl
theorem u1_91 : (Jvm.Cond.fieldLink "GapLinks$Reader" (122 : Nat) "GapLinks$Plan" "skew" "I") ∈ UU := tb_1 (List.mem_of_getElem? (i := 91) rfl) rfl
theorem u1_92 : (Jvm.Cond.fieldLink "GapLinks$Ears" (84 : Nat) "GapLinks$Plan" "skew" "I") ∈ UU := tb_1 (List.mem_of_getElem? (i := 92) rfl) rfl
theorem u1_93 : (Jvm.Cond.fieldLink "GapLinks$Plan" (27 : Nat) "GapLinks$Plan" "ends" "I") ∈ UU := tb_1 (List.mem_of_getElem? (i := 93) rfl) rfl
theorem u1_94 : (Jvm.Cond.fieldLink "GapLinks" (122 : Nat) "GapLinks$Plan" "ends" "I") ∈ UU := tb_1 (List.mem_of_getElem? (i := 94) rfl) rfl
theorem u1_95 : (Jvm.Cond.fieldLink "GapLinks$Reader" (125 : Nat) "GapLinks$Plan" "ends" "I") ∈ UU := tb_1 (List.mem_of_getElem? (i := 95) rfl) rfl
theorem u1_96 : (Jvm.Cond.fieldLink "GapLinks$Plan" (30 : Nat) "GapLinks$Plan" "links" "I") ∈ UU := tb_1 (List.mem_of_getElem? (i := 96) rfl) rfl
theorem u1_97 : (Jvm.Cond.fieldLink "GapLinks$Ways" (33 : Nat) "GapLinks$Plan" "links" "I") ∈ UU := tb_1 (List.mem_of_getElem? (i := 97) rfl) rfl
theorem u1_98 : (Jvm.Cond.fieldLink "GapLinks$State" (63 : Nat) "GapLinks$Plan" "links" "I") ∈ UU := tb_1 (List.mem_of_getElem? (i := 98) rfl) rfl
theorem u1_99 : (Jvm.Cond.fieldLink "GapLinks$Envelope" (42 : Nat) "GapLinks$Plan" "links" "I") ∈ UU := tb_1 (List.mem_of_getElem? (i := 99) rfl) rfl
theorem u1_100 : (Jvm.Cond.fieldLink "GapLinks" (97 : Nat) "GapLinks$Plan" "links" "I") ∈ UU := tb_1 (List.mem_of_getElem? (i := 100) rfl) rfl
theorem u1_101 : (Jvm.Cond.fieldLink "GapLinks$Reader" (90 : Nat) "GapLinks$Plan" "links" "I") ∈ UU := tb_1 (List.mem_of_getElem? (i := 101) rfl) rfl
theorem u1_102 : (Jvm.Cond.fieldLink "GapLinks$Plan" (33 : Nat) "GapLinks$Plan" "endSwitch" "[I") ∈ UU := tb_1 (List.mem_of_getElem? (i := 102) rfl) rfl
theorem u1_103 : (Jvm.Cond.fieldLink "GapLinks$Ways" (53 : Nat) "GapLinks$Plan" "endSwitch" "[I") ∈ UU := tb_1 (List.mem_of_getElem? (i := 103) rfl) rfl
theorem u1_104 : (Jvm.Cond.fieldLink "GapLinks" (132 : Nat) "GapLinks$Plan" "endSwitch" "[I") ∈ UU := tb_1 (List.mem_of_getElem? (i := 104) rfl) rfl
theorem u1_105 : (Jvm.Cond.fieldLink "GapLinks$Reader" (142 : Nat) "GapLinks$Plan" "endSwitch" "[I") ∈ UU := tb_1 (List.mem_of_getElem? (i := 105) rfl) rfl
theorem u1_106 : (Jvm.Cond.fieldLink "GapLinks$Plan" (37 : Nat) "GapLinks$Plan" "endName" "[J") ∈ UU := tb_1 (List.mem_of_getElem? (i := 106) rfl) rfl
theorem u1_107 : (Jvm.Cond.fieldLink "GapLinks$Reader" (138 : Nat) "GapLinks$Plan" "endName" "[J") ∈ UU := tb_1 (List.mem_of_getElem? (i := 107) rfl) rfl
theorem u1_108 : (Jvm.Cond.fieldLink "GapLinks$Plan" (41 : Nat) "GapLinks$Plan" "linkName" "[J") ∈ UU := tb_1 (List.mem_of_getElem? (i := 108) rfl) rfl
theorem u1_109 : (Jvm.Cond.fieldLink "GapLinks$Reader" (161 : Nat) "GapLinks$Plan" "linkName" "[J") ∈ UU := tb_1 (List.mem_of_getElem? (i := 109) rfl) rfl
theorem u1_110 : (Jvm.Cond.fieldLink "GapLinks$Plan" (44 : Nat) "GapLinks$Plan" "from" "[I") ∈ UU := tb_1 (List.mem_of_getElem? (i := 110) rfl) rfl
theorem u1_111 : (Jvm.Cond.fieldLink "GapLinks$Ways" (56 : Nat) "GapLinks$Plan" "from" "[I") ∈ UU := tb_1 (List.mem_of_getElem? (i := 111) rfl) rfl
theorem u1_112 : (Jvm.Cond.fieldLink "GapLinks$State" (94 : Nat) "GapLinks$Plan" "from" "[I") ∈ UU := tb_1 (List.mem_of_getElem? (i := 112) rfl) rfl
theorem u1_113 : (Jvm.Cond.fieldLink "GapLinks" (139 : Nat) "GapLinks$Plan" "from" "[I") ∈ UU := tb_1 (List.mem_of_getElem? (i := 113) rfl) rfl
theorem u1_114 : (Jvm.Cond.fieldLink "GapLinks$Reader" (164 : Nat) "GapLinks$Plan" "from" "[I") ∈ UU := tb_1 (List.mem_of_getElem? (i := 114) rfl) rfl
theorem u1_115 : (Jvm.Cond.fieldLink "GapLinks$Plan" (47 : Nat) "GapLinks$Plan" "gap" "[I") ∈ UU := tb_1 (List.mem_of_getElem? (i := 115) rfl) rfl
theorem u1_116 : (Jvm.Cond.fieldLink "GapLinks$Envelope" (48 : Nat) "GapLinks$Plan" "gap" "[I") ∈ UU := tb_1 (List.mem_of_getElem? (i := 116) rfl) rfl
theorem u1_117 : (Jvm.Cond.fieldLink "GapLinks" (142 : Nat) "GapLinks$Plan" "gap" "[I") ∈ UU := tb_1 (List.mem_of_getElem? (i := 117) rfl) rfl
theorem u1_118 : (Jvm.Cond.fieldLink "GapLinks$Reader" (167 : Nat) "GapLinks$Plan" "gap" "[I") ∈ UU := tb_1 (List.mem_of_getElem? (i := 118) rfl) rfl
theorem u1_119 : (Jvm.Cond.fieldLink "GapLinks$State" (185 : Nat) "GapLinks$Plan" "gap" "[I") ∈ UU := tb_1 (List.mem_of_getElem? (i := 119) rfl) rfl
theorem u1_120 : (Jvm.Cond.fieldLink "GapLinks$Plan" (50 : Nat) "GapLinks$Plan" "length" "[I") ∈ UU := tb_1 (List.mem_of_getElem? (i := 120) rfl) rfl
theorem u1_121 : (Jvm.Cond.fieldLink "GapLinks$Envelope" (61 : Nat) "GapLinks$Plan" "length" "[I") ∈ UU := tb_1 (List.mem_of_getElem? (i := 121) rfl) rfl
theorem u1_122 : (Jvm.Cond.fieldLink "GapLinks" (145 : Nat) "GapLinks$Plan" "length" "[I") ∈ UU := tb_1 (List.mem_of_getElem? (i := 122) rfl) rfl
theorem u1_123 : (Jvm.Cond.fieldLink "GapLinks$Reader" (170 : Nat) "GapLinks$Plan" "length" "[I") ∈ UU := tb_1 (List.mem_of_getElem? (i := 123) rfl) rfl
theorem u1_124 : (Jvm.Cond.fieldLink "GapLinks$State" (132 : Nat) "GapLinks$Plan" "length" "[I") ∈ UU := tb_1 (List.mem_of_getElem? (i := 124) rfl) rfl
theorem u1_125 : (Jvm.Cond.fieldLink "GapLinks$Plan" (53 : Nat) "GapLinks$Plan" "receivers" "[I") ∈ UU := tb_1 (List.mem_of_getElem? (i := 125) rfl) rfl
theorem u1_126 : (Jvm.Cond.fieldLink "GapLinks$Ways" (39 : Nat) "GapLinks$Plan" "receivers" "[I") ∈ UU := tb_1 (List.mem_of_getElem? (i := 126) rfl) rfl
theorem u1_127 : (Jvm.Cond.fieldLink "GapLinks" (148 : Nat) "GapLinks$Plan" "receivers" "[I") ∈ UU := tb_1 (List.mem_of_getElem? (i := 127) rfl) rfl
theorem u1_128 : (Jvm.Cond.fieldLink "GapLinks$Reader" (176 : Nat) "GapLinks$Plan" "receivers" "[I") ∈ UU := tb_1 (List.mem_of_getElem? (i := 128) rfl) rfl
theorem u1_129 : (Jvm.Cond.fieldLink "GapLinks$Plan" (56 : Nat) "GapLinks$Plan" "receiverEnd" "[I") ∈ UU := tb_1 (List.mem_of_getElem? (i := 129) rfl) rfl
theorem u1_130 : (Jvm.Cond.fieldLink "GapLinks$Ways" (50 : Nat) "GapLinks$Plan" "receiverEnd" "[I") ∈ UU := tb_1 (List.mem_of_getElem? (i := 130) rfl) rfl
theorem u1_131 : (Jvm.Cond.fieldLink "GapLinks" (155 : Nat) "GapLinks$Plan" "receiverEnd" "[I") ∈ UU := tb_1 (List.mem_of_getElem? (i := 131) rfl) rfl
theorem u1_132 : (Jvm.Cond.fieldLink "GapLinks$Reader" (182 : Nat) "GapLinks$Plan" "receiverEnd" "[I") ∈ UU := tb_1 (List.mem_of_getElem? (i := 132) rfl) rfl
theorem u1_133 : (Jvm.Cond.fieldLink "GapLinks$Plan" (62 : Nat) "GapLinks$Plan" "ways" "LGapLinks$Ways;") ∈ UU := tb_1 (List.mem_of_getElem? (i := 133) rfl) rfl
theorem u1_134 : (Jvm.Cond.fieldLink "GapLinks$Envelope" (51 : Nat) "GapLinks$Plan" "ways" "LGapLinks$Ways;") ∈ UU := tb_1 (List.mem_of_getElem? (i := 134) rfl) rfl
theorem u1_135 : (Jvm.Cond.fieldLink "GapLinks" (81 : Nat) "GapLinks$Plan" "ways" "LGapLinks$Ways;") ∈ UU := tb_1 (List.mem_of_getElem? (i := 135) rfl) rfl
theorem u1_136 : (Jvm.Cond.fieldLink "GapLinks$State" (172 : Nat) "GapLinks$Plan" "ways" "LGapLinks$Ways;") ∈ UU := tb_1 (List.mem_of_getElem? (i := 136) rfl) rfl
theorem u1_137 : (Jvm.Cond.lays "GapLinks$Plan" "GapLinks$Plan" "switches" "I") ∈ UU := tb_1 (List.mem_of_getElem? (i := 137) rfl) rfl
theorem u1_138 : (Jvm.Cond.soleField "GapLinks$Plan" "switches") ∈ UU := tb_1 (List.mem_of_getElem? (i := 138) rfl) rfl
theorem u1_139 : (Jvm.Cond.lays "GapLinks$Plan" "GapLinks$Plan" "room" "I") ∈ UU := tb_1 (List.mem_of_getElem? (i := 139) rfl) rfl
theorem u1_140 : (Jvm.Cond.soleField "GapLinks$Plan" "room") ∈ UU := tb_1 (List.mem_of_getElem? (i := 140) rfl) rfl
theorem u1_141 : (Jvm.Cond.lays "GapLinks$Plan" "GapLinks$Plan" "jitter" "I") ∈ UU := tb_1 (List.mem_of_getElem? (i := 141) rfl) rfl
theorem u1_142 : (Jvm.Cond.soleField "GapLinks$Plan" "jitter") ∈ UU := tb_1 (List.mem_of_getElem? (i := 142) rfl) rfl
theorem u1_143 : (Jvm.Cond.lays "GapLinks$Plan" "GapLinks$Plan" "window" "I") ∈ UU := tb_1 (List.mem_of_getElem? (i := 143) rfl) rfl
theorem u1_144 : (Jvm.Cond.soleField "GapLinks$Plan" "window") ∈ UU := tb_1 (List.mem_of_getElem? (i := 144) rfl) rfl
theorem u1_145 : (Jvm.Cond.lays "GapLinks$Plan" "GapLinks$Plan" "skew" "I") ∈ UU := tb_1 (List.mem_of_getElem? (i := 145) rfl) rfl
theorem u1_146 : (Jvm.Cond.soleField "GapLinks$Plan" "skew") ∈ UU := tb_1 (List.mem_of_getElem? (i := 146) rfl) rfl
theorem u1_147 : (Jvm.Cond.lays "GapLinks$Plan" "GapLinks$Plan" "ends" "I") ∈ UU := tb_1 (List.mem_of_getElem? (i := 147) rfl) rfl
theorem u1_148 : (Jvm.Cond.soleField "GapLinks$Plan" "ends") ∈ UU := tb_1 (List.mem_of_getElem? (i := 148) rfl) rfl
theorem u1_149 : (Jvm.Cond.lays "GapLinks$Plan" "GapLinks$Plan" "links" "I") ∈ UU := tb_1 (List.mem_of_getElem? (i := 149) rfl) rfl
theorem u1_150 : (Jvm.Cond.soleField "GapLinks$Plan" "links") ∈ UU := tb_1 (List.mem_of_getElem? (i := 150) rfl) rfl
theorem u1_151 : (Jvm.Cond.laysFinal "GapLinks$Plan" "GapLinks$Plan" "endSwitch" "[I") ∈ UU := tb_1 (List.mem_of_getElem? (i := 151) rfl) rfl
theorem u1_152 : (Jvm.Cond.soleField "GapLinks$Plan" "endSwitch") ∈ UU := tb_1 (List.mem_of_getElem? (i := 152) rfl) rfl
theorem u1_153 : (Jvm.Cond.laysFinal "GapLinks$Plan" "GapLinks$Plan" "endName" "[J") ∈ UU := tb_1 (List.mem_of_getElem? (i := 153) rfl) rfl
theorem u1_154 : (Jvm.Cond.soleField "GapLinks$Plan" "endName") ∈ UU := tb_1 (List.mem_of_getElem? (i := 154) rfl) rfl
theorem u1_155 : (Jvm.Cond.laysFinal "GapLinks$Plan" "GapLinks$Plan" "linkName" "[J") ∈ UU := tb_1 (List.mem_of_getElem? (i := 155) rfl) rfl
theorem u1_156 : (Jvm.Cond.soleField "GapLinks$Plan" "linkName") ∈ UU := tb_1 (List.mem_of_getElem? (i := 156) rfl) rfl
theorem u1_157 : (Jvm.Cond.laysFinal "GapLinks$Plan" "GapLinks$Plan" "from" "[I") ∈ UU := tb_1 (List.mem_of_getElem? (i := 157) rfl) rfl
theorem u1_158 : (Jvm.Cond.soleField "GapLinks$Plan" "from") ∈ UU := tb_1 (List.mem_of_getElem? (i := 158) rfl) rfl
theorem u1_159 : (Jvm.Cond.laysFinal "GapLinks$Plan" "GapLinks$Plan" "gap" "[I") ∈ UU := tb_1 (List.mem_of_getElem? (i := 159) rfl) rfl
theorem u1_160 : (Jvm.Cond.soleField "GapLinks$Plan" "gap") ∈ UU := tb_1 (List.mem_of_getElem? (i := 160) rfl) rfl
theorem u1_161 : (Jvm.Cond.laysFinal "GapLinks$Plan" "GapLinks$Plan" "length" "[I") ∈ UU := tb_1 (List.mem_of_getElem? (i := 161) rfl) rfl
theorem u1_162 : (Jvm.Cond.soleField "GapLinks$Plan" "length") ∈ UU := tb_1 (List.mem_of_getElem? (i := 162) rfl) rfl
theorem u1_163 : (Jvm.Cond.laysFinal "GapLinks$Plan" "GapLinks$Plan" "receivers" "[I") ∈ UU := tb_1 (List.mem_of_getElem? (i := 163) rfl) rfl
theorem u1_164 : (Jvm.Cond.soleField "GapLinks$Plan" "receivers") ∈ UU := tb_1 (List.mem_of_getElem? (i := 164) rfl) rfl
theorem u1_165 : (Jvm.Cond.laysFinal "GapLinks$Plan" "GapLinks$Plan" "receiverEnd" "[I") ∈ UU := tb_1 (List.mem_of_getElem? (i := 165) rfl) rfl
theorem u1_166 : (Jvm.Cond.soleField "GapLinks$Plan" "receiverEnd") ∈ UU := tb_1 (List.mem_of_getElem? (i := 166) rfl) rfl
theorem u1_167 : (Jvm.Cond.laysFinal "GapLinks$Plan" "GapLinks$Plan" "ways" "LGapLinks$Ways;") ∈ UU := tb_1 (List.mem_of_getElem? (i := 167) rfl) rfl
theorem u1_168 : (Jvm.Cond.soleField "GapLinks$Plan" "ways") ∈ UU := tb_1 (List.mem_of_getElem? (i := 168) rfl) rfl
theorem u1_169 : (Jvm.Cond.superclass "GapLinks$Plan" "java/lang/Object") ∈ UU := tb_1 (List.mem_of_getElem? (i := 169) rfl) rfl
theorem u1_170 : (Jvm.Cond.fieldLink "GapLinks$Reader" (9 : Nat) "GapLinks$Reader" "tape" "[B") ∈ UU := tb_1 (List.mem_of_getElem? (i := 170) rfl) rfl
theorem u1_171 : (Jvm.Cond.fieldLink "GapLinks$Reader" (15 : Nat) "GapLinks$Reader" "fed" "I") ∈ UU := tb_1 (List.mem_of_getElem? (i := 171) rfl) rfl
theorem u1_172 : (Jvm.Cond.fieldLink "GapLinks" (57 : Nat) "GapLinks$Reader" "fed" "I") ∈ UU := tb_1 (List.mem_of_getElem? (i := 172) rfl) rfl
theorem u1_173 : (Jvm.Cond.fieldLink "GapLinks$Reader" (22 : Nat) "GapLinks$Reader" "draft" "LGapLinks$Plan;") ∈ UU := tb_1 (List.mem_of_getElem? (i := 173) rfl) rfl
theorem u1_174 : (Jvm.Cond.fieldLink "GapLinks$Reader" (26 : Nat) "GapLinks$Reader" "textLength" "I") ∈ UU := tb_1 (List.mem_of_getElem? (i := 174) rfl) rfl
theorem u1_175 : (Jvm.Cond.fieldLink "GapLinks$Reader" (29 : Nat) "GapLinks$Reader" "start" "I") ∈ UU := tb_1 (List.mem_of_getElem? (i := 175) rfl) rfl
theorem u1_176 : (Jvm.Cond.fieldLink "GapLinks$Reader" (32 : Nat) "GapLinks$Reader" "behind" "I") ∈ UU := tb_1 (List.mem_of_getElem? (i := 176) rfl) rfl
theorem u1_177 : (Jvm.Cond.fieldLink "GapLinks$Reader" (35 : Nat) "GapLinks$Reader" "kind" "I") ∈ UU := tb_1 (List.mem_of_getElem? (i := 177) rfl) rfl
theorem u1_178 : (Jvm.Cond.fieldLink "GapLinks$Reader" (38 : Nat) "GapLinks$Reader" "word" "J") ∈ UU := tb_1 (List.mem_of_getElem? (i := 178) rfl) rfl
theorem u1_179 : (Jvm.Cond.fieldLink "GapLinks$Reader" (42 : Nat) "GapLinks$Reader" "whole" "I") ∈ UU := tb_1 (List.mem_of_getElem? (i := 179) rfl) rfl
theorem u1_180 : (Jvm.Cond.fieldLink "GapLinks$Reader" (45 : Nat) "GapLinks$Reader" "busTold" "Z") ∈ UU := tb_1 (List.mem_of_getElem? (i := 180) rfl) rfl
theorem u1_181 : (Jvm.Cond.fieldLink "GapLinks$Reader" (49 : Nat) "GapLinks$Reader" "fault" "I") ∈ UU := tb_1 (List.mem_of_getElem? (i := 181) rfl) rfl
theorem u1_182 : (Jvm.Cond.fieldLink "GapLinks" (71 : Nat) "GapLinks$Reader" "fault" "I") ∈ UU := tb_1 (List.mem_of_getElem? (i := 182) rfl) rfl
theorem u1_183 : (Jvm.Cond.fieldLink "GapLinks$Reader" (52 : Nat) "GapLinks$Reader" "place" "I") ∈ UU := tb_1 (List.mem_of_getElem? (i := 183) rfl) rfl
theorem u1_184 : (Jvm.Cond.fieldLink "GapLinks" (74 : Nat) "GapLinks$Reader" "place" "I") ∈ UU := tb_1 (List.mem_of_getElem? (i := 184) rfl) rfl
theorem u1_185 : (Jvm.Cond.laysFinal "GapLinks$Reader" "GapLinks$Reader" "tape" "[B") ∈ UU := tb_1 (List.mem_of_getElem? (i := 185) rfl) rfl
theorem u1_186 : (Jvm.Cond.soleField "GapLinks$Reader" "tape") ∈ UU := tb_1 (List.mem_of_getElem? (i := 186) rfl) rfl
theorem u1_187 : (Jvm.Cond.lays "GapLinks$Reader" "GapLinks$Reader" "fed" "I") ∈ UU := tb_1 (List.mem_of_getElem? (i := 187) rfl) rfl
theorem u1_188 : (Jvm.Cond.soleField "GapLinks$Reader" "fed") ∈ UU := tb_1 (List.mem_of_getElem? (i := 188) rfl) rfl
theorem u1_189 : (Jvm.Cond.lays "GapLinks$Reader" "GapLinks$Reader" "draft" "LGapLinks$Plan;") ∈ UU := tb_1 (List.mem_of_getElem? (i := 189) rfl) rfl
theorem u1_190 : (Jvm.Cond.soleField "GapLinks$Reader" "draft") ∈ UU := tb_1 (List.mem_of_getElem? (i := 190) rfl) rfl
theorem u1_191 : (Jvm.Cond.lays "GapLinks$Reader" "GapLinks$Reader" "textLength" "I") ∈ UU := tb_1 (List.mem_of_getElem? (i := 191) rfl) rfl
theorem u1_192 : (Jvm.Cond.soleField "GapLinks$Reader" "textLength") ∈ UU := tb_1 (List.mem_of_getElem? (i := 192) rfl) rfl
theorem u1_193 : (Jvm.Cond.lays "GapLinks$Reader" "GapLinks$Reader" "start" "I") ∈ UU := tb_1 (List.mem_of_getElem? (i := 193) rfl) rfl
theorem u1_194 : (Jvm.Cond.soleField "GapLinks$Reader" "start") ∈ UU := tb_1 (List.mem_of_getElem? (i := 194) rfl) rfl
theorem u1_195 : (Jvm.Cond.lays "GapLinks$Reader" "GapLinks$Reader" "behind" "I") ∈ UU := tb_1 (List.mem_of_getElem? (i := 195) rfl) rfl
theorem u1_196 : (Jvm.Cond.soleField "GapLinks$Reader" "behind") ∈ UU := tb_1 (List.mem_of_getElem? (i := 196) rfl) rfl
theorem u1_197 : (Jvm.Cond.lays "GapLinks$Reader" "GapLinks$Reader" "kind" "I") ∈ UU := tb_1 (List.mem_of_getElem? (i := 197) rfl) rfl
theorem u1_198 : (Jvm.Cond.soleField "GapLinks$Reader" "kind") ∈ UU := tb_1 (List.mem_of_getElem? (i := 198) rfl) rfl
theorem u1_199 : (Jvm.Cond.lays "GapLinks$Reader" "GapLinks$Reader" "word" "J") ∈ UU := tb_1 (List.mem_of_getElem? (i := 199) rfl) rfl
theorem u1_200 : (Jvm.Cond.soleField "GapLinks$Reader" "word") ∈ UU := tb_1 (List.mem_of_getElem? (i := 200) rfl) rfl
theorem u1_201 : (Jvm.Cond.lays "GapLinks$Reader" "GapLinks$Reader" "whole" "I") ∈ UU := tb_1 (List.mem_of_getElem? (i := 201) rfl) rfl
theorem u1_202 : (Jvm.Cond.soleField "GapLinks$Reader" "whole") ∈ UU := tb_1 (List.mem_of_getElem? (i := 202) rfl) rfl
theorem u1_203 : (Jvm.Cond.lays "GapLinks$Reader" "GapLinks$Reader" "busTold" "Z") ∈ UU := tb_1 (List.mem_of_getElem? (i := 203) rfl) rfl
theorem u1_204 : (Jvm.Cond.soleField "GapLinks$Reader" "busTold") ∈ UU := tb_1 (List.mem_of_getElem? (i := 204) rfl) rfl
theorem u1_205 : (Jvm.Cond.lays "GapLinks$Reader" "GapLinks$Reader" "fault" "I") ∈ UU := tb_1 (List.mem_of_getElem? (i := 205) rfl) rfl
theorem u1_206 : (Jvm.Cond.soleField "GapLinks$Reader" "fault") ∈ UU := tb_1 (List.mem_of_getElem? (i := 206) rfl) rfl
theorem u1_207 : (Jvm.Cond.lays "GapLinks$Reader" "GapLinks$Reader" "place" "I") ∈ UU := tb_1 (List.mem_of_getElem? (i := 207) rfl) rfl
theorem u1_208 : (Jvm.Cond.soleField "GapLinks$Reader" "place") ∈ UU := tb_1 (List.mem_of_getElem? (i := 208) rfl) rfl
theorem u1_209 : (Jvm.Cond.superclass "GapLinks$Reader" "java/lang/Object") ∈ UU := tb_1 (List.mem_of_getElem? (i := 209) rfl) rfl
theorem u1_210 : (Jvm.Cond.classLink "GapLinks" (16 : Nat) "GapLinks$Plan") ∈ UU := tb_1 (List.mem_of_getElem? (i := 210) rfl) rfl
theorem u1_212 : (Jvm.Cond.classLink "GapLinks" (23 : Nat) "GapLinks$Envelope") ∈ UU := tb_1 (List.mem_of_getElem? (i := 212) rfl) rfl
theorem u1_213 : (Jvm.Cond.instantiable "GapLinks$Envelope" (4 : Nat)) ∈ UU := tb_1 (List.mem_of_getElem? (i := 213) rfl) rfl
theorem u1_215 : (Jvm.Cond.instanceMethod ({ cls := "GapLinks$Envelope", name := "<init>", desc := "()V" } : Jvm.MethodName)) ∈ UU := tb_1 (List.mem_of_getElem? (i := 215) rfl) rfl
theorem u1_216 : (Jvm.Cond.code ({ cls := "GapLinks$Envelope", name := "<init>", desc := "()V" } : Jvm.MethodName) prog_3_method_1_code (1 : Nat) (Option.none : Option Jvm.ClassFile.FieldType)) ∈ UU := tb_1 (List.mem_of_getElem? (i := 216) rfl) rfl
theorem u1_217 : (Jvm.Cond.methodLink "GapLinks$Envelope" (5 : Nat) ({ cls := "java/lang/Object", name := "<init>", desc := "()V" } : Jvm.MethodName)) ∈ UU := tb_1 (List.mem_of_getElem? (i := 217) rfl) rfl
theorem u1_218 : (Jvm.Cond.fieldLink "GapLinks$Envelope" (11 : Nat) "GapLinks$Envelope" "overloaded" "Z") ∈ UU := tb_1 (List.mem_of_getElem? (i := 218) rfl) rfl
theorem u1_219 : (Jvm.Cond.fieldLink "GapLinks" (264 : Nat) "GapLinks$Envelope" "overloaded" "Z") ∈ UU := tb_1 (List.mem_of_getElem? (i := 219) rfl) rfl
theorem u1_220 : (Jvm.Cond.fieldLink "GapLinks$Envelope" (15 : Nat) "GapLinks$Envelope" "load" "[I") ∈ UU := tb_1 (List.mem_of_getElem? (i := 220) rfl) rfl
theorem u1_221 : (Jvm.Cond.fieldLink "GapLinks$Envelope" (19 : Nat) "GapLinks$Envelope" "delay" "[J") ∈ UU := tb_1 (List.mem_of_getElem? (i := 221) rfl) rfl
theorem u1_222 : (Jvm.Cond.fieldLink "GapLinks" (267 : Nat) "GapLinks$Envelope" "delay" "[J") ∈ UU := tb_1 (List.mem_of_getElem? (i := 222) rfl) rfl
theorem u1_223 : (Jvm.Cond.fieldLink "GapLinks$Envelope" (23 : Nat) "GapLinks$Envelope" "burst" "[J") ∈ UU := tb_1 (List.mem_of_getElem? (i := 223) rfl) rfl
theorem u1_224 : (Jvm.Cond.fieldLink "GapLinks" (271 : Nat) "GapLinks$Envelope" "burst" "[J") ∈ UU := tb_1 (List.mem_of_getElem? (i := 224) rfl) rfl
theorem u1_225 : (Jvm.Cond.lays "GapLinks$Envelope" "GapLinks$Envelope" "overloaded" "Z") ∈ UU := tb_1 (List.mem_of_getElem? (i := 225) rfl) rfl
theorem u1_226 : (Jvm.Cond.soleField "GapLinks$Envelope" "overloaded") ∈ UU := tb_1 (List.mem_of_getElem? (i := 226) rfl) rfl
theorem u1_227 : (Jvm.Cond.laysFinal "GapLinks$Envelope" "GapLinks$Envelope" "load" "[I") ∈ UU := tb_1 (List.mem_of_getElem? (i := 227) rfl) rfl
theorem u1_228 : (Jvm.Cond.soleField "GapLinks$Envelope" "load") ∈ UU := tb_1 (List.mem_of_getElem? (i := 228) rfl) rfl
theorem u1_229 : (Jvm.Cond.laysFinal "GapLinks$Envelope" "GapLinks$Envelope" "delay" "[J") ∈ UU := tb_1 (List.mem_of_getElem? (i := 229) rfl) rfl
theorem u1_230 : (Jvm.Cond.soleField "GapLinks$Envelope" "delay") ∈ UU := tb_1 (List.mem_of_getElem? (i := 230) rfl) rfl
theorem u1_231 : (Jvm.Cond.laysFinal "GapLinks$Envelope" "GapLinks$Envelope" "burst" "[J") ∈ UU := tb_1 (List.mem_of_getElem? (i := 231) rfl) rfl
theorem u1_232 : (Jvm.Cond.soleField "GapLinks$Envelope" "burst") ∈ UU := tb_1 (List.mem_of_getElem? (i := 232) rfl) rfl
theorem u1_233 : (Jvm.Cond.superclass "GapLinks$Envelope" "java/lang/Object") ∈ UU := tb_1 (List.mem_of_getElem? (i := 233) rfl) rfl
theorem u1_234 : (Jvm.Cond.classLink "GapLinks" (30 : Nat) "GapLinks$State") ∈ UU := tb_1 (List.mem_of_getElem? (i := 234) rfl) rfl
theorem u1_235 : (Jvm.Cond.instantiable "GapLinks$State" (12 : Nat)) ∈ UU := tb_1 (List.mem_of_getElem? (i := 235) rfl) rfl
theorem u1_237 : (Jvm.Cond.instanceMethod ({ cls := "GapLinks$State", name := "<init>", desc := "()V" } : Jvm.MethodName)) ∈ UU := tb_1 (List.mem_of_getElem? (i := 237) rfl) rfl
theorem u1_238 : (Jvm.Cond.code ({ cls := "GapLinks$State", name := "<init>", desc := "()V" } : Jvm.MethodName) prog_7_method_1_code (1 : Nat) (Option.none : Option Jvm.ClassFile.FieldType)) ∈ UU := tb_1 (List.mem_of_getElem? (i := 238) rfl) rfl
theorem u1_239 : (Jvm.Cond.methodLink "GapLinks$State" (3 : Nat) ({ cls := "java/lang/Object", name := "<init>", desc := "()V" } : Jvm.MethodName)) ∈ UU := tb_1 (List.mem_of_getElem? (i := 239) rfl) rfl
theorem u2_0 : (Jvm.Cond.classLink "GapLinks$State" (43 : Nat) "GapLinks$Ports") ∈ UU := tb_2 (List.mem_of_getElem? (i := 0) rfl) rfl
theorem u2_1 : (Jvm.Cond.instantiable "GapLinks$Ports" (8 : Nat)) ∈ UU := tb_2 (List.mem_of_getElem? (i := 1) rfl) rfl
theorem u2_3 : (Jvm.Cond.instanceMethod ({ cls := "GapLinks$Ports", name := "<init>", desc := "()V" } : Jvm.MethodName)) ∈ UU := tb_2 (List.mem_of_getElem? (i := 3) rfl) rfl
theorem u2_4 : (Jvm.Cond.code ({ cls := "GapLinks$Ports", name := "<init>", desc := "()V" } : Jvm.MethodName) prog_5_method_1_code (1 : Nat) (Option.none : Option Jvm.ClassFile.FieldType)) ∈ UU := tb_2 (List.mem_of_getElem? (i := 4) rfl) rfl
theorem u2_5 : (Jvm.Cond.methodLink "GapLinks$Ports" (3 : Nat) ({ cls := "java/lang/Object", name := "<init>", desc := "()V" } : Jvm.MethodName)) ∈ UU := tb_2 (List.mem_of_getElem? (i := 5) rfl) rfl
theorem u2_6 : (Jvm.Cond.fieldLink "GapLinks$Ports" (9 : Nat) "GapLinks$Ports" "frames" "I") ∈ UU := tb_2 (List.mem_of_getElem? (i := 6) rfl) rfl
theorem u2_7 : (Jvm.Cond.fieldLink "GapLinks$State" (87 : Nat) "GapLinks$Ports" "frames" "I") ∈ UU := tb_2 (List.mem_of_getElem? (i := 7) rfl) rfl
theorem u2_8 : (Jvm.Cond.fieldLink "GapLinks" (335 : Nat) "GapLinks$Ports" "frames" "I") ∈ UU := tb_2 (List.mem_of_getElem? (i := 8) rfl) rfl
theorem u2_9 : (Jvm.Cond.fieldLink "GapLinks$Ports" (15 : Nat) "GapLinks$Ports" "count" "[I") ∈ UU := tb_2 (List.mem_of_getElem? (i := 9) rfl) rfl
theorem u2_10 : (Jvm.Cond.fieldLink "GapLinks" (204 : Nat) "GapLinks$Ports" "count" "[I") ∈ UU := tb_2 (List.mem_of_getElem? (i := 10) rfl) rfl
theorem u2_11 : (Jvm.Cond.fieldLink "GapLinks$State" (201 : Nat) "GapLinks$Ports" "count" "[I") ∈ UU := tb_2 (List.mem_of_getElem? (i := 11) rfl) rfl
theorem u2_12 : (Jvm.Cond.fieldLink "GapLinks$Ports" (19 : Nat) "GapLinks$Ports" "first" "[I") ∈ UU := tb_2 (List.mem_of_getElem? (i := 12) rfl) rfl
theorem u2_13 : (Jvm.Cond.fieldLink "GapLinks$Ports" (22 : Nat) "GapLinks$Ports" "doneAt" "[I") ∈ UU := tb_2 (List.mem_of_getElem? (i := 13) rfl) rfl
theorem u2_14 : (Jvm.Cond.fieldLink "GapLinks$State" (135 : Nat) "GapLinks$Ports" "doneAt" "[I") ∈ UU := tb_2 (List.mem_of_getElem? (i := 14) rfl) rfl
theorem u2_15 : (Jvm.Cond.fieldLink "GapLinks" (212 : Nat) "GapLinks$Ports" "doneAt" "[I") ∈ UU := tb_2 (List.mem_of_getElem? (i := 15) rfl) rfl
theorem u2_16 : (Jvm.Cond.fieldLink "GapLinks$Ports" (25 : Nat) "GapLinks$Ports" "most" "[I") ∈ UU := tb_2 (List.mem_of_getElem? (i := 16) rfl) rfl
theorem u2_17 : (Jvm.Cond.fieldLink "GapLinks" (215 : Nat) "GapLinks$Ports" "most" "[I") ∈ UU := tb_2 (List.mem_of_getElem? (i := 17) rfl) rfl
theorem u2_18 : (Jvm.Cond.fieldLink "GapLinks$Ports" (28 : Nat) "GapLinks$Ports" "link" "[I") ∈ UU := tb_2 (List.mem_of_getElem? (i := 18) rfl) rfl
theorem u2_19 : (Jvm.Cond.fieldLink "GapLinks$State" (156 : Nat) "GapLinks$Ports" "link" "[I") ∈ UU := tb_2 (List.mem_of_getElem? (i := 19) rfl) rfl
theorem u2_20 : (Jvm.Cond.fieldLink "GapLinks" (221 : Nat) "GapLinks$Ports" "link" "[I") ∈ UU := tb_2 (List.mem_of_getElem? (i := 20) rfl) rfl
theorem u2_21 : (Jvm.Cond.fieldLink "GapLinks$Ports" (31 : Nat) "GapLinks$Ports" "number" "[I") ∈ UU := tb_2 (List.mem_of_getElem? (i := 21) rfl) rfl
theorem u2_22 : (Jvm.Cond.fieldLink "GapLinks$State" (162 : Nat) "GapLinks$Ports" "number" "[I") ∈ UU := tb_2 (List.mem_of_getElem? (i := 22) rfl) rfl
theorem u2_23 : (Jvm.Cond.fieldLink "GapLinks" (224 : Nat) "GapLinks$Ports" "number" "[I") ∈ UU := tb_2 (List.mem_of_getElem? (i := 23) rfl) rfl
theorem u2_24 : (Jvm.Cond.fieldLink "GapLinks$Ports" (34 : Nat) "GapLinks$Ports" "born" "[I") ∈ UU := tb_2 (List.mem_of_getElem? (i := 24) rfl) rfl
theorem u2_25 : (Jvm.Cond.fieldLink "GapLinks$State" (163 : Nat) "GapLinks$Ports" "born" "[I") ∈ UU := tb_2 (List.mem_of_getElem? (i := 25) rfl) rfl
theorem u2_26 : (Jvm.Cond.fieldLink "GapLinks" (225 : Nat) "GapLinks$Ports" "born" "[I") ∈ UU := tb_2 (List.mem_of_getElem? (i := 26) rfl) rfl
theorem u2_27 : (Jvm.Cond.lays "GapLinks$Ports" "GapLinks$Ports" "frames" "I") ∈ UU := tb_2 (List.mem_of_getElem? (i := 27) rfl) rfl
theorem u2_28 : (Jvm.Cond.soleField "GapLinks$Ports" "frames") ∈ UU := tb_2 (List.mem_of_getElem? (i := 28) rfl) rfl
theorem u2_29 : (Jvm.Cond.laysFinal "GapLinks$Ports" "GapLinks$Ports" "count" "[I") ∈ UU := tb_2 (List.mem_of_getElem? (i := 29) rfl) rfl
theorem u2_30 : (Jvm.Cond.soleField "GapLinks$Ports" "count") ∈ UU := tb_2 (List.mem_of_getElem? (i := 30) rfl) rfl
theorem u2_31 : (Jvm.Cond.laysFinal "GapLinks$Ports" "GapLinks$Ports" "first" "[I") ∈ UU := tb_2 (List.mem_of_getElem? (i := 31) rfl) rfl
theorem u2_32 : (Jvm.Cond.soleField "GapLinks$Ports" "first") ∈ UU := tb_2 (List.mem_of_getElem? (i := 32) rfl) rfl
theorem u2_33 : (Jvm.Cond.laysFinal "GapLinks$Ports" "GapLinks$Ports" "doneAt" "[I") ∈ UU := tb_2 (List.mem_of_getElem? (i := 33) rfl) rfl
theorem u2_34 : (Jvm.Cond.soleField "GapLinks$Ports" "doneAt") ∈ UU := tb_2 (List.mem_of_getElem? (i := 34) rfl) rfl
theorem u2_35 : (Jvm.Cond.laysFinal "GapLinks$Ports" "GapLinks$Ports" "most" "[I") ∈ UU := tb_2 (List.mem_of_getElem? (i := 35) rfl) rfl
theorem u2_36 : (Jvm.Cond.soleField "GapLinks$Ports" "most") ∈ UU := tb_2 (List.mem_of_getElem? (i := 36) rfl) rfl
theorem u2_37 : (Jvm.Cond.laysFinal "GapLinks$Ports" "GapLinks$Ports" "link" "[I") ∈ UU := tb_2 (List.mem_of_getElem? (i := 37) rfl) rfl
theorem u2_38 : (Jvm.Cond.soleField "GapLinks$Ports" "link") ∈ UU := tb_2 (List.mem_of_getElem? (i := 38) rfl) rfl
theorem u2_39 : (Jvm.Cond.laysFinal "GapLinks$Ports" "GapLinks$Ports" "number" "[I") ∈ UU := tb_2 (List.mem_of_getElem? (i := 39) rfl) rfl
theorem u2_40 : (Jvm.Cond.soleField "GapLinks$Ports" "number") ∈ UU := tb_2 (List.mem_of_getElem? (i := 40) rfl) rfl
theorem u2_41 : (Jvm.Cond.laysFinal "GapLinks$Ports" "GapLinks$Ports" "born" "[I") ∈ UU := tb_2 (List.mem_of_getElem? (i := 41) rfl) rfl
theorem u2_42 : (Jvm.Cond.soleField "GapLinks$Ports" "born") ∈ UU := tb_2 (List.mem_of_getElem? (i := 42) rfl) rfl
theorem u2_43 : (Jvm.Cond.superclass "GapLinks$Ports" "java/lang/Object") ∈ UU := tb_2 (List.mem_of_getElem? (i := 43) rfl) rfl
theorem u2_44 : (Jvm.Cond.classLink "GapLinks$State" (50 : Nat) "GapLinks$Ears") ∈ UU := tb_2 (List.mem_of_getElem? (i := 44) rfl) rfl
theorem u2_45 : (Jvm.Cond.instantiable "GapLinks$Ears" (11 : Nat)) ∈ UU := tb_2 (List.mem_of_getElem? (i := 45) rfl) rfl
theorem u2_47 : (Jvm.Cond.instanceMethod ({ cls := "GapLinks$Ears", name := "<init>", desc := "()V" } : Jvm.MethodName)) ∈ UU := tb_2 (List.mem_of_getElem? (i := 47) rfl) rfl
theorem u2_48 : (Jvm.Cond.code ({ cls := "GapLinks$Ears", name := "<init>", desc := "()V" } : Jvm.MethodName) prog_2_method_1_code (1 : Nat) (Option.none : Option Jvm.ClassFile.FieldType)) ∈ UU := tb_2 (List.mem_of_getElem? (i := 48) rfl) rfl
theorem u2_49 : (Jvm.Cond.methodLink "GapLinks$Ears" (3 : Nat) ({ cls := "java/lang/Object", name := "<init>", desc := "()V" } : Jvm.MethodName)) ∈ UU := tb_2 (List.mem_of_getElem? (i := 49) rfl) rfl
theorem u2_50 : (Jvm.Cond.fieldLink "GapLinks$Ears" (9 : Nat) "GapLinks$Ears" "takenByAll" "I") ∈ UU := tb_2 (List.mem_of_getElem? (i := 50) rfl) rfl
theorem u2_51 : (Jvm.Cond.fieldLink "GapLinks" (306 : Nat) "GapLinks$Ears" "takenByAll" "I") ∈ UU := tb_2 (List.mem_of_getElem? (i := 51) rfl) rfl
theorem u2_52 : (Jvm.Cond.fieldLink "GapLinks$Ears" (15 : Nat) "GapLinks$Ears" "taken" "[I") ∈ UU := tb_2 (List.mem_of_getElem? (i := 52) rfl) rfl
theorem u2_53 : (Jvm.Cond.fieldLink "GapLinks$Ears" (19 : Nat) "GapLinks$Ears" "refused" "[I") ∈ UU := tb_2 (List.mem_of_getElem? (i := 53) rfl) rfl
theorem u2_54 : (Jvm.Cond.fieldLink "GapLinks$Ears" (22 : Nat) "GapLinks$Ears" "doubles" "[I") ∈ UU := tb_2 (List.mem_of_getElem? (i := 54) rfl) rfl
theorem u2_55 : (Jvm.Cond.fieldLink "GapLinks$Ears" (25 : Nat) "GapLinks$Ears" "latestNumber" "[I") ∈ UU := tb_2 (List.mem_of_getElem? (i := 55) rfl) rfl
theorem u2_56 : (Jvm.Cond.fieldLink "GapLinks$Ears" (28 : Nat) "GapLinks$Ears" "latestTime" "[I") ∈ UU := tb_2 (List.mem_of_getElem? (i := 56) rfl) rfl
theorem u2_57 : (Jvm.Cond.fieldLink "GapLinks$Ears" (31 : Nat) "GapLinks$Ears" "latestNet" "[I") ∈ UU := tb_2 (List.mem_of_getElem? (i := 57) rfl) rfl
theorem u2_58 : (Jvm.Cond.fieldLink "GapLinks$Ears" (34 : Nat) "GapLinks$Ears" "greatestLate" "[I") ∈ UU := tb_2 (List.mem_of_getElem? (i := 58) rfl) rfl
theorem u2_59 : (Jvm.Cond.fieldLink "GapLinks" (278 : Nat) "GapLinks$Ears" "greatestLate" "[I") ∈ UU := tb_2 (List.mem_of_getElem? (i := 59) rfl) rfl
theorem u2_60 : (Jvm.Cond.fieldLink "GapLinks$Ears" (37 : Nat) "GapLinks$Ears" "leastLate" "[I") ∈ UU := tb_2 (List.mem_of_getElem? (i := 60) rfl) rfl
theorem u2_61 : (Jvm.Cond.fieldLink "GapLinks$Ears" (40 : Nat) "GapLinks$Ears" "seen" "[I") ∈ UU := tb_2 (List.mem_of_getElem? (i := 61) rfl) rfl
theorem u2_62 : (Jvm.Cond.fieldLink "GapLinks" (247 : Nat) "GapLinks$Ears" "seen" "[I") ∈ UU := tb_2 (List.mem_of_getElem? (i := 62) rfl) rfl
theorem u2_63 : (Jvm.Cond.fieldLink "GapLinks$Ears" (43 : Nat) "GapLinks$Ears" "memory" "[I") ∈ UU := tb_2 (List.mem_of_getElem? (i := 63) rfl) rfl
theorem u2_64 : (Jvm.Cond.lays "GapLinks$Ears" "GapLinks$Ears" "takenByAll" "I") ∈ UU := tb_2 (List.mem_of_getElem? (i := 64) rfl) rfl
theorem u2_65 : (Jvm.Cond.soleField "GapLinks$Ears" "takenByAll") ∈ UU := tb_2 (List.mem_of_getElem? (i := 65) rfl) rfl
theorem u2_66 : (Jvm.Cond.laysFinal "GapLinks$Ears" "GapLinks$Ears" "taken" "[I") ∈ UU := tb_2 (List.mem_of_getElem? (i := 66) rfl) rfl
theorem u2_67 : (Jvm.Cond.soleField "GapLinks$Ears" "taken") ∈ UU := tb_2 (List.mem_of_getElem? (i := 67) rfl) rfl
theorem u2_68 : (Jvm.Cond.laysFinal "GapLinks$Ears" "GapLinks$Ears" "refused" "[I") ∈ UU := tb_2 (List.mem_of_getElem? (i := 68) rfl) rfl
theorem u2_69 : (Jvm.Cond.soleField "GapLinks$Ears" "refused") ∈ UU := tb_2 (List.mem_of_getElem? (i := 69) rfl) rfl
theorem u2_70 : (Jvm.Cond.laysFinal "GapLinks$Ears" "GapLinks$Ears" "doubles" "[I") ∈ UU := tb_2 (List.mem_of_getElem? (i := 70) rfl) rfl
theorem u2_71 : (Jvm.Cond.soleField "GapLinks$Ears" "doubles") ∈ UU := tb_2 (List.mem_of_getElem? (i := 71) rfl) rfl
theorem u2_72 : (Jvm.Cond.laysFinal "GapLinks$Ears" "GapLinks$Ears" "latestNumber" "[I") ∈ UU := tb_2 (List.mem_of_getElem? (i := 72) rfl) rfl
theorem u2_73 : (Jvm.Cond.soleField "GapLinks$Ears" "latestNumber") ∈ UU := tb_2 (List.mem_of_getElem? (i := 73) rfl) rfl
theorem u2_74 : (Jvm.Cond.laysFinal "GapLinks$Ears" "GapLinks$Ears" "latestTime" "[I") ∈ UU := tb_2 (List.mem_of_getElem? (i := 74) rfl) rfl
theorem u2_75 : (Jvm.Cond.soleField "GapLinks$Ears" "latestTime") ∈ UU := tb_2 (List.mem_of_getElem? (i := 75) rfl) rfl
theorem u2_76 : (Jvm.Cond.laysFinal "GapLinks$Ears" "GapLinks$Ears" "latestNet" "[I") ∈ UU := tb_2 (List.mem_of_getElem? (i := 76) rfl) rfl
theorem u2_77 : (Jvm.Cond.soleField "GapLinks$Ears" "latestNet") ∈ UU := tb_2 (List.mem_of_getElem? (i := 77) rfl) rfl
theorem u2_78 : (Jvm.Cond.laysFinal "GapLinks$Ears" "GapLinks$Ears" "greatestLate" "[I") ∈ UU := tb_2 (List.mem_of_getElem? (i := 78) rfl) rfl
theorem u2_79 : (Jvm.Cond.soleField "GapLinks$Ears" "greatestLate") ∈ UU := tb_2 (List.mem_of_getElem? (i := 79) rfl) rfl
theorem u2_80 : (Jvm.Cond.laysFinal "GapLinks$Ears" "GapLinks$Ears" "leastLate" "[I") ∈ UU := tb_2 (List.mem_of_getElem? (i := 80) rfl) rfl
theorem u2_81 : (Jvm.Cond.soleField "GapLinks$Ears" "leastLate") ∈ UU := tb_2 (List.mem_of_getElem? (i := 81) rfl) rfl
theorem u2_82 : (Jvm.Cond.laysFinal "GapLinks$Ears" "GapLinks$Ears" "seen" "[I") ∈ UU := tb_2 (List.mem_of_getElem? (i := 82) rfl) rfl
theorem u2_83 : (Jvm.Cond.soleField "GapLinks$Ears" "seen") ∈ UU := tb_2 (List.mem_of_getElem? (i := 83) rfl) rfl
theorem u2_84 : (Jvm.Cond.laysFinal "GapLinks$Ears" "GapLinks$Ears" "memory" "[I") ∈ UU := tb_2 (List.mem_of_getElem? (i := 84) rfl) rfl
theorem u2_85 : (Jvm.Cond.soleField "GapLinks$Ears" "memory") ∈ UU := tb_2 (List.mem_of_getElem? (i := 85) rfl) rfl
theorem u2_86 : (Jvm.Cond.superclass "GapLinks$Ears" "java/lang/Object") ∈ UU := tb_2 (List.mem_of_getElem? (i := 86) rfl) rfl
theorem u2_87 : (Jvm.Cond.fieldLink "GapLinks$State" (9 : Nat) "GapLinks$State" "time" "I") ∈ UU := tb_2 (List.mem_of_getElem? (i := 87) rfl) rfl
theorem u2_88 : (Jvm.Cond.fieldLink "GapLinks" (125 : Nat) "GapLinks$State" "time" "I") ∈ UU := tb_2 (List.mem_of_getElem? (i := 88) rfl) rfl
theorem u2_89 : (Jvm.Cond.fieldLink "GapLinks$State" (15 : Nat) "GapLinks$State" "isDown" "[I") ∈ UU := tb_2 (List.mem_of_getElem? (i := 89) rfl) rfl
theorem u2_90 : (Jvm.Cond.fieldLink "GapLinks" (297 : Nat) "GapLinks$State" "isDown" "[I") ∈ UU := tb_2 (List.mem_of_getElem? (i := 90) rfl) rfl
theorem u2_91 : (Jvm.Cond.fieldLink "GapLinks$State" (19 : Nat) "GapLinks$State" "lost" "[I") ∈ UU := tb_2 (List.mem_of_getElem? (i := 91) rfl) rfl
theorem u2_92 : (Jvm.Cond.fieldLink "GapLinks" (229 : Nat) "GapLinks$State" "lost" "[I") ∈ UU := tb_2 (List.mem_of_getElem? (i := 92) rfl) rfl
theorem u2_93 : (Jvm.Cond.fieldLink "GapLinks$State" (22 : Nat) "GapLinks$State" "waiting" "[I") ∈ UU := tb_2 (List.mem_of_getElem? (i := 93) rfl) rfl
theorem u2_94 : (Jvm.Cond.fieldLink "GapLinks" (176 : Nat) "GapLinks$State" "waiting" "[I") ∈ UU := tb_2 (List.mem_of_getElem? (i := 94) rfl) rfl
theorem u2_95 : (Jvm.Cond.fieldLink "GapLinks$State" (25 : Nat) "GapLinks$State" "next" "[I") ∈ UU := tb_2 (List.mem_of_getElem? (i := 95) rfl) rfl
theorem u2_96 : (Jvm.Cond.fieldLink "GapLinks" (179 : Nat) "GapLinks$State" "next" "[I") ∈ UU := tb_2 (List.mem_of_getElem? (i := 96) rfl) rfl
theorem u2_97 : (Jvm.Cond.fieldLink "GapLinks$State" (28 : Nat) "GapLinks$State" "number" "[I") ∈ UU := tb_2 (List.mem_of_getElem? (i := 97) rfl) rfl
theorem u2_98 : (Jvm.Cond.fieldLink "GapLinks" (182 : Nat) "GapLinks$State" "number" "[I") ∈ UU := tb_2 (List.mem_of_getElem? (i := 98) rfl) rfl
theorem u2_99 : (Jvm.Cond.fieldLink "GapLinks$State" (31 : Nat) "GapLinks$State" "born" "[I") ∈ UU := tb_2 (List.mem_of_getElem? (i := 99) rfl) rfl
theorem u2_100 : (Jvm.Cond.fieldLink "GapLinks" (185 : Nat) "GapLinks$State" "born" "[I") ∈ UU := tb_2 (List.mem_of_getElem? (i := 100) rfl) rfl
theorem u2_101 : (Jvm.Cond.fieldLink "GapLinks$State" (34 : Nat) "GapLinks$State" "longestWait" "[I") ∈ UU := tb_2 (List.mem_of_getElem? (i := 101) rfl) rfl
theorem u2_102 : (Jvm.Cond.fieldLink "GapLinks" (188 : Nat) "GapLinks$State" "longestWait" "[I") ∈ UU := tb_2 (List.mem_of_getElem? (i := 102) rfl) rfl
theorem u2_103 : (Jvm.Cond.fieldLink "GapLinks$State" (37 : Nat) "GapLinks$State" "credit" "[I") ∈ UU := tb_2 (List.mem_of_getElem? (i := 103) rfl) rfl
theorem u2_104 : (Jvm.Cond.fieldLink "GapLinks" (194 : Nat) "GapLinks$State" "credit" "[I") ∈ UU := tb_2 (List.mem_of_getElem? (i := 104) rfl) rfl
theorem u2_105 : (Jvm.Cond.fieldLink "GapLinks$State" (40 : Nat) "GapLinks$State" "policed" "[I") ∈ UU := tb_2 (List.mem_of_getElem? (i := 105) rfl) rfl
theorem u2_106 : (Jvm.Cond.fieldLink "GapLinks" (232 : Nat) "GapLinks$State" "policed" "[I") ∈ UU := tb_2 (List.mem_of_getElem? (i := 106) rfl) rfl
theorem u2_107 : (Jvm.Cond.fieldLink "GapLinks$State" (46 : Nat) "GapLinks$State" "ports" "LGapLinks$Ports;") ∈ UU := tb_2 (List.mem_of_getElem? (i := 107) rfl) rfl
theorem u2_108 : (Jvm.Cond.fieldLink "GapLinks" (200 : Nat) "GapLinks$State" "ports" "LGapLinks$Ports;") ∈ UU := tb_2 (List.mem_of_getElem? (i := 108) rfl) rfl
theorem u2_109 : (Jvm.Cond.fieldLink "GapLinks$State" (53 : Nat) "GapLinks$State" "ears" "LGapLinks$Ears;") ∈ UU := tb_2 (List.mem_of_getElem? (i := 109) rfl) rfl
theorem u2_110 : (Jvm.Cond.fieldLink "GapLinks" (240 : Nat) "GapLinks$State" "ears" "LGapLinks$Ears;") ∈ UU := tb_2 (List.mem_of_getElem? (i := 110) rfl) rfl
theorem u2_111 : (Jvm.Cond.lays "GapLinks$State" "GapLinks$State" "time" "I") ∈ UU := tb_2 (List.mem_of_getElem? (i := 111) rfl) rfl
theorem u2_112 : (Jvm.Cond.soleField "GapLinks$State" "time") ∈ UU := tb_2 (List.mem_of_getElem? (i := 112) rfl) rfl
theorem u2_113 : (Jvm.Cond.laysFinal "GapLinks$State" "GapLinks$State" "isDown" "[I") ∈ UU := tb_2 (List.mem_of_getElem? (i := 113) rfl) rfl
theorem u2_114 : (Jvm.Cond.soleField "GapLinks$State" "isDown") ∈ UU := tb_2 (List.mem_of_getElem? (i := 114) rfl) rfl
theorem u2_115 : (Jvm.Cond.laysFinal "GapLinks$State" "GapLinks$State" "lost" "[I") ∈ UU := tb_2 (List.mem_of_getElem? (i := 115) rfl) rfl
theorem u2_116 : (Jvm.Cond.soleField "GapLinks$State" "lost") ∈ UU := tb_2 (List.mem_of_getElem? (i := 116) rfl) rfl
theorem u2_117 : (Jvm.Cond.laysFinal "GapLinks$State" "GapLinks$State" "waiting" "[I") ∈ UU := tb_2 (List.mem_of_getElem? (i := 117) rfl) rfl
theorem u2_118 : (Jvm.Cond.soleField "GapLinks$State" "waiting") ∈ UU := tb_2 (List.mem_of_getElem? (i := 118) rfl) rfl
theorem u2_119 : (Jvm.Cond.laysFinal "GapLinks$State" "GapLinks$State" "next" "[I") ∈ UU := tb_2 (List.mem_of_getElem? (i := 119) rfl) rfl
theorem u2_120 : (Jvm.Cond.soleField "GapLinks$State" "next") ∈ UU := tb_2 (List.mem_of_getElem? (i := 120) rfl) rfl
theorem u2_121 : (Jvm.Cond.laysFinal "GapLinks$State" "GapLinks$State" "number" "[I") ∈ UU := tb_2 (List.mem_of_getElem? (i := 121) rfl) rfl
theorem u2_122 : (Jvm.Cond.soleField "GapLinks$State" "number") ∈ UU := tb_2 (List.mem_of_getElem? (i := 122) rfl) rfl
theorem u2_123 : (Jvm.Cond.laysFinal "GapLinks$State" "GapLinks$State" "born" "[I") ∈ UU := tb_2 (List.mem_of_getElem? (i := 123) rfl) rfl
theorem u2_124 : (Jvm.Cond.soleField "GapLinks$State" "born") ∈ UU := tb_2 (List.mem_of_getElem? (i := 124) rfl) rfl
theorem u2_125 : (Jvm.Cond.laysFinal "GapLinks$State" "GapLinks$State" "longestWait" "[I") ∈ UU := tb_2 (List.mem_of_getElem? (i := 125) rfl) rfl
theorem u2_126 : (Jvm.Cond.soleField "GapLinks$State" "longestWait") ∈ UU := tb_2 (List.mem_of_getElem? (i := 126) rfl) rfl
theorem u2_127 : (Jvm.Cond.laysFinal "GapLinks$State" "GapLinks$State" "credit" "[I") ∈ UU := tb_2 (List.mem_of_getElem? (i := 127) rfl) rfl
theorem u2_128 : (Jvm.Cond.soleField "GapLinks$State" "credit") ∈ UU := tb_2 (List.mem_of_getElem? (i := 128) rfl) rfl
theorem u2_129 : (Jvm.Cond.laysFinal "GapLinks$State" "GapLinks$State" "policed" "[I") ∈ UU := tb_2 (List.mem_of_getElem? (i := 129) rfl) rfl
theorem u2_130 : (Jvm.Cond.soleField "GapLinks$State" "policed") ∈ UU := tb_2 (List.mem_of_getElem? (i := 130) rfl) rfl
theorem u2_131 : (Jvm.Cond.laysFinal "GapLinks$State" "GapLinks$State" "ports" "LGapLinks$Ports;") ∈ UU := tb_2 (List.mem_of_getElem? (i := 131) rfl) rfl
theorem u2_132 : (Jvm.Cond.soleField "GapLinks$State" "ports") ∈ UU := tb_2 (List.mem_of_getElem? (i := 132) rfl) rfl
theorem u2_133 : (Jvm.Cond.laysFinal "GapLinks$State" "GapLinks$State" "ears" "LGapLinks$Ears;") ∈ UU := tb_2 (List.mem_of_getElem? (i := 133) rfl) rfl
theorem u2_134 : (Jvm.Cond.soleField "GapLinks$State" "ears") ∈ UU := tb_2 (List.mem_of_getElem? (i := 134) rfl) rfl
theorem u2_135 : (Jvm.Cond.superclass "GapLinks$State" "java/lang/Object") ∈ UU := tb_2 (List.mem_of_getElem? (i := 135) rfl) rfl
theorem u2_136 : (Jvm.Cond.fieldLink "GapLinks" (12 : Nat) "GapLinks" "reader" "LGapLinks$Reader;") ∈ UU := tb_2 (List.mem_of_getElem? (i := 136) rfl) rfl
theorem u2_137 : (Jvm.Cond.fieldLink "GapLinks" (19 : Nat) "GapLinks" "plan" "LGapLinks$Plan;") ∈ UU := tb_2 (List.mem_of_getElem? (i := 137) rfl) rfl
theorem u2_138 : (Jvm.Cond.fieldLink "GapLinks" (26 : Nat) "GapLinks" "envelope" "LGapLinks$Envelope;") ∈ UU := tb_2 (List.mem_of_getElem? (i := 138) rfl) rfl
theorem u2_139 : (Jvm.Cond.fieldLink "GapLinks" (33 : Nat) "GapLinks" "now" "LGapLinks$State;") ∈ UU := tb_2 (List.mem_of_getElem? (i := 139) rfl) rfl
theorem u2_140 : (Jvm.Cond.fieldLink "GapLinks" (37 : Nat) "GapLinks" "kept" "LGapLinks$State;") ∈ UU := tb_2 (List.mem_of_getElem? (i := 140) rfl) rfl
theorem u2_141 : (Jvm.Cond.fieldLink "GapLinks" (40 : Nat) "GapLinks" "later" "LGapLinks$State;") ∈ UU := tb_2 (List.mem_of_getElem? (i := 141) rfl) rfl
theorem u2_142 : (Jvm.Cond.fieldLink "GapLinks" (43 : Nat) "GapLinks" "isKept" "Z") ∈ UU := tb_2 (List.mem_of_getElem? (i := 142) rfl) rfl
theorem u2_143 : (Jvm.Cond.fieldLink "GapLinks" (47 : Nat) "GapLinks" "trouble" "I") ∈ UU := tb_2 (List.mem_of_getElem? (i := 143) rfl) rfl
theorem u2_144 : (Jvm.Cond.fieldLink "GapLinks" (51 : Nat) "GapLinks" "latestFault" "I") ∈ UU := tb_2 (List.mem_of_getElem? (i := 144) rfl) rfl
theorem u2_145 : (Jvm.Cond.fieldLink "GapLinks" (54 : Nat) "GapLinks" "faultPlace" "I") ∈ UU := tb_2 (List.mem_of_getElem? (i := 145) rfl) rfl
theorem u2_146 : (Jvm.Cond.laysFinal "GapLinks" "GapLinks" "reader" "LGapLinks$Reader;") ∈ UU := tb_2 (List.mem_of_getElem? (i := 146) rfl) rfl
theorem u2_147 : (Jvm.Cond.soleField "GapLinks" "reader") ∈ UU := tb_2 (List.mem_of_getElem? (i := 147) rfl) rfl
theorem u2_148 : (Jvm.Cond.lays "GapLinks" "GapLinks" "plan" "LGapLinks$Plan;") ∈ UU := tb_2 (List.mem_of_getElem? (i := 148) rfl) rfl
theorem u2_149 : (Jvm.Cond.soleField "GapLinks" "plan") ∈ UU := tb_2 (List.mem_of_getElem? (i := 149) rfl) rfl
theorem u2_150 : (Jvm.Cond.laysFinal "GapLinks" "GapLinks" "envelope" "LGapLinks$Envelope;") ∈ UU := tb_2 (List.mem_of_getElem? (i := 150) rfl) rfl
theorem u2_151 : (Jvm.Cond.soleField "GapLinks" "envelope") ∈ UU := tb_2 (List.mem_of_getElem? (i := 151) rfl) rfl
theorem u2_152 : (Jvm.Cond.laysFinal "GapLinks" "GapLinks" "now" "LGapLinks$State;") ∈ UU := tb_2 (List.mem_of_getElem? (i := 152) rfl) rfl
theorem u2_153 : (Jvm.Cond.soleField "GapLinks" "now") ∈ UU := tb_2 (List.mem_of_getElem? (i := 153) rfl) rfl
theorem u2_154 : (Jvm.Cond.laysFinal "GapLinks" "GapLinks" "kept" "LGapLinks$State;") ∈ UU := tb_2 (List.mem_of_getElem? (i := 154) rfl) rfl
theorem u2_155 : (Jvm.Cond.soleField "GapLinks" "kept") ∈ UU := tb_2 (List.mem_of_getElem? (i := 155) rfl) rfl
theorem u2_156 : (Jvm.Cond.laysFinal "GapLinks" "GapLinks" "later" "LGapLinks$State;") ∈ UU := tb_2 (List.mem_of_getElem? (i := 156) rfl) rfl
theorem u2_157 : (Jvm.Cond.soleField "GapLinks" "later") ∈ UU := tb_2 (List.mem_of_getElem? (i := 157) rfl) rfl
theorem u2_158 : (Jvm.Cond.lays "GapLinks" "GapLinks" "isKept" "Z") ∈ UU := tb_2 (List.mem_of_getElem? (i := 158) rfl) rfl
theorem u2_159 : (Jvm.Cond.soleField "GapLinks" "isKept") ∈ UU := tb_2 (List.mem_of_getElem? (i := 159) rfl) rfl
theorem u2_160 : (Jvm.Cond.lays "GapLinks" "GapLinks" "trouble" "I") ∈ UU := tb_2 (List.mem_of_getElem? (i := 160) rfl) rfl
theorem u2_161 : (Jvm.Cond.soleField "GapLinks" "trouble") ∈ UU := tb_2 (List.mem_of_getElem? (i := 161) rfl) rfl
theorem u2_162 : (Jvm.Cond.lays "GapLinks" "GapLinks" "latestFault" "I") ∈ UU := tb_2 (List.mem_of_getElem? (i := 162) rfl) rfl
theorem u2_163 : (Jvm.Cond.soleField "GapLinks" "latestFault") ∈ UU := tb_2 (List.mem_of_getElem? (i := 163) rfl) rfl
theorem u2_164 : (Jvm.Cond.lays "GapLinks" "GapLinks" "faultPlace" "I") ∈ UU := tb_2 (List.mem_of_getElem? (i := 164) rfl) rfl
theorem u2_165 : (Jvm.Cond.soleField "GapLinks" "faultPlace") ∈ UU := tb_2 (List.mem_of_getElem? (i := 165) rfl) rfl
theorem u2_166 : (Jvm.Cond.superclass "GapLinks" "java/lang/Object") ∈ UU := tb_2 (List.mem_of_getElem? (i := 166) rfl) rfl
theorem u2_167 : (Jvm.Cond.methodLink "GapLinksLaw" (19 : Nat) ({ cls := "GapLinks", name := "feed", desc := "(IIIII)I" } : Jvm.MethodName)) ∈ UU := tb_2 (List.mem_of_getElem? (i := 167) rfl) rfl
theorem u2_168 : (Jvm.Cond.instanceMethod ({ cls := "GapLinks", name := "feed", desc := "(IIIII)I" } : Jvm.MethodName)) ∈ UU := tb_2 (List.mem_of_getElem? (i := 168) rfl) rfl
theorem u2_169 : (Jvm.Cond.selects "GapLinks" ({ cls := "GapLinks", name := "feed", desc := "(IIIII)I" } : Jvm.MethodName) ({ cls := "GapLinks", name := "feed", desc := "(IIIII)I" } : Jvm.MethodName)) ∈ UU := tb_2 (List.mem_of_getElem? (i := 169) rfl) rfl
theorem u2_170 : (Jvm.Cond.code ({ cls := "GapLinks", name := "feed", desc := "(IIIII)I" } : Jvm.MethodName) prog_1_method_2_code (6 : Nat) (Option.some Jvm.ClassFile.FieldType.int)) ∈ UU := tb_2 (List.mem_of_getElem? (i := 170) rfl) rfl
theorem u2_171 : (Jvm.Cond.methodLink "GapLinks" (60 : Nat) ({ cls := "GapLinks$Reader", name := "append", desc := "(I)V" } : Jvm.MethodName)) ∈ UU := tb_2 (List.mem_of_getElem? (i := 171) rfl) rfl
theorem u2_172 : (Jvm.Cond.instanceMethod ({ cls := "GapLinks$Reader", name := "append", desc := "(I)V" } : Jvm.MethodName)) ∈ UU := tb_2 (List.mem_of_getElem? (i := 172) rfl) rfl
theorem u2_173 : (Jvm.Cond.selects "GapLinks$Reader" ({ cls := "GapLinks$Reader", name := "append", desc := "(I)V" } : Jvm.MethodName) ({ cls := "GapLinks$Reader", name := "append", desc := "(I)V" } : Jvm.MethodName)) ∈ UU := tb_2 (List.mem_of_getElem? (i := 173) rfl) rfl
theorem u2_174 : (Jvm.Cond.code ({ cls := "GapLinks$Reader", name := "append", desc := "(I)V" } : Jvm.MethodName) prog_6_method_2_code (3 : Nat) (Option.none : Option Jvm.ClassFile.FieldType)) ∈ UU := tb_2 (List.mem_of_getElem? (i := 174) rfl) rfl
theorem u2_175 : (Jvm.Cond.methodLink "GapLinksLaw" (24 : Nat) ({ cls := "GapLinks", name := "bus", desc := "(I)I" } : Jvm.MethodName)) ∈ UU := tb_2 (List.mem_of_getElem? (i := 175) rfl) rfl
theorem u2_176 : (Jvm.Cond.instanceMethod ({ cls := "GapLinks", name := "bus", desc := "(I)I" } : Jvm.MethodName)) ∈ UU := tb_2 (List.mem_of_getElem? (i := 176) rfl) rfl
theorem u2_177 : (Jvm.Cond.selects "GapLinks" ({ cls := "GapLinks", name := "bus", desc := "(I)I" } : Jvm.MethodName) ({ cls := "GapLinks", name := "bus", desc := "(I)I" } : Jvm.MethodName)) ∈ UU := tb_2 (List.mem_of_getElem? (i := 177) rfl) rfl
theorem u2_178 : (Jvm.Cond.code ({ cls := "GapLinks", name := "bus", desc := "(I)I" } : Jvm.MethodName) prog_1_method_3_code (2 : Nat) (Option.some Jvm.ClassFile.FieldType.int)) ∈ UU := tb_2 (List.mem_of_getElem? (i := 178) rfl) rfl
theorem u2_179 : (Jvm.Cond.methodLink "GapLinks" (64 : Nat) ({ cls := "GapLinks", name := "refuse", desc := "(I)I" } : Jvm.MethodName)) ∈ UU := tb_2 (List.mem_of_getElem? (i := 179) rfl) rfl
theorem u2_181 : (Jvm.Cond.instanceMethod ({ cls := "GapLinks", name := "refuse", desc := "(I)I" } : Jvm.MethodName)) ∈ UU := tb_2 (List.mem_of_getElem? (i := 181) rfl) rfl
theorem u2_182 : (Jvm.Cond.code ({ cls := "GapLinks", name := "refuse", desc := "(I)I" } : Jvm.MethodName) prog_1_method_42_code (2 : Nat) (Option.some Jvm.ClassFile.FieldType.int)) ∈ UU := tb_2 (List.mem_of_getElem? (i := 182) rfl) rfl
theorem u2_183 : (Jvm.Cond.methodLink "GapLinks" (68 : Nat) ({ cls := "GapLinks$Reader", name := "read", desc := "(I)V" } : Jvm.MethodName)) ∈ UU := tb_2 (List.mem_of_getElem? (i := 183) rfl) rfl
theorem u2_184 : (Jvm.Cond.instanceMethod ({ cls := "GapLinks$Reader", name := "read", desc := "(I)V" } : Jvm.MethodName)) ∈ UU := tb_2 (List.mem_of_getElem? (i := 184) rfl) rfl
theorem u2_185 : (Jvm.Cond.selects "GapLinks$Reader" ({ cls := "GapLinks$Reader", name := "read", desc := "(I)V" } : Jvm.MethodName) ({ cls := "GapLinks$Reader", name := "read", desc := "(I)V" } : Jvm.MethodName)) ∈ UU := tb_2 (List.mem_of_getElem? (i := 185) rfl) rfl
theorem u2_186 : (Jvm.Cond.code ({ cls := "GapLinks$Reader", name := "read", desc := "(I)V" } : Jvm.MethodName) prog_6_method_4_code (3 : Nat) (Option.none : Option Jvm.ClassFile.FieldType)) ∈ UU := tb_2 (List.mem_of_getElem? (i := 186) rfl) rfl
theorem u2_187 : (Jvm.Cond.methodLink "GapLinks$Reader" (55 : Nat) ({ cls := "java/lang/Math", name := "min", desc := "(II)I" } : Jvm.MethodName)) ∈ UU := tb_2 (List.mem_of_getElem? (i := 187) rfl) rfl
theorem u2_188 : (Jvm.Cond.static ({ cls := "java/lang/Math", name := "min", desc := "(II)I" } : Jvm.MethodName)) ∈ UU := tb_2 (List.mem_of_getElem? (i := 188) rfl) rfl
theorem u2_189 : (Jvm.Cond.code ({ cls := "java/lang/Math", name := "min", desc := "(II)I" } : Jvm.MethodName) prog_17_method_69_code (2 : Nat) (Option.some Jvm.ClassFile.FieldType.int)) ∈ UU := tb_2 (List.mem_of_getElem? (i := 189) rfl) rfl
theorem u2_190 : (Jvm.Cond.methodLink "GapLinks$Reader" (61 : Nat) ({ cls := "GapLinks$Plan", name := "clear", desc := "()V" } : Jvm.MethodName)) ∈ UU := tb_2 (List.mem_of_getElem? (i := 190) rfl) rfl
theorem u2_191 : (Jvm.Cond.instanceMethod ({ cls := "GapLinks$Plan", name := "clear", desc := "()V" } : Jvm.MethodName)) ∈ UU := tb_2 (List.mem_of_getElem? (i := 191) rfl) rfl
theorem u2_192 : (Jvm.Cond.selects "GapLinks$Plan" ({ cls := "GapLinks$Plan", name := "clear", desc := "()V" } : Jvm.MethodName) ({ cls := "GapLinks$Plan", name := "clear", desc := "()V" } : Jvm.MethodName)) ∈ UU := tb_2 (List.mem_of_getElem? (i := 192) rfl) rfl
theorem u2_193 : (Jvm.Cond.code ({ cls := "GapLinks$Plan", name := "clear", desc := "()V" } : Jvm.MethodName) prog_4_method_2_code (1 : Nat) (Option.none : Option Jvm.ClassFile.FieldType)) ∈ UU := tb_2 (List.mem_of_getElem? (i := 193) rfl) rfl
theorem u2_194 : (Jvm.Cond.methodLink "GapLinks$Reader" (64 : Nat) ({ cls := "GapLinks$Reader", name := "step", desc := "()V" } : Jvm.MethodName)) ∈ UU := tb_2 (List.mem_of_getElem? (i := 194) rfl) rfl
theorem u2_196 : (Jvm.Cond.instanceMethod ({ cls := "GapLinks$Reader", name := "step", desc := "()V" } : Jvm.MethodName)) ∈ UU := tb_2 (List.mem_of_getElem? (i := 196) rfl) rfl
theorem u2_197 : (Jvm.Cond.code ({ cls := "GapLinks$Reader", name := "step", desc := "()V" } : Jvm.MethodName) prog_6_method_19_code (1 : Nat) (Option.none : Option Jvm.ClassFile.FieldType)) ∈ UU := tb_2 (List.mem_of_getElem? (i := 197) rfl) rfl
theorem u2_198 : (Jvm.Cond.methodLink "GapLinks$Reader" (209 : Nat) ({ cls := "GapLinks$Reader", name := "isLetter", desc := "(B)Z" } : Jvm.MethodName)) ∈ UU := tb_2 (List.mem_of_getElem? (i := 198) rfl) rfl
theorem u2_199 : (Jvm.Cond.static ({ cls := "GapLinks$Reader", name := "isLetter", desc := "(B)Z" } : Jvm.MethodName)) ∈ UU := tb_2 (List.mem_of_getElem? (i := 199) rfl) rfl
theorem u2_200 : (Jvm.Cond.code ({ cls := "GapLinks$Reader", name := "isLetter", desc := "(B)Z" } : Jvm.MethodName) prog_6_method_22_code (1 : Nat) (Option.some Jvm.ClassFile.FieldType.boolean)) ∈ UU := tb_2 (List.mem_of_getElem? (i := 200) rfl) rfl
theorem u2_201 : (Jvm.Cond.methodLink "GapLinks$Reader" (213 : Nat) ({ cls := "GapLinks$Reader", name := "stepWord", desc := "()V" } : Jvm.MethodName)) ∈ UU := tb_2 (List.mem_of_getElem? (i := 201) rfl) rfl
theorem u2_203 : (Jvm.Cond.instanceMethod ({ cls := "GapLinks$Reader", name := "stepWord", desc := "()V" } : Jvm.MethodName)) ∈ UU := tb_2 (List.mem_of_getElem? (i := 203) rfl) rfl
theorem u2_204 : (Jvm.Cond.code ({ cls := "GapLinks$Reader", name := "stepWord", desc := "()V" } : Jvm.MethodName) prog_6_method_20_code (2 : Nat) (Option.none : Option Jvm.ClassFile.FieldType)) ∈ UU := tb_2 (List.mem_of_getElem? (i := 204) rfl) rfl
theorem u2_205 : (Jvm.Cond.constantLong "GapLinks$Reader" (222 : Nat) (32 : Int64)) ∈ UU := tb_2 (List.mem_of_getElem? (i := 205) rfl) rfl
theorem u2_206 : (Jvm.Cond.methodLink "GapLinks$Reader" (216 : Nat) ({ cls := "GapLinks$Reader", name := "isDigit", desc := "(B)Z" } : Jvm.MethodName)) ∈ UU := tb_2 (List.mem_of_getElem? (i := 206) rfl) rfl
theorem u2_207 : (Jvm.Cond.static ({ cls := "GapLinks$Reader", name := "isDigit", desc := "(B)Z" } : Jvm.MethodName)) ∈ UU := tb_2 (List.mem_of_getElem? (i := 207) rfl) rfl
theorem u2_208 : (Jvm.Cond.code ({ cls := "GapLinks$Reader", name := "isDigit", desc := "(B)Z" } : Jvm.MethodName) prog_6_method_23_code (1 : Nat) (Option.some Jvm.ClassFile.FieldType.boolean)) ∈ UU := tb_2 (List.mem_of_getElem? (i := 208) rfl) rfl
theorem u2_209 : (Jvm.Cond.methodLink "GapLinks$Reader" (219 : Nat) ({ cls := "GapLinks$Reader", name := "stepWhole", desc := "()V" } : Jvm.MethodName)) ∈ UU := tb_2 (List.mem_of_getElem? (i := 209) rfl) rfl
theorem u2_211 : (Jvm.Cond.instanceMethod ({ cls := "GapLinks$Reader", name := "stepWhole", desc := "()V" } : Jvm.MethodName)) ∈ UU := tb_2 (List.mem_of_getElem? (i := 211) rfl) rfl
theorem u2_212 : (Jvm.Cond.code ({ cls := "GapLinks$Reader", name := "stepWhole", desc := "()V" } : Jvm.MethodName) prog_6_method_21_code (1 : Nat) (Option.none : Option Jvm.ClassFile.FieldType)) ∈ UU := tb_2 (List.mem_of_getElem? (i := 212) rfl) rfl
theorem u2_213 : (Jvm.Cond.constantLong "GapLinks$Reader" (67 : Nat) (7094703369807208480 : Int64)) ∈ UU := tb_2 (List.mem_of_getElem? (i := 213) rfl) rfl
theorem u2_214 : (Jvm.Cond.methodLink "GapLinks$Reader" (69 : Nat) ({ cls := "GapLinks$Reader", name := "isWord", desc := "(J)Z" } : Jvm.MethodName)) ∈ UU := tb_2 (List.mem_of_getElem? (i := 214) rfl) rfl
theorem u2_216 : (Jvm.Cond.instanceMethod ({ cls := "GapLinks$Reader", name := "isWord", desc := "(J)Z" } : Jvm.MethodName)) ∈ UU := tb_2 (List.mem_of_getElem? (i := 216) rfl) rfl
theorem u2_217 : (Jvm.Cond.code ({ cls := "GapLinks$Reader", name := "isWord", desc := "(J)Z" } : Jvm.MethodName) prog_6_method_11_code (3 : Nat) (Option.some Jvm.ClassFile.FieldType.boolean)) ∈ UU := tb_2 (List.mem_of_getElem? (i := 217) rfl) rfl
theorem u2_218 : (Jvm.Cond.methodLink "GapLinks$Reader" (73 : Nat) ({ cls := "GapLinks$Reader", name := "readBus", desc := "()V" } : Jvm.MethodName)) ∈ UU := tb_2 (List.mem_of_getElem? (i := 218) rfl) rfl
theorem u2_220 : (Jvm.Cond.instanceMethod ({ cls := "GapLinks$Reader", name := "readBus", desc := "()V" } : Jvm.MethodName)) ∈ UU := tb_2 (List.mem_of_getElem? (i := 220) rfl) rfl
theorem u2_221 : (Jvm.Cond.code ({ cls := "GapLinks$Reader", name := "readBus", desc := "()V" } : Jvm.MethodName) prog_6_method_6_code (1 : Nat) (Option.none : Option Jvm.ClassFile.FieldType)) ∈ UU := tb_2 (List.mem_of_getElem? (i := 221) rfl) rfl
theorem u2_222 : (Jvm.Cond.methodLink "GapLinks$Reader" (86 : Nat) ({ cls := "GapLinks$Reader", name := "fail", desc := "(I)V" } : Jvm.MethodName)) ∈ UU := tb_2 (List.mem_of_getElem? (i := 222) rfl) rfl
theorem u2_224 : (Jvm.Cond.instanceMethod ({ cls := "GapLinks$Reader", name := "fail", desc := "(I)V" } : Jvm.MethodName)) ∈ UU := tb_2 (List.mem_of_getElem? (i := 224) rfl) rfl
theorem u2_225 : (Jvm.Cond.code ({ cls := "GapLinks$Reader", name := "fail", desc := "(I)V" } : Jvm.MethodName) prog_6_method_5_code (2 : Nat) (Option.none : Option Jvm.ClassFile.FieldType)) ∈ UU := tb_2 (List.mem_of_getElem? (i := 225) rfl) rfl
theorem u2_226 : (Jvm.Cond.methodLink "GapLinks$Reader" (93 : Nat) ({ cls := "GapLinks$Reader", name := "pass", desc := "(J)V" } : Jvm.MethodName)) ∈ UU := tb_2 (List.mem_of_getElem? (i := 226) rfl) rfl
theorem u2_228 : (Jvm.Cond.instanceMethod ({ cls := "GapLinks$Reader", name := "pass", desc := "(J)V" } : Jvm.MethodName)) ∈ UU := tb_2 (List.mem_of_getElem? (i := 228) rfl) rfl
theorem u2_229 : (Jvm.Cond.code ({ cls := "GapLinks$Reader", name := "pass", desc := "(J)V" } : Jvm.MethodName) prog_6_method_13_code (3 : Nat) (Option.none : Option Jvm.ClassFile.FieldType)) ∈ UU := tb_2 (List.mem_of_getElem? (i := 229) rfl) rfl
theorem u2_230 : (Jvm.Cond.constantLong "GapLinks$Reader" (97 : Nat) (8320234785195189619 : Int64)) ∈ UU := tb_2 (List.mem_of_getElem? (i := 230) rfl) rfl
theorem u2_231 : (Jvm.Cond.methodLink "GapLinks$Reader" (99 : Nat) ({ cls := "GapLinks$Reader", name := "wholeWithin", desc := "(II)I" } : Jvm.MethodName)) ∈ UU := tb_2 (List.mem_of_getElem? (i := 231) rfl) rfl
theorem u2_233 : (Jvm.Cond.instanceMethod ({ cls := "GapLinks$Reader", name := "wholeWithin", desc := "(II)I" } : Jvm.MethodName)) ∈ UU := tb_2 (List.mem_of_getElem? (i := 233) rfl) rfl
theorem u2_234 : (Jvm.Cond.code ({ cls := "GapLinks$Reader", name := "wholeWithin", desc := "(II)I" } : Jvm.MethodName) prog_6_method_16_code (3 : Nat) (Option.some Jvm.ClassFile.FieldType.int)) ∈ UU := tb_2 (List.mem_of_getElem? (i := 234) rfl) rfl
theorem u2_235 : (Jvm.Cond.methodLink "GapLinks$Reader" (199 : Nat) ({ cls := "GapLinks$Reader", name := "checkedWhole", desc := "(Z)I" } : Jvm.MethodName)) ∈ UU := tb_2 (List.mem_of_getElem? (i := 235) rfl) rfl
theorem u2_237 : (Jvm.Cond.instanceMethod ({ cls := "GapLinks$Reader", name := "checkedWhole", desc := "(Z)I" } : Jvm.MethodName)) ∈ UU := tb_2 (List.mem_of_getElem? (i := 237) rfl) rfl
theorem u2_238 : (Jvm.Cond.code ({ cls := "GapLinks$Reader", name := "checkedWhole", desc := "(Z)I" } : Jvm.MethodName) prog_6_method_18_code (3 : Nat) (Option.some Jvm.ClassFile.FieldType.int)) ∈ UU := tb_2 (List.mem_of_getElem? (i := 238) rfl) rfl
theorem u2_239 : (Jvm.Cond.constantLong "GapLinks$Reader" (105 : Nat) (8245931957219762208 : Int64)) ∈ UU := tb_2 (List.mem_of_getElem? (i := 239) rfl) rfl
theorem u3_0 : (Jvm.Cond.constantLong "GapLinks$Reader" (110 : Nat) (7667787883841986592 : Int64)) ∈ UU := tb_3 (List.mem_of_getElem? (i := 0) rfl) rfl
theorem u3_1 : (Jvm.Cond.constantLong "GapLinks$Reader" (115 : Nat) (8604529940713906208 : Int64)) ∈ UU := tb_3 (List.mem_of_getElem? (i := 1) rfl) rfl
theorem u3_2 : (Jvm.Cond.constantLong "GapLinks$Reader" (120 : Nat) (8316852699184242720 : Int64)) ∈ UU := tb_3 (List.mem_of_getElem? (i := 2) rfl) rfl
theorem u3_3 : (Jvm.Cond.constantLong "GapLinks$Reader" (76 : Nat) (7308889334409601056 : Int64)) ∈ UU := tb_3 (List.mem_of_getElem? (i := 3) rfl) rfl
theorem u3_4 : (Jvm.Cond.methodLink "GapLinks$Reader" (78 : Nat) ({ cls := "GapLinks$Reader", name := "readEnd", desc := "()V" } : Jvm.MethodName)) ∈ UU := tb_3 (List.mem_of_getElem? (i := 4) rfl) rfl
theorem u3_6 : (Jvm.Cond.instanceMethod ({ cls := "GapLinks$Reader", name := "readEnd", desc := "()V" } : Jvm.MethodName)) ∈ UU := tb_3 (List.mem_of_getElem? (i := 6) rfl) rfl
theorem u3_7 : (Jvm.Cond.code ({ cls := "GapLinks$Reader", name := "readEnd", desc := "()V" } : Jvm.MethodName) prog_6_method_7_code (4 : Nat) (Option.none : Option Jvm.ClassFile.FieldType)) ∈ UU := tb_3 (List.mem_of_getElem? (i := 7) rfl) rfl
theorem u3_8 : (Jvm.Cond.methodLink "GapLinks$Reader" (128 : Nat) ({ cls := "GapLinks$Reader", name := "beginLine", desc := "(II)V" } : Jvm.MethodName)) ∈ UU := tb_3 (List.mem_of_getElem? (i := 8) rfl) rfl
theorem u3_10 : (Jvm.Cond.instanceMethod ({ cls := "GapLinks$Reader", name := "beginLine", desc := "(II)V" } : Jvm.MethodName)) ∈ UU := tb_3 (List.mem_of_getElem? (i := 10) rfl) rfl
theorem u3_11 : (Jvm.Cond.code ({ cls := "GapLinks$Reader", name := "beginLine", desc := "(II)V" } : Jvm.MethodName) prog_6_method_10_code (3 : Nat) (Option.none : Option Jvm.ClassFile.FieldType)) ∈ UU := tb_3 (List.mem_of_getElem? (i := 11) rfl) rfl
theorem u3_12 : (Jvm.Cond.methodLink "GapLinks$Reader" (132 : Nat) ({ cls := "GapLinks$Reader", name := "newName", desc := "()J" } : Jvm.MethodName)) ∈ UU := tb_3 (List.mem_of_getElem? (i := 12) rfl) rfl
theorem u3_14 : (Jvm.Cond.instanceMethod ({ cls := "GapLinks$Reader", name := "newName", desc := "()J" } : Jvm.MethodName)) ∈ UU := tb_3 (List.mem_of_getElem? (i := 14) rfl) rfl
theorem u3_15 : (Jvm.Cond.code ({ cls := "GapLinks$Reader", name := "newName", desc := "()J" } : Jvm.MethodName) prog_6_method_14_code (3 : Nat) (Option.some Jvm.ClassFile.FieldType.long)) ∈ UU := tb_3 (List.mem_of_getElem? (i := 15) rfl) rfl
theorem u3_16 : (Jvm.Cond.methodLink "GapLinks$Reader" (188 : Nat) ({ cls := "GapLinks$Reader", name := "isName", desc := "()Z" } : Jvm.MethodName)) ∈ UU := tb_3 (List.mem_of_getElem? (i := 16) rfl) rfl
theorem u3_18 : (Jvm.Cond.instanceMethod ({ cls := "GapLinks$Reader", name := "isName", desc := "()Z" } : Jvm.MethodName)) ∈ UU := tb_3 (List.mem_of_getElem? (i := 18) rfl) rfl
theorem u3_19 : (Jvm.Cond.code ({ cls := "GapLinks$Reader", name := "isName", desc := "()Z" } : Jvm.MethodName) prog_6_method_12_code (1 : Nat) (Option.some Jvm.ClassFile.FieldType.boolean)) ∈ UU := tb_3 (List.mem_of_getElem? (i := 19) rfl) rfl
theorem u3_20 : (Jvm.Cond.constantLong "GapLinks$Reader" (81 : Nat) (7811896435030368288 : Int64)) ∈ UU := tb_3 (List.mem_of_getElem? (i := 20) rfl) rfl
theorem u3_21 : (Jvm.Cond.methodLink "GapLinks$Reader" (192 : Nat) ({ cls := "GapLinks$Plan", name := "endNamed", desc := "(J)I" } : Jvm.MethodName)) ∈ UU := tb_3 (List.mem_of_getElem? (i := 21) rfl) rfl
theorem u3_22 : (Jvm.Cond.instanceMethod ({ cls := "GapLinks$Plan", name := "endNamed", desc := "(J)I" } : Jvm.MethodName)) ∈ UU := tb_3 (List.mem_of_getElem? (i := 22) rfl) rfl
theorem u3_23 : (Jvm.Cond.selects "GapLinks$Plan" ({ cls := "GapLinks$Plan", name := "endNamed", desc := "(J)I" } : Jvm.MethodName) ({ cls := "GapLinks$Plan", name := "endNamed", desc := "(J)I" } : Jvm.MethodName)) ∈ UU := tb_3 (List.mem_of_getElem? (i := 23) rfl) rfl
theorem u3_24 : (Jvm.Cond.code ({ cls := "GapLinks$Plan", name := "endNamed", desc := "(J)I" } : Jvm.MethodName) prog_4_method_7_code (4 : Nat) (Option.some Jvm.ClassFile.FieldType.int)) ∈ UU := tb_3 (List.mem_of_getElem? (i := 24) rfl) rfl
theorem u3_25 : (Jvm.Cond.methodLink "GapLinks$Reader" (196 : Nat) ({ cls := "GapLinks$Plan", name := "linkNamed", desc := "(J)I" } : Jvm.MethodName)) ∈ UU := tb_3 (List.mem_of_getElem? (i := 25) rfl) rfl
theorem u3_26 : (Jvm.Cond.instanceMethod ({ cls := "GapLinks$Plan", name := "linkNamed", desc := "(J)I" } : Jvm.MethodName)) ∈ UU := tb_3 (List.mem_of_getElem? (i := 26) rfl) rfl
theorem u3_27 : (Jvm.Cond.selects "GapLinks$Plan" ({ cls := "GapLinks$Plan", name := "linkNamed", desc := "(J)I" } : Jvm.MethodName) ({ cls := "GapLinks$Plan", name := "linkNamed", desc := "(J)I" } : Jvm.MethodName)) ∈ UU := tb_3 (List.mem_of_getElem? (i := 27) rfl) rfl
theorem u3_28 : (Jvm.Cond.code ({ cls := "GapLinks$Plan", name := "linkNamed", desc := "(J)I" } : Jvm.MethodName) prog_4_method_8_code (4 : Nat) (Option.some Jvm.ClassFile.FieldType.int)) ∈ UU := tb_3 (List.mem_of_getElem? (i := 28) rfl) rfl
theorem u3_29 : (Jvm.Cond.constantLong "GapLinks$Reader" (136 : Nat) (7022273041327464480 : Int64)) ∈ UU := tb_3 (List.mem_of_getElem? (i := 29) rfl) rfl
theorem u3_30 : (Jvm.Cond.methodLink "GapLinks$Reader" (83 : Nat) ({ cls := "GapLinks$Reader", name := "readLink", desc := "()V" } : Jvm.MethodName)) ∈ UU := tb_3 (List.mem_of_getElem? (i := 30) rfl) rfl
theorem u3_32 : (Jvm.Cond.instanceMethod ({ cls := "GapLinks$Reader", name := "readLink", desc := "()V" } : Jvm.MethodName)) ∈ UU := tb_3 (List.mem_of_getElem? (i := 32) rfl) rfl
theorem u3_33 : (Jvm.Cond.code ({ cls := "GapLinks$Reader", name := "readLink", desc := "()V" } : Jvm.MethodName) prog_6_method_8_code (7 : Nat) (Option.none : Option Jvm.ClassFile.FieldType)) ∈ UU := tb_3 (List.mem_of_getElem? (i := 33) rfl) rfl
theorem u3_34 : (Jvm.Cond.constantLong "GapLinks$Reader" (146 : Nat) (7382085253694758944 : Int64)) ∈ UU := tb_3 (List.mem_of_getElem? (i := 34) rfl) rfl
theorem u3_35 : (Jvm.Cond.methodLink "GapLinks$Reader" (148 : Nat) ({ cls := "GapLinks$Reader", name := "knownEnd", desc := "()I" } : Jvm.MethodName)) ∈ UU := tb_3 (List.mem_of_getElem? (i := 35) rfl) rfl
theorem u3_37 : (Jvm.Cond.instanceMethod ({ cls := "GapLinks$Reader", name := "knownEnd", desc := "()I" } : Jvm.MethodName)) ∈ UU := tb_3 (List.mem_of_getElem? (i := 37) rfl) rfl
theorem u3_38 : (Jvm.Cond.code ({ cls := "GapLinks$Reader", name := "knownEnd", desc := "()I" } : Jvm.MethodName) prog_6_method_15_code (2 : Nat) (Option.some Jvm.ClassFile.FieldType.int)) ∈ UU := tb_3 (List.mem_of_getElem? (i := 38) rfl) rfl
theorem u3_39 : (Jvm.Cond.constantLong "GapLinks$Reader" (152 : Nat) (7449358541927751712 : Int64)) ∈ UU := tb_3 (List.mem_of_getElem? (i := 39) rfl) rfl
theorem u3_40 : (Jvm.Cond.methodLink "GapLinks$Reader" (154 : Nat) ({ cls := "GapLinks$Reader", name := "wholeGap", desc := "()I" } : Jvm.MethodName)) ∈ UU := tb_3 (List.mem_of_getElem? (i := 40) rfl) rfl
theorem u3_42 : (Jvm.Cond.instanceMethod ({ cls := "GapLinks$Reader", name := "wholeGap", desc := "()I" } : Jvm.MethodName)) ∈ UU := tb_3 (List.mem_of_getElem? (i := 42) rfl) rfl
theorem u3_43 : (Jvm.Cond.code ({ cls := "GapLinks$Reader", name := "wholeGap", desc := "()I" } : Jvm.MethodName) prog_6_method_17_code (1 : Nat) (Option.some Jvm.ClassFile.FieldType.int)) ∈ UU := tb_3 (List.mem_of_getElem? (i := 43) rfl) rfl
theorem u3_44 : (Jvm.Cond.methodLink "GapLinks$Reader" (203 : Nat) ({ cls := "java/lang/Integer", name := "bitCount", desc := "(I)I" } : Jvm.MethodName)) ∈ UU := tb_3 (List.mem_of_getElem? (i := 44) rfl) rfl
theorem u3_45 : (Jvm.Cond.static ({ cls := "java/lang/Integer", name := "bitCount", desc := "(I)I" } : Jvm.MethodName)) ∈ UU := tb_3 (List.mem_of_getElem? (i := 45) rfl) rfl
theorem u3_46 : (Jvm.Cond.code ({ cls := "java/lang/Integer", name := "bitCount", desc := "(I)I" } : Jvm.MethodName) prog_15_method_49_code (1 : Nat) (Option.some Jvm.ClassFile.FieldType.int)) ∈ UU := tb_3 (List.mem_of_getElem? (i := 46) rfl) rfl
theorem u3_47 : (Jvm.Cond.constant "java/lang/Integer" (265 : Nat) (1431655765 : Int32)) ∈ UU := tb_3 (List.mem_of_getElem? (i := 47) rfl) rfl
theorem u3_48 : (Jvm.Cond.constant "java/lang/Integer" (266 : Nat) (858993459 : Int32)) ∈ UU := tb_3 (List.mem_of_getElem? (i := 48) rfl) rfl
theorem u3_49 : (Jvm.Cond.constant "java/lang/Integer" (267 : Nat) (252645135 : Int32)) ∈ UU := tb_3 (List.mem_of_getElem? (i := 49) rfl) rfl
theorem u3_50 : (Jvm.Cond.constantLong "GapLinks$Reader" (157 : Nat) (7810770519357661216 : Int64)) ∈ UU := tb_3 (List.mem_of_getElem? (i := 50) rfl) rfl
theorem u3_51 : (Jvm.Cond.constantLong "GapLinks$Reader" (159 : Nat) (8389959953164541984 : Int64)) ∈ UU := tb_3 (List.mem_of_getElem? (i := 51) rfl) rfl
theorem u3_52 : (Jvm.Cond.methodLink "GapLinks$Reader" (173 : Nat) ({ cls := "GapLinks$Reader", name := "readReceivers", desc := "(I)V" } : Jvm.MethodName)) ∈ UU := tb_3 (List.mem_of_getElem? (i := 52) rfl) rfl
theorem u3_54 : (Jvm.Cond.instanceMethod ({ cls := "GapLinks$Reader", name := "readReceivers", desc := "(I)V" } : Jvm.MethodName)) ∈ UU := tb_3 (List.mem_of_getElem? (i := 54) rfl) rfl
theorem u3_55 : (Jvm.Cond.code ({ cls := "GapLinks$Reader", name := "readReceivers", desc := "(I)V" } : Jvm.MethodName) prog_6_method_9_code (5 : Nat) (Option.none : Option Jvm.ClassFile.FieldType)) ∈ UU := tb_3 (List.mem_of_getElem? (i := 55) rfl) rfl
theorem u3_56 : (Jvm.Cond.methodLink "GapLinks$Reader" (179 : Nat) ({ cls := "GapLinks$Plan", name := "earAt", desc := "(II)I" } : Jvm.MethodName)) ∈ UU := tb_3 (List.mem_of_getElem? (i := 56) rfl) rfl
theorem u3_57 : (Jvm.Cond.instanceMethod ({ cls := "GapLinks$Plan", name := "earAt", desc := "(II)I" } : Jvm.MethodName)) ∈ UU := tb_3 (List.mem_of_getElem? (i := 57) rfl) rfl
theorem u3_58 : (Jvm.Cond.selects "GapLinks$Plan" ({ cls := "GapLinks$Plan", name := "earAt", desc := "(II)I" } : Jvm.MethodName) ({ cls := "GapLinks$Plan", name := "earAt", desc := "(II)I" } : Jvm.MethodName)) ∈ UU := tb_3 (List.mem_of_getElem? (i := 58) rfl) rfl
theorem u3_59 : (Jvm.Cond.code ({ cls := "GapLinks$Plan", name := "earAt", desc := "(II)I" } : Jvm.MethodName) prog_4_method_10_code (4 : Nat) (Option.some Jvm.ClassFile.FieldType.int)) ∈ UU := tb_3 (List.mem_of_getElem? (i := 59) rfl) rfl
theorem u3_61 : (Jvm.Cond.static ({ cls := "GapLinks", name := "earOf", desc := "(II)I" } : Jvm.MethodName)) ∈ UU := tb_3 (List.mem_of_getElem? (i := 61) rfl) rfl
theorem u3_62 : (Jvm.Cond.code ({ cls := "GapLinks", name := "earOf", desc := "(II)I" } : Jvm.MethodName) prog_1_method_50_code (2 : Nat) (Option.some Jvm.ClassFile.FieldType.int)) ∈ UU := tb_3 (List.mem_of_getElem? (i := 62) rfl) rfl
theorem u3_64 : (Jvm.Cond.methodLink "GapLinks" (77 : Nat) ({ cls := "GapLinks$Reader", name := "handOver", desc := "(LGapLinks$Plan;)LGapLinks$Plan;" } : Jvm.MethodName)) ∈ UU := tb_3 (List.mem_of_getElem? (i := 64) rfl) rfl
theorem u3_65 : (Jvm.Cond.instanceMethod ({ cls := "GapLinks$Reader", name := "handOver", desc := "(LGapLinks$Plan;)LGapLinks$Plan;" } : Jvm.MethodName)) ∈ UU := tb_3 (List.mem_of_getElem? (i := 65) rfl) rfl
theorem u3_66 : (Jvm.Cond.selects "GapLinks$Reader" ({ cls := "GapLinks$Reader", name := "handOver", desc := "(LGapLinks$Plan;)LGapLinks$Plan;" } : Jvm.MethodName) ({ cls := "GapLinks$Reader", name := "handOver", desc := "(LGapLinks$Plan;)LGapLinks$Plan;" } : Jvm.MethodName)) ∈ UU := tb_3 (List.mem_of_getElem? (i := 66) rfl) rfl
theorem u3_67 : (Jvm.Cond.code ({ cls := "GapLinks$Reader", name := "handOver", desc := "(LGapLinks$Plan;)LGapLinks$Plan;" } : Jvm.MethodName) prog_6_method_3_code (3 : Nat) (Option.some (Jvm.ClassFile.FieldType.object "GapLinks$Plan"))) ∈ UU := tb_3 (List.mem_of_getElem? (i := 67) rfl) rfl
theorem u3_68 : (Jvm.Cond.methodLink "GapLinks" (85 : Nat) ({ cls := "GapLinks$Ways", name := "lay", desc := "(LGapLinks$Plan;)V" } : Jvm.MethodName)) ∈ UU := tb_3 (List.mem_of_getElem? (i := 68) rfl) rfl
theorem u3_69 : (Jvm.Cond.instanceMethod ({ cls := "GapLinks$Ways", name := "lay", desc := "(LGapLinks$Plan;)V" } : Jvm.MethodName)) ∈ UU := tb_3 (List.mem_of_getElem? (i := 69) rfl) rfl
theorem u3_70 : (Jvm.Cond.selects "GapLinks$Ways" ({ cls := "GapLinks$Ways", name := "lay", desc := "(LGapLinks$Plan;)V" } : Jvm.MethodName) ({ cls := "GapLinks$Ways", name := "lay", desc := "(LGapLinks$Plan;)V" } : Jvm.MethodName)) ∈ UU := tb_3 (List.mem_of_getElem? (i := 70) rfl) rfl
theorem u3_71 : (Jvm.Cond.code ({ cls := "GapLinks$Ways", name := "lay", desc := "(LGapLinks$Plan;)V" } : Jvm.MethodName) prog_8_method_2_code (4 : Nat) (Option.none : Option Jvm.ClassFile.FieldType)) ∈ UU := tb_3 (List.mem_of_getElem? (i := 71) rfl) rfl
theorem u3_72 : (Jvm.Cond.methodLink "GapLinks$Ways" (27 : Nat) ({ cls := "java/util/Arrays", name := "fill", desc := "([II)V" } : Jvm.MethodName)) ∈ UU := tb_3 (List.mem_of_getElem? (i := 72) rfl) rfl
theorem u3_73 : (Jvm.Cond.static ({ cls := "java/util/Arrays", name := "fill", desc := "([II)V" } : Jvm.MethodName)) ∈ UU := tb_3 (List.mem_of_getElem? (i := 73) rfl) rfl
theorem u3_74 : (Jvm.Cond.code ({ cls := "java/util/Arrays", name := "fill", desc := "([II)V" } : Jvm.MethodName) prog_27_method_103_code (4 : Nat) (Option.none : Option Jvm.ClassFile.FieldType)) ∈ UU := tb_3 (List.mem_of_getElem? (i := 74) rfl) rfl
theorem u3_76 : (Jvm.Cond.methodLink "GapLinks$Ways" (46 : Nat) ({ cls := "GapLinks$Ways", name := "layOne", desc := "(LGapLinks$Plan;II)V" } : Jvm.MethodName)) ∈ UU := tb_3 (List.mem_of_getElem? (i := 76) rfl) rfl
theorem u3_78 : (Jvm.Cond.instanceMethod ({ cls := "GapLinks$Ways", name := "layOne", desc := "(LGapLinks$Plan;II)V" } : Jvm.MethodName)) ∈ UU := tb_3 (List.mem_of_getElem? (i := 78) rfl) rfl
theorem u3_79 : (Jvm.Cond.code ({ cls := "GapLinks$Ways", name := "layOne", desc := "(LGapLinks$Plan;II)V" } : Jvm.MethodName) prog_8_method_3_code (7 : Nat) (Option.none : Option Jvm.ClassFile.FieldType)) ∈ UU := tb_3 (List.mem_of_getElem? (i := 79) rfl) rfl
theorem u3_80 : (Jvm.Cond.methodLink "GapLinks$Ways" (59 : Nat) ({ cls := "GapLinks$Ways", name := "lengthen", desc := "(III)V" } : Jvm.MethodName)) ∈ UU := tb_3 (List.mem_of_getElem? (i := 80) rfl) rfl
theorem u3_82 : (Jvm.Cond.instanceMethod ({ cls := "GapLinks$Ways", name := "lengthen", desc := "(III)V" } : Jvm.MethodName)) ∈ UU := tb_3 (List.mem_of_getElem? (i := 82) rfl) rfl
theorem u3_83 : (Jvm.Cond.code ({ cls := "GapLinks$Ways", name := "lengthen", desc := "(III)V" } : Jvm.MethodName) prog_8_method_4_code (6 : Nat) (Option.none : Option Jvm.ClassFile.FieldType)) ∈ UU := tb_3 (List.mem_of_getElem? (i := 83) rfl) rfl
theorem u3_84 : (Jvm.Cond.methodLink "GapLinks$Ways" (63 : Nat) ({ cls := "GapLinks$Ways", name := "portAt", desc := "(II)I" } : Jvm.MethodName)) ∈ UU := tb_3 (List.mem_of_getElem? (i := 84) rfl) rfl
theorem u3_85 : (Jvm.Cond.instanceMethod ({ cls := "GapLinks$Ways", name := "portAt", desc := "(II)I" } : Jvm.MethodName)) ∈ UU := tb_3 (List.mem_of_getElem? (i := 85) rfl) rfl
theorem u3_86 : (Jvm.Cond.selects "GapLinks$Ways" ({ cls := "GapLinks$Ways", name := "portAt", desc := "(II)I" } : Jvm.MethodName) ({ cls := "GapLinks$Ways", name := "portAt", desc := "(II)I" } : Jvm.MethodName)) ∈ UU := tb_3 (List.mem_of_getElem? (i := 86) rfl) rfl
theorem u3_87 : (Jvm.Cond.code ({ cls := "GapLinks$Ways", name := "portAt", desc := "(II)I" } : Jvm.MethodName) prog_8_method_5_code (3 : Nat) (Option.some Jvm.ClassFile.FieldType.int)) ∈ UU := tb_3 (List.mem_of_getElem? (i := 87) rfl) rfl
theorem u3_88 : (Jvm.Cond.methodLink "GapLinks" (91 : Nat) ({ cls := "GapLinks$Envelope", name := "measure", desc := "(LGapLinks$Plan;)V" } : Jvm.MethodName)) ∈ UU := tb_3 (List.mem_of_getElem? (i := 88) rfl) rfl
theorem u3_89 : (Jvm.Cond.instanceMethod ({ cls := "GapLinks$Envelope", name := "measure", desc := "(LGapLinks$Plan;)V" } : Jvm.MethodName)) ∈ UU := tb_3 (List.mem_of_getElem? (i := 89) rfl) rfl
theorem u3_90 : (Jvm.Cond.selects "GapLinks$Envelope" ({ cls := "GapLinks$Envelope", name := "measure", desc := "(LGapLinks$Plan;)V" } : Jvm.MethodName) ({ cls := "GapLinks$Envelope", name := "measure", desc := "(LGapLinks$Plan;)V" } : Jvm.MethodName)) ∈ UU := tb_3 (List.mem_of_getElem? (i := 90) rfl) rfl
theorem u3_91 : (Jvm.Cond.code ({ cls := "GapLinks$Envelope", name := "measure", desc := "(LGapLinks$Plan;)V" } : Jvm.MethodName) prog_3_method_2_code (6 : Nat) (Option.none : Option Jvm.ClassFile.FieldType)) ∈ UU := tb_3 (List.mem_of_getElem? (i := 91) rfl) rfl
theorem u3_92 : (Jvm.Cond.methodLink "GapLinks$Envelope" (26 : Nat) ({ cls := "GapLinks$Envelope", name := "loadWith", desc := "(LGapLinks$Plan;III)I" } : Jvm.MethodName)) ∈ UU := tb_3 (List.mem_of_getElem? (i := 92) rfl) rfl
theorem u3_93 : (Jvm.Cond.static ({ cls := "GapLinks$Envelope", name := "loadWith", desc := "(LGapLinks$Plan;III)I" } : Jvm.MethodName)) ∈ UU := tb_3 (List.mem_of_getElem? (i := 93) rfl) rfl
theorem u3_94 : (Jvm.Cond.code ({ cls := "GapLinks$Envelope", name := "loadWith", desc := "(LGapLinks$Plan;III)I" } : Jvm.MethodName) prog_3_method_3_code (7 : Nat) (Option.some Jvm.ClassFile.FieldType.int)) ∈ UU := tb_3 (List.mem_of_getElem? (i := 94) rfl) rfl
theorem u3_95 : (Jvm.Cond.methodLink "GapLinks$Envelope" (55 : Nat) ({ cls := "GapLinks$Ways", name := "uses", desc := "(II)Z" } : Jvm.MethodName)) ∈ UU := tb_3 (List.mem_of_getElem? (i := 95) rfl) rfl
theorem u3_96 : (Jvm.Cond.instanceMethod ({ cls := "GapLinks$Ways", name := "uses", desc := "(II)Z" } : Jvm.MethodName)) ∈ UU := tb_3 (List.mem_of_getElem? (i := 96) rfl) rfl
theorem u3_97 : (Jvm.Cond.selects "GapLinks$Ways" ({ cls := "GapLinks$Ways", name := "uses", desc := "(II)Z" } : Jvm.MethodName) ({ cls := "GapLinks$Ways", name := "uses", desc := "(II)Z" } : Jvm.MethodName)) ∈ UU := tb_3 (List.mem_of_getElem? (i := 97) rfl) rfl
theorem u3_98 : (Jvm.Cond.code ({ cls := "GapLinks$Ways", name := "uses", desc := "(II)Z" } : Jvm.MethodName) prog_8_method_6_code (3 : Nat) (Option.some Jvm.ClassFile.FieldType.boolean)) ∈ UU := tb_3 (List.mem_of_getElem? (i := 98) rfl) rfl
theorem u3_99 : (Jvm.Cond.methodLink "GapLinks$Envelope" (30 : Nat) ({ cls := "GapLinks$Envelope", name := "lengthsThrough", desc := "(LGapLinks$Plan;I)J" } : Jvm.MethodName)) ∈ UU := tb_3 (List.mem_of_getElem? (i := 99) rfl) rfl
theorem u3_100 : (Jvm.Cond.static ({ cls := "GapLinks$Envelope", name := "lengthsThrough", desc := "(LGapLinks$Plan;I)J" } : Jvm.MethodName)) ∈ UU := tb_3 (List.mem_of_getElem? (i := 100) rfl) rfl
theorem u3_101 : (Jvm.Cond.code ({ cls := "GapLinks$Envelope", name := "lengthsThrough", desc := "(LGapLinks$Plan;I)J" } : Jvm.MethodName) prog_3_method_4_code (5 : Nat) (Option.some Jvm.ClassFile.FieldType.long)) ∈ UU := tb_3 (List.mem_of_getElem? (i := 101) rfl) rfl
theorem u3_102 : (Jvm.Cond.constantLong "GapLinks$Envelope" (34 : Nat) (16777216 : Int64)) ∈ UU := tb_3 (List.mem_of_getElem? (i := 102) rfl) rfl
theorem u3_103 : (Jvm.Cond.fieldLink "GapLinks$Envelope" (36 : Nat) "GapLinks$Envelope" "DOWNSTREAM" "[I") ∈ UU := tb_3 (List.mem_of_getElem? (i := 103) rfl) rfl
theorem u3_105 : (Jvm.Cond.methodLink "GapLinks$Envelope" (39 : Nat) ({ cls := "GapLinks$Envelope", name := "burstsThrough", desc := "(LGapLinks$Plan;I)J" } : Jvm.MethodName)) ∈ UU := tb_3 (List.mem_of_getElem? (i := 105) rfl) rfl
theorem u3_107 : (Jvm.Cond.instanceMethod ({ cls := "GapLinks$Envelope", name := "burstsThrough", desc := "(LGapLinks$Plan;I)J" } : Jvm.MethodName)) ∈ UU := tb_3 (List.mem_of_getElem? (i := 107) rfl) rfl
theorem u3_108 : (Jvm.Cond.code ({ cls := "GapLinks$Envelope", name := "burstsThrough", desc := "(LGapLinks$Plan;I)J" } : Jvm.MethodName) prog_3_method_5_code (6 : Nat) (Option.some Jvm.ClassFile.FieldType.long)) ∈ UU := tb_3 (List.mem_of_getElem? (i := 108) rfl) rfl
theorem u3_109 : (Jvm.Cond.methodLink "GapLinks$Envelope" (64 : Nat) ({ cls := "GapLinks$Envelope", name := "burstAt", desc := "(LGapLinks$Plan;II)J" } : Jvm.MethodName)) ∈ UU := tb_3 (List.mem_of_getElem? (i := 109) rfl) rfl
theorem u3_111 : (Jvm.Cond.instanceMethod ({ cls := "GapLinks$Envelope", name := "burstAt", desc := "(LGapLinks$Plan;II)J" } : Jvm.MethodName)) ∈ UU := tb_3 (List.mem_of_getElem? (i := 111) rfl) rfl
theorem u3_112 : (Jvm.Cond.code ({ cls := "GapLinks$Envelope", name := "burstAt", desc := "(LGapLinks$Plan;II)J" } : Jvm.MethodName) prog_3_method_6_code (5 : Nat) (Option.some Jvm.ClassFile.FieldType.long)) ∈ UU := tb_3 (List.mem_of_getElem? (i := 112) rfl) rfl
theorem u3_113 : (Jvm.Cond.methodLink "GapLinks$Envelope" (74 : Nat) ({ cls := "GapLinks$Envelope", name := "perGap", desc := "(LGapLinks$Plan;IJ)J" } : Jvm.MethodName)) ∈ UU := tb_3 (List.mem_of_getElem? (i := 113) rfl) rfl
theorem u3_114 : (Jvm.Cond.static ({ cls := "GapLinks$Envelope", name := "perGap", desc := "(LGapLinks$Plan;IJ)J" } : Jvm.MethodName)) ∈ UU := tb_3 (List.mem_of_getElem? (i := 114) rfl) rfl
theorem u3_115 : (Jvm.Cond.code ({ cls := "GapLinks$Envelope", name := "perGap", desc := "(LGapLinks$Plan;IJ)J" } : Jvm.MethodName) prog_3_method_7_code (5 : Nat) (Option.some Jvm.ClassFile.FieldType.long)) ∈ UU := tb_3 (List.mem_of_getElem? (i := 115) rfl) rfl
theorem u3_116 : (Jvm.Cond.methodLink "GapLinks" (94 : Nat) ({ cls := "GapLinks$State", name := "beginWith", desc := "(LGapLinks$Plan;)V" } : Jvm.MethodName)) ∈ UU := tb_3 (List.mem_of_getElem? (i := 116) rfl) rfl
theorem u3_117 : (Jvm.Cond.instanceMethod ({ cls := "GapLinks$State", name := "beginWith", desc := "(LGapLinks$Plan;)V" } : Jvm.MethodName)) ∈ UU := tb_3 (List.mem_of_getElem? (i := 117) rfl) rfl
theorem u3_118 : (Jvm.Cond.selects "GapLinks$State" ({ cls := "GapLinks$State", name := "beginWith", desc := "(LGapLinks$Plan;)V" } : Jvm.MethodName) ({ cls := "GapLinks$State", name := "beginWith", desc := "(LGapLinks$Plan;)V" } : Jvm.MethodName)) ∈ UU := tb_3 (List.mem_of_getElem? (i := 118) rfl) rfl
theorem u3_119 : (Jvm.Cond.code ({ cls := "GapLinks$State", name := "beginWith", desc := "(LGapLinks$Plan;)V" } : Jvm.MethodName) prog_7_method_2_code (3 : Nat) (Option.none : Option Jvm.ClassFile.FieldType)) ∈ UU := tb_3 (List.mem_of_getElem? (i := 119) rfl) rfl
theorem u3_120 : (Jvm.Cond.methodLink "GapLinks$State" (57 : Nat) ({ cls := "java/util/Arrays", name := "fill", desc := "([II)V" } : Jvm.MethodName)) ∈ UU := tb_3 (List.mem_of_getElem? (i := 120) rfl) rfl
theorem u3_121 : (Jvm.Cond.methodLink "GapLinks$State" (68 : Nat) ({ cls := "GapLinks$Plan", name := "creditLimit", desc := "(I)I" } : Jvm.MethodName)) ∈ UU := tb_3 (List.mem_of_getElem? (i := 121) rfl) rfl
theorem u3_122 : (Jvm.Cond.instanceMethod ({ cls := "GapLinks$Plan", name := "creditLimit", desc := "(I)I" } : Jvm.MethodName)) ∈ UU := tb_3 (List.mem_of_getElem? (i := 122) rfl) rfl
theorem u3_123 : (Jvm.Cond.selects "GapLinks$Plan" ({ cls := "GapLinks$Plan", name := "creditLimit", desc := "(I)I" } : Jvm.MethodName) ({ cls := "GapLinks$Plan", name := "creditLimit", desc := "(I)I" } : Jvm.MethodName)) ∈ UU := tb_3 (List.mem_of_getElem? (i := 123) rfl) rfl
theorem u3_124 : (Jvm.Cond.code ({ cls := "GapLinks$Plan", name := "creditLimit", desc := "(I)I" } : Jvm.MethodName) prog_4_method_11_code (2 : Nat) (Option.some Jvm.ClassFile.FieldType.int)) ∈ UU := tb_3 (List.mem_of_getElem? (i := 124) rfl) rfl
theorem u3_125 : (Jvm.Cond.methodLink "GapLinks$State" (72 : Nat) ({ cls := "GapLinks$Ports", name := "clear", desc := "()V" } : Jvm.MethodName)) ∈ UU := tb_3 (List.mem_of_getElem? (i := 125) rfl) rfl
theorem u3_126 : (Jvm.Cond.instanceMethod ({ cls := "GapLinks$Ports", name := "clear", desc := "()V" } : Jvm.MethodName)) ∈ UU := tb_3 (List.mem_of_getElem? (i := 126) rfl) rfl
theorem u3_127 : (Jvm.Cond.selects "GapLinks$Ports" ({ cls := "GapLinks$Ports", name := "clear", desc := "()V" } : Jvm.MethodName) ({ cls := "GapLinks$Ports", name := "clear", desc := "()V" } : Jvm.MethodName)) ∈ UU := tb_3 (List.mem_of_getElem? (i := 127) rfl) rfl
theorem u3_128 : (Jvm.Cond.code ({ cls := "GapLinks$Ports", name := "clear", desc := "()V" } : Jvm.MethodName) prog_5_method_2_code (1 : Nat) (Option.none : Option Jvm.ClassFile.FieldType)) ∈ UU := tb_3 (List.mem_of_getElem? (i := 128) rfl) rfl
theorem u3_129 : (Jvm.Cond.methodLink "GapLinks$Ports" (37 : Nat) ({ cls := "java/util/Arrays", name := "fill", desc := "([II)V" } : Jvm.MethodName)) ∈ UU := tb_3 (List.mem_of_getElem? (i := 129) rfl) rfl
theorem u3_130 : (Jvm.Cond.methodLink "GapLinks$State" (75 : Nat) ({ cls := "GapLinks$Ears", name := "clear", desc := "()V" } : Jvm.MethodName)) ∈ UU := tb_3 (List.mem_of_getElem? (i := 130) rfl) rfl
theorem u3_131 : (Jvm.Cond.instanceMethod ({ cls := "GapLinks$Ears", name := "clear", desc := "()V" } : Jvm.MethodName)) ∈ UU := tb_3 (List.mem_of_getElem? (i := 131) rfl) rfl
theorem u3_132 : (Jvm.Cond.selects "GapLinks$Ears" ({ cls := "GapLinks$Ears", name := "clear", desc := "()V" } : Jvm.MethodName) ({ cls := "GapLinks$Ears", name := "clear", desc := "()V" } : Jvm.MethodName)) ∈ UU := tb_3 (List.mem_of_getElem? (i := 132) rfl) rfl
theorem u3_133 : (Jvm.Cond.code ({ cls := "GapLinks$Ears", name := "clear", desc := "()V" } : Jvm.MethodName) prog_2_method_2_code (1 : Nat) (Option.none : Option Jvm.ClassFile.FieldType)) ∈ UU := tb_3 (List.mem_of_getElem? (i := 133) rfl) rfl
theorem u3_134 : (Jvm.Cond.methodLink "GapLinks$Ears" (46 : Nat) ({ cls := "java/util/Arrays", name := "fill", desc := "([II)V" } : Jvm.MethodName)) ∈ UU := tb_3 (List.mem_of_getElem? (i := 134) rfl) rfl
theorem u3_135 : (Jvm.Cond.methodLink "GapLinks" (100 : Nat) ({ cls := "GapLinks", name := "answer", desc := "(I)I" } : Jvm.MethodName)) ∈ UU := tb_3 (List.mem_of_getElem? (i := 135) rfl) rfl
theorem u3_137 : (Jvm.Cond.instanceMethod ({ cls := "GapLinks", name := "answer", desc := "(I)I" } : Jvm.MethodName)) ∈ UU := tb_3 (List.mem_of_getElem? (i := 137) rfl) rfl
theorem u3_138 : (Jvm.Cond.code ({ cls := "GapLinks", name := "answer", desc := "(I)I" } : Jvm.MethodName) prog_1_method_43_code (2 : Nat) (Option.some Jvm.ClassFile.FieldType.int)) ∈ UU := tb_3 (List.mem_of_getElem? (i := 138) rfl) rfl
theorem u3_139 : (Jvm.Cond.methodLink "GapLinksLaw" (28 : Nat) ({ cls := "GapLinks", name := "fault", desc := "()I" } : Jvm.MethodName)) ∈ UU := tb_3 (List.mem_of_getElem? (i := 139) rfl) rfl
theorem u3_140 : (Jvm.Cond.instanceMethod ({ cls := "GapLinks", name := "fault", desc := "()I" } : Jvm.MethodName)) ∈ UU := tb_3 (List.mem_of_getElem? (i := 140) rfl) rfl
theorem u3_141 : (Jvm.Cond.selects "GapLinks" ({ cls := "GapLinks", name := "fault", desc := "()I" } : Jvm.MethodName) ({ cls := "GapLinks", name := "fault", desc := "()I" } : Jvm.MethodName)) ∈ UU := tb_3 (List.mem_of_getElem? (i := 141) rfl) rfl
theorem u3_142 : (Jvm.Cond.code ({ cls := "GapLinks", name := "fault", desc := "()I" } : Jvm.MethodName) prog_1_method_4_code (1 : Nat) (Option.some Jvm.ClassFile.FieldType.int)) ∈ UU := tb_3 (List.mem_of_getElem? (i := 142) rfl) rfl
theorem u3_143 : (Jvm.Cond.methodLink "GapLinksLaw" (33 : Nat) ({ cls := "GapLinks", name := "where", desc := "()I" } : Jvm.MethodName)) ∈ UU := tb_3 (List.mem_of_getElem? (i := 143) rfl) rfl
theorem u3_144 : (Jvm.Cond.instanceMethod ({ cls := "GapLinks", name := "where", desc := "()I" } : Jvm.MethodName)) ∈ UU := tb_3 (List.mem_of_getElem? (i := 144) rfl) rfl
theorem u3_145 : (Jvm.Cond.selects "GapLinks" ({ cls := "GapLinks", name := "where", desc := "()I" } : Jvm.MethodName) ({ cls := "GapLinks", name := "where", desc := "()I" } : Jvm.MethodName)) ∈ UU := tb_3 (List.mem_of_getElem? (i := 145) rfl) rfl
theorem u3_146 : (Jvm.Cond.code ({ cls := "GapLinks", name := "where", desc := "()I" } : Jvm.MethodName) prog_1_method_5_code (1 : Nat) (Option.some Jvm.ClassFile.FieldType.int)) ∈ UU := tb_3 (List.mem_of_getElem? (i := 146) rfl) rfl
theorem u3_147 : (Jvm.Cond.methodLink "GapLinksLaw" (37 : Nat) ({ cls := "GapLinks", name := "about", desc := "(I)I" } : Jvm.MethodName)) ∈ UU := tb_3 (List.mem_of_getElem? (i := 147) rfl) rfl
theorem u3_148 : (Jvm.Cond.instanceMethod ({ cls := "GapLinks", name := "about", desc := "(I)I" } : Jvm.MethodName)) ∈ UU := tb_3 (List.mem_of_getElem? (i := 148) rfl) rfl
theorem u3_149 : (Jvm.Cond.selects "GapLinks" ({ cls := "GapLinks", name := "about", desc := "(I)I" } : Jvm.MethodName) ({ cls := "GapLinks", name := "about", desc := "(I)I" } : Jvm.MethodName)) ∈ UU := tb_3 (List.mem_of_getElem? (i := 149) rfl) rfl
theorem u3_150 : (Jvm.Cond.code ({ cls := "GapLinks", name := "about", desc := "(I)I" } : Jvm.MethodName) prog_1_method_6_code (2 : Nat) (Option.some Jvm.ClassFile.FieldType.int)) ∈ UU := tb_3 (List.mem_of_getElem? (i := 150) rfl) rfl
theorem u3_151 : (Jvm.Cond.methodLink "GapLinks" (103 : Nat) ({ cls := "GapLinks", name := "noBus", desc := "()Z" } : Jvm.MethodName)) ∈ UU := tb_3 (List.mem_of_getElem? (i := 151) rfl) rfl
theorem u3_153 : (Jvm.Cond.instanceMethod ({ cls := "GapLinks", name := "noBus", desc := "()Z" } : Jvm.MethodName)) ∈ UU := tb_3 (List.mem_of_getElem? (i := 153) rfl) rfl
theorem u3_154 : (Jvm.Cond.code ({ cls := "GapLinks", name := "noBus", desc := "()Z" } : Jvm.MethodName) prog_1_method_45_code (1 : Nat) (Option.some Jvm.ClassFile.FieldType.boolean)) ∈ UU := tb_3 (List.mem_of_getElem? (i := 154) rfl) rfl
theorem u3_155 : (Jvm.Cond.methodLink "GapLinksLaw" (41 : Nat) ({ cls := "GapLinks", name := "at", desc := "(I)I" } : Jvm.MethodName)) ∈ UU := tb_3 (List.mem_of_getElem? (i := 155) rfl) rfl
theorem u3_156 : (Jvm.Cond.instanceMethod ({ cls := "GapLinks", name := "at", desc := "(I)I" } : Jvm.MethodName)) ∈ UU := tb_3 (List.mem_of_getElem? (i := 156) rfl) rfl
theorem u3_157 : (Jvm.Cond.selects "GapLinks" ({ cls := "GapLinks", name := "at", desc := "(I)I" } : Jvm.MethodName) ({ cls := "GapLinks", name := "at", desc := "(I)I" } : Jvm.MethodName)) ∈ UU := tb_3 (List.mem_of_getElem? (i := 157) rfl) rfl
theorem u3_158 : (Jvm.Cond.code ({ cls := "GapLinks", name := "at", desc := "(I)I" } : Jvm.MethodName) prog_1_method_7_code (2 : Nat) (Option.some Jvm.ClassFile.FieldType.int)) ∈ UU := tb_3 (List.mem_of_getElem? (i := 158) rfl) rfl
theorem u3_159 : (Jvm.Cond.methodLink "GapLinks" (128 : Nat) ({ cls := "GapLinks$Plan", name := "hasEnd", desc := "(I)Z" } : Jvm.MethodName)) ∈ UU := tb_3 (List.mem_of_getElem? (i := 159) rfl) rfl
theorem u3_160 : (Jvm.Cond.instanceMethod ({ cls := "GapLinks$Plan", name := "hasEnd", desc := "(I)Z" } : Jvm.MethodName)) ∈ UU := tb_3 (List.mem_of_getElem? (i := 160) rfl) rfl
theorem u3_161 : (Jvm.Cond.selects "GapLinks$Plan" ({ cls := "GapLinks$Plan", name := "hasEnd", desc := "(I)Z" } : Jvm.MethodName) ({ cls := "GapLinks$Plan", name := "hasEnd", desc := "(I)Z" } : Jvm.MethodName)) ∈ UU := tb_3 (List.mem_of_getElem? (i := 161) rfl) rfl
theorem u3_162 : (Jvm.Cond.code ({ cls := "GapLinks$Plan", name := "hasEnd", desc := "(I)Z" } : Jvm.MethodName) prog_4_method_3_code (2 : Nat) (Option.some Jvm.ClassFile.FieldType.boolean)) ∈ UU := tb_3 (List.mem_of_getElem? (i := 162) rfl) rfl
theorem u3_163 : (Jvm.Cond.methodLink "GapLinksLaw" (45 : Nat) ({ cls := "GapLinks", name := "link", desc := "(II)I" } : Jvm.MethodName)) ∈ UU := tb_3 (List.mem_of_getElem? (i := 163) rfl) rfl
theorem u3_164 : (Jvm.Cond.instanceMethod ({ cls := "GapLinks", name := "link", desc := "(II)I" } : Jvm.MethodName)) ∈ UU := tb_3 (List.mem_of_getElem? (i := 164) rfl) rfl
theorem u3_165 : (Jvm.Cond.selects "GapLinks" ({ cls := "GapLinks", name := "link", desc := "(II)I" } : Jvm.MethodName) ({ cls := "GapLinks", name := "link", desc := "(II)I" } : Jvm.MethodName)) ∈ UU := tb_3 (List.mem_of_getElem? (i := 165) rfl) rfl
theorem u3_166 : (Jvm.Cond.code ({ cls := "GapLinks", name := "link", desc := "(II)I" } : Jvm.MethodName) prog_1_method_8_code (3 : Nat) (Option.some Jvm.ClassFile.FieldType.int)) ∈ UU := tb_3 (List.mem_of_getElem? (i := 166) rfl) rfl
theorem u3_167 : (Jvm.Cond.methodLink "GapLinks" (136 : Nat) ({ cls := "GapLinks$Plan", name := "hasLink", desc := "(I)Z" } : Jvm.MethodName)) ∈ UU := tb_3 (List.mem_of_getElem? (i := 167) rfl) rfl
theorem u3_168 : (Jvm.Cond.instanceMethod ({ cls := "GapLinks$Plan", name := "hasLink", desc := "(I)Z" } : Jvm.MethodName)) ∈ UU := tb_3 (List.mem_of_getElem? (i := 168) rfl) rfl
theorem u3_169 : (Jvm.Cond.selects "GapLinks$Plan" ({ cls := "GapLinks$Plan", name := "hasLink", desc := "(I)Z" } : Jvm.MethodName) ({ cls := "GapLinks$Plan", name := "hasLink", desc := "(I)Z" } : Jvm.MethodName)) ∈ UU := tb_3 (List.mem_of_getElem? (i := 169) rfl) rfl
theorem u3_170 : (Jvm.Cond.code ({ cls := "GapLinks$Plan", name := "hasLink", desc := "(I)Z" } : Jvm.MethodName) prog_4_method_4_code (2 : Nat) (Option.some Jvm.ClassFile.FieldType.boolean)) ∈ UU := tb_3 (List.mem_of_getElem? (i := 170) rfl) rfl
theorem u3_171 : (Jvm.Cond.methodLink "GapLinksLaw" (50 : Nat) ({ cls := "GapLinks", name := "receiver", desc := "(II)I" } : Jvm.MethodName)) ∈ UU := tb_3 (List.mem_of_getElem? (i := 171) rfl) rfl
theorem u3_172 : (Jvm.Cond.instanceMethod ({ cls := "GapLinks", name := "receiver", desc := "(II)I" } : Jvm.MethodName)) ∈ UU := tb_3 (List.mem_of_getElem? (i := 172) rfl) rfl
theorem u3_173 : (Jvm.Cond.selects "GapLinks" ({ cls := "GapLinks", name := "receiver", desc := "(II)I" } : Jvm.MethodName) ({ cls := "GapLinks", name := "receiver", desc := "(II)I" } : Jvm.MethodName)) ∈ UU := tb_3 (List.mem_of_getElem? (i := 173) rfl) rfl
theorem u3_174 : (Jvm.Cond.code ({ cls := "GapLinks", name := "receiver", desc := "(II)I" } : Jvm.MethodName) prog_1_method_9_code (3 : Nat) (Option.some Jvm.ClassFile.FieldType.int)) ∈ UU := tb_3 (List.mem_of_getElem? (i := 174) rfl) rfl
theorem u3_175 : (Jvm.Cond.methodLink "GapLinks" (151 : Nat) ({ cls := "GapLinks$Plan", name := "hasReceiver", desc := "(II)Z" } : Jvm.MethodName)) ∈ UU := tb_3 (List.mem_of_getElem? (i := 175) rfl) rfl
theorem u3_176 : (Jvm.Cond.instanceMethod ({ cls := "GapLinks$Plan", name := "hasReceiver", desc := "(II)Z" } : Jvm.MethodName)) ∈ UU := tb_3 (List.mem_of_getElem? (i := 176) rfl) rfl
theorem u3_177 : (Jvm.Cond.selects "GapLinks$Plan" ({ cls := "GapLinks$Plan", name := "hasReceiver", desc := "(II)Z" } : Jvm.MethodName) ({ cls := "GapLinks$Plan", name := "hasReceiver", desc := "(II)Z" } : Jvm.MethodName)) ∈ UU := tb_3 (List.mem_of_getElem? (i := 177) rfl) rfl
theorem u3_178 : (Jvm.Cond.code ({ cls := "GapLinks$Plan", name := "hasReceiver", desc := "(II)Z" } : Jvm.MethodName) prog_4_method_5_code (3 : Nat) (Option.some Jvm.ClassFile.FieldType.boolean)) ∈ UU := tb_3 (List.mem_of_getElem? (i := 178) rfl) rfl
theorem u3_179 : (Jvm.Cond.methodLink "GapLinks$Plan" (66 : Nat) ({ cls := "GapLinks$Plan", name := "hasLink", desc := "(I)Z" } : Jvm.MethodName)) ∈ UU := tb_3 (List.mem_of_getElem? (i := 179) rfl) rfl
theorem u3_180 : (Jvm.Cond.methodLink "GapLinks" (158 : Nat) ({ cls := "GapLinks", name := "earOf", desc := "(II)I" } : Jvm.MethodName)) ∈ UU := tb_3 (List.mem_of_getElem? (i := 180) rfl) rfl
theorem u3_181 : (Jvm.Cond.methodLink "GapLinksLaw" (56 : Nat) ({ cls := "GapLinks", name := "named", desc := "(J)I" } : Jvm.MethodName)) ∈ UU := tb_3 (List.mem_of_getElem? (i := 181) rfl) rfl
theorem u3_182 : (Jvm.Cond.instanceMethod ({ cls := "GapLinks", name := "named", desc := "(J)I" } : Jvm.MethodName)) ∈ UU := tb_3 (List.mem_of_getElem? (i := 182) rfl) rfl
theorem u3_183 : (Jvm.Cond.selects "GapLinks" ({ cls := "GapLinks", name := "named", desc := "(J)I" } : Jvm.MethodName) ({ cls := "GapLinks", name := "named", desc := "(J)I" } : Jvm.MethodName)) ∈ UU := tb_3 (List.mem_of_getElem? (i := 183) rfl) rfl
theorem u3_184 : (Jvm.Cond.code ({ cls := "GapLinks", name := "named", desc := "(J)I" } : Jvm.MethodName) prog_1_method_10_code (5 : Nat) (Option.some Jvm.ClassFile.FieldType.int)) ∈ UU := tb_3 (List.mem_of_getElem? (i := 184) rfl) rfl
theorem u3_185 : (Jvm.Cond.methodLink "GapLinks" (162 : Nat) ({ cls := "GapLinks$Plan", name := "endNamed", desc := "(J)I" } : Jvm.MethodName)) ∈ UU := tb_3 (List.mem_of_getElem? (i := 185) rfl) rfl
theorem u3_186 : (Jvm.Cond.methodLink "GapLinks" (166 : Nat) ({ cls := "GapLinks$Plan", name := "linkNamed", desc := "(J)I" } : Jvm.MethodName)) ∈ UU := tb_3 (List.mem_of_getElem? (i := 186) rfl) rfl
theorem u3_187 : (Jvm.Cond.methodLink "GapLinksLaw" (61 : Nat) ({ cls := "GapLinks", name := "way", desc := "(III)I" } : Jvm.MethodName)) ∈ UU := tb_3 (List.mem_of_getElem? (i := 187) rfl) rfl
theorem u3_188 : (Jvm.Cond.instanceMethod ({ cls := "GapLinks", name := "way", desc := "(III)I" } : Jvm.MethodName)) ∈ UU := tb_3 (List.mem_of_getElem? (i := 188) rfl) rfl
theorem u3_189 : (Jvm.Cond.selects "GapLinks" ({ cls := "GapLinks", name := "way", desc := "(III)I" } : Jvm.MethodName) ({ cls := "GapLinks", name := "way", desc := "(III)I" } : Jvm.MethodName)) ∈ UU := tb_3 (List.mem_of_getElem? (i := 189) rfl) rfl
theorem u3_190 : (Jvm.Cond.code ({ cls := "GapLinks", name := "way", desc := "(III)I" } : Jvm.MethodName) prog_1_method_11_code (4 : Nat) (Option.some Jvm.ClassFile.FieldType.int)) ∈ UU := tb_3 (List.mem_of_getElem? (i := 190) rfl) rfl
theorem u3_191 : (Jvm.Cond.methodLink "GapLinks" (169 : Nat) ({ cls := "GapLinks", name := "hasPortOnWay", desc := "(III)Z" } : Jvm.MethodName)) ∈ UU := tb_3 (List.mem_of_getElem? (i := 191) rfl) rfl
theorem u3_193 : (Jvm.Cond.instanceMethod ({ cls := "GapLinks", name := "hasPortOnWay", desc := "(III)Z" } : Jvm.MethodName)) ∈ UU := tb_3 (List.mem_of_getElem? (i := 193) rfl) rfl
theorem u3_194 : (Jvm.Cond.code ({ cls := "GapLinks", name := "hasPortOnWay", desc := "(III)Z" } : Jvm.MethodName) prog_1_method_46_code (4 : Nat) (Option.some Jvm.ClassFile.FieldType.boolean)) ∈ UU := tb_3 (List.mem_of_getElem? (i := 194) rfl) rfl
theorem u3_195 : (Jvm.Cond.methodLink "GapLinks" (173 : Nat) ({ cls := "GapLinks$Ways", name := "portAt", desc := "(II)I" } : Jvm.MethodName)) ∈ UU := tb_3 (List.mem_of_getElem? (i := 195) rfl) rfl
theorem u3_196 : (Jvm.Cond.methodLink "GapLinksLaw" (66 : Nat) ({ cls := "GapLinks", name := "waits", desc := "(II)I" } : Jvm.MethodName)) ∈ UU := tb_3 (List.mem_of_getElem? (i := 196) rfl) rfl
theorem u3_197 : (Jvm.Cond.instanceMethod ({ cls := "GapLinks", name := "waits", desc := "(II)I" } : Jvm.MethodName)) ∈ UU := tb_3 (List.mem_of_getElem? (i := 197) rfl) rfl
theorem u3_198 : (Jvm.Cond.selects "GapLinks" ({ cls := "GapLinks", name := "waits", desc := "(II)I" } : Jvm.MethodName) ({ cls := "GapLinks", name := "waits", desc := "(II)I" } : Jvm.MethodName)) ∈ UU := tb_3 (List.mem_of_getElem? (i := 198) rfl) rfl
theorem u3_199 : (Jvm.Cond.code ({ cls := "GapLinks", name := "waits", desc := "(II)I" } : Jvm.MethodName) prog_1_method_12_code (3 : Nat) (Option.some Jvm.ClassFile.FieldType.int)) ∈ UU := tb_3 (List.mem_of_getElem? (i := 199) rfl) rfl
theorem u3_200 : (Jvm.Cond.methodLink "GapLinksLaw" (70 : Nat) ({ cls := "GapLinks", name := "credit", desc := "(II)I" } : Jvm.MethodName)) ∈ UU := tb_3 (List.mem_of_getElem? (i := 200) rfl) rfl
theorem u3_201 : (Jvm.Cond.instanceMethod ({ cls := "GapLinks", name := "credit", desc := "(II)I" } : Jvm.MethodName)) ∈ UU := tb_3 (List.mem_of_getElem? (i := 201) rfl) rfl
theorem u3_202 : (Jvm.Cond.selects "GapLinks" ({ cls := "GapLinks", name := "credit", desc := "(II)I" } : Jvm.MethodName) ({ cls := "GapLinks", name := "credit", desc := "(II)I" } : Jvm.MethodName)) ∈ UU := tb_3 (List.mem_of_getElem? (i := 202) rfl) rfl
theorem u3_203 : (Jvm.Cond.code ({ cls := "GapLinks", name := "credit", desc := "(II)I" } : Jvm.MethodName) prog_1_method_13_code (3 : Nat) (Option.some Jvm.ClassFile.FieldType.int)) ∈ UU := tb_3 (List.mem_of_getElem? (i := 203) rfl) rfl
theorem u3_204 : (Jvm.Cond.methodLink "GapLinks" (191 : Nat) ({ cls := "GapLinks", name := "hasNet", desc := "(I)Z" } : Jvm.MethodName)) ∈ UU := tb_3 (List.mem_of_getElem? (i := 204) rfl) rfl
theorem u3_205 : (Jvm.Cond.static ({ cls := "GapLinks", name := "hasNet", desc := "(I)Z" } : Jvm.MethodName)) ∈ UU := tb_3 (List.mem_of_getElem? (i := 205) rfl) rfl
theorem u3_206 : (Jvm.Cond.code ({ cls := "GapLinks", name := "hasNet", desc := "(I)Z" } : Jvm.MethodName) prog_1_method_47_code (1 : Nat) (Option.some Jvm.ClassFile.FieldType.boolean)) ∈ UU := tb_3 (List.mem_of_getElem? (i := 206) rfl) rfl
theorem u3_207 : (Jvm.Cond.methodLink "GapLinksLaw" (74 : Nat) ({ cls := "GapLinks", name := "port", desc := "(III)I" } : Jvm.MethodName)) ∈ UU := tb_3 (List.mem_of_getElem? (i := 207) rfl) rfl
theorem u3_208 : (Jvm.Cond.instanceMethod ({ cls := "GapLinks", name := "port", desc := "(III)I" } : Jvm.MethodName)) ∈ UU := tb_3 (List.mem_of_getElem? (i := 208) rfl) rfl
theorem u3_209 : (Jvm.Cond.selects "GapLinks" ({ cls := "GapLinks", name := "port", desc := "(III)I" } : Jvm.MethodName) ({ cls := "GapLinks", name := "port", desc := "(III)I" } : Jvm.MethodName)) ∈ UU := tb_3 (List.mem_of_getElem? (i := 209) rfl) rfl
theorem u3_210 : (Jvm.Cond.code ({ cls := "GapLinks", name := "port", desc := "(III)I" } : Jvm.MethodName) prog_1_method_14_code (5 : Nat) (Option.some Jvm.ClassFile.FieldType.int)) ∈ UU := tb_3 (List.mem_of_getElem? (i := 210) rfl) rfl
theorem u3_211 : (Jvm.Cond.methodLink "GapLinks" (197 : Nat) ({ cls := "GapLinks$Plan", name := "hasPort", desc := "(I)Z" } : Jvm.MethodName)) ∈ UU := tb_3 (List.mem_of_getElem? (i := 211) rfl) rfl
theorem u3_212 : (Jvm.Cond.instanceMethod ({ cls := "GapLinks$Plan", name := "hasPort", desc := "(I)Z" } : Jvm.MethodName)) ∈ UU := tb_3 (List.mem_of_getElem? (i := 212) rfl) rfl
theorem u3_213 : (Jvm.Cond.selects "GapLinks$Plan" ({ cls := "GapLinks$Plan", name := "hasPort", desc := "(I)Z" } : Jvm.MethodName) ({ cls := "GapLinks$Plan", name := "hasPort", desc := "(I)Z" } : Jvm.MethodName)) ∈ UU := tb_3 (List.mem_of_getElem? (i := 213) rfl) rfl
theorem u3_214 : (Jvm.Cond.code ({ cls := "GapLinks$Plan", name := "hasPort", desc := "(I)Z" } : Jvm.MethodName) prog_4_method_6_code (2 : Nat) (Option.some Jvm.ClassFile.FieldType.boolean)) ∈ UU := tb_3 (List.mem_of_getElem? (i := 214) rfl) rfl
theorem u3_215 : (Jvm.Cond.methodLink "GapLinks$Plan" (70 : Nat) ({ cls := "GapLinks$Plan", name := "hasEnd", desc := "(I)Z" } : Jvm.MethodName)) ∈ UU := tb_3 (List.mem_of_getElem? (i := 215) rfl) rfl
theorem u3_216 : (Jvm.Cond.methodLink "GapLinks" (209 : Nat) ({ cls := "GapLinks$Ports", name := "linkBeingSent", desc := "(I)I" } : Jvm.MethodName)) ∈ UU := tb_3 (List.mem_of_getElem? (i := 216) rfl) rfl
theorem u3_217 : (Jvm.Cond.instanceMethod ({ cls := "GapLinks$Ports", name := "linkBeingSent", desc := "(I)I" } : Jvm.MethodName)) ∈ UU := tb_3 (List.mem_of_getElem? (i := 217) rfl) rfl
theorem u3_218 : (Jvm.Cond.selects "GapLinks$Ports" ({ cls := "GapLinks$Ports", name := "linkBeingSent", desc := "(I)I" } : Jvm.MethodName) ({ cls := "GapLinks$Ports", name := "linkBeingSent", desc := "(I)I" } : Jvm.MethodName)) ∈ UU := tb_3 (List.mem_of_getElem? (i := 218) rfl) rfl
theorem u3_219 : (Jvm.Cond.code ({ cls := "GapLinks$Ports", name := "linkBeingSent", desc := "(I)I" } : Jvm.MethodName) prog_5_method_6_code (2 : Nat) (Option.some Jvm.ClassFile.FieldType.int)) ∈ UU := tb_3 (List.mem_of_getElem? (i := 219) rfl) rfl
theorem u3_220 : (Jvm.Cond.methodLink "GapLinks$Ports" (47 : Nat) ({ cls := "GapLinks$Ports", name := "sends", desc := "(I)Z" } : Jvm.MethodName)) ∈ UU := tb_3 (List.mem_of_getElem? (i := 220) rfl) rfl
theorem u3_221 : (Jvm.Cond.instanceMethod ({ cls := "GapLinks$Ports", name := "sends", desc := "(I)Z" } : Jvm.MethodName)) ∈ UU := tb_3 (List.mem_of_getElem? (i := 221) rfl) rfl
theorem u3_222 : (Jvm.Cond.selects "GapLinks$Ports" ({ cls := "GapLinks$Ports", name := "sends", desc := "(I)Z" } : Jvm.MethodName) ({ cls := "GapLinks$Ports", name := "sends", desc := "(I)Z" } : Jvm.MethodName)) ∈ UU := tb_3 (List.mem_of_getElem? (i := 222) rfl) rfl
theorem u3_223 : (Jvm.Cond.code ({ cls := "GapLinks$Ports", name := "sends", desc := "(I)Z" } : Jvm.MethodName) prog_5_method_5_code (2 : Nat) (Option.some Jvm.ClassFile.FieldType.boolean)) ∈ UU := tb_3 (List.mem_of_getElem? (i := 223) rfl) rfl
theorem u3_224 : (Jvm.Cond.methodLink "GapLinks$Ports" (51 : Nat) ({ cls := "GapLinks$Ports", name := "slot", desc := "(II)I" } : Jvm.MethodName)) ∈ UU := tb_3 (List.mem_of_getElem? (i := 224) rfl) rfl
theorem u3_225 : (Jvm.Cond.instanceMethod ({ cls := "GapLinks$Ports", name := "slot", desc := "(II)I" } : Jvm.MethodName)) ∈ UU := tb_3 (List.mem_of_getElem? (i := 225) rfl) rfl
theorem u3_226 : (Jvm.Cond.selects "GapLinks$Ports" ({ cls := "GapLinks$Ports", name := "slot", desc := "(II)I" } : Jvm.MethodName) ({ cls := "GapLinks$Ports", name := "slot", desc := "(II)I" } : Jvm.MethodName)) ∈ UU := tb_3 (List.mem_of_getElem? (i := 226) rfl) rfl
theorem u3_227 : (Jvm.Cond.code ({ cls := "GapLinks$Ports", name := "slot", desc := "(II)I" } : Jvm.MethodName) prog_5_method_4_code (3 : Nat) (Option.some Jvm.ClassFile.FieldType.int)) ∈ UU := tb_3 (List.mem_of_getElem? (i := 227) rfl) rfl
theorem u3_228 : (Jvm.Cond.methodLink "GapLinksLaw" (78 : Nat) ({ cls := "GapLinks", name := "frame", desc := "(IIII)I" } : Jvm.MethodName)) ∈ UU := tb_3 (List.mem_of_getElem? (i := 228) rfl) rfl
theorem u3_229 : (Jvm.Cond.instanceMethod ({ cls := "GapLinks", name := "frame", desc := "(IIII)I" } : Jvm.MethodName)) ∈ UU := tb_3 (List.mem_of_getElem? (i := 229) rfl) rfl
theorem u3_230 : (Jvm.Cond.selects "GapLinks" ({ cls := "GapLinks", name := "frame", desc := "(IIII)I" } : Jvm.MethodName) ({ cls := "GapLinks", name := "frame", desc := "(IIII)I" } : Jvm.MethodName)) ∈ UU := tb_3 (List.mem_of_getElem? (i := 230) rfl) rfl
theorem u3_231 : (Jvm.Cond.code ({ cls := "GapLinks", name := "frame", desc := "(IIII)I" } : Jvm.MethodName) prog_1_method_15_code (7 : Nat) (Option.some Jvm.ClassFile.FieldType.int)) ∈ UU := tb_3 (List.mem_of_getElem? (i := 231) rfl) rfl
theorem u3_232 : (Jvm.Cond.methodLink "GapLinks" (218 : Nat) ({ cls := "GapLinks$Ports", name := "slot", desc := "(II)I" } : Jvm.MethodName)) ∈ UU := tb_3 (List.mem_of_getElem? (i := 232) rfl) rfl
theorem u3_233 : (Jvm.Cond.methodLink "GapLinksLaw" (83 : Nat) ({ cls := "GapLinks", name := "lost", desc := "(II)I" } : Jvm.MethodName)) ∈ UU := tb_3 (List.mem_of_getElem? (i := 233) rfl) rfl
theorem u3_234 : (Jvm.Cond.instanceMethod ({ cls := "GapLinks", name := "lost", desc := "(II)I" } : Jvm.MethodName)) ∈ UU := tb_3 (List.mem_of_getElem? (i := 234) rfl) rfl
theorem u3_235 : (Jvm.Cond.selects "GapLinks" ({ cls := "GapLinks", name := "lost", desc := "(II)I" } : Jvm.MethodName) ({ cls := "GapLinks", name := "lost", desc := "(II)I" } : Jvm.MethodName)) ∈ UU := tb_3 (List.mem_of_getElem? (i := 235) rfl) rfl
theorem u3_236 : (Jvm.Cond.code ({ cls := "GapLinks", name := "lost", desc := "(II)I" } : Jvm.MethodName) prog_1_method_16_code (3 : Nat) (Option.some Jvm.ClassFile.FieldType.int)) ∈ UU := tb_3 (List.mem_of_getElem? (i := 236) rfl) rfl
theorem u3_237 : (Jvm.Cond.methodLink "GapLinks" (226 : Nat) ({ cls := "GapLinks", name := "isLostSort", desc := "(I)Z" } : Jvm.MethodName)) ∈ UU := tb_3 (List.mem_of_getElem? (i := 237) rfl) rfl
theorem u3_238 : (Jvm.Cond.static ({ cls := "GapLinks", name := "isLostSort", desc := "(I)Z" } : Jvm.MethodName)) ∈ UU := tb_3 (List.mem_of_getElem? (i := 238) rfl) rfl
theorem u3_239 : (Jvm.Cond.code ({ cls := "GapLinks", name := "isLostSort", desc := "(I)Z" } : Jvm.MethodName) prog_1_method_48_code (1 : Nat) (Option.some Jvm.ClassFile.FieldType.boolean)) ∈ UU := tb_3 (List.mem_of_getElem? (i := 239) rfl) rfl
theorem u4_0 : (Jvm.Cond.methodLink "GapLinksLaw" (87 : Nat) ({ cls := "GapLinks", name := "policed", desc := "(II)I" } : Jvm.MethodName)) ∈ UU := tb_4 (List.mem_of_getElem? (i := 0) rfl) rfl
theorem u4_1 : (Jvm.Cond.instanceMethod ({ cls := "GapLinks", name := "policed", desc := "(II)I" } : Jvm.MethodName)) ∈ UU := tb_4 (List.mem_of_getElem? (i := 1) rfl) rfl
theorem u4_2 : (Jvm.Cond.selects "GapLinks" ({ cls := "GapLinks", name := "policed", desc := "(II)I" } : Jvm.MethodName) ({ cls := "GapLinks", name := "policed", desc := "(II)I" } : Jvm.MethodName)) ∈ UU := tb_4 (List.mem_of_getElem? (i := 2) rfl) rfl
theorem u4_3 : (Jvm.Cond.code ({ cls := "GapLinks", name := "policed", desc := "(II)I" } : Jvm.MethodName) prog_1_method_17_code (3 : Nat) (Option.some Jvm.ClassFile.FieldType.int)) ∈ UU := tb_4 (List.mem_of_getElem? (i := 3) rfl) rfl
theorem u4_4 : (Jvm.Cond.methodLink "GapLinksLaw" (91 : Nat) ({ cls := "GapLinks", name := "heard", desc := "(III)I" } : Jvm.MethodName)) ∈ UU := tb_4 (List.mem_of_getElem? (i := 4) rfl) rfl
theorem u4_5 : (Jvm.Cond.instanceMethod ({ cls := "GapLinks", name := "heard", desc := "(III)I" } : Jvm.MethodName)) ∈ UU := tb_4 (List.mem_of_getElem? (i := 5) rfl) rfl
theorem u4_6 : (Jvm.Cond.selects "GapLinks" ({ cls := "GapLinks", name := "heard", desc := "(III)I" } : Jvm.MethodName) ({ cls := "GapLinks", name := "heard", desc := "(III)I" } : Jvm.MethodName)) ∈ UU := tb_4 (List.mem_of_getElem? (i := 6) rfl) rfl
theorem u4_7 : (Jvm.Cond.code ({ cls := "GapLinks", name := "heard", desc := "(III)I" } : Jvm.MethodName) prog_1_method_18_code (4 : Nat) (Option.some Jvm.ClassFile.FieldType.int)) ∈ UU := tb_4 (List.mem_of_getElem? (i := 7) rfl) rfl
theorem u4_8 : (Jvm.Cond.methodLink "GapLinks" (235 : Nat) ({ cls := "GapLinks$Ears", name := "tells", desc := "(I)Z" } : Jvm.MethodName)) ∈ UU := tb_4 (List.mem_of_getElem? (i := 8) rfl) rfl
theorem u4_9 : (Jvm.Cond.static ({ cls := "GapLinks$Ears", name := "tells", desc := "(I)Z" } : Jvm.MethodName)) ∈ UU := tb_4 (List.mem_of_getElem? (i := 9) rfl) rfl
theorem u4_10 : (Jvm.Cond.code ({ cls := "GapLinks$Ears", name := "tells", desc := "(I)Z" } : Jvm.MethodName) prog_2_method_4_code (1 : Nat) (Option.some Jvm.ClassFile.FieldType.boolean)) ∈ UU := tb_4 (List.mem_of_getElem? (i := 10) rfl) rfl
theorem u4_11 : (Jvm.Cond.methodLink "GapLinks" (244 : Nat) ({ cls := "GapLinks$Ears", name := "told", desc := "(II)I" } : Jvm.MethodName)) ∈ UU := tb_4 (List.mem_of_getElem? (i := 11) rfl) rfl
theorem u4_12 : (Jvm.Cond.instanceMethod ({ cls := "GapLinks$Ears", name := "told", desc := "(II)I" } : Jvm.MethodName)) ∈ UU := tb_4 (List.mem_of_getElem? (i := 12) rfl) rfl
theorem u4_13 : (Jvm.Cond.selects "GapLinks$Ears" ({ cls := "GapLinks$Ears", name := "told", desc := "(II)I" } : Jvm.MethodName) ({ cls := "GapLinks$Ears", name := "told", desc := "(II)I" } : Jvm.MethodName)) ∈ UU := tb_4 (List.mem_of_getElem? (i := 13) rfl) rfl
theorem u4_14 : (Jvm.Cond.code ({ cls := "GapLinks$Ears", name := "told", desc := "(II)I" } : Jvm.MethodName) prog_2_method_5_code (3 : Nat) (Option.some Jvm.ClassFile.FieldType.int)) ∈ UU := tb_4 (List.mem_of_getElem? (i := 14) rfl) rfl
theorem u4_15 : (Jvm.Cond.methodLink "GapLinksLaw" (95 : Nat) ({ cls := "GapLinks", name := "seen", desc := "(III)I" } : Jvm.MethodName)) ∈ UU := tb_4 (List.mem_of_getElem? (i := 15) rfl) rfl
theorem u4_16 : (Jvm.Cond.instanceMethod ({ cls := "GapLinks", name := "seen", desc := "(III)I" } : Jvm.MethodName)) ∈ UU := tb_4 (List.mem_of_getElem? (i := 16) rfl) rfl
theorem u4_17 : (Jvm.Cond.selects "GapLinks" ({ cls := "GapLinks", name := "seen", desc := "(III)I" } : Jvm.MethodName) ({ cls := "GapLinks", name := "seen", desc := "(III)I" } : Jvm.MethodName)) ∈ UU := tb_4 (List.mem_of_getElem? (i := 17) rfl) rfl
theorem u4_18 : (Jvm.Cond.code ({ cls := "GapLinks", name := "seen", desc := "(III)I" } : Jvm.MethodName) prog_1_method_19_code (4 : Nat) (Option.some Jvm.ClassFile.FieldType.int)) ∈ UU := tb_4 (List.mem_of_getElem? (i := 18) rfl) rfl
theorem u4_19 : (Jvm.Cond.methodLink "GapLinksLaw" (99 : Nat) ({ cls := "GapLinks", name := "taken", desc := "(III)I" } : Jvm.MethodName)) ∈ UU := tb_4 (List.mem_of_getElem? (i := 19) rfl) rfl
theorem u4_20 : (Jvm.Cond.instanceMethod ({ cls := "GapLinks", name := "taken", desc := "(III)I" } : Jvm.MethodName)) ∈ UU := tb_4 (List.mem_of_getElem? (i := 20) rfl) rfl
theorem u4_21 : (Jvm.Cond.selects "GapLinks" ({ cls := "GapLinks", name := "taken", desc := "(III)I" } : Jvm.MethodName) ({ cls := "GapLinks", name := "taken", desc := "(III)I" } : Jvm.MethodName)) ∈ UU := tb_4 (List.mem_of_getElem? (i := 21) rfl) rfl
theorem u4_22 : (Jvm.Cond.code ({ cls := "GapLinks", name := "taken", desc := "(III)I" } : Jvm.MethodName) prog_1_method_20_code (4 : Nat) (Option.some Jvm.ClassFile.FieldType.int)) ∈ UU := tb_4 (List.mem_of_getElem? (i := 22) rfl) rfl
theorem u4_23 : (Jvm.Cond.methodLink "GapLinks" (250 : Nat) ({ cls := "GapLinks$Ears", name := "remembers", desc := "(II)Z" } : Jvm.MethodName)) ∈ UU := tb_4 (List.mem_of_getElem? (i := 23) rfl) rfl
theorem u4_24 : (Jvm.Cond.instanceMethod ({ cls := "GapLinks$Ears", name := "remembers", desc := "(II)Z" } : Jvm.MethodName)) ∈ UU := tb_4 (List.mem_of_getElem? (i := 24) rfl) rfl
theorem u4_25 : (Jvm.Cond.selects "GapLinks$Ears" ({ cls := "GapLinks$Ears", name := "remembers", desc := "(II)Z" } : Jvm.MethodName) ({ cls := "GapLinks$Ears", name := "remembers", desc := "(II)Z" } : Jvm.MethodName)) ∈ UU := tb_4 (List.mem_of_getElem? (i := 25) rfl) rfl
theorem u4_26 : (Jvm.Cond.code ({ cls := "GapLinks$Ears", name := "remembers", desc := "(II)Z" } : Jvm.MethodName) prog_2_method_6_code (3 : Nat) (Option.some Jvm.ClassFile.FieldType.boolean)) ∈ UU := tb_4 (List.mem_of_getElem? (i := 26) rfl) rfl
theorem u4_27 : (Jvm.Cond.methodLink "GapLinks$Ears" (56 : Nat) ({ cls := "java/lang/Math", name := "min", desc := "(II)I" } : Jvm.MethodName)) ∈ UU := tb_4 (List.mem_of_getElem? (i := 27) rfl) rfl
theorem u4_28 : (Jvm.Cond.methodLink "GapLinks" (253 : Nat) ({ cls := "GapLinks$Ears", name := "remembered", desc := "(II)I" } : Jvm.MethodName)) ∈ UU := tb_4 (List.mem_of_getElem? (i := 28) rfl) rfl
theorem u4_29 : (Jvm.Cond.instanceMethod ({ cls := "GapLinks$Ears", name := "remembered", desc := "(II)I" } : Jvm.MethodName)) ∈ UU := tb_4 (List.mem_of_getElem? (i := 29) rfl) rfl
theorem u4_30 : (Jvm.Cond.selects "GapLinks$Ears" ({ cls := "GapLinks$Ears", name := "remembered", desc := "(II)I" } : Jvm.MethodName) ({ cls := "GapLinks$Ears", name := "remembered", desc := "(II)I" } : Jvm.MethodName)) ∈ UU := tb_4 (List.mem_of_getElem? (i := 30) rfl) rfl
theorem u4_31 : (Jvm.Cond.code ({ cls := "GapLinks$Ears", name := "remembered", desc := "(II)I" } : Jvm.MethodName) prog_2_method_7_code (3 : Nat) (Option.some Jvm.ClassFile.FieldType.int)) ∈ UU := tb_4 (List.mem_of_getElem? (i := 31) rfl) rfl
theorem u4_32 : (Jvm.Cond.methodLink "GapLinks$Ears" (62 : Nat) ({ cls := "GapLinks$Ears", name := "memoryOf", desc := "(II)I" } : Jvm.MethodName)) ∈ UU := tb_4 (List.mem_of_getElem? (i := 32) rfl) rfl
theorem u4_33 : (Jvm.Cond.static ({ cls := "GapLinks$Ears", name := "memoryOf", desc := "(II)I" } : Jvm.MethodName)) ∈ UU := tb_4 (List.mem_of_getElem? (i := 33) rfl) rfl
theorem u4_34 : (Jvm.Cond.code ({ cls := "GapLinks$Ears", name := "memoryOf", desc := "(II)I" } : Jvm.MethodName) prog_2_method_8_code (2 : Nat) (Option.some Jvm.ClassFile.FieldType.int)) ∈ UU := tb_4 (List.mem_of_getElem? (i := 34) rfl) rfl
theorem u4_35 : (Jvm.Cond.methodLink "GapLinksLaw" (103 : Nat) ({ cls := "GapLinks", name := "load", desc := "(IZ)J" } : Jvm.MethodName)) ∈ UU := tb_4 (List.mem_of_getElem? (i := 35) rfl) rfl
theorem u4_36 : (Jvm.Cond.instanceMethod ({ cls := "GapLinks", name := "load", desc := "(IZ)J" } : Jvm.MethodName)) ∈ UU := tb_4 (List.mem_of_getElem? (i := 36) rfl) rfl
theorem u4_37 : (Jvm.Cond.selects "GapLinks" ({ cls := "GapLinks", name := "load", desc := "(IZ)J" } : Jvm.MethodName) ({ cls := "GapLinks", name := "load", desc := "(IZ)J" } : Jvm.MethodName)) ∈ UU := tb_4 (List.mem_of_getElem? (i := 37) rfl) rfl
theorem u4_38 : (Jvm.Cond.code ({ cls := "GapLinks", name := "load", desc := "(IZ)J" } : Jvm.MethodName) prog_1_method_21_code (3 : Nat) (Option.some Jvm.ClassFile.FieldType.long)) ∈ UU := tb_4 (List.mem_of_getElem? (i := 38) rfl) rfl
theorem u4_39 : (Jvm.Cond.methodLink "GapLinks" (256 : Nat) ({ cls := "GapLinks$Envelope", name := "loadOf", desc := "(I)J" } : Jvm.MethodName)) ∈ UU := tb_4 (List.mem_of_getElem? (i := 39) rfl) rfl
theorem u4_40 : (Jvm.Cond.instanceMethod ({ cls := "GapLinks$Envelope", name := "loadOf", desc := "(I)J" } : Jvm.MethodName)) ∈ UU := tb_4 (List.mem_of_getElem? (i := 40) rfl) rfl
theorem u4_41 : (Jvm.Cond.selects "GapLinks$Envelope" ({ cls := "GapLinks$Envelope", name := "loadOf", desc := "(I)J" } : Jvm.MethodName) ({ cls := "GapLinks$Envelope", name := "loadOf", desc := "(I)J" } : Jvm.MethodName)) ∈ UU := tb_4 (List.mem_of_getElem? (i := 41) rfl) rfl
theorem u4_42 : (Jvm.Cond.code ({ cls := "GapLinks$Envelope", name := "loadOf", desc := "(I)J" } : Jvm.MethodName) prog_3_method_8_code (2 : Nat) (Option.some Jvm.ClassFile.FieldType.long)) ∈ UU := tb_4 (List.mem_of_getElem? (i := 42) rfl) rfl
theorem u4_43 : (Jvm.Cond.constantLong "GapLinks$Envelope" (78 : Nat) (65536 : Int64)) ∈ UU := tb_4 (List.mem_of_getElem? (i := 43) rfl) rfl
theorem u4_44 : (Jvm.Cond.methodLink "GapLinks" (260 : Nat) ({ cls := "GapLinks", name := "part", desc := "(JZ)J" } : Jvm.MethodName)) ∈ UU := tb_4 (List.mem_of_getElem? (i := 44) rfl) rfl
theorem u4_46 : (Jvm.Cond.instanceMethod ({ cls := "GapLinks", name := "part", desc := "(JZ)J" } : Jvm.MethodName)) ∈ UU := tb_4 (List.mem_of_getElem? (i := 46) rfl) rfl
theorem u4_47 : (Jvm.Cond.code ({ cls := "GapLinks", name := "part", desc := "(JZ)J" } : Jvm.MethodName) prog_1_method_44_code (5 : Nat) (Option.some Jvm.ClassFile.FieldType.long)) ∈ UU := tb_4 (List.mem_of_getElem? (i := 47) rfl) rfl
theorem u4_48 : (Jvm.Cond.methodLink "GapLinks" (338 : Nat) ({ cls := "java/lang/Long", name := "numberOfTrailingZeros", desc := "(J)I" } : Jvm.MethodName)) ∈ UU := tb_4 (List.mem_of_getElem? (i := 48) rfl) rfl
theorem u4_49 : (Jvm.Cond.static ({ cls := "java/lang/Long", name := "numberOfTrailingZeros", desc := "(J)I" } : Jvm.MethodName)) ∈ UU := tb_4 (List.mem_of_getElem? (i := 49) rfl) rfl
theorem u4_50 : (Jvm.Cond.code ({ cls := "java/lang/Long", name := "numberOfTrailingZeros", desc := "(J)I" } : Jvm.MethodName) prog_16_method_49_code (3 : Nat) (Option.some Jvm.ClassFile.FieldType.int)) ∈ UU := tb_4 (List.mem_of_getElem? (i := 50) rfl) rfl
theorem u4_51 : (Jvm.Cond.methodLink "java/lang/Long" (311 : Nat) ({ cls := "java/lang/Integer", name := "numberOfTrailingZeros", desc := "(I)I" } : Jvm.MethodName)) ∈ UU := tb_4 (List.mem_of_getElem? (i := 51) rfl) rfl
theorem u4_52 : (Jvm.Cond.static ({ cls := "java/lang/Integer", name := "numberOfTrailingZeros", desc := "(I)I" } : Jvm.MethodName)) ∈ UU := tb_4 (List.mem_of_getElem? (i := 52) rfl) rfl
theorem u4_53 : (Jvm.Cond.code ({ cls := "java/lang/Integer", name := "numberOfTrailingZeros", desc := "(I)I" } : Jvm.MethodName) prog_15_method_48_code (2 : Nat) (Option.some Jvm.ClassFile.FieldType.int)) ∈ UU := tb_4 (List.mem_of_getElem? (i := 53) rfl) rfl
theorem u4_54 : (Jvm.Cond.constant "java/lang/Integer" (264 : Nat) (65536 : Int32)) ∈ UU := tb_4 (List.mem_of_getElem? (i := 54) rfl) rfl
theorem u4_55 : (Jvm.Cond.methodLink "GapLinks" (343 : Nat) ({ cls := "java/lang/Math", name := "min", desc := "(II)I" } : Jvm.MethodName)) ∈ UU := tb_4 (List.mem_of_getElem? (i := 55) rfl) rfl
theorem u4_56 : (Jvm.Cond.constantLong "GapLinks" (281 : Nat) (16777216 : Int64)) ∈ UU := tb_4 (List.mem_of_getElem? (i := 56) rfl) rfl
theorem u4_57 : (Jvm.Cond.methodLink "GapLinksLaw" (108 : Nat) ({ cls := "GapLinks", name := "delay", desc := "(IZ)J" } : Jvm.MethodName)) ∈ UU := tb_4 (List.mem_of_getElem? (i := 57) rfl) rfl
theorem u4_58 : (Jvm.Cond.instanceMethod ({ cls := "GapLinks", name := "delay", desc := "(IZ)J" } : Jvm.MethodName)) ∈ UU := tb_4 (List.mem_of_getElem? (i := 58) rfl) rfl
theorem u4_59 : (Jvm.Cond.selects "GapLinks" ({ cls := "GapLinks", name := "delay", desc := "(IZ)J" } : Jvm.MethodName) ({ cls := "GapLinks", name := "delay", desc := "(IZ)J" } : Jvm.MethodName)) ∈ UU := tb_4 (List.mem_of_getElem? (i := 59) rfl) rfl
theorem u4_60 : (Jvm.Cond.code ({ cls := "GapLinks", name := "delay", desc := "(IZ)J" } : Jvm.MethodName) prog_1_method_22_code (3 : Nat) (Option.some Jvm.ClassFile.FieldType.long)) ∈ UU := tb_4 (List.mem_of_getElem? (i := 60) rfl) rfl
theorem u4_61 : (Jvm.Cond.methodLink "GapLinksLaw" (112 : Nat) ({ cls := "GapLinks", name := "burst", desc := "(IIIZ)J" } : Jvm.MethodName)) ∈ UU := tb_4 (List.mem_of_getElem? (i := 61) rfl) rfl
theorem u4_62 : (Jvm.Cond.instanceMethod ({ cls := "GapLinks", name := "burst", desc := "(IIIZ)J" } : Jvm.MethodName)) ∈ UU := tb_4 (List.mem_of_getElem? (i := 62) rfl) rfl
theorem u4_63 : (Jvm.Cond.selects "GapLinks" ({ cls := "GapLinks", name := "burst", desc := "(IIIZ)J" } : Jvm.MethodName) ({ cls := "GapLinks", name := "burst", desc := "(IIIZ)J" } : Jvm.MethodName)) ∈ UU := tb_4 (List.mem_of_getElem? (i := 63) rfl) rfl
theorem u4_64 : (Jvm.Cond.code ({ cls := "GapLinks", name := "burst", desc := "(IIIZ)J" } : Jvm.MethodName) prog_1_method_23_code (5 : Nat) (Option.some Jvm.ClassFile.FieldType.long)) ∈ UU := tb_4 (List.mem_of_getElem? (i := 64) rfl) rfl
theorem u4_65 : (Jvm.Cond.methodLink "GapLinksLaw" (117 : Nat) ({ cls := "GapLinks", name := "bound", desc := "(IIZ)J" } : Jvm.MethodName)) ∈ UU := tb_4 (List.mem_of_getElem? (i := 65) rfl) rfl
theorem u4_66 : (Jvm.Cond.instanceMethod ({ cls := "GapLinks", name := "bound", desc := "(IIZ)J" } : Jvm.MethodName)) ∈ UU := tb_4 (List.mem_of_getElem? (i := 66) rfl) rfl
theorem u4_67 : (Jvm.Cond.selects "GapLinks" ({ cls := "GapLinks", name := "bound", desc := "(IIZ)J" } : Jvm.MethodName) ({ cls := "GapLinks", name := "bound", desc := "(IIZ)J" } : Jvm.MethodName)) ∈ UU := tb_4 (List.mem_of_getElem? (i := 67) rfl) rfl
theorem u4_68 : (Jvm.Cond.code ({ cls := "GapLinks", name := "bound", desc := "(IIZ)J" } : Jvm.MethodName) prog_1_method_24_code (4 : Nat) (Option.some Jvm.ClassFile.FieldType.long)) ∈ UU := tb_4 (List.mem_of_getElem? (i := 68) rfl) rfl
theorem u4_69 : (Jvm.Cond.methodLink "GapLinks" (274 : Nat) ({ cls := "GapLinks$Envelope", name := "boundOf", desc := "(LGapLinks$Plan;I)J" } : Jvm.MethodName)) ∈ UU := tb_4 (List.mem_of_getElem? (i := 69) rfl) rfl
theorem u4_70 : (Jvm.Cond.instanceMethod ({ cls := "GapLinks$Envelope", name := "boundOf", desc := "(LGapLinks$Plan;I)J" } : Jvm.MethodName)) ∈ UU := tb_4 (List.mem_of_getElem? (i := 70) rfl) rfl
theorem u4_71 : (Jvm.Cond.selects "GapLinks$Envelope" ({ cls := "GapLinks$Envelope", name := "boundOf", desc := "(LGapLinks$Plan;I)J" } : Jvm.MethodName) ({ cls := "GapLinks$Envelope", name := "boundOf", desc := "(LGapLinks$Plan;I)J" } : Jvm.MethodName)) ∈ UU := tb_4 (List.mem_of_getElem? (i := 71) rfl) rfl
theorem u4_72 : (Jvm.Cond.code ({ cls := "GapLinks$Envelope", name := "boundOf", desc := "(LGapLinks$Plan;I)J" } : Jvm.MethodName) prog_3_method_9_code (6 : Nat) (Option.some Jvm.ClassFile.FieldType.long)) ∈ UU := tb_4 (List.mem_of_getElem? (i := 72) rfl) rfl
theorem u4_73 : (Jvm.Cond.methodLink "GapLinks$Envelope" (83 : Nat) ({ cls := "GapLinks$Ways", name := "portAt", desc := "(II)I" } : Jvm.MethodName)) ∈ UU := tb_4 (List.mem_of_getElem? (i := 73) rfl) rfl
theorem u4_74 : (Jvm.Cond.methodLink "GapLinksLaw" (122 : Nat) ({ cls := "GapLinks", name := "keeps", desc := "(II)I" } : Jvm.MethodName)) ∈ UU := tb_4 (List.mem_of_getElem? (i := 74) rfl) rfl
theorem u4_75 : (Jvm.Cond.instanceMethod ({ cls := "GapLinks", name := "keeps", desc := "(II)I" } : Jvm.MethodName)) ∈ UU := tb_4 (List.mem_of_getElem? (i := 75) rfl) rfl
theorem u4_76 : (Jvm.Cond.selects "GapLinks" ({ cls := "GapLinks", name := "keeps", desc := "(II)I" } : Jvm.MethodName) ({ cls := "GapLinks", name := "keeps", desc := "(II)I" } : Jvm.MethodName)) ∈ UU := tb_4 (List.mem_of_getElem? (i := 76) rfl) rfl
theorem u4_77 : (Jvm.Cond.code ({ cls := "GapLinks", name := "keeps", desc := "(II)I" } : Jvm.MethodName) prog_1_method_25_code (6 : Nat) (Option.some Jvm.ClassFile.FieldType.int)) ∈ UU := tb_4 (List.mem_of_getElem? (i := 77) rfl) rfl
theorem u4_78 : (Jvm.Cond.methodLink "GapLinksLaw" (126 : Nat) ({ cls := "GapLinks", name := "fullest", desc := "()I" } : Jvm.MethodName)) ∈ UU := tb_4 (List.mem_of_getElem? (i := 78) rfl) rfl
theorem u4_79 : (Jvm.Cond.instanceMethod ({ cls := "GapLinks", name := "fullest", desc := "()I" } : Jvm.MethodName)) ∈ UU := tb_4 (List.mem_of_getElem? (i := 79) rfl) rfl
theorem u4_80 : (Jvm.Cond.selects "GapLinks" ({ cls := "GapLinks", name := "fullest", desc := "()I" } : Jvm.MethodName) ({ cls := "GapLinks", name := "fullest", desc := "()I" } : Jvm.MethodName)) ∈ UU := tb_4 (List.mem_of_getElem? (i := 80) rfl) rfl
theorem u4_81 : (Jvm.Cond.code ({ cls := "GapLinks", name := "fullest", desc := "()I" } : Jvm.MethodName) prog_1_method_26_code (1 : Nat) (Option.some Jvm.ClassFile.FieldType.int)) ∈ UU := tb_4 (List.mem_of_getElem? (i := 81) rfl) rfl
theorem u4_82 : (Jvm.Cond.methodLink "GapLinks" (283 : Nat) ({ cls := "GapLinks$Envelope", name := "fullestPort", desc := "()I" } : Jvm.MethodName)) ∈ UU := tb_4 (List.mem_of_getElem? (i := 82) rfl) rfl
theorem u4_83 : (Jvm.Cond.instanceMethod ({ cls := "GapLinks$Envelope", name := "fullestPort", desc := "()I" } : Jvm.MethodName)) ∈ UU := tb_4 (List.mem_of_getElem? (i := 83) rfl) rfl
theorem u4_84 : (Jvm.Cond.selects "GapLinks$Envelope" ({ cls := "GapLinks$Envelope", name := "fullestPort", desc := "()I" } : Jvm.MethodName) ({ cls := "GapLinks$Envelope", name := "fullestPort", desc := "()I" } : Jvm.MethodName)) ∈ UU := tb_4 (List.mem_of_getElem? (i := 84) rfl) rfl
theorem u4_85 : (Jvm.Cond.code ({ cls := "GapLinks$Envelope", name := "fullestPort", desc := "()I" } : Jvm.MethodName) prog_3_method_10_code (3 : Nat) (Option.some Jvm.ClassFile.FieldType.int)) ∈ UU := tb_4 (List.mem_of_getElem? (i := 85) rfl) rfl
theorem u4_86 : (Jvm.Cond.methodLink "GapLinksLaw" (130 : Nat) ({ cls := "GapLinks", name := "leastGap", desc := "(I)I" } : Jvm.MethodName)) ∈ UU := tb_4 (List.mem_of_getElem? (i := 86) rfl) rfl
theorem u4_87 : (Jvm.Cond.instanceMethod ({ cls := "GapLinks", name := "leastGap", desc := "(I)I" } : Jvm.MethodName)) ∈ UU := tb_4 (List.mem_of_getElem? (i := 87) rfl) rfl
theorem u4_88 : (Jvm.Cond.selects "GapLinks" ({ cls := "GapLinks", name := "leastGap", desc := "(I)I" } : Jvm.MethodName) ({ cls := "GapLinks", name := "leastGap", desc := "(I)I" } : Jvm.MethodName)) ∈ UU := tb_4 (List.mem_of_getElem? (i := 88) rfl) rfl
theorem u4_89 : (Jvm.Cond.code ({ cls := "GapLinks", name := "leastGap", desc := "(I)I" } : Jvm.MethodName) prog_1_method_27_code (2 : Nat) (Option.some Jvm.ClassFile.FieldType.int)) ∈ UU := tb_4 (List.mem_of_getElem? (i := 89) rfl) rfl
theorem u4_90 : (Jvm.Cond.methodLink "GapLinks" (287 : Nat) ({ cls := "GapLinks$Envelope", name := "leastGapFor", desc := "(LGapLinks$Plan;I)I" } : Jvm.MethodName)) ∈ UU := tb_4 (List.mem_of_getElem? (i := 90) rfl) rfl
theorem u4_91 : (Jvm.Cond.instanceMethod ({ cls := "GapLinks$Envelope", name := "leastGapFor", desc := "(LGapLinks$Plan;I)I" } : Jvm.MethodName)) ∈ UU := tb_4 (List.mem_of_getElem? (i := 91) rfl) rfl
theorem u4_92 : (Jvm.Cond.selects "GapLinks$Envelope" ({ cls := "GapLinks$Envelope", name := "leastGapFor", desc := "(LGapLinks$Plan;I)I" } : Jvm.MethodName) ({ cls := "GapLinks$Envelope", name := "leastGapFor", desc := "(LGapLinks$Plan;I)I" } : Jvm.MethodName)) ∈ UU := tb_4 (List.mem_of_getElem? (i := 92) rfl) rfl
theorem u4_93 : (Jvm.Cond.code ({ cls := "GapLinks$Envelope", name := "leastGapFor", desc := "(LGapLinks$Plan;I)I" } : Jvm.MethodName) prog_3_method_11_code (4 : Nat) (Option.some Jvm.ClassFile.FieldType.int)) ∈ UU := tb_4 (List.mem_of_getElem? (i := 93) rfl) rfl
theorem u4_94 : (Jvm.Cond.methodLink "GapLinks$Envelope" (87 : Nat) ({ cls := "GapLinks$Envelope", name := "bears", desc := "(LGapLinks$Plan;II)Z" } : Jvm.MethodName)) ∈ UU := tb_4 (List.mem_of_getElem? (i := 94) rfl) rfl
theorem u4_95 : (Jvm.Cond.static ({ cls := "GapLinks$Envelope", name := "bears", desc := "(LGapLinks$Plan;II)Z" } : Jvm.MethodName)) ∈ UU := tb_4 (List.mem_of_getElem? (i := 95) rfl) rfl
theorem u4_96 : (Jvm.Cond.code ({ cls := "GapLinks$Envelope", name := "bears", desc := "(LGapLinks$Plan;II)Z" } : Jvm.MethodName) prog_3_method_12_code (4 : Nat) (Option.some Jvm.ClassFile.FieldType.boolean)) ∈ UU := tb_4 (List.mem_of_getElem? (i := 96) rfl) rfl
theorem u4_97 : (Jvm.Cond.methodLink "GapLinksLaw" (134 : Nat) ({ cls := "GapLinks", name := "through", desc := "(I)I" } : Jvm.MethodName)) ∈ UU := tb_4 (List.mem_of_getElem? (i := 97) rfl) rfl
theorem u4_98 : (Jvm.Cond.instanceMethod ({ cls := "GapLinks", name := "through", desc := "(I)I" } : Jvm.MethodName)) ∈ UU := tb_4 (List.mem_of_getElem? (i := 98) rfl) rfl
theorem u4_99 : (Jvm.Cond.selects "GapLinks" ({ cls := "GapLinks", name := "through", desc := "(I)I" } : Jvm.MethodName) ({ cls := "GapLinks", name := "through", desc := "(I)I" } : Jvm.MethodName)) ∈ UU := tb_4 (List.mem_of_getElem? (i := 99) rfl) rfl
theorem u4_100 : (Jvm.Cond.code ({ cls := "GapLinks", name := "through", desc := "(I)I" } : Jvm.MethodName) prog_1_method_28_code (2 : Nat) (Option.some Jvm.ClassFile.FieldType.int)) ∈ UU := tb_4 (List.mem_of_getElem? (i := 100) rfl) rfl
theorem u4_101 : (Jvm.Cond.methodLink "GapLinksLaw" (138 : Nat) ({ cls := "GapLinks", name := "send", desc := "(II)I" } : Jvm.MethodName)) ∈ UU := tb_4 (List.mem_of_getElem? (i := 101) rfl) rfl
theorem u4_102 : (Jvm.Cond.instanceMethod ({ cls := "GapLinks", name := "send", desc := "(II)I" } : Jvm.MethodName)) ∈ UU := tb_4 (List.mem_of_getElem? (i := 102) rfl) rfl
theorem u4_103 : (Jvm.Cond.selects "GapLinks" ({ cls := "GapLinks", name := "send", desc := "(II)I" } : Jvm.MethodName) ({ cls := "GapLinks", name := "send", desc := "(II)I" } : Jvm.MethodName)) ∈ UU := tb_4 (List.mem_of_getElem? (i := 103) rfl) rfl
theorem u4_104 : (Jvm.Cond.code ({ cls := "GapLinks", name := "send", desc := "(II)I" } : Jvm.MethodName) prog_1_method_29_code (3 : Nat) (Option.some Jvm.ClassFile.FieldType.int)) ∈ UU := tb_4 (List.mem_of_getElem? (i := 104) rfl) rfl
theorem u4_105 : (Jvm.Cond.methodLink "GapLinksLaw" (142 : Nat) ({ cls := "GapLinks", name := "babble", desc := "(II)I" } : Jvm.MethodName)) ∈ UU := tb_4 (List.mem_of_getElem? (i := 105) rfl) rfl
theorem u4_106 : (Jvm.Cond.instanceMethod ({ cls := "GapLinks", name := "babble", desc := "(II)I" } : Jvm.MethodName)) ∈ UU := tb_4 (List.mem_of_getElem? (i := 106) rfl) rfl
theorem u4_107 : (Jvm.Cond.selects "GapLinks" ({ cls := "GapLinks", name := "babble", desc := "(II)I" } : Jvm.MethodName) ({ cls := "GapLinks", name := "babble", desc := "(II)I" } : Jvm.MethodName)) ∈ UU := tb_4 (List.mem_of_getElem? (i := 107) rfl) rfl
theorem u4_108 : (Jvm.Cond.code ({ cls := "GapLinks", name := "babble", desc := "(II)I" } : Jvm.MethodName) prog_1_method_30_code (5 : Nat) (Option.some Jvm.ClassFile.FieldType.int)) ∈ UU := tb_4 (List.mem_of_getElem? (i := 108) rfl) rfl
theorem u4_109 : (Jvm.Cond.methodLink "GapLinks" (294 : Nat) ({ cls := "GapLinks$State", name := "bear", desc := "(LGapLinks$Plan;I)I" } : Jvm.MethodName)) ∈ UU := tb_4 (List.mem_of_getElem? (i := 109) rfl) rfl
theorem u4_110 : (Jvm.Cond.instanceMethod ({ cls := "GapLinks$State", name := "bear", desc := "(LGapLinks$Plan;I)I" } : Jvm.MethodName)) ∈ UU := tb_4 (List.mem_of_getElem? (i := 110) rfl) rfl
theorem u4_111 : (Jvm.Cond.selects "GapLinks$State" ({ cls := "GapLinks$State", name := "bear", desc := "(LGapLinks$Plan;I)I" } : Jvm.MethodName) ({ cls := "GapLinks$State", name := "bear", desc := "(LGapLinks$Plan;I)I" } : Jvm.MethodName)) ∈ UU := tb_4 (List.mem_of_getElem? (i := 111) rfl) rfl
theorem u4_112 : (Jvm.Cond.code ({ cls := "GapLinks$State", name := "bear", desc := "(LGapLinks$Plan;I)I" } : Jvm.MethodName) prog_7_method_18_code (6 : Nat) (Option.some Jvm.ClassFile.FieldType.int)) ∈ UU := tb_4 (List.mem_of_getElem? (i := 112) rfl) rfl
theorem u4_113 : (Jvm.Cond.methodLink "GapLinks$State" (191 : Nat) ({ cls := "GapLinks$Ports", name := "admits", desc := "(IIIII)Z" } : Jvm.MethodName)) ∈ UU := tb_4 (List.mem_of_getElem? (i := 113) rfl) rfl
theorem u4_114 : (Jvm.Cond.instanceMethod ({ cls := "GapLinks$Ports", name := "admits", desc := "(IIIII)Z" } : Jvm.MethodName)) ∈ UU := tb_4 (List.mem_of_getElem? (i := 114) rfl) rfl
theorem u4_115 : (Jvm.Cond.selects "GapLinks$Ports" ({ cls := "GapLinks$Ports", name := "admits", desc := "(IIIII)Z" } : Jvm.MethodName) ({ cls := "GapLinks$Ports", name := "admits", desc := "(IIIII)Z" } : Jvm.MethodName)) ∈ UU := tb_4 (List.mem_of_getElem? (i := 115) rfl) rfl
theorem u4_116 : (Jvm.Cond.code ({ cls := "GapLinks$Ports", name := "admits", desc := "(IIIII)Z" } : Jvm.MethodName) prog_5_method_7_code (7 : Nat) (Option.some Jvm.ClassFile.FieldType.boolean)) ∈ UU := tb_4 (List.mem_of_getElem? (i := 116) rfl) rfl
theorem u4_118 : (Jvm.Cond.static ({ cls := "GapLinks", name := "numberBehind", desc := "(I)I" } : Jvm.MethodName)) ∈ UU := tb_4 (List.mem_of_getElem? (i := 118) rfl) rfl
theorem u4_119 : (Jvm.Cond.code ({ cls := "GapLinks", name := "numberBehind", desc := "(I)I" } : Jvm.MethodName) prog_1_method_51_code (1 : Nat) (Option.some Jvm.ClassFile.FieldType.int)) ∈ UU := tb_4 (List.mem_of_getElem? (i := 119) rfl) rfl
theorem u4_120 : (Jvm.Cond.methodLink "GapLinksLaw" (146 : Nat) ({ cls := "GapLinks", name := "down", desc := "(II)I" } : Jvm.MethodName)) ∈ UU := tb_4 (List.mem_of_getElem? (i := 120) rfl) rfl
theorem u4_121 : (Jvm.Cond.instanceMethod ({ cls := "GapLinks", name := "down", desc := "(II)I" } : Jvm.MethodName)) ∈ UU := tb_4 (List.mem_of_getElem? (i := 121) rfl) rfl
theorem u4_122 : (Jvm.Cond.selects "GapLinks" ({ cls := "GapLinks", name := "down", desc := "(II)I" } : Jvm.MethodName) ({ cls := "GapLinks", name := "down", desc := "(II)I" } : Jvm.MethodName)) ∈ UU := tb_4 (List.mem_of_getElem? (i := 122) rfl) rfl
theorem u4_123 : (Jvm.Cond.code ({ cls := "GapLinks", name := "down", desc := "(II)I" } : Jvm.MethodName) prog_1_method_31_code (4 : Nat) (Option.some Jvm.ClassFile.FieldType.int)) ∈ UU := tb_4 (List.mem_of_getElem? (i := 123) rfl) rfl
theorem u4_124 : (Jvm.Cond.methodLink "GapLinksLaw" (150 : Nat) ({ cls := "GapLinks", name := "anew", desc := "(I)I" } : Jvm.MethodName)) ∈ UU := tb_4 (List.mem_of_getElem? (i := 124) rfl) rfl
theorem u4_125 : (Jvm.Cond.instanceMethod ({ cls := "GapLinks", name := "anew", desc := "(I)I" } : Jvm.MethodName)) ∈ UU := tb_4 (List.mem_of_getElem? (i := 125) rfl) rfl
theorem u4_126 : (Jvm.Cond.selects "GapLinks" ({ cls := "GapLinks", name := "anew", desc := "(I)I" } : Jvm.MethodName) ({ cls := "GapLinks", name := "anew", desc := "(I)I" } : Jvm.MethodName)) ∈ UU := tb_4 (List.mem_of_getElem? (i := 126) rfl) rfl
theorem u4_127 : (Jvm.Cond.code ({ cls := "GapLinks", name := "anew", desc := "(I)I" } : Jvm.MethodName) prog_1_method_32_code (2 : Nat) (Option.some Jvm.ClassFile.FieldType.int)) ∈ UU := tb_4 (List.mem_of_getElem? (i := 127) rfl) rfl
theorem u4_128 : (Jvm.Cond.methodLink "GapLinks" (300 : Nat) ({ cls := "GapLinks$State", name := "beginAnew", desc := "(LGapLinks$Plan;I)I" } : Jvm.MethodName)) ∈ UU := tb_4 (List.mem_of_getElem? (i := 128) rfl) rfl
theorem u4_129 : (Jvm.Cond.instanceMethod ({ cls := "GapLinks$State", name := "beginAnew", desc := "(LGapLinks$Plan;I)I" } : Jvm.MethodName)) ∈ UU := tb_4 (List.mem_of_getElem? (i := 129) rfl) rfl
theorem u4_130 : (Jvm.Cond.selects "GapLinks$State" ({ cls := "GapLinks$State", name := "beginAnew", desc := "(LGapLinks$Plan;I)I" } : Jvm.MethodName) ({ cls := "GapLinks$State", name := "beginAnew", desc := "(LGapLinks$Plan;I)I" } : Jvm.MethodName)) ∈ UU := tb_4 (List.mem_of_getElem? (i := 130) rfl) rfl
theorem u4_131 : (Jvm.Cond.code ({ cls := "GapLinks$State", name := "beginAnew", desc := "(LGapLinks$Plan;I)I" } : Jvm.MethodName) prog_7_method_6_code (5 : Nat) (Option.some Jvm.ClassFile.FieldType.int)) ∈ UU := tb_4 (List.mem_of_getElem? (i := 131) rfl) rfl
theorem u4_132 : (Jvm.Cond.methodLink "GapLinksLaw" (154 : Nat) ({ cls := "GapLinks", name := "ticks", desc := "(I)I" } : Jvm.MethodName)) ∈ UU := tb_4 (List.mem_of_getElem? (i := 132) rfl) rfl
theorem u4_133 : (Jvm.Cond.instanceMethod ({ cls := "GapLinks", name := "ticks", desc := "(I)I" } : Jvm.MethodName)) ∈ UU := tb_4 (List.mem_of_getElem? (i := 133) rfl) rfl
theorem u4_134 : (Jvm.Cond.selects "GapLinks" ({ cls := "GapLinks", name := "ticks", desc := "(I)I" } : Jvm.MethodName) ({ cls := "GapLinks", name := "ticks", desc := "(I)I" } : Jvm.MethodName)) ∈ UU := tb_4 (List.mem_of_getElem? (i := 134) rfl) rfl
theorem u4_135 : (Jvm.Cond.code ({ cls := "GapLinks", name := "ticks", desc := "(I)I" } : Jvm.MethodName) prog_1_method_33_code (3 : Nat) (Option.some Jvm.ClassFile.FieldType.int)) ∈ UU := tb_4 (List.mem_of_getElem? (i := 135) rfl) rfl
theorem u4_136 : (Jvm.Cond.methodLink "GapLinks" (303 : Nat) ({ cls := "GapLinks", name := "isTicks", desc := "(I)Z" } : Jvm.MethodName)) ∈ UU := tb_4 (List.mem_of_getElem? (i := 136) rfl) rfl
theorem u4_137 : (Jvm.Cond.static ({ cls := "GapLinks", name := "isTicks", desc := "(I)Z" } : Jvm.MethodName)) ∈ UU := tb_4 (List.mem_of_getElem? (i := 137) rfl) rfl
theorem u4_138 : (Jvm.Cond.code ({ cls := "GapLinks", name := "isTicks", desc := "(I)Z" } : Jvm.MethodName) prog_1_method_49_code (1 : Nat) (Option.some Jvm.ClassFile.FieldType.boolean)) ∈ UU := tb_4 (List.mem_of_getElem? (i := 138) rfl) rfl
theorem u4_139 : (Jvm.Cond.methodLink "GapLinks" (309 : Nat) ({ cls := "GapLinks$State", name := "advance", desc := "(LGapLinks$Plan;I)V" } : Jvm.MethodName)) ∈ UU := tb_4 (List.mem_of_getElem? (i := 139) rfl) rfl
theorem u4_140 : (Jvm.Cond.instanceMethod ({ cls := "GapLinks$State", name := "advance", desc := "(LGapLinks$Plan;I)V" } : Jvm.MethodName)) ∈ UU := tb_4 (List.mem_of_getElem? (i := 140) rfl) rfl
theorem u4_141 : (Jvm.Cond.selects "GapLinks$State" ({ cls := "GapLinks$State", name := "advance", desc := "(LGapLinks$Plan;I)V" } : Jvm.MethodName) ({ cls := "GapLinks$State", name := "advance", desc := "(LGapLinks$Plan;I)V" } : Jvm.MethodName)) ∈ UU := tb_4 (List.mem_of_getElem? (i := 141) rfl) rfl
theorem u4_142 : (Jvm.Cond.code ({ cls := "GapLinks$State", name := "advance", desc := "(LGapLinks$Plan;I)V" } : Jvm.MethodName) prog_7_method_7_code (5 : Nat) (Option.none : Option Jvm.ClassFile.FieldType)) ∈ UU := tb_4 (List.mem_of_getElem? (i := 142) rfl) rfl
theorem u4_143 : (Jvm.Cond.methodLink "GapLinks$State" (97 : Nat) ({ cls := "GapLinks$State", name := "step", desc := "(LGapLinks$Plan;I)V" } : Jvm.MethodName)) ∈ UU := tb_4 (List.mem_of_getElem? (i := 143) rfl) rfl
theorem u4_144 : (Jvm.Cond.instanceMethod ({ cls := "GapLinks$State", name := "step", desc := "(LGapLinks$Plan;I)V" } : Jvm.MethodName)) ∈ UU := tb_4 (List.mem_of_getElem? (i := 144) rfl) rfl
theorem u4_145 : (Jvm.Cond.selects "GapLinks$State" ({ cls := "GapLinks$State", name := "step", desc := "(LGapLinks$Plan;I)V" } : Jvm.MethodName) ({ cls := "GapLinks$State", name := "step", desc := "(LGapLinks$Plan;I)V" } : Jvm.MethodName)) ∈ UU := tb_4 (List.mem_of_getElem? (i := 145) rfl) rfl
theorem u4_146 : (Jvm.Cond.code ({ cls := "GapLinks$State", name := "step", desc := "(LGapLinks$Plan;I)V" } : Jvm.MethodName) prog_7_method_8_code (4 : Nat) (Option.none : Option Jvm.ClassFile.FieldType)) ∈ UU := tb_4 (List.mem_of_getElem? (i := 146) rfl) rfl
theorem u4_147 : (Jvm.Cond.methodLink "GapLinks$State" (101 : Nat) ({ cls := "GapLinks$State", name := "nextChange", desc := "(LGapLinks$Plan;I)I" } : Jvm.MethodName)) ∈ UU := tb_4 (List.mem_of_getElem? (i := 147) rfl) rfl
theorem u4_149 : (Jvm.Cond.instanceMethod ({ cls := "GapLinks$State", name := "nextChange", desc := "(LGapLinks$Plan;I)I" } : Jvm.MethodName)) ∈ UU := tb_4 (List.mem_of_getElem? (i := 149) rfl) rfl
theorem u4_150 : (Jvm.Cond.code ({ cls := "GapLinks$State", name := "nextChange", desc := "(LGapLinks$Plan;I)I" } : Jvm.MethodName) prog_7_method_9_code (5 : Nat) (Option.some Jvm.ClassFile.FieldType.int)) ∈ UU := tb_4 (List.mem_of_getElem? (i := 150) rfl) rfl
theorem u4_151 : (Jvm.Cond.methodLink "GapLinks$State" (127 : Nat) ({ cls := "GapLinks$Ports", name := "nextChange", desc := "(II)I" } : Jvm.MethodName)) ∈ UU := tb_4 (List.mem_of_getElem? (i := 151) rfl) rfl
theorem u4_152 : (Jvm.Cond.instanceMethod ({ cls := "GapLinks$Ports", name := "nextChange", desc := "(II)I" } : Jvm.MethodName)) ∈ UU := tb_4 (List.mem_of_getElem? (i := 152) rfl) rfl
theorem u4_153 : (Jvm.Cond.selects "GapLinks$Ports" ({ cls := "GapLinks$Ports", name := "nextChange", desc := "(II)I" } : Jvm.MethodName) ({ cls := "GapLinks$Ports", name := "nextChange", desc := "(II)I" } : Jvm.MethodName)) ∈ UU := tb_4 (List.mem_of_getElem? (i := 153) rfl) rfl
theorem u4_154 : (Jvm.Cond.code ({ cls := "GapLinks$Ports", name := "nextChange", desc := "(II)I" } : Jvm.MethodName) prog_5_method_10_code (5 : Nat) (Option.some Jvm.ClassFile.FieldType.int)) ∈ UU := tb_4 (List.mem_of_getElem? (i := 154) rfl) rfl
theorem u4_155 : (Jvm.Cond.methodLink "GapLinks$Ports" (60 : Nat) ({ cls := "java/lang/Math", name := "min", desc := "(II)I" } : Jvm.MethodName)) ∈ UU := tb_4 (List.mem_of_getElem? (i := 155) rfl) rfl
theorem u4_156 : (Jvm.Cond.methodLink "GapLinks$State" (129 : Nat) ({ cls := "java/lang/Math", name := "min", desc := "(II)I" } : Jvm.MethodName)) ∈ UU := tb_4 (List.mem_of_getElem? (i := 156) rfl) rfl
theorem u4_157 : (Jvm.Cond.methodLink "GapLinks$State" (105 : Nat) ({ cls := "java/lang/Math", name := "max", desc := "(II)I" } : Jvm.MethodName)) ∈ UU := tb_4 (List.mem_of_getElem? (i := 157) rfl) rfl
theorem u4_158 : (Jvm.Cond.static ({ cls := "java/lang/Math", name := "max", desc := "(II)I" } : Jvm.MethodName)) ∈ UU := tb_4 (List.mem_of_getElem? (i := 158) rfl) rfl
theorem u4_159 : (Jvm.Cond.code ({ cls := "java/lang/Math", name := "max", desc := "(II)I" } : Jvm.MethodName) prog_17_method_65_code (2 : Nat) (Option.some Jvm.ClassFile.FieldType.int)) ∈ UU := tb_4 (List.mem_of_getElem? (i := 159) rfl) rfl
theorem u4_160 : (Jvm.Cond.methodLink "GapLinks$State" (111 : Nat) ({ cls := "GapLinks$Ports", name := "noteMost", desc := "()V" } : Jvm.MethodName)) ∈ UU := tb_4 (List.mem_of_getElem? (i := 160) rfl) rfl
theorem u4_161 : (Jvm.Cond.instanceMethod ({ cls := "GapLinks$Ports", name := "noteMost", desc := "()V" } : Jvm.MethodName)) ∈ UU := tb_4 (List.mem_of_getElem? (i := 161) rfl) rfl
theorem u4_162 : (Jvm.Cond.selects "GapLinks$Ports" ({ cls := "GapLinks$Ports", name := "noteMost", desc := "()V" } : Jvm.MethodName) ({ cls := "GapLinks$Ports", name := "noteMost", desc := "()V" } : Jvm.MethodName)) ∈ UU := tb_4 (List.mem_of_getElem? (i := 162) rfl) rfl
theorem u4_163 : (Jvm.Cond.code ({ cls := "GapLinks$Ports", name := "noteMost", desc := "()V" } : Jvm.MethodName) prog_5_method_9_code (2 : Nat) (Option.none : Option Jvm.ClassFile.FieldType)) ∈ UU := tb_4 (List.mem_of_getElem? (i := 163) rfl) rfl
theorem u4_164 : (Jvm.Cond.methodLink "GapLinks$Ports" (55 : Nat) ({ cls := "java/lang/Math", name := "max", desc := "(II)I" } : Jvm.MethodName)) ∈ UU := tb_4 (List.mem_of_getElem? (i := 164) rfl) rfl
theorem u4_165 : (Jvm.Cond.methodLink "GapLinks$State" (114 : Nat) ({ cls := "GapLinks$State", name := "growCredit", desc := "(LGapLinks$Plan;I)V" } : Jvm.MethodName)) ∈ UU := tb_4 (List.mem_of_getElem? (i := 165) rfl) rfl
theorem u4_167 : (Jvm.Cond.instanceMethod ({ cls := "GapLinks$State", name := "growCredit", desc := "(LGapLinks$Plan;I)V" } : Jvm.MethodName)) ∈ UU := tb_4 (List.mem_of_getElem? (i := 167) rfl) rfl
theorem u4_168 : (Jvm.Cond.code ({ cls := "GapLinks$State", name := "growCredit", desc := "(LGapLinks$Plan;I)V" } : Jvm.MethodName) prog_7_method_10_code (6 : Nat) (Option.none : Option Jvm.ClassFile.FieldType)) ∈ UU := tb_4 (List.mem_of_getElem? (i := 168) rfl) rfl
theorem u4_169 : (Jvm.Cond.methodLink "GapLinks$State" (117 : Nat) ({ cls := "GapLinks$State", name := "deliver", desc := "(LGapLinks$Plan;)V" } : Jvm.MethodName)) ∈ UU := tb_4 (List.mem_of_getElem? (i := 169) rfl) rfl
theorem u4_171 : (Jvm.Cond.instanceMethod ({ cls := "GapLinks$State", name := "deliver", desc := "(LGapLinks$Plan;)V" } : Jvm.MethodName)) ∈ UU := tb_4 (List.mem_of_getElem? (i := 171) rfl) rfl
theorem u4_172 : (Jvm.Cond.code ({ cls := "GapLinks$State", name := "deliver", desc := "(LGapLinks$Plan;)V" } : Jvm.MethodName) prog_7_method_11_code (4 : Nat) (Option.none : Option Jvm.ClassFile.FieldType)) ∈ UU := tb_4 (List.mem_of_getElem? (i := 172) rfl) rfl
theorem u4_173 : (Jvm.Cond.methodLink "GapLinks$State" (138 : Nat) ({ cls := "GapLinks$Ports", name := "slot", desc := "(II)I" } : Jvm.MethodName)) ∈ UU := tb_4 (List.mem_of_getElem? (i := 173) rfl) rfl
theorem u4_174 : (Jvm.Cond.methodLink "GapLinks$State" (141 : Nat) ({ cls := "GapLinks$Ports", name := "removeFirst", desc := "(I)V" } : Jvm.MethodName)) ∈ UU := tb_4 (List.mem_of_getElem? (i := 174) rfl) rfl
theorem u4_175 : (Jvm.Cond.instanceMethod ({ cls := "GapLinks$Ports", name := "removeFirst", desc := "(I)V" } : Jvm.MethodName)) ∈ UU := tb_4 (List.mem_of_getElem? (i := 175) rfl) rfl
theorem u4_176 : (Jvm.Cond.selects "GapLinks$Ports" ({ cls := "GapLinks$Ports", name := "removeFirst", desc := "(I)V" } : Jvm.MethodName) ({ cls := "GapLinks$Ports", name := "removeFirst", desc := "(I)V" } : Jvm.MethodName)) ∈ UU := tb_4 (List.mem_of_getElem? (i := 176) rfl) rfl
theorem u4_177 : (Jvm.Cond.code ({ cls := "GapLinks$Ports", name := "removeFirst", desc := "(I)V" } : Jvm.MethodName) prog_5_method_8_code (2 : Nat) (Option.none : Option Jvm.ClassFile.FieldType)) ∈ UU := tb_4 (List.mem_of_getElem? (i := 177) rfl) rfl
theorem u4_178 : (Jvm.Cond.methodLink "GapLinks$State" (145 : Nat) ({ cls := "GapLinks$State", name := "leadsToEnd", desc := "(I)Z" } : Jvm.MethodName)) ∈ UU := tb_4 (List.mem_of_getElem? (i := 178) rfl) rfl
theorem u4_179 : (Jvm.Cond.static ({ cls := "GapLinks$State", name := "leadsToEnd", desc := "(I)Z" } : Jvm.MethodName)) ∈ UU := tb_4 (List.mem_of_getElem? (i := 179) rfl) rfl
theorem u4_180 : (Jvm.Cond.code ({ cls := "GapLinks$State", name := "leadsToEnd", desc := "(I)Z" } : Jvm.MethodName) prog_7_method_12_code (2 : Nat) (Option.some Jvm.ClassFile.FieldType.boolean)) ∈ UU := tb_4 (List.mem_of_getElem? (i := 180) rfl) rfl
theorem u4_181 : (Jvm.Cond.methodLink "GapLinks$State" (149 : Nat) ({ cls := "GapLinks$State", name := "arriveAtEnd", desc := "(LGapLinks$Plan;II)V" } : Jvm.MethodName)) ∈ UU := tb_4 (List.mem_of_getElem? (i := 181) rfl) rfl
theorem u4_183 : (Jvm.Cond.instanceMethod ({ cls := "GapLinks$State", name := "arriveAtEnd", desc := "(LGapLinks$Plan;II)V" } : Jvm.MethodName)) ∈ UU := tb_4 (List.mem_of_getElem? (i := 183) rfl) rfl
theorem u4_184 : (Jvm.Cond.code ({ cls := "GapLinks$State", name := "arriveAtEnd", desc := "(LGapLinks$Plan;II)V" } : Jvm.MethodName) prog_7_method_13_code (5 : Nat) (Option.none : Option Jvm.ClassFile.FieldType)) ∈ UU := tb_4 (List.mem_of_getElem? (i := 184) rfl) rfl
theorem u4_185 : (Jvm.Cond.methodLink "GapLinks$State" (159 : Nat) ({ cls := "GapLinks$Plan", name := "earAt", desc := "(II)I" } : Jvm.MethodName)) ∈ UU := tb_4 (List.mem_of_getElem? (i := 185) rfl) rfl
theorem u4_186 : (Jvm.Cond.methodLink "GapLinks$State" (164 : Nat) ({ cls := "GapLinks$Ears", name := "hear", desc := "(LGapLinks$Plan;IIIII)V" } : Jvm.MethodName)) ∈ UU := tb_4 (List.mem_of_getElem? (i := 186) rfl) rfl
theorem u4_187 : (Jvm.Cond.instanceMethod ({ cls := "GapLinks$Ears", name := "hear", desc := "(LGapLinks$Plan;IIIII)V" } : Jvm.MethodName)) ∈ UU := tb_4 (List.mem_of_getElem? (i := 187) rfl) rfl
theorem u4_188 : (Jvm.Cond.selects "GapLinks$Ears" ({ cls := "GapLinks$Ears", name := "hear", desc := "(LGapLinks$Plan;IIIII)V" } : Jvm.MethodName) ({ cls := "GapLinks$Ears", name := "hear", desc := "(LGapLinks$Plan;IIIII)V" } : Jvm.MethodName)) ∈ UU := tb_4 (List.mem_of_getElem? (i := 188) rfl) rfl
theorem u4_189 : (Jvm.Cond.code ({ cls := "GapLinks$Ears", name := "hear", desc := "(LGapLinks$Plan;IIIII)V" } : Jvm.MethodName) prog_2_method_10_code (8 : Nat) (Option.none : Option Jvm.ClassFile.FieldType)) ∈ UU := tb_4 (List.mem_of_getElem? (i := 189) rfl) rfl
theorem u4_190 : (Jvm.Cond.methodLink "GapLinks$Ears" (68 : Nat) ({ cls := "GapLinks$Ears", name := "isWhole", desc := "(II)Z" } : Jvm.MethodName)) ∈ UU := tb_4 (List.mem_of_getElem? (i := 190) rfl) rfl
theorem u4_191 : (Jvm.Cond.static ({ cls := "GapLinks$Ears", name := "isWhole", desc := "(II)Z" } : Jvm.MethodName)) ∈ UU := tb_4 (List.mem_of_getElem? (i := 191) rfl) rfl
theorem u4_192 : (Jvm.Cond.code ({ cls := "GapLinks$Ears", name := "isWhole", desc := "(II)Z" } : Jvm.MethodName) prog_2_method_11_code (3 : Nat) (Option.some Jvm.ClassFile.FieldType.boolean)) ∈ UU := tb_4 (List.mem_of_getElem? (i := 192) rfl) rfl
theorem u4_194 : (Jvm.Cond.methodLink "GapLinks$Ears" (72 : Nat) ({ cls := "GapLinks$Ears", name := "isFresh", desc := "(LGapLinks$Plan;III)Z" } : Jvm.MethodName)) ∈ UU := tb_4 (List.mem_of_getElem? (i := 194) rfl) rfl
theorem u4_196 : (Jvm.Cond.instanceMethod ({ cls := "GapLinks$Ears", name := "isFresh", desc := "(LGapLinks$Plan;III)Z" } : Jvm.MethodName)) ∈ UU := tb_4 (List.mem_of_getElem? (i := 196) rfl) rfl
theorem u4_197 : (Jvm.Cond.code ({ cls := "GapLinks$Ears", name := "isFresh", desc := "(LGapLinks$Plan;III)Z" } : Jvm.MethodName) prog_2_method_12_code (7 : Nat) (Option.some Jvm.ClassFile.FieldType.boolean)) ∈ UU := tb_4 (List.mem_of_getElem? (i := 197) rfl) rfl
theorem u4_198 : (Jvm.Cond.methodLink "GapLinks$Ears" (76 : Nat) ({ cls := "GapLinks$Ears", name := "take", desc := "(IIIII)V" } : Jvm.MethodName)) ∈ UU := tb_4 (List.mem_of_getElem? (i := 198) rfl) rfl
theorem u4_200 : (Jvm.Cond.instanceMethod ({ cls := "GapLinks$Ears", name := "take", desc := "(IIIII)V" } : Jvm.MethodName)) ∈ UU := tb_4 (List.mem_of_getElem? (i := 200) rfl) rfl
theorem u4_201 : (Jvm.Cond.code ({ cls := "GapLinks$Ears", name := "take", desc := "(IIIII)V" } : Jvm.MethodName) prog_2_method_13_code (7 : Nat) (Option.none : Option Jvm.ClassFile.FieldType)) ∈ UU := tb_4 (List.mem_of_getElem? (i := 201) rfl) rfl
theorem u4_202 : (Jvm.Cond.methodLink "GapLinks$Ears" (92 : Nat) ({ cls := "java/lang/Math", name := "max", desc := "(II)I" } : Jvm.MethodName)) ∈ UU := tb_4 (List.mem_of_getElem? (i := 202) rfl) rfl
theorem u4_203 : (Jvm.Cond.methodLink "GapLinks$State" (153 : Nat) ({ cls := "GapLinks$State", name := "arriveAtSwitch", desc := "(LGapLinks$Plan;II)V" } : Jvm.MethodName)) ∈ UU := tb_4 (List.mem_of_getElem? (i := 203) rfl) rfl
theorem u4_205 : (Jvm.Cond.instanceMethod ({ cls := "GapLinks$State", name := "arriveAtSwitch", desc := "(LGapLinks$Plan;II)V" } : Jvm.MethodName)) ∈ UU := tb_4 (List.mem_of_getElem? (i := 205) rfl) rfl
theorem u4_206 : (Jvm.Cond.code ({ cls := "GapLinks$State", name := "arriveAtSwitch", desc := "(LGapLinks$Plan;II)V" } : Jvm.MethodName) prog_7_method_14_code (7 : Nat) (Option.none : Option Jvm.ClassFile.FieldType)) ∈ UU := tb_4 (List.mem_of_getElem? (i := 206) rfl) rfl
theorem u4_207 : (Jvm.Cond.methodLink "GapLinks$State" (168 : Nat) ({ cls := "GapLinks$State", name := "paysCredit", desc := "(LGapLinks$Plan;II)Z" } : Jvm.MethodName)) ∈ UU := tb_4 (List.mem_of_getElem? (i := 207) rfl) rfl
theorem u4_209 : (Jvm.Cond.instanceMethod ({ cls := "GapLinks$State", name := "paysCredit", desc := "(LGapLinks$Plan;II)Z" } : Jvm.MethodName)) ∈ UU := tb_4 (List.mem_of_getElem? (i := 209) rfl) rfl
theorem u4_210 : (Jvm.Cond.code ({ cls := "GapLinks$State", name := "paysCredit", desc := "(LGapLinks$Plan;II)Z" } : Jvm.MethodName) prog_7_method_15_code (5 : Nat) (Option.some Jvm.ClassFile.FieldType.boolean)) ∈ UU := tb_4 (List.mem_of_getElem? (i := 210) rfl) rfl
theorem u4_211 : (Jvm.Cond.methodLink "GapLinks$State" (181 : Nat) ({ cls := "GapLinks$State", name := "spread", desc := "(LGapLinks$Plan;III)V" } : Jvm.MethodName)) ∈ UU := tb_4 (List.mem_of_getElem? (i := 211) rfl) rfl
theorem u4_213 : (Jvm.Cond.instanceMethod ({ cls := "GapLinks$State", name := "spread", desc := "(LGapLinks$Plan;III)V" } : Jvm.MethodName)) ∈ UU := tb_4 (List.mem_of_getElem? (i := 213) rfl) rfl
theorem u4_214 : (Jvm.Cond.code ({ cls := "GapLinks$State", name := "spread", desc := "(LGapLinks$Plan;III)V" } : Jvm.MethodName) prog_7_method_16_code (8 : Nat) (Option.none : Option Jvm.ClassFile.FieldType)) ∈ UU := tb_4 (List.mem_of_getElem? (i := 214) rfl) rfl
theorem u4_215 : (Jvm.Cond.methodLink "GapLinks$State" (121 : Nat) ({ cls := "GapLinks$State", name := "release", desc := "(LGapLinks$Plan;)V" } : Jvm.MethodName)) ∈ UU := tb_4 (List.mem_of_getElem? (i := 215) rfl) rfl
theorem u4_217 : (Jvm.Cond.instanceMethod ({ cls := "GapLinks$State", name := "release", desc := "(LGapLinks$Plan;)V" } : Jvm.MethodName)) ∈ UU := tb_4 (List.mem_of_getElem? (i := 217) rfl) rfl
theorem u4_218 : (Jvm.Cond.code ({ cls := "GapLinks$State", name := "release", desc := "(LGapLinks$Plan;)V" } : Jvm.MethodName) prog_7_method_17_code (3 : Nat) (Option.none : Option Jvm.ClassFile.FieldType)) ∈ UU := tb_4 (List.mem_of_getElem? (i := 218) rfl) rfl
theorem u4_219 : (Jvm.Cond.methodLink "GapLinks$State" (195 : Nat) ({ cls := "GapLinks$State", name := "bear", desc := "(LGapLinks$Plan;I)I" } : Jvm.MethodName)) ∈ UU := tb_4 (List.mem_of_getElem? (i := 219) rfl) rfl
theorem u4_220 : (Jvm.Cond.methodLink "GapLinks$State" (124 : Nat) ({ cls := "GapLinks$State", name := "beginSending", desc := "(LGapLinks$Plan;)V" } : Jvm.MethodName)) ∈ UU := tb_4 (List.mem_of_getElem? (i := 220) rfl) rfl
theorem u4_222 : (Jvm.Cond.instanceMethod ({ cls := "GapLinks$State", name := "beginSending", desc := "(LGapLinks$Plan;)V" } : Jvm.MethodName)) ∈ UU := tb_4 (List.mem_of_getElem? (i := 222) rfl) rfl
theorem u4_223 : (Jvm.Cond.code ({ cls := "GapLinks$State", name := "beginSending", desc := "(LGapLinks$Plan;)V" } : Jvm.MethodName) prog_7_method_19_code (5 : Nat) (Option.none : Option Jvm.ClassFile.FieldType)) ∈ UU := tb_4 (List.mem_of_getElem? (i := 223) rfl) rfl
theorem u4_224 : (Jvm.Cond.methodLink "GapLinks$State" (204 : Nat) ({ cls := "GapLinks$Ports", name := "sends", desc := "(I)Z" } : Jvm.MethodName)) ∈ UU := tb_4 (List.mem_of_getElem? (i := 224) rfl) rfl
theorem u4_225 : (Jvm.Cond.methodLink "GapLinksLaw" (158 : Nat) ({ cls := "GapLinks", name := "willHear", desc := "(IIII)I" } : Jvm.MethodName)) ∈ UU := tb_4 (List.mem_of_getElem? (i := 225) rfl) rfl
theorem u4_226 : (Jvm.Cond.instanceMethod ({ cls := "GapLinks", name := "willHear", desc := "(IIII)I" } : Jvm.MethodName)) ∈ UU := tb_4 (List.mem_of_getElem? (i := 226) rfl) rfl
theorem u4_227 : (Jvm.Cond.selects "GapLinks" ({ cls := "GapLinks", name := "willHear", desc := "(IIII)I" } : Jvm.MethodName) ({ cls := "GapLinks", name := "willHear", desc := "(IIII)I" } : Jvm.MethodName)) ∈ UU := tb_4 (List.mem_of_getElem? (i := 227) rfl) rfl
theorem u4_228 : (Jvm.Cond.code ({ cls := "GapLinks", name := "willHear", desc := "(IIII)I" } : Jvm.MethodName) prog_1_method_34_code (5 : Nat) (Option.some Jvm.ClassFile.FieldType.int)) ∈ UU := tb_4 (List.mem_of_getElem? (i := 228) rfl) rfl
theorem u4_229 : (Jvm.Cond.methodLink "GapLinks" (313 : Nat) ({ cls := "GapLinks$State", name := "copy", desc := "(LGapLinks$State;)V" } : Jvm.MethodName)) ∈ UU := tb_4 (List.mem_of_getElem? (i := 229) rfl) rfl
theorem u4_230 : (Jvm.Cond.instanceMethod ({ cls := "GapLinks$State", name := "copy", desc := "(LGapLinks$State;)V" } : Jvm.MethodName)) ∈ UU := tb_4 (List.mem_of_getElem? (i := 230) rfl) rfl
theorem u4_231 : (Jvm.Cond.selects "GapLinks$State" ({ cls := "GapLinks$State", name := "copy", desc := "(LGapLinks$State;)V" } : Jvm.MethodName) ({ cls := "GapLinks$State", name := "copy", desc := "(LGapLinks$State;)V" } : Jvm.MethodName)) ∈ UU := tb_4 (List.mem_of_getElem? (i := 231) rfl) rfl
theorem u4_232 : (Jvm.Cond.code ({ cls := "GapLinks$State", name := "copy", desc := "(LGapLinks$State;)V" } : Jvm.MethodName) prog_7_method_3_code (2 : Nat) (Option.none : Option Jvm.ClassFile.FieldType)) ∈ UU := tb_4 (List.mem_of_getElem? (i := 232) rfl) rfl
theorem u4_234 : (Jvm.Cond.static ({ cls := "GapLinks", name := "copyAll", desc := "([I[I)V" } : Jvm.MethodName)) ∈ UU := tb_4 (List.mem_of_getElem? (i := 234) rfl) rfl
theorem u4_235 : (Jvm.Cond.code ({ cls := "GapLinks", name := "copyAll", desc := "([I[I)V" } : Jvm.MethodName) prog_1_method_52_code (2 : Nat) (Option.none : Option Jvm.ClassFile.FieldType)) ∈ UU := tb_4 (List.mem_of_getElem? (i := 235) rfl) rfl
theorem u4_236 : (Jvm.Cond.methodLink "GapLinks" (351 : Nat) ({ cls := "java/lang/System", name := "arraycopy", desc := "(Ljava/lang/Object;ILjava/lang/Object;II)V" } : Jvm.MethodName)) ∈ UU := tb_4 (List.mem_of_getElem? (i := 236) rfl) rfl
theorem u4_237 : (Jvm.Cond.static ({ cls := "java/lang/System", name := "arraycopy", desc := "(Ljava/lang/Object;ILjava/lang/Object;II)V" } : Jvm.MethodName)) ∈ UU := tb_4 (List.mem_of_getElem? (i := 237) rfl) rfl
theorem u4_238 : (Jvm.Cond.native ({ cls := "java/lang/System", name := "arraycopy", desc := "(Ljava/lang/Object;ILjava/lang/Object;II)V" } : Jvm.MethodName)) ∈ UU := tb_4 (List.mem_of_getElem? (i := 238) rfl) rfl
theorem u4_239 : (Jvm.Cond.methodLink "GapLinks$State" (80 : Nat) ({ cls := "GapLinks$Ports", name := "copy", desc := "(LGapLinks$Ports;)V" } : Jvm.MethodName)) ∈ UU := tb_4 (List.mem_of_getElem? (i := 239) rfl) rfl
theorem u5_0 : (Jvm.Cond.instanceMethod ({ cls := "GapLinks$Ports", name := "copy", desc := "(LGapLinks$Ports;)V" } : Jvm.MethodName)) ∈ UU := tb_5 (List.mem_of_getElem? (i := 0) rfl) rfl
theorem u5_1 : (Jvm.Cond.selects "GapLinks$Ports" ({ cls := "GapLinks$Ports", name := "copy", desc := "(LGapLinks$Ports;)V" } : Jvm.MethodName) ({ cls := "GapLinks$Ports", name := "copy", desc := "(LGapLinks$Ports;)V" } : Jvm.MethodName)) ∈ UU := tb_5 (List.mem_of_getElem? (i := 1) rfl) rfl
theorem u5_2 : (Jvm.Cond.code ({ cls := "GapLinks$Ports", name := "copy", desc := "(LGapLinks$Ports;)V" } : Jvm.MethodName) prog_5_method_3_code (2 : Nat) (Option.none : Option Jvm.ClassFile.FieldType)) ∈ UU := tb_5 (List.mem_of_getElem? (i := 2) rfl) rfl
theorem u5_4 : (Jvm.Cond.methodLink "GapLinks$State" (84 : Nat) ({ cls := "GapLinks$Ears", name := "copy", desc := "(LGapLinks$Ears;)V" } : Jvm.MethodName)) ∈ UU := tb_5 (List.mem_of_getElem? (i := 4) rfl) rfl
theorem u5_5 : (Jvm.Cond.instanceMethod ({ cls := "GapLinks$Ears", name := "copy", desc := "(LGapLinks$Ears;)V" } : Jvm.MethodName)) ∈ UU := tb_5 (List.mem_of_getElem? (i := 5) rfl) rfl
theorem u5_6 : (Jvm.Cond.selects "GapLinks$Ears" ({ cls := "GapLinks$Ears", name := "copy", desc := "(LGapLinks$Ears;)V" } : Jvm.MethodName) ({ cls := "GapLinks$Ears", name := "copy", desc := "(LGapLinks$Ears;)V" } : Jvm.MethodName)) ∈ UU := tb_5 (List.mem_of_getElem? (i := 6) rfl) rfl
theorem u5_7 : (Jvm.Cond.code ({ cls := "GapLinks$Ears", name := "copy", desc := "(LGapLinks$Ears;)V" } : Jvm.MethodName) prog_2_method_3_code (2 : Nat) (Option.none : Option Jvm.ClassFile.FieldType)) ∈ UU := tb_5 (List.mem_of_getElem? (i := 7) rfl) rfl
theorem u5_9 : (Jvm.Cond.methodLink "GapLinksLaw" (162 : Nat) ({ cls := "GapLinks", name := "willLose", desc := "(III)I" } : Jvm.MethodName)) ∈ UU := tb_5 (List.mem_of_getElem? (i := 9) rfl) rfl
theorem u5_10 : (Jvm.Cond.instanceMethod ({ cls := "GapLinks", name := "willLose", desc := "(III)I" } : Jvm.MethodName)) ∈ UU := tb_5 (List.mem_of_getElem? (i := 10) rfl) rfl
theorem u5_11 : (Jvm.Cond.selects "GapLinks" ({ cls := "GapLinks", name := "willLose", desc := "(III)I" } : Jvm.MethodName) ({ cls := "GapLinks", name := "willLose", desc := "(III)I" } : Jvm.MethodName)) ∈ UU := tb_5 (List.mem_of_getElem? (i := 11) rfl) rfl
theorem u5_12 : (Jvm.Cond.code ({ cls := "GapLinks", name := "willLose", desc := "(III)I" } : Jvm.MethodName) prog_1_method_35_code (4 : Nat) (Option.some Jvm.ClassFile.FieldType.int)) ∈ UU := tb_5 (List.mem_of_getElem? (i := 12) rfl) rfl
theorem u5_13 : (Jvm.Cond.methodLink "GapLinksLaw" (166 : Nat) ({ cls := "GapLinks", name := "quiet", desc := "()I" } : Jvm.MethodName)) ∈ UU := tb_5 (List.mem_of_getElem? (i := 13) rfl) rfl
theorem u5_14 : (Jvm.Cond.instanceMethod ({ cls := "GapLinks", name := "quiet", desc := "()I" } : Jvm.MethodName)) ∈ UU := tb_5 (List.mem_of_getElem? (i := 14) rfl) rfl
theorem u5_15 : (Jvm.Cond.selects "GapLinks" ({ cls := "GapLinks", name := "quiet", desc := "()I" } : Jvm.MethodName) ({ cls := "GapLinks", name := "quiet", desc := "()I" } : Jvm.MethodName)) ∈ UU := tb_5 (List.mem_of_getElem? (i := 15) rfl) rfl
theorem u5_16 : (Jvm.Cond.code ({ cls := "GapLinks", name := "quiet", desc := "()I" } : Jvm.MethodName) prog_1_method_36_code (3 : Nat) (Option.some Jvm.ClassFile.FieldType.int)) ∈ UU := tb_5 (List.mem_of_getElem? (i := 16) rfl) rfl
theorem u5_17 : (Jvm.Cond.methodLink "GapLinks" (317 : Nat) ({ cls := "GapLinks$State", name := "isQuiet", desc := "()Z" } : Jvm.MethodName)) ∈ UU := tb_5 (List.mem_of_getElem? (i := 17) rfl) rfl
theorem u5_18 : (Jvm.Cond.instanceMethod ({ cls := "GapLinks$State", name := "isQuiet", desc := "()Z" } : Jvm.MethodName)) ∈ UU := tb_5 (List.mem_of_getElem? (i := 18) rfl) rfl
theorem u5_19 : (Jvm.Cond.selects "GapLinks$State" ({ cls := "GapLinks$State", name := "isQuiet", desc := "()Z" } : Jvm.MethodName) ({ cls := "GapLinks$State", name := "isQuiet", desc := "()Z" } : Jvm.MethodName)) ∈ UU := tb_5 (List.mem_of_getElem? (i := 19) rfl) rfl
theorem u5_20 : (Jvm.Cond.code ({ cls := "GapLinks$State", name := "isQuiet", desc := "()Z" } : Jvm.MethodName) prog_7_method_5_code (1 : Nat) (Option.some Jvm.ClassFile.FieldType.boolean)) ∈ UU := tb_5 (List.mem_of_getElem? (i := 20) rfl) rfl
theorem u5_21 : (Jvm.Cond.methodLink "GapLinks$State" (90 : Nat) ({ cls := "GapLinks$State", name := "allWaiting", desc := "()I" } : Jvm.MethodName)) ∈ UU := tb_5 (List.mem_of_getElem? (i := 21) rfl) rfl
theorem u5_22 : (Jvm.Cond.instanceMethod ({ cls := "GapLinks$State", name := "allWaiting", desc := "()I" } : Jvm.MethodName)) ∈ UU := tb_5 (List.mem_of_getElem? (i := 22) rfl) rfl
theorem u5_23 : (Jvm.Cond.selects "GapLinks$State" ({ cls := "GapLinks$State", name := "allWaiting", desc := "()I" } : Jvm.MethodName) ({ cls := "GapLinks$State", name := "allWaiting", desc := "()I" } : Jvm.MethodName)) ∈ UU := tb_5 (List.mem_of_getElem? (i := 23) rfl) rfl
theorem u5_24 : (Jvm.Cond.code ({ cls := "GapLinks$State", name := "allWaiting", desc := "()I" } : Jvm.MethodName) prog_7_method_4_code (3 : Nat) (Option.some Jvm.ClassFile.FieldType.int)) ∈ UU := tb_5 (List.mem_of_getElem? (i := 24) rfl) rfl
theorem u5_25 : (Jvm.Cond.methodLink "GapLinks" (320 : Nat) ({ cls := "GapLinks$State", name := "step", desc := "(LGapLinks$Plan;I)V" } : Jvm.MethodName)) ∈ UU := tb_5 (List.mem_of_getElem? (i := 25) rfl) rfl
theorem u5_26 : (Jvm.Cond.methodLink "GapLinksLaw" (170 : Nat) ({ cls := "GapLinks", name := "keep", desc := "()Z" } : Jvm.MethodName)) ∈ UU := tb_5 (List.mem_of_getElem? (i := 26) rfl) rfl
theorem u5_27 : (Jvm.Cond.instanceMethod ({ cls := "GapLinks", name := "keep", desc := "()Z" } : Jvm.MethodName)) ∈ UU := tb_5 (List.mem_of_getElem? (i := 27) rfl) rfl
theorem u5_28 : (Jvm.Cond.selects "GapLinks" ({ cls := "GapLinks", name := "keep", desc := "()Z" } : Jvm.MethodName) ({ cls := "GapLinks", name := "keep", desc := "()Z" } : Jvm.MethodName)) ∈ UU := tb_5 (List.mem_of_getElem? (i := 28) rfl) rfl
theorem u5_29 : (Jvm.Cond.code ({ cls := "GapLinks", name := "keep", desc := "()Z" } : Jvm.MethodName) prog_1_method_37_code (1 : Nat) (Option.some Jvm.ClassFile.FieldType.boolean)) ∈ UU := tb_5 (List.mem_of_getElem? (i := 29) rfl) rfl
theorem u5_30 : (Jvm.Cond.methodLink "GapLinksLaw" (175 : Nat) ({ cls := "GapLinks", name := "back", desc := "()Z" } : Jvm.MethodName)) ∈ UU := tb_5 (List.mem_of_getElem? (i := 30) rfl) rfl
theorem u5_31 : (Jvm.Cond.instanceMethod ({ cls := "GapLinks", name := "back", desc := "()Z" } : Jvm.MethodName)) ∈ UU := tb_5 (List.mem_of_getElem? (i := 31) rfl) rfl
theorem u5_32 : (Jvm.Cond.selects "GapLinks" ({ cls := "GapLinks", name := "back", desc := "()Z" } : Jvm.MethodName) ({ cls := "GapLinks", name := "back", desc := "()Z" } : Jvm.MethodName)) ∈ UU := tb_5 (List.mem_of_getElem? (i := 32) rfl) rfl
theorem u5_33 : (Jvm.Cond.code ({ cls := "GapLinks", name := "back", desc := "()Z" } : Jvm.MethodName) prog_1_method_38_code (1 : Nat) (Option.some Jvm.ClassFile.FieldType.boolean)) ∈ UU := tb_5 (List.mem_of_getElem? (i := 33) rfl) rfl
theorem u5_34 : (Jvm.Cond.methodLink "GapLinksLaw" (188 : Nat) ({ cls := "GapLinks", name := "size", desc := "(I)I" } : Jvm.MethodName)) ∈ UU := tb_5 (List.mem_of_getElem? (i := 34) rfl) rfl
theorem u5_35 : (Jvm.Cond.instanceMethod ({ cls := "GapLinks", name := "size", desc := "(I)I" } : Jvm.MethodName)) ∈ UU := tb_5 (List.mem_of_getElem? (i := 35) rfl) rfl
theorem u5_36 : (Jvm.Cond.selects "GapLinks" ({ cls := "GapLinks", name := "size", desc := "(I)I" } : Jvm.MethodName) ({ cls := "GapLinks", name := "size", desc := "(I)I" } : Jvm.MethodName)) ∈ UU := tb_5 (List.mem_of_getElem? (i := 36) rfl) rfl
theorem u5_37 : (Jvm.Cond.code ({ cls := "GapLinks", name := "size", desc := "(I)I" } : Jvm.MethodName) prog_1_method_40_code (2 : Nat) (Option.some Jvm.ClassFile.FieldType.int)) ∈ UU := tb_5 (List.mem_of_getElem? (i := 37) rfl) rfl
theorem u5_38 : (Jvm.Cond.methodLink "GapLinks" (329 : Nat) ({ cls := "GapLinks$Plan", name := "allReceivers", desc := "()I" } : Jvm.MethodName)) ∈ UU := tb_5 (List.mem_of_getElem? (i := 38) rfl) rfl
theorem u5_39 : (Jvm.Cond.instanceMethod ({ cls := "GapLinks$Plan", name := "allReceivers", desc := "()I" } : Jvm.MethodName)) ∈ UU := tb_5 (List.mem_of_getElem? (i := 39) rfl) rfl
theorem u5_40 : (Jvm.Cond.selects "GapLinks$Plan" ({ cls := "GapLinks$Plan", name := "allReceivers", desc := "()I" } : Jvm.MethodName) ({ cls := "GapLinks$Plan", name := "allReceivers", desc := "()I" } : Jvm.MethodName)) ∈ UU := tb_5 (List.mem_of_getElem? (i := 40) rfl) rfl
theorem u5_41 : (Jvm.Cond.code ({ cls := "GapLinks$Plan", name := "allReceivers", desc := "()I" } : Jvm.MethodName) prog_4_method_9_code (3 : Nat) (Option.some Jvm.ClassFile.FieldType.int)) ∈ UU := tb_5 (List.mem_of_getElem? (i := 41) rfl) rfl
theorem u5_42 : (Jvm.Cond.methodLink "GapLinks" (332 : Nat) ({ cls := "GapLinks$State", name := "allWaiting", desc := "()I" } : Jvm.MethodName)) ∈ UU := tb_5 (List.mem_of_getElem? (i := 42) rfl) rfl
theorem u5_43 : (Jvm.Cond.methodLink "GapLinksLaw" (192 : Nat) ({ cls := "GapLinks", name := "trouble", desc := "()I" } : Jvm.MethodName)) ∈ UU := tb_5 (List.mem_of_getElem? (i := 43) rfl) rfl
theorem u5_44 : (Jvm.Cond.instanceMethod ({ cls := "GapLinks", name := "trouble", desc := "()I" } : Jvm.MethodName)) ∈ UU := tb_5 (List.mem_of_getElem? (i := 44) rfl) rfl
theorem u5_45 : (Jvm.Cond.selects "GapLinks" ({ cls := "GapLinks", name := "trouble", desc := "()I" } : Jvm.MethodName) ({ cls := "GapLinks", name := "trouble", desc := "()I" } : Jvm.MethodName)) ∈ UU := tb_5 (List.mem_of_getElem? (i := 45) rfl) rfl
theorem u5_46 : (Jvm.Cond.code ({ cls := "GapLinks", name := "trouble", desc := "()I" } : Jvm.MethodName) prog_1_method_41_code (1 : Nat) (Option.some Jvm.ClassFile.FieldType.int)) ∈ UU := tb_5 (List.mem_of_getElem? (i := 46) rfl) rfl
theorem u5_47 : (Jvm.Cond.methodLink "GapLinksLaw" (179 : Nat) ({ cls := "GapLinksLaw", name := "silent", desc := "(LGapLinks;I[J)I" } : Jvm.MethodName)) ∈ UU := tb_5 (List.mem_of_getElem? (i := 47) rfl) rfl
theorem u5_48 : (Jvm.Cond.static ({ cls := "GapLinksLaw", name := "silent", desc := "(LGapLinks;I[J)I" } : Jvm.MethodName)) ∈ UU := tb_5 (List.mem_of_getElem? (i := 48) rfl) rfl
theorem u5_50 : (Jvm.Cond.classLink "GapLinksLaw" (13 : Nat) "java/util/NoSuchElementException") ∈ UU := tb_5 (List.mem_of_getElem? (i := 50) rfl) rfl
theorem u5_51 : (Jvm.Cond.methodLink "GapLinksLaw" (7 : Nat) ({ cls := "GapLinks", name := "silent", desc := "(I)I" } : Jvm.MethodName)) ∈ UU := tb_5 (List.mem_of_getElem? (i := 51) rfl) rfl
theorem u5_52 : (Jvm.Cond.instanceMethod ({ cls := "GapLinks", name := "silent", desc := "(I)I" } : Jvm.MethodName)) ∈ UU := tb_5 (List.mem_of_getElem? (i := 52) rfl) rfl
theorem u5_53 : (Jvm.Cond.selects "GapLinks" ({ cls := "GapLinks", name := "silent", desc := "(I)I" } : Jvm.MethodName) ({ cls := "GapLinks", name := "silent", desc := "(I)I" } : Jvm.MethodName)) ∈ UU := tb_5 (List.mem_of_getElem? (i := 53) rfl) rfl
theorem u5_54 : (Jvm.Cond.code ({ cls := "GapLinks", name := "silent", desc := "(I)I" } : Jvm.MethodName) prog_1_method_39_code (4 : Nat) (Option.some Jvm.ClassFile.FieldType.int)) ∈ UU := tb_5 (List.mem_of_getElem? (i := 54) rfl) rfl
theorem u5_55 : (Jvm.Cond.methodLink "GapLinks" (323 : Nat) ({ cls := "GapLinks$Ears", name := "allTook", desc := "(II)Z" } : Jvm.MethodName)) ∈ UU := tb_5 (List.mem_of_getElem? (i := 55) rfl) rfl
theorem u5_56 : (Jvm.Cond.instanceMethod ({ cls := "GapLinks$Ears", name := "allTook", desc := "(II)Z" } : Jvm.MethodName)) ∈ UU := tb_5 (List.mem_of_getElem? (i := 56) rfl) rfl
theorem u5_57 : (Jvm.Cond.selects "GapLinks$Ears" ({ cls := "GapLinks$Ears", name := "allTook", desc := "(II)Z" } : Jvm.MethodName) ({ cls := "GapLinks$Ears", name := "allTook", desc := "(II)Z" } : Jvm.MethodName)) ∈ UU := tb_5 (List.mem_of_getElem? (i := 57) rfl) rfl
theorem u5_58 : (Jvm.Cond.code ({ cls := "GapLinks$Ears", name := "allTook", desc := "(II)Z" } : Jvm.MethodName) prog_2_method_9_code (4 : Nat) (Option.some Jvm.ClassFile.FieldType.boolean)) ∈ UU := tb_5 (List.mem_of_getElem? (i := 58) rfl) rfl
theorem u5_60 : (Jvm.Cond.classLink "GapLinks" (326 : Nat) "java/util/NoSuchElementException") ∈ UU := tb_5 (List.mem_of_getElem? (i := 60) rfl) rfl
theorem u5_61 : (Jvm.Cond.instantiable "java/util/NoSuchElementException" (6 : Nat)) ∈ UU := tb_5 (List.mem_of_getElem? (i := 61) rfl) rfl
theorem u5_69 : (Jvm.Cond.selects "java/util/NoSuchElementException" ({ cls := "java/lang/Throwable", name := "fillInStackTrace", desc := "(I)Ljava/lang/Throwable;" } : Jvm.MethodName) ({ cls := "java/lang/Throwable", name := "fillInStackTrace", desc := "(I)Ljava/lang/Throwable;" } : Jvm.MethodName)) ∈ UU := tb_5 (List.mem_of_getElem? (i := 69) rfl) rfl
theorem u5_70 : (Jvm.Cond.selects "java/util/NoSuchElementException" ({ cls := "java/lang/Throwable", name := "fillInStackTrace", desc := "()Ljava/lang/Throwable;" } : Jvm.MethodName) ({ cls := "java/lang/Throwable", name := "fillInStackTrace", desc := "()Ljava/lang/Throwable;" } : Jvm.MethodName)) ∈ UU := tb_5 (List.mem_of_getElem? (i := 70) rfl) rfl
theorem u5_71 : (Jvm.Cond.lays "java/util/NoSuchElementException" "java/lang/Throwable" "cause" "Ljava/lang/Throwable;") ∈ UU := tb_5 (List.mem_of_getElem? (i := 71) rfl) rfl
theorem u5_72 : (Jvm.Cond.lays "java/lang/Throwable" "java/lang/Throwable" "cause" "Ljava/lang/Throwable;") ∈ UU := tb_5 (List.mem_of_getElem? (i := 72) rfl) rfl
theorem u5_73 : (Jvm.Cond.lays "java/util/NoSuchElementException" "java/lang/Throwable" "stackTrace" "[Ljava/lang/StackTraceElement;") ∈ UU := tb_5 (List.mem_of_getElem? (i := 73) rfl) rfl
theorem u5_74 : (Jvm.Cond.lays "java/lang/Throwable" "java/lang/Throwable" "stackTrace" "[Ljava/lang/StackTraceElement;") ∈ UU := tb_5 (List.mem_of_getElem? (i := 74) rfl) rfl
theorem u5_75 : (Jvm.Cond.lays "java/util/NoSuchElementException" "java/lang/Throwable" "suppressedExceptions" "Ljava/util/List;") ∈ UU := tb_5 (List.mem_of_getElem? (i := 75) rfl) rfl
theorem u5_76 : (Jvm.Cond.lays "java/lang/Throwable" "java/lang/Throwable" "suppressedExceptions" "Ljava/util/List;") ∈ UU := tb_5 (List.mem_of_getElem? (i := 76) rfl) rfl
theorem u5_77 : (Jvm.Cond.lays "java/util/NoSuchElementException" "java/lang/Throwable" "detailMessage" "Ljava/lang/String;") ∈ UU := tb_5 (List.mem_of_getElem? (i := 77) rfl) rfl
theorem u5_78 : (Jvm.Cond.lays "java/lang/Throwable" "java/lang/Throwable" "detailMessage" "Ljava/lang/String;") ∈ UU := tb_5 (List.mem_of_getElem? (i := 78) rfl) rfl
theorem u5_79 : (Jvm.Cond.lays "java/util/NoSuchElementException" "java/lang/Throwable" "backtrace" "Ljava/lang/Object;") ∈ UU := tb_5 (List.mem_of_getElem? (i := 79) rfl) rfl
theorem u5_80 : (Jvm.Cond.lays "java/lang/Throwable" "java/lang/Throwable" "backtrace" "Ljava/lang/Object;") ∈ UU := tb_5 (List.mem_of_getElem? (i := 80) rfl) rfl
theorem u5_81 : (Jvm.Cond.fieldLink "java/lang/Throwable" (198 : Nat) "java/lang/Throwable" "backtrace" "Ljava/lang/Object;") ∈ UU := tb_5 (List.mem_of_getElem? (i := 81) rfl) rfl
theorem u5_82 : (Jvm.Cond.superclass "java/lang/Throwable" "java/lang/Object") ∈ UU := tb_5 (List.mem_of_getElem? (i := 82) rfl) rfl
theorem u5_83 : (Jvm.Cond.instanceMethod ({ cls := "java/lang/Throwable", name := "<init>", desc := "()V" } : Jvm.MethodName)) ∈ UU := tb_5 (List.mem_of_getElem? (i := 83) rfl) rfl
theorem u5_84 : (Jvm.Cond.code ({ cls := "java/lang/Throwable", name := "<init>", desc := "()V" } : Jvm.MethodName) prog_24_method_1_code (1 : Nat) (Option.none : Option Jvm.ClassFile.FieldType)) ∈ UU := tb_5 (List.mem_of_getElem? (i := 84) rfl) rfl
theorem u5_85 : (Jvm.Cond.methodLink "java/lang/Throwable" (1 : Nat) ({ cls := "java/lang/Object", name := "<init>", desc := "()V" } : Jvm.MethodName)) ∈ UU := tb_5 (List.mem_of_getElem? (i := 85) rfl) rfl
theorem u5_86 : (Jvm.Cond.fieldLink "java/lang/Throwable" (13 : Nat) "java/lang/Throwable" "UNASSIGNED_STACK" "[Ljava/lang/StackTraceElement;") ∈ UU := tb_5 (List.mem_of_getElem? (i := 86) rfl) rfl
theorem u5_88 : (Jvm.Cond.fieldLink "java/lang/Throwable" (20 : Nat) "java/lang/Throwable" "SUPPRESSED_SENTINEL" "Ljava/util/List;") ∈ UU := tb_5 (List.mem_of_getElem? (i := 88) rfl) rfl
theorem u5_90 : (Jvm.Cond.methodLink "java/lang/Throwable" (27 : Nat) ({ cls := "java/lang/Throwable", name := "fillInStackTrace", desc := "()Ljava/lang/Throwable;" } : Jvm.MethodName)) ∈ UU := tb_5 (List.mem_of_getElem? (i := 90) rfl) rfl
theorem u5_91 : (Jvm.Cond.instanceMethod ({ cls := "java/lang/Throwable", name := "fillInStackTrace", desc := "()Ljava/lang/Throwable;" } : Jvm.MethodName)) ∈ UU := tb_5 (List.mem_of_getElem? (i := 91) rfl) rfl
theorem u5_92 : (Jvm.Cond.sameMethod "java/lang/Throwable" "java/lang/Throwable" "fillInStackTrace" "()Ljava/lang/Throwable;") ∈ UU := tb_5 (List.mem_of_getElem? (i := 92) rfl) rfl
theorem u5_94 : (Jvm.Cond.methodLink "java/lang/Throwable" (202 : Nat) ({ cls := "java/lang/Throwable", name := "fillInStackTrace", desc := "(I)Ljava/lang/Throwable;" } : Jvm.MethodName)) ∈ UU := tb_5 (List.mem_of_getElem? (i := 94) rfl) rfl
theorem u5_96 : (Jvm.Cond.instanceMethod ({ cls := "java/lang/Throwable", name := "fillInStackTrace", desc := "(I)Ljava/lang/Throwable;" } : Jvm.MethodName)) ∈ UU := tb_5 (List.mem_of_getElem? (i := 96) rfl) rfl
theorem u5_97 : (Jvm.Cond.instantiable "java/lang/Throwable" (6 : Nat)) ∈ UU := tb_5 (List.mem_of_getElem? (i := 97) rfl) rfl
theorem u5_98 : (Jvm.Cond.native ({ cls := "java/lang/Throwable", name := "fillInStackTrace", desc := "(I)Ljava/lang/Throwable;" } : Jvm.MethodName)) ∈ UU := tb_5 (List.mem_of_getElem? (i := 98) rfl) rfl
theorem u5_99 : (Jvm.Cond.methodLink "GapLinks" (328 : Nat) ({ cls := "java/util/NoSuchElementException", name := "<init>", desc := "()V" } : Jvm.MethodName)) ∈ UU := tb_5 (List.mem_of_getElem? (i := 99) rfl) rfl
theorem u5_100 : (Jvm.Cond.instanceMethod ({ cls := "java/util/NoSuchElementException", name := "<init>", desc := "()V" } : Jvm.MethodName)) ∈ UU := tb_5 (List.mem_of_getElem? (i := 100) rfl) rfl
theorem u5_101 : (Jvm.Cond.code ({ cls := "java/util/NoSuchElementException", name := "<init>", desc := "()V" } : Jvm.MethodName) prog_28_method_1_code (1 : Nat) (Option.none : Option Jvm.ClassFile.FieldType)) ∈ UU := tb_5 (List.mem_of_getElem? (i := 101) rfl) rfl
theorem u5_102 : (Jvm.Cond.methodLink "java/util/NoSuchElementException" (1 : Nat) ({ cls := "java/lang/RuntimeException", name := "<init>", desc := "()V" } : Jvm.MethodName)) ∈ UU := tb_5 (List.mem_of_getElem? (i := 102) rfl) rfl
theorem u5_103 : (Jvm.Cond.instanceMethod ({ cls := "java/lang/RuntimeException", name := "<init>", desc := "()V" } : Jvm.MethodName)) ∈ UU := tb_5 (List.mem_of_getElem? (i := 103) rfl) rfl
theorem u5_104 : (Jvm.Cond.code ({ cls := "java/lang/RuntimeException", name := "<init>", desc := "()V" } : Jvm.MethodName) prog_19_method_1_code (1 : Nat) (Option.none : Option Jvm.ClassFile.FieldType)) ∈ UU := tb_5 (List.mem_of_getElem? (i := 104) rfl) rfl
theorem u5_105 : (Jvm.Cond.methodLink "java/lang/RuntimeException" (1 : Nat) ({ cls := "java/lang/Exception", name := "<init>", desc := "()V" } : Jvm.MethodName)) ∈ UU := tb_5 (List.mem_of_getElem? (i := 105) rfl) rfl
theorem u5_106 : (Jvm.Cond.instanceMethod ({ cls := "java/lang/Exception", name := "<init>", desc := "()V" } : Jvm.MethodName)) ∈ UU := tb_5 (List.mem_of_getElem? (i := 106) rfl) rfl
theorem u5_107 : (Jvm.Cond.code ({ cls := "java/lang/Exception", name := "<init>", desc := "()V" } : Jvm.MethodName) prog_14_method_1_code (1 : Nat) (Option.none : Option Jvm.ClassFile.FieldType)) ∈ UU := tb_5 (List.mem_of_getElem? (i := 107) rfl) rfl
theorem u5_108 : (Jvm.Cond.methodLink "java/lang/Exception" (1 : Nat) ({ cls := "java/lang/Throwable", name := "<init>", desc := "()V" } : Jvm.MethodName)) ∈ UU := tb_5 (List.mem_of_getElem? (i := 108) rfl) rfl
theorem u5_110 : (Jvm.Cond.fieldLink "java/lang/Throwable" (7 : Nat) "java/lang/Throwable" "cause" "Ljava/lang/Throwable;") ∈ UU := tb_5 (List.mem_of_getElem? (i := 110) rfl) rfl
theorem u5_111 : (Jvm.Cond.fieldLink "java/lang/Throwable" (17 : Nat) "java/lang/Throwable" "stackTrace" "[Ljava/lang/StackTraceElement;") ∈ UU := tb_5 (List.mem_of_getElem? (i := 111) rfl) rfl
theorem u5_112 : (Jvm.Cond.fieldLink "java/lang/Throwable" (24 : Nat) "java/lang/Throwable" "suppressedExceptions" "Ljava/util/List;") ∈ UU := tb_5 (List.mem_of_getElem? (i := 112) rfl) rfl
theorem u5_113 : (Jvm.Cond.soleField "java/lang/Throwable" "backtrace") ∈ UU := tb_5 (List.mem_of_getElem? (i := 113) rfl) rfl
theorem u5_114 : (Jvm.Cond.soleField "java/lang/Throwable" "detailMessage") ∈ UU := tb_5 (List.mem_of_getElem? (i := 114) rfl) rfl
theorem u5_115 : (Jvm.Cond.soleField "java/lang/Throwable" "cause") ∈ UU := tb_5 (List.mem_of_getElem? (i := 115) rfl) rfl
theorem u5_116 : (Jvm.Cond.soleField "java/lang/Throwable" "stackTrace") ∈ UU := tb_5 (List.mem_of_getElem? (i := 116) rfl) rfl
theorem u5_117 : (Jvm.Cond.lays "java/util/NoSuchElementException" "java/lang/Throwable" "depth" "I") ∈ UU := tb_5 (List.mem_of_getElem? (i := 117) rfl) rfl
theorem u5_118 : (Jvm.Cond.soleField "java/lang/Throwable" "depth") ∈ UU := tb_5 (List.mem_of_getElem? (i := 118) rfl) rfl
theorem u5_119 : (Jvm.Cond.soleField "java/lang/Throwable" "suppressedExceptions") ∈ UU := tb_5 (List.mem_of_getElem? (i := 119) rfl) rfl
theorem u5_120 : (Jvm.Cond.superclass "java/util/NoSuchElementException" "java/lang/RuntimeException") ∈ UU := tb_5 (List.mem_of_getElem? (i := 120) rfl) rfl
theorem u5_121 : (Jvm.Cond.classLink "GapLinksLaw" (16 : Nat) "GapLinksModel") ∈ UU := tb_5 (List.mem_of_getElem? (i := 121) rfl) rfl
theorem u5_122 : (Jvm.Cond.instantiable "GapLinksModel" (29 : Nat)) ∈ UU := tb_5 (List.mem_of_getElem? (i := 122) rfl) rfl
theorem u5_123 : (Jvm.Cond.methodLink "GapLinksLaw" (18 : Nat) ({ cls := "GapLinksModel", name := "<init>", desc := "()V" } : Jvm.MethodName)) ∈ UU := tb_5 (List.mem_of_getElem? (i := 123) rfl) rfl
theorem u5_124 : (Jvm.Cond.instanceMethod ({ cls := "GapLinksModel", name := "<init>", desc := "()V" } : Jvm.MethodName)) ∈ UU := tb_5 (List.mem_of_getElem? (i := 124) rfl) rfl
theorem u5_125 : (Jvm.Cond.code ({ cls := "GapLinksModel", name := "<init>", desc := "()V" } : Jvm.MethodName) prog_10_method_1_code (1 : Nat) (Option.none : Option Jvm.ClassFile.FieldType)) ∈ UU := tb_5 (List.mem_of_getElem? (i := 125) rfl) rfl
theorem u5_126 : (Jvm.Cond.methodLink "GapLinksModel" (3 : Nat) ({ cls := "java/lang/Object", name := "<init>", desc := "()V" } : Jvm.MethodName)) ∈ UU := tb_5 (List.mem_of_getElem? (i := 126) rfl) rfl
theorem u5_127 : (Jvm.Cond.fieldLink "GapLinksModel" (51 : Nat) "GapLinksModel" "thrown" "I") ∈ UU := tb_5 (List.mem_of_getElem? (i := 127) rfl) rfl
theorem u5_128 : (Jvm.Cond.fieldLink "GapLinksModel" (54 : Nat) "GapLinksModel" "trouble" "I") ∈ UU := tb_5 (List.mem_of_getElem? (i := 128) rfl) rfl
theorem u5_129 : (Jvm.Cond.fieldLink "GapLinksModel" (206 : Nat) "GapLinksModel" "fault" "I") ∈ UU := tb_5 (List.mem_of_getElem? (i := 129) rfl) rfl
theorem u5_130 : (Jvm.Cond.fieldLink "GapLinksModel" (9 : Nat) "GapLinksModel" "where" "I") ∈ UU := tb_5 (List.mem_of_getElem? (i := 130) rfl) rfl
theorem u5_131 : (Jvm.Cond.fieldLink "GapLinksModel" (13 : Nat) "GapLinksModel" "tape" "[I") ∈ UU := tb_5 (List.mem_of_getElem? (i := 131) rfl) rfl
theorem u5_132 : (Jvm.Cond.fieldLink "GapLinksModel" (57 : Nat) "GapLinksModel" "taped" "I") ∈ UU := tb_5 (List.mem_of_getElem? (i := 132) rfl) rfl
theorem u5_133 : (Jvm.Cond.fieldLink "GapLinksModel" (17 : Nat) "GapLinksModel" "is" "[I") ∈ UU := tb_5 (List.mem_of_getElem? (i := 133) rfl) rfl
theorem u5_134 : (Jvm.Cond.fieldLink "GapLinksModel" (20 : Nat) "GapLinksModel" "read" "[I") ∈ UU := tb_5 (List.mem_of_getElem? (i := 134) rfl) rfl
theorem u5_135 : (Jvm.Cond.fieldLink "GapLinksModel" (23 : Nat) "GapLinksModel" "endAt" "[I") ∈ UU := tb_5 (List.mem_of_getElem? (i := 135) rfl) rfl
theorem u5_136 : (Jvm.Cond.fieldLink "GapLinksModel" (26 : Nat) "GapLinksModel" "readAt" "[I") ∈ UU := tb_5 (List.mem_of_getElem? (i := 136) rfl) rfl
theorem u5_137 : (Jvm.Cond.fieldLink "GapLinksModel" (29 : Nat) "GapLinksModel" "links" "[I") ∈ UU := tb_5 (List.mem_of_getElem? (i := 137) rfl) rfl
theorem u5_138 : (Jvm.Cond.fieldLink "GapLinksModel" (32 : Nat) "GapLinksModel" "readLinks" "[I") ∈ UU := tb_5 (List.mem_of_getElem? (i := 138) rfl) rfl
theorem u5_139 : (Jvm.Cond.fieldLink "GapLinksModel" (35 : Nat) "GapLinksModel" "names" "[J") ∈ UU := tb_5 (List.mem_of_getElem? (i := 139) rfl) rfl
theorem u5_140 : (Jvm.Cond.fieldLink "GapLinksModel" (39 : Nat) "GapLinksModel" "readNames" "[J") ∈ UU := tb_5 (List.mem_of_getElem? (i := 140) rfl) rfl
theorem u5_141 : (Jvm.Cond.fieldLink "GapLinksModel" (212 : Nat) "GapLinksModel" "isTold" "Z") ∈ UU := tb_5 (List.mem_of_getElem? (i := 141) rfl) rfl
theorem u5_142 : (Jvm.Cond.fieldLink "GapLinksModel" (64 : Nat) "GapLinksModel" "textLong" "I") ∈ UU := tb_5 (List.mem_of_getElem? (i := 142) rfl) rfl
theorem u5_143 : (Jvm.Cond.fieldLink "GapLinksModel" (74 : Nat) "GapLinksModel" "place" "I") ∈ UU := tb_5 (List.mem_of_getElem? (i := 143) rfl) rfl
theorem u5_144 : (Jvm.Cond.fieldLink "GapLinksModel" (67 : Nat) "GapLinksModel" "spot" "I") ∈ UU := tb_5 (List.mem_of_getElem? (i := 144) rfl) rfl
theorem u5_145 : (Jvm.Cond.fieldLink "GapLinksModel" (77 : Nat) "GapLinksModel" "token" "I") ∈ UU := tb_5 (List.mem_of_getElem? (i := 145) rfl) rfl
theorem u5_146 : (Jvm.Cond.fieldLink "GapLinksModel" (87 : Nat) "GapLinksModel" "whole" "I") ∈ UU := tb_5 (List.mem_of_getElem? (i := 146) rfl) rfl
theorem u5_147 : (Jvm.Cond.fieldLink "GapLinksModel" (90 : Nat) "GapLinksModel" "name" "J") ∈ UU := tb_5 (List.mem_of_getElem? (i := 147) rfl) rfl
theorem u5_148 : (Jvm.Cond.fieldLink "GapLinksModel" (108 : Nat) "GapLinksModel" "readFault" "I") ∈ UU := tb_5 (List.mem_of_getElem? (i := 148) rfl) rfl
theorem u5_149 : (Jvm.Cond.fieldLink "GapLinksModel" (111 : Nat) "GapLinksModel" "readPlace" "I") ∈ UU := tb_5 (List.mem_of_getElem? (i := 149) rfl) rfl
theorem u5_150 : (Jvm.Cond.fieldLink "GapLinksModel" (141 : Nat) "GapLinksModel" "hasBus" "Z") ∈ UU := tb_5 (List.mem_of_getElem? (i := 150) rfl) rfl
theorem u5_151 : (Jvm.Cond.fieldLink "GapLinksModel" (42 : Nat) "GapLinksModel" "row" "[I") ∈ UU := tb_5 (List.mem_of_getElem? (i := 151) rfl) rfl
theorem u5_152 : (Jvm.Cond.fieldLink "GapLinksModel" (45 : Nat) "GapLinksModel" "aside" "[I") ∈ UU := tb_5 (List.mem_of_getElem? (i := 152) rfl) rfl
theorem u5_153 : (Jvm.Cond.fieldLink "GapLinksModel" (48 : Nat) "GapLinksModel" "kept" "[I") ∈ UU := tb_5 (List.mem_of_getElem? (i := 153) rfl) rfl
theorem u5_154 : (Jvm.Cond.fieldLink "GapLinksModel" (215 : Nat) "GapLinksModel" "isKept" "Z") ∈ UU := tb_5 (List.mem_of_getElem? (i := 154) rfl) rfl
theorem u5_155 : (Jvm.Cond.fieldLink "GapLinksModel" (274 : Nat) "GapLinksModel" "takenNow" "I") ∈ UU := tb_5 (List.mem_of_getElem? (i := 155) rfl) rfl
theorem u5_156 : (Jvm.Cond.lays "GapLinksModel" "GapLinksModel" "thrown" "I") ∈ UU := tb_5 (List.mem_of_getElem? (i := 156) rfl) rfl
theorem u5_157 : (Jvm.Cond.soleField "GapLinksModel" "thrown") ∈ UU := tb_5 (List.mem_of_getElem? (i := 157) rfl) rfl
theorem u5_158 : (Jvm.Cond.lays "GapLinksModel" "GapLinksModel" "trouble" "I") ∈ UU := tb_5 (List.mem_of_getElem? (i := 158) rfl) rfl
theorem u5_159 : (Jvm.Cond.soleField "GapLinksModel" "trouble") ∈ UU := tb_5 (List.mem_of_getElem? (i := 159) rfl) rfl
theorem u5_160 : (Jvm.Cond.lays "GapLinksModel" "GapLinksModel" "fault" "I") ∈ UU := tb_5 (List.mem_of_getElem? (i := 160) rfl) rfl
theorem u5_161 : (Jvm.Cond.soleField "GapLinksModel" "fault") ∈ UU := tb_5 (List.mem_of_getElem? (i := 161) rfl) rfl
theorem u5_162 : (Jvm.Cond.lays "GapLinksModel" "GapLinksModel" "where" "I") ∈ UU := tb_5 (List.mem_of_getElem? (i := 162) rfl) rfl
theorem u5_163 : (Jvm.Cond.soleField "GapLinksModel" "where") ∈ UU := tb_5 (List.mem_of_getElem? (i := 163) rfl) rfl
theorem u5_164 : (Jvm.Cond.laysFinal "GapLinksModel" "GapLinksModel" "tape" "[I") ∈ UU := tb_5 (List.mem_of_getElem? (i := 164) rfl) rfl
theorem u5_165 : (Jvm.Cond.soleField "GapLinksModel" "tape") ∈ UU := tb_5 (List.mem_of_getElem? (i := 165) rfl) rfl
theorem u5_166 : (Jvm.Cond.lays "GapLinksModel" "GapLinksModel" "taped" "I") ∈ UU := tb_5 (List.mem_of_getElem? (i := 166) rfl) rfl
theorem u5_167 : (Jvm.Cond.soleField "GapLinksModel" "taped") ∈ UU := tb_5 (List.mem_of_getElem? (i := 167) rfl) rfl
theorem u5_168 : (Jvm.Cond.laysFinal "GapLinksModel" "GapLinksModel" "is" "[I") ∈ UU := tb_5 (List.mem_of_getElem? (i := 168) rfl) rfl
theorem u5_169 : (Jvm.Cond.soleField "GapLinksModel" "is") ∈ UU := tb_5 (List.mem_of_getElem? (i := 169) rfl) rfl
theorem u5_170 : (Jvm.Cond.laysFinal "GapLinksModel" "GapLinksModel" "read" "[I") ∈ UU := tb_5 (List.mem_of_getElem? (i := 170) rfl) rfl
theorem u5_171 : (Jvm.Cond.soleField "GapLinksModel" "read") ∈ UU := tb_5 (List.mem_of_getElem? (i := 171) rfl) rfl
theorem u5_172 : (Jvm.Cond.laysFinal "GapLinksModel" "GapLinksModel" "endAt" "[I") ∈ UU := tb_5 (List.mem_of_getElem? (i := 172) rfl) rfl
theorem u5_173 : (Jvm.Cond.soleField "GapLinksModel" "endAt") ∈ UU := tb_5 (List.mem_of_getElem? (i := 173) rfl) rfl
theorem u5_174 : (Jvm.Cond.laysFinal "GapLinksModel" "GapLinksModel" "readAt" "[I") ∈ UU := tb_5 (List.mem_of_getElem? (i := 174) rfl) rfl
theorem u5_175 : (Jvm.Cond.soleField "GapLinksModel" "readAt") ∈ UU := tb_5 (List.mem_of_getElem? (i := 175) rfl) rfl
theorem u5_176 : (Jvm.Cond.laysFinal "GapLinksModel" "GapLinksModel" "links" "[I") ∈ UU := tb_5 (List.mem_of_getElem? (i := 176) rfl) rfl
theorem u5_177 : (Jvm.Cond.soleField "GapLinksModel" "links") ∈ UU := tb_5 (List.mem_of_getElem? (i := 177) rfl) rfl
theorem u5_178 : (Jvm.Cond.laysFinal "GapLinksModel" "GapLinksModel" "readLinks" "[I") ∈ UU := tb_5 (List.mem_of_getElem? (i := 178) rfl) rfl
theorem u5_179 : (Jvm.Cond.soleField "GapLinksModel" "readLinks") ∈ UU := tb_5 (List.mem_of_getElem? (i := 179) rfl) rfl
theorem u5_180 : (Jvm.Cond.laysFinal "GapLinksModel" "GapLinksModel" "names" "[J") ∈ UU := tb_5 (List.mem_of_getElem? (i := 180) rfl) rfl
theorem u5_181 : (Jvm.Cond.soleField "GapLinksModel" "names") ∈ UU := tb_5 (List.mem_of_getElem? (i := 181) rfl) rfl
theorem u5_182 : (Jvm.Cond.laysFinal "GapLinksModel" "GapLinksModel" "readNames" "[J") ∈ UU := tb_5 (List.mem_of_getElem? (i := 182) rfl) rfl
theorem u5_183 : (Jvm.Cond.soleField "GapLinksModel" "readNames") ∈ UU := tb_5 (List.mem_of_getElem? (i := 183) rfl) rfl
theorem u5_184 : (Jvm.Cond.lays "GapLinksModel" "GapLinksModel" "isTold" "Z") ∈ UU := tb_5 (List.mem_of_getElem? (i := 184) rfl) rfl
theorem u5_185 : (Jvm.Cond.soleField "GapLinksModel" "isTold") ∈ UU := tb_5 (List.mem_of_getElem? (i := 185) rfl) rfl
theorem u5_186 : (Jvm.Cond.lays "GapLinksModel" "GapLinksModel" "textLong" "I") ∈ UU := tb_5 (List.mem_of_getElem? (i := 186) rfl) rfl
theorem u5_187 : (Jvm.Cond.soleField "GapLinksModel" "textLong") ∈ UU := tb_5 (List.mem_of_getElem? (i := 187) rfl) rfl
theorem u5_188 : (Jvm.Cond.lays "GapLinksModel" "GapLinksModel" "place" "I") ∈ UU := tb_5 (List.mem_of_getElem? (i := 188) rfl) rfl
theorem u5_189 : (Jvm.Cond.soleField "GapLinksModel" "place") ∈ UU := tb_5 (List.mem_of_getElem? (i := 189) rfl) rfl
theorem u5_190 : (Jvm.Cond.lays "GapLinksModel" "GapLinksModel" "spot" "I") ∈ UU := tb_5 (List.mem_of_getElem? (i := 190) rfl) rfl
theorem u5_191 : (Jvm.Cond.soleField "GapLinksModel" "spot") ∈ UU := tb_5 (List.mem_of_getElem? (i := 191) rfl) rfl
theorem u5_192 : (Jvm.Cond.lays "GapLinksModel" "GapLinksModel" "token" "I") ∈ UU := tb_5 (List.mem_of_getElem? (i := 192) rfl) rfl
theorem u5_193 : (Jvm.Cond.soleField "GapLinksModel" "token") ∈ UU := tb_5 (List.mem_of_getElem? (i := 193) rfl) rfl
theorem u5_194 : (Jvm.Cond.lays "GapLinksModel" "GapLinksModel" "whole" "I") ∈ UU := tb_5 (List.mem_of_getElem? (i := 194) rfl) rfl
theorem u5_195 : (Jvm.Cond.soleField "GapLinksModel" "whole") ∈ UU := tb_5 (List.mem_of_getElem? (i := 195) rfl) rfl
theorem u5_196 : (Jvm.Cond.lays "GapLinksModel" "GapLinksModel" "name" "J") ∈ UU := tb_5 (List.mem_of_getElem? (i := 196) rfl) rfl
theorem u5_197 : (Jvm.Cond.soleField "GapLinksModel" "name") ∈ UU := tb_5 (List.mem_of_getElem? (i := 197) rfl) rfl
theorem u5_198 : (Jvm.Cond.lays "GapLinksModel" "GapLinksModel" "readFault" "I") ∈ UU := tb_5 (List.mem_of_getElem? (i := 198) rfl) rfl
theorem u5_199 : (Jvm.Cond.soleField "GapLinksModel" "readFault") ∈ UU := tb_5 (List.mem_of_getElem? (i := 199) rfl) rfl
theorem u5_200 : (Jvm.Cond.lays "GapLinksModel" "GapLinksModel" "readPlace" "I") ∈ UU := tb_5 (List.mem_of_getElem? (i := 200) rfl) rfl
theorem u5_201 : (Jvm.Cond.soleField "GapLinksModel" "readPlace") ∈ UU := tb_5 (List.mem_of_getElem? (i := 201) rfl) rfl
theorem u5_202 : (Jvm.Cond.lays "GapLinksModel" "GapLinksModel" "hasBus" "Z") ∈ UU := tb_5 (List.mem_of_getElem? (i := 202) rfl) rfl
theorem u5_203 : (Jvm.Cond.soleField "GapLinksModel" "hasBus") ∈ UU := tb_5 (List.mem_of_getElem? (i := 203) rfl) rfl
theorem u5_204 : (Jvm.Cond.laysFinal "GapLinksModel" "GapLinksModel" "row" "[I") ∈ UU := tb_5 (List.mem_of_getElem? (i := 204) rfl) rfl
theorem u5_205 : (Jvm.Cond.soleField "GapLinksModel" "row") ∈ UU := tb_5 (List.mem_of_getElem? (i := 205) rfl) rfl
theorem u5_206 : (Jvm.Cond.laysFinal "GapLinksModel" "GapLinksModel" "aside" "[I") ∈ UU := tb_5 (List.mem_of_getElem? (i := 206) rfl) rfl
theorem u5_207 : (Jvm.Cond.soleField "GapLinksModel" "aside") ∈ UU := tb_5 (List.mem_of_getElem? (i := 207) rfl) rfl
theorem u5_208 : (Jvm.Cond.laysFinal "GapLinksModel" "GapLinksModel" "kept" "[I") ∈ UU := tb_5 (List.mem_of_getElem? (i := 208) rfl) rfl
theorem u5_209 : (Jvm.Cond.soleField "GapLinksModel" "kept") ∈ UU := tb_5 (List.mem_of_getElem? (i := 209) rfl) rfl
theorem u5_210 : (Jvm.Cond.lays "GapLinksModel" "GapLinksModel" "isKept" "Z") ∈ UU := tb_5 (List.mem_of_getElem? (i := 210) rfl) rfl
theorem u5_211 : (Jvm.Cond.soleField "GapLinksModel" "isKept") ∈ UU := tb_5 (List.mem_of_getElem? (i := 211) rfl) rfl
theorem u5_212 : (Jvm.Cond.lays "GapLinksModel" "GapLinksModel" "takenNow" "I") ∈ UU := tb_5 (List.mem_of_getElem? (i := 212) rfl) rfl
theorem u5_213 : (Jvm.Cond.soleField "GapLinksModel" "takenNow") ∈ UU := tb_5 (List.mem_of_getElem? (i := 213) rfl) rfl
theorem u5_214 : (Jvm.Cond.superclass "GapLinksModel" "java/lang/Object") ∈ UU := tb_5 (List.mem_of_getElem? (i := 214) rfl) rfl
theorem u5_215 : (Jvm.Cond.methodLink "GapLinksLaw" (185 : Nat) ({ cls := "GapLinksModel", name := "thrown", desc := "()I" } : Jvm.MethodName)) ∈ UU := tb_5 (List.mem_of_getElem? (i := 215) rfl) rfl
theorem u5_216 : (Jvm.Cond.instanceMethod ({ cls := "GapLinksModel", name := "thrown", desc := "()I" } : Jvm.MethodName)) ∈ UU := tb_5 (List.mem_of_getElem? (i := 216) rfl) rfl
theorem u5_217 : (Jvm.Cond.selects "GapLinksModel" ({ cls := "GapLinksModel", name := "thrown", desc := "()I" } : Jvm.MethodName) ({ cls := "GapLinksModel", name := "thrown", desc := "()I" } : Jvm.MethodName)) ∈ UU := tb_5 (List.mem_of_getElem? (i := 217) rfl) rfl
theorem u5_218 : (Jvm.Cond.code ({ cls := "GapLinksModel", name := "thrown", desc := "()I" } : Jvm.MethodName) prog_10_method_2_code (1 : Nat) (Option.some Jvm.ClassFile.FieldType.int)) ∈ UU := tb_5 (List.mem_of_getElem? (i := 218) rfl) rfl
theorem u5_219 : (Jvm.Cond.methodLink "GapLinksLaw" (23 : Nat) ({ cls := "GapLinksModel", name := "feed", desc := "(IIIII)I" } : Jvm.MethodName)) ∈ UU := tb_5 (List.mem_of_getElem? (i := 219) rfl) rfl
theorem u5_220 : (Jvm.Cond.instanceMethod ({ cls := "GapLinksModel", name := "feed", desc := "(IIIII)I" } : Jvm.MethodName)) ∈ UU := tb_5 (List.mem_of_getElem? (i := 220) rfl) rfl
theorem u5_221 : (Jvm.Cond.selects "GapLinksModel" ({ cls := "GapLinksModel", name := "feed", desc := "(IIIII)I" } : Jvm.MethodName) ({ cls := "GapLinksModel", name := "feed", desc := "(IIIII)I" } : Jvm.MethodName)) ∈ UU := tb_5 (List.mem_of_getElem? (i := 221) rfl) rfl
theorem u5_222 : (Jvm.Cond.code ({ cls := "GapLinksModel", name := "feed", desc := "(IIIII)I" } : Jvm.MethodName) prog_10_method_6_code (6 : Nat) (Option.some Jvm.ClassFile.FieldType.int)) ∈ UU := tb_5 (List.mem_of_getElem? (i := 222) rfl) rfl
theorem u5_223 : (Jvm.Cond.methodLink "GapLinksModel" (60 : Nat) ({ cls := "GapLinksModel", name := "laysWord", desc := "(I)V" } : Jvm.MethodName)) ∈ UU := tb_5 (List.mem_of_getElem? (i := 223) rfl) rfl
theorem u5_225 : (Jvm.Cond.instanceMethod ({ cls := "GapLinksModel", name := "laysWord", desc := "(I)V" } : Jvm.MethodName)) ∈ UU := tb_5 (List.mem_of_getElem? (i := 225) rfl) rfl
theorem u5_226 : (Jvm.Cond.code ({ cls := "GapLinksModel", name := "laysWord", desc := "(I)V" } : Jvm.MethodName) prog_10_method_7_code (3 : Nat) (Option.none : Option Jvm.ClassFile.FieldType)) ∈ UU := tb_5 (List.mem_of_getElem? (i := 226) rfl) rfl
theorem u5_227 : (Jvm.Cond.methodLink "GapLinksLaw" (27 : Nat) ({ cls := "GapLinksModel", name := "bus", desc := "(I)I" } : Jvm.MethodName)) ∈ UU := tb_5 (List.mem_of_getElem? (i := 227) rfl) rfl
theorem u5_228 : (Jvm.Cond.instanceMethod ({ cls := "GapLinksModel", name := "bus", desc := "(I)I" } : Jvm.MethodName)) ∈ UU := tb_5 (List.mem_of_getElem? (i := 228) rfl) rfl
theorem u5_229 : (Jvm.Cond.selects "GapLinksModel" ({ cls := "GapLinksModel", name := "bus", desc := "(I)I" } : Jvm.MethodName) ({ cls := "GapLinksModel", name := "bus", desc := "(I)I" } : Jvm.MethodName)) ∈ UU := tb_5 (List.mem_of_getElem? (i := 229) rfl) rfl
theorem u5_230 : (Jvm.Cond.code ({ cls := "GapLinksModel", name := "bus", desc := "(I)I" } : Jvm.MethodName) prog_10_method_28_code (3 : Nat) (Option.some Jvm.ClassFile.FieldType.int)) ∈ UU := tb_5 (List.mem_of_getElem? (i := 230) rfl) rfl
theorem u5_231 : (Jvm.Cond.methodLink "GapLinksModel" (200 : Nat) ({ cls := "GapLinksModel", name := "fresh", desc := "()V" } : Jvm.MethodName)) ∈ UU := tb_5 (List.mem_of_getElem? (i := 231) rfl) rfl
theorem u5_233 : (Jvm.Cond.instanceMethod ({ cls := "GapLinksModel", name := "fresh", desc := "()V" } : Jvm.MethodName)) ∈ UU := tb_5 (List.mem_of_getElem? (i := 233) rfl) rfl
theorem u5_234 : (Jvm.Cond.code ({ cls := "GapLinksModel", name := "fresh", desc := "()V" } : Jvm.MethodName) prog_10_method_4_code (1 : Nat) (Option.none : Option Jvm.ClassFile.FieldType)) ∈ UU := tb_5 (List.mem_of_getElem? (i := 234) rfl) rfl
theorem u5_235 : (Jvm.Cond.methodLink "GapLinksModel" (80 : Nat) ({ cls := "GapLinksModel", name := "in", desc := "(III)Z" } : Jvm.MethodName)) ∈ UU := tb_5 (List.mem_of_getElem? (i := 235) rfl) rfl
theorem u5_236 : (Jvm.Cond.static ({ cls := "GapLinksModel", name := "in", desc := "(III)Z" } : Jvm.MethodName)) ∈ UU := tb_5 (List.mem_of_getElem? (i := 236) rfl) rfl
theorem u5_237 : (Jvm.Cond.code ({ cls := "GapLinksModel", name := "in", desc := "(III)Z" } : Jvm.MethodName) prog_10_method_3_code (3 : Nat) (Option.some Jvm.ClassFile.FieldType.boolean)) ∈ UU := tb_5 (List.mem_of_getElem? (i := 237) rfl) rfl
theorem u5_238 : (Jvm.Cond.methodLink "GapLinksModel" (203 : Nat) ({ cls := "GapLinksModel", name := "no", desc := "(I)I" } : Jvm.MethodName)) ∈ UU := tb_5 (List.mem_of_getElem? (i := 238) rfl) rfl
theorem u6_0 : (Jvm.Cond.instanceMethod ({ cls := "GapLinksModel", name := "no", desc := "(I)I" } : Jvm.MethodName)) ∈ UU := tb_6 (List.mem_of_getElem? (i := 0) rfl) rfl
theorem u6_1 : (Jvm.Cond.code ({ cls := "GapLinksModel", name := "no", desc := "(I)I" } : Jvm.MethodName) prog_10_method_5_code (2 : Nat) (Option.some Jvm.ClassFile.FieldType.int)) ∈ UU := tb_6 (List.mem_of_getElem? (i := 1) rfl) rfl
theorem u6_2 : (Jvm.Cond.methodLink "GapLinksModel" (209 : Nat) ({ cls := "GapLinksModel", name := "readAll", desc := "(I)I" } : Jvm.MethodName)) ∈ UU := tb_6 (List.mem_of_getElem? (i := 2) rfl) rfl
theorem u6_4 : (Jvm.Cond.instanceMethod ({ cls := "GapLinksModel", name := "readAll", desc := "(I)I" } : Jvm.MethodName)) ∈ UU := tb_6 (List.mem_of_getElem? (i := 4) rfl) rfl
theorem u6_5 : (Jvm.Cond.code ({ cls := "GapLinksModel", name := "readAll", desc := "(I)I" } : Jvm.MethodName) prog_10_method_27_code (2 : Nat) (Option.some Jvm.ClassFile.FieldType.int)) ∈ UU := tb_6 (List.mem_of_getElem? (i := 5) rfl) rfl
theorem u6_6 : (Jvm.Cond.methodLink "GapLinksModel" (117 : Nat) ({ cls := "GapLinksModel", name := "goesOn", desc := "()V" } : Jvm.MethodName)) ∈ UU := tb_6 (List.mem_of_getElem? (i := 6) rfl) rfl
theorem u6_8 : (Jvm.Cond.instanceMethod ({ cls := "GapLinksModel", name := "goesOn", desc := "()V" } : Jvm.MethodName)) ∈ UU := tb_6 (List.mem_of_getElem? (i := 8) rfl) rfl
theorem u6_9 : (Jvm.Cond.code ({ cls := "GapLinksModel", name := "goesOn", desc := "()V" } : Jvm.MethodName) prog_10_method_9_code (2 : Nat) (Option.none : Option Jvm.ClassFile.FieldType)) ∈ UU := tb_6 (List.mem_of_getElem? (i := 9) rfl) rfl
theorem u6_10 : (Jvm.Cond.methodLink "GapLinksModel" (70 : Nat) ({ cls := "GapLinksModel", name := "see", desc := "(I)I" } : Jvm.MethodName)) ∈ UU := tb_6 (List.mem_of_getElem? (i := 10) rfl) rfl
theorem u6_12 : (Jvm.Cond.instanceMethod ({ cls := "GapLinksModel", name := "see", desc := "(I)I" } : Jvm.MethodName)) ∈ UU := tb_6 (List.mem_of_getElem? (i := 12) rfl) rfl
theorem u6_13 : (Jvm.Cond.code ({ cls := "GapLinksModel", name := "see", desc := "(I)I" } : Jvm.MethodName) prog_10_method_8_code (2 : Nat) (Option.some Jvm.ClassFile.FieldType.int)) ∈ UU := tb_6 (List.mem_of_getElem? (i := 13) rfl) rfl
theorem u6_14 : (Jvm.Cond.methodLink "GapLinksModel" (84 : Nat) ({ cls := "GapLinksModel", name := "readsWord", desc := "()V" } : Jvm.MethodName)) ∈ UU := tb_6 (List.mem_of_getElem? (i := 14) rfl) rfl
theorem u6_16 : (Jvm.Cond.instanceMethod ({ cls := "GapLinksModel", name := "readsWord", desc := "()V" } : Jvm.MethodName)) ∈ UU := tb_6 (List.mem_of_getElem? (i := 16) rfl) rfl
theorem u6_17 : (Jvm.Cond.code ({ cls := "GapLinksModel", name := "readsWord", desc := "()V" } : Jvm.MethodName) prog_10_method_10_code (2 : Nat) (Option.none : Option Jvm.ClassFile.FieldType)) ∈ UU := tb_6 (List.mem_of_getElem? (i := 17) rfl) rfl
theorem u6_18 : (Jvm.Cond.constantLong "GapLinksModel" (94 : Nat) (256 : Int64)) ∈ UU := tb_6 (List.mem_of_getElem? (i := 18) rfl) rfl
theorem u6_19 : (Jvm.Cond.constantLong "GapLinksModel" (96 : Nat) (32 : Int64)) ∈ UU := tb_6 (List.mem_of_getElem? (i := 19) rfl) rfl
theorem u6_20 : (Jvm.Cond.methodLink "GapLinksModel" (197 : Nat) ({ cls := "GapLinksModel", name := "readLine", desc := "()I" } : Jvm.MethodName)) ∈ UU := tb_6 (List.mem_of_getElem? (i := 20) rfl) rfl
theorem u6_22 : (Jvm.Cond.instanceMethod ({ cls := "GapLinksModel", name := "readLine", desc := "()I" } : Jvm.MethodName)) ∈ UU := tb_6 (List.mem_of_getElem? (i := 22) rfl) rfl
theorem u6_23 : (Jvm.Cond.code ({ cls := "GapLinksModel", name := "readLine", desc := "()I" } : Jvm.MethodName) prog_10_method_26_code (1 : Nat) (Option.some Jvm.ClassFile.FieldType.int)) ∈ UU := tb_6 (List.mem_of_getElem? (i := 23) rfl) rfl
theorem u6_25 : (Jvm.Cond.methodLink "GapLinksModel" (120 : Nat) ({ cls := "GapLinksModel", name := "isWord", desc := "(Ljava/lang/String;)Z" } : Jvm.MethodName)) ∈ UU := tb_6 (List.mem_of_getElem? (i := 25) rfl) rfl
theorem u6_27 : (Jvm.Cond.instanceMethod ({ cls := "GapLinksModel", name := "isWord", desc := "(Ljava/lang/String;)Z" } : Jvm.MethodName)) ∈ UU := tb_6 (List.mem_of_getElem? (i := 27) rfl) rfl
theorem u6_28 : (Jvm.Cond.code ({ cls := "GapLinksModel", name := "isWord", desc := "(Ljava/lang/String;)Z" } : Jvm.MethodName) prog_10_method_11_code (3 : Nat) (Option.some Jvm.ClassFile.FieldType.boolean)) ∈ UU := tb_6 (List.mem_of_getElem? (i := 28) rfl) rfl
theorem u6_29 : (Jvm.Cond.methodLink "GapLinksModel" (98 : Nat) ({ cls := "java/lang/String", name := "length", desc := "()I" } : Jvm.MethodName)) ∈ UU := tb_6 (List.mem_of_getElem? (i := 29) rfl) rfl
theorem u6_30 : (Jvm.Cond.instanceMethod ({ cls := "java/lang/String", name := "length", desc := "()I" } : Jvm.MethodName)) ∈ UU := tb_6 (List.mem_of_getElem? (i := 30) rfl) rfl
theorem u6_31 : (Jvm.Cond.selects "java/lang/String" ({ cls := "java/lang/String", name := "length", desc := "()I" } : Jvm.MethodName) ({ cls := "java/lang/String", name := "length", desc := "()I" } : Jvm.MethodName)) ∈ UU := tb_6 (List.mem_of_getElem? (i := 31) rfl) rfl
theorem u6_32 : (Jvm.Cond.code ({ cls := "java/lang/String", name := "length", desc := "()I" } : Jvm.MethodName) prog_20_method_54_code (1 : Nat) (Option.some Jvm.ClassFile.FieldType.int)) ∈ UU := tb_6 (List.mem_of_getElem? (i := 32) rfl) rfl
theorem u6_33 : (Jvm.Cond.methodLink "java/lang/String" (335 : Nat) ({ cls := "java/lang/String", name := "coder", desc := "()B" } : Jvm.MethodName)) ∈ UU := tb_6 (List.mem_of_getElem? (i := 33) rfl) rfl
theorem u6_34 : (Jvm.Cond.instanceMethod ({ cls := "java/lang/String", name := "coder", desc := "()B" } : Jvm.MethodName)) ∈ UU := tb_6 (List.mem_of_getElem? (i := 34) rfl) rfl
theorem u6_35 : (Jvm.Cond.selects "java/lang/String" ({ cls := "java/lang/String", name := "coder", desc := "()B" } : Jvm.MethodName) ({ cls := "java/lang/String", name := "coder", desc := "()B" } : Jvm.MethodName)) ∈ UU := tb_6 (List.mem_of_getElem? (i := 35) rfl) rfl
theorem u6_36 : (Jvm.Cond.code ({ cls := "java/lang/String", name := "coder", desc := "()B" } : Jvm.MethodName) prog_20_method_152_code (1 : Nat) (Option.some Jvm.ClassFile.FieldType.byte)) ∈ UU := tb_6 (List.mem_of_getElem? (i := 36) rfl) rfl
theorem u6_37 : (Jvm.Cond.fieldLink "java/lang/String" (38 : Nat) "java/lang/String" "COMPACT_STRINGS" "Z") ∈ UU := tb_6 (List.mem_of_getElem? (i := 37) rfl) rfl
theorem u6_39 : (Jvm.Cond.methodLink "GapLinksModel" (104 : Nat) ({ cls := "java/lang/String", name := "charAt", desc := "(I)C" } : Jvm.MethodName)) ∈ UU := tb_6 (List.mem_of_getElem? (i := 39) rfl) rfl
theorem u6_40 : (Jvm.Cond.instanceMethod ({ cls := "java/lang/String", name := "charAt", desc := "(I)C" } : Jvm.MethodName)) ∈ UU := tb_6 (List.mem_of_getElem? (i := 40) rfl) rfl
theorem u6_41 : (Jvm.Cond.selects "java/lang/String" ({ cls := "java/lang/String", name := "charAt", desc := "(I)C" } : Jvm.MethodName) ({ cls := "java/lang/String", name := "charAt", desc := "(I)C" } : Jvm.MethodName)) ∈ UU := tb_6 (List.mem_of_getElem? (i := 41) rfl) rfl
theorem u6_42 : (Jvm.Cond.code ({ cls := "java/lang/String", name := "charAt", desc := "(I)C" } : Jvm.MethodName) prog_20_method_56_code (2 : Nat) (Option.some Jvm.ClassFile.FieldType.char)) ∈ UU := tb_6 (List.mem_of_getElem? (i := 42) rfl) rfl
theorem u6_43 : (Jvm.Cond.methodLink "java/lang/String" (492 : Nat) ({ cls := "java/lang/String", name := "isLatin1", desc := "()Z" } : Jvm.MethodName)) ∈ UU := tb_6 (List.mem_of_getElem? (i := 43) rfl) rfl
theorem u6_44 : (Jvm.Cond.instanceMethod ({ cls := "java/lang/String", name := "isLatin1", desc := "()Z" } : Jvm.MethodName)) ∈ UU := tb_6 (List.mem_of_getElem? (i := 44) rfl) rfl
theorem u6_45 : (Jvm.Cond.selects "java/lang/String" ({ cls := "java/lang/String", name := "isLatin1", desc := "()Z" } : Jvm.MethodName) ({ cls := "java/lang/String", name := "isLatin1", desc := "()Z" } : Jvm.MethodName)) ∈ UU := tb_6 (List.mem_of_getElem? (i := 45) rfl) rfl
theorem u6_46 : (Jvm.Cond.code ({ cls := "java/lang/String", name := "isLatin1", desc := "()Z" } : Jvm.MethodName) prog_20_method_154_code (1 : Nat) (Option.some Jvm.ClassFile.FieldType.boolean)) ∈ UU := tb_6 (List.mem_of_getElem? (i := 46) rfl) rfl
theorem u6_47 : (Jvm.Cond.methodLink "java/lang/String" (495 : Nat) ({ cls := "java/lang/StringLatin1", name := "charAt", desc := "([BI)C" } : Jvm.MethodName)) ∈ UU := tb_6 (List.mem_of_getElem? (i := 47) rfl) rfl
theorem u6_48 : (Jvm.Cond.static ({ cls := "java/lang/StringLatin1", name := "charAt", desc := "([BI)C" } : Jvm.MethodName)) ∈ UU := tb_6 (List.mem_of_getElem? (i := 48) rfl) rfl
theorem u6_49 : (Jvm.Cond.code ({ cls := "java/lang/StringLatin1", name := "charAt", desc := "([BI)C" } : Jvm.MethodName) prog_21_method_2_code (2 : Nat) (Option.some Jvm.ClassFile.FieldType.char)) ∈ UU := tb_6 (List.mem_of_getElem? (i := 49) rfl) rfl
theorem u6_50 : (Jvm.Cond.methodLink "java/lang/StringLatin1" (9 : Nat) ({ cls := "java/lang/String", name := "checkIndex", desc := "(II)V" } : Jvm.MethodName)) ∈ UU := tb_6 (List.mem_of_getElem? (i := 50) rfl) rfl
theorem u6_51 : (Jvm.Cond.static ({ cls := "java/lang/String", name := "checkIndex", desc := "(II)V" } : Jvm.MethodName)) ∈ UU := tb_6 (List.mem_of_getElem? (i := 51) rfl) rfl
theorem u6_52 : (Jvm.Cond.code ({ cls := "java/lang/String", name := "checkIndex", desc := "(II)V" } : Jvm.MethodName) prog_20_method_155_code (2 : Nat) (Option.none : Option Jvm.ClassFile.FieldType)) ∈ UU := tb_6 (List.mem_of_getElem? (i := 52) rfl) rfl
theorem u6_53 : (Jvm.Cond.fieldLink "java/lang/String" (1053 : Nat) "jdk/internal/util/Preconditions" "SIOOBE_FORMATTER" "Ljava/util/function/BiFunction;") ∈ UU := tb_6 (List.mem_of_getElem? (i := 53) rfl) rfl
theorem u6_55 : (Jvm.Cond.methodLink "java/lang/String" (1059 : Nat) ({ cls := "jdk/internal/util/Preconditions", name := "checkIndex", desc := "(IILjava/util/function/BiFunction;)I" } : Jvm.MethodName)) ∈ UU := tb_6 (List.mem_of_getElem? (i := 55) rfl) rfl
theorem u6_56 : (Jvm.Cond.static ({ cls := "jdk/internal/util/Preconditions", name := "checkIndex", desc := "(IILjava/util/function/BiFunction;)I" } : Jvm.MethodName)) ∈ UU := tb_6 (List.mem_of_getElem? (i := 56) rfl) rfl
theorem u6_57 : (Jvm.Cond.code ({ cls := "jdk/internal/util/Preconditions", name := "checkIndex", desc := "(IILjava/util/function/BiFunction;)I" } : Jvm.MethodName) prog_29_method_11_code (3 : Nat) (Option.some Jvm.ClassFile.FieldType.int)) ∈ UU := tb_6 (List.mem_of_getElem? (i := 57) rfl) rfl
theorem u6_58 : (Jvm.Cond.methodLink "java/lang/String" (498 : Nat) ({ cls := "java/lang/StringUTF16", name := "charAt", desc := "([BI)C" } : Jvm.MethodName)) ∈ UU := tb_6 (List.mem_of_getElem? (i := 58) rfl) rfl
theorem u6_59 : (Jvm.Cond.static ({ cls := "java/lang/StringUTF16", name := "charAt", desc := "([BI)C" } : Jvm.MethodName)) ∈ UU := tb_6 (List.mem_of_getElem? (i := 59) rfl) rfl
theorem u6_60 : (Jvm.Cond.code ({ cls := "java/lang/StringUTF16", name := "charAt", desc := "([BI)C" } : Jvm.MethodName) prog_22_method_83_code (2 : Nat) (Option.some Jvm.ClassFile.FieldType.char)) ∈ UU := tb_6 (List.mem_of_getElem? (i := 60) rfl) rfl
theorem u6_61 : (Jvm.Cond.methodLink "java/lang/StringUTF16" (67 : Nat) ({ cls := "java/lang/StringUTF16", name := "checkIndex", desc := "(I[B)V" } : Jvm.MethodName)) ∈ UU := tb_6 (List.mem_of_getElem? (i := 61) rfl) rfl
theorem u6_62 : (Jvm.Cond.static ({ cls := "java/lang/StringUTF16", name := "checkIndex", desc := "(I[B)V" } : Jvm.MethodName)) ∈ UU := tb_6 (List.mem_of_getElem? (i := 62) rfl) rfl
theorem u6_63 : (Jvm.Cond.code ({ cls := "java/lang/StringUTF16", name := "checkIndex", desc := "(I[B)V" } : Jvm.MethodName) prog_22_method_91_code (2 : Nat) (Option.none : Option Jvm.ClassFile.FieldType)) ∈ UU := tb_6 (List.mem_of_getElem? (i := 63) rfl) rfl
theorem u6_64 : (Jvm.Cond.methodLink "java/lang/StringUTF16" (48 : Nat) ({ cls := "java/lang/StringUTF16", name := "length", desc := "([B)I" } : Jvm.MethodName)) ∈ UU := tb_6 (List.mem_of_getElem? (i := 64) rfl) rfl
theorem u6_65 : (Jvm.Cond.static ({ cls := "java/lang/StringUTF16", name := "length", desc := "([B)I" } : Jvm.MethodName)) ∈ UU := tb_6 (List.mem_of_getElem? (i := 65) rfl) rfl
theorem u6_66 : (Jvm.Cond.code ({ cls := "java/lang/StringUTF16", name := "length", desc := "([B)I" } : Jvm.MethodName) prog_22_method_6_code (1 : Nat) (Option.some Jvm.ClassFile.FieldType.int)) ∈ UU := tb_6 (List.mem_of_getElem? (i := 66) rfl) rfl
theorem u6_67 : (Jvm.Cond.methodLink "java/lang/StringUTF16" (414 : Nat) ({ cls := "java/lang/String", name := "checkIndex", desc := "(II)V" } : Jvm.MethodName)) ∈ UU := tb_6 (List.mem_of_getElem? (i := 67) rfl) rfl
theorem u6_68 : (Jvm.Cond.methodLink "java/lang/StringUTF16" (71 : Nat) ({ cls := "java/lang/StringUTF16", name := "getChar", desc := "([BI)C" } : Jvm.MethodName)) ∈ UU := tb_6 (List.mem_of_getElem? (i := 68) rfl) rfl
theorem u6_69 : (Jvm.Cond.static ({ cls := "java/lang/StringUTF16", name := "getChar", desc := "([BI)C" } : Jvm.MethodName)) ∈ UU := tb_6 (List.mem_of_getElem? (i := 69) rfl) rfl
theorem u6_70 : (Jvm.Cond.code ({ cls := "java/lang/StringUTF16", name := "getChar", desc := "([BI)C" } : Jvm.MethodName) prog_22_method_5_code (2 : Nat) (Option.some Jvm.ClassFile.FieldType.char)) ∈ UU := tb_6 (List.mem_of_getElem? (i := 70) rfl) rfl
theorem u6_71 : (Jvm.Cond.fieldLink "java/lang/StringUTF16" (44 : Nat) "java/lang/StringUTF16" "$assertionsDisabled" "Z") ∈ UU := tb_6 (List.mem_of_getElem? (i := 71) rfl) rfl
theorem u6_73 : (Jvm.Cond.fieldLink "java/lang/StringUTF16" (59 : Nat) "java/lang/StringUTF16" "HI_BYTE_SHIFT" "I") ∈ UU := tb_6 (List.mem_of_getElem? (i := 73) rfl) rfl
theorem u6_75 : (Jvm.Cond.fieldLink "java/lang/StringUTF16" (63 : Nat) "java/lang/StringUTF16" "LO_BYTE_SHIFT" "I") ∈ UU := tb_6 (List.mem_of_getElem? (i := 75) rfl) rfl
theorem u6_77 : (Jvm.Cond.methodLink "GapLinksModel" (188 : Nat) ({ cls := "GapLinksModel", name := "readBus", desc := "()I" } : Jvm.MethodName)) ∈ UU := tb_6 (List.mem_of_getElem? (i := 77) rfl) rfl
theorem u6_79 : (Jvm.Cond.instanceMethod ({ cls := "GapLinksModel", name := "readBus", desc := "()I" } : Jvm.MethodName)) ∈ UU := tb_6 (List.mem_of_getElem? (i := 79) rfl) rfl
theorem u6_80 : (Jvm.Cond.code ({ cls := "GapLinksModel", name := "readBus", desc := "()I" } : Jvm.MethodName) prog_10_method_19_code (1 : Nat) (Option.some Jvm.ClassFile.FieldType.int)) ∈ UU := tb_6 (List.mem_of_getElem? (i := 80) rfl) rfl
theorem u6_81 : (Jvm.Cond.methodLink "GapLinksModel" (114 : Nat) ({ cls := "GapLinksModel", name := "errs", desc := "(I)I" } : Jvm.MethodName)) ∈ UU := tb_6 (List.mem_of_getElem? (i := 81) rfl) rfl
theorem u6_83 : (Jvm.Cond.instanceMethod ({ cls := "GapLinksModel", name := "errs", desc := "(I)I" } : Jvm.MethodName)) ∈ UU := tb_6 (List.mem_of_getElem? (i := 83) rfl) rfl
theorem u6_84 : (Jvm.Cond.code ({ cls := "GapLinksModel", name := "errs", desc := "(I)I" } : Jvm.MethodName) prog_10_method_12_code (2 : Nat) (Option.some Jvm.ClassFile.FieldType.int)) ∈ UU := tb_6 (List.mem_of_getElem? (i := 84) rfl) rfl
theorem u6_86 : (Jvm.Cond.methodLink "GapLinksModel" (147 : Nat) ({ cls := "GapLinksModel", name := "after", desc := "(Ljava/lang/String;II)I" } : Jvm.MethodName)) ∈ UU := tb_6 (List.mem_of_getElem? (i := 86) rfl) rfl
theorem u6_88 : (Jvm.Cond.instanceMethod ({ cls := "GapLinksModel", name := "after", desc := "(Ljava/lang/String;II)I" } : Jvm.MethodName)) ∈ UU := tb_6 (List.mem_of_getElem? (i := 88) rfl) rfl
theorem u6_89 : (Jvm.Cond.code ({ cls := "GapLinksModel", name := "after", desc := "(Ljava/lang/String;II)I" } : Jvm.MethodName) prog_10_method_14_code (4 : Nat) (Option.some Jvm.ClassFile.FieldType.int)) ∈ UU := tb_6 (List.mem_of_getElem? (i := 89) rfl) rfl
theorem u6_90 : (Jvm.Cond.methodLink "GapLinksModel" (124 : Nat) ({ cls := "GapLinksModel", name := "passes", desc := "(II)I" } : Jvm.MethodName)) ∈ UU := tb_6 (List.mem_of_getElem? (i := 90) rfl) rfl
theorem u6_92 : (Jvm.Cond.instanceMethod ({ cls := "GapLinksModel", name := "passes", desc := "(II)I" } : Jvm.MethodName)) ∈ UU := tb_6 (List.mem_of_getElem? (i := 92) rfl) rfl
theorem u6_93 : (Jvm.Cond.code ({ cls := "GapLinksModel", name := "passes", desc := "(II)I" } : Jvm.MethodName) prog_10_method_13_code (4 : Nat) (Option.some Jvm.ClassFile.FieldType.int)) ∈ UU := tb_6 (List.mem_of_getElem? (i := 93) rfl) rfl
theorem u6_99 : (Jvm.Cond.methodLink "GapLinksModel" (191 : Nat) ({ cls := "GapLinksModel", name := "readEnd", desc := "()I" } : Jvm.MethodName)) ∈ UU := tb_6 (List.mem_of_getElem? (i := 99) rfl) rfl
theorem u6_101 : (Jvm.Cond.instanceMethod ({ cls := "GapLinksModel", name := "readEnd", desc := "()I" } : Jvm.MethodName)) ∈ UU := tb_6 (List.mem_of_getElem? (i := 101) rfl) rfl
theorem u6_102 : (Jvm.Cond.code ({ cls := "GapLinksModel", name := "readEnd", desc := "()I" } : Jvm.MethodName) prog_10_method_20_code (2 : Nat) (Option.some Jvm.ClassFile.FieldType.int)) ∈ UU := tb_6 (List.mem_of_getElem? (i := 102) rfl) rfl
theorem u6_103 : (Jvm.Cond.methodLink "GapLinksModel" (159 : Nat) ({ cls := "GapLinksModel", name := "newName", desc := "(I)I" } : Jvm.MethodName)) ∈ UU := tb_6 (List.mem_of_getElem? (i := 103) rfl) rfl
theorem u6_105 : (Jvm.Cond.instanceMethod ({ cls := "GapLinksModel", name := "newName", desc := "(I)I" } : Jvm.MethodName)) ∈ UU := tb_6 (List.mem_of_getElem? (i := 105) rfl) rfl
theorem u6_106 : (Jvm.Cond.code ({ cls := "GapLinksModel", name := "newName", desc := "(I)I" } : Jvm.MethodName) prog_10_method_17_code (2 : Nat) (Option.some Jvm.ClassFile.FieldType.int)) ∈ UU := tb_6 (List.mem_of_getElem? (i := 106) rfl) rfl
theorem u6_107 : (Jvm.Cond.methodLink "GapLinksModel" (134 : Nat) ({ cls := "GapLinksModel", name := "isName", desc := "()Z" } : Jvm.MethodName)) ∈ UU := tb_6 (List.mem_of_getElem? (i := 107) rfl) rfl
theorem u6_109 : (Jvm.Cond.instanceMethod ({ cls := "GapLinksModel", name := "isName", desc := "()Z" } : Jvm.MethodName)) ∈ UU := tb_6 (List.mem_of_getElem? (i := 109) rfl) rfl
theorem u6_110 : (Jvm.Cond.code ({ cls := "GapLinksModel", name := "isName", desc := "()Z" } : Jvm.MethodName) prog_10_method_15_code (1 : Nat) (Option.some Jvm.ClassFile.FieldType.boolean)) ∈ UU := tb_6 (List.mem_of_getElem? (i := 110) rfl) rfl
theorem u6_112 : (Jvm.Cond.methodLink "GapLinksModel" (138 : Nat) ({ cls := "GapLinksModel", name := "told", desc := "()I" } : Jvm.MethodName)) ∈ UU := tb_6 (List.mem_of_getElem? (i := 112) rfl) rfl
theorem u6_114 : (Jvm.Cond.instanceMethod ({ cls := "GapLinksModel", name := "told", desc := "()I" } : Jvm.MethodName)) ∈ UU := tb_6 (List.mem_of_getElem? (i := 114) rfl) rfl
theorem u6_115 : (Jvm.Cond.code ({ cls := "GapLinksModel", name := "told", desc := "()I" } : Jvm.MethodName) prog_10_method_16_code (2 : Nat) (Option.some Jvm.ClassFile.FieldType.int)) ∈ UU := tb_6 (List.mem_of_getElem? (i := 115) rfl) rfl
theorem u6_117 : (Jvm.Cond.methodLink "GapLinksModel" (194 : Nat) ({ cls := "GapLinksModel", name := "readLink", desc := "()I" } : Jvm.MethodName)) ∈ UU := tb_6 (List.mem_of_getElem? (i := 117) rfl) rfl
theorem u6_119 : (Jvm.Cond.instanceMethod ({ cls := "GapLinksModel", name := "readLink", desc := "()I" } : Jvm.MethodName)) ∈ UU := tb_6 (List.mem_of_getElem? (i := 119) rfl) rfl
theorem u6_120 : (Jvm.Cond.code ({ cls := "GapLinksModel", name := "readLink", desc := "()I" } : Jvm.MethodName) prog_10_method_25_code (3 : Nat) (Option.some Jvm.ClassFile.FieldType.int)) ∈ UU := tb_6 (List.mem_of_getElem? (i := 120) rfl) rfl
theorem u6_122 : (Jvm.Cond.methodLink "GapLinksModel" (170 : Nat) ({ cls := "GapLinksModel", name := "endHere", desc := "()I" } : Jvm.MethodName)) ∈ UU := tb_6 (List.mem_of_getElem? (i := 122) rfl) rfl
theorem u6_124 : (Jvm.Cond.instanceMethod ({ cls := "GapLinksModel", name := "endHere", desc := "()I" } : Jvm.MethodName)) ∈ UU := tb_6 (List.mem_of_getElem? (i := 124) rfl) rfl
theorem u6_125 : (Jvm.Cond.code ({ cls := "GapLinksModel", name := "endHere", desc := "()I" } : Jvm.MethodName) prog_10_method_18_code (2 : Nat) (Option.some Jvm.ClassFile.FieldType.int)) ∈ UU := tb_6 (List.mem_of_getElem? (i := 125) rfl) rfl
theorem u6_126 : (Jvm.Cond.methodLink "GapLinksModel" (179 : Nat) ({ cls := "GapLinksModel", name := "readGap", desc := "()I" } : Jvm.MethodName)) ∈ UU := tb_6 (List.mem_of_getElem? (i := 126) rfl) rfl
theorem u6_128 : (Jvm.Cond.instanceMethod ({ cls := "GapLinksModel", name := "readGap", desc := "()I" } : Jvm.MethodName)) ∈ UU := tb_6 (List.mem_of_getElem? (i := 128) rfl) rfl
theorem u6_129 : (Jvm.Cond.code ({ cls := "GapLinksModel", name := "readGap", desc := "()I" } : Jvm.MethodName) prog_10_method_22_code (1 : Nat) (Option.some Jvm.ClassFile.FieldType.int)) ∈ UU := tb_6 (List.mem_of_getElem? (i := 129) rfl) rfl
theorem u6_131 : (Jvm.Cond.methodLink "GapLinksModel" (166 : Nat) ({ cls := "GapLinksModel", name := "isGap", desc := "(I)Z" } : Jvm.MethodName)) ∈ UU := tb_6 (List.mem_of_getElem? (i := 131) rfl) rfl
theorem u6_132 : (Jvm.Cond.static ({ cls := "GapLinksModel", name := "isGap", desc := "(I)Z" } : Jvm.MethodName)) ∈ UU := tb_6 (List.mem_of_getElem? (i := 132) rfl) rfl
theorem u6_133 : (Jvm.Cond.code ({ cls := "GapLinksModel", name := "isGap", desc := "(I)Z" } : Jvm.MethodName) prog_10_method_21_code (1 : Nat) (Option.some Jvm.ClassFile.FieldType.boolean)) ∈ UU := tb_6 (List.mem_of_getElem? (i := 133) rfl) rfl
theorem u6_136 : (Jvm.Cond.methodLink "GapLinksModel" (185 : Nat) ({ cls := "GapLinksModel", name := "readReceiver", desc := "(I)I" } : Jvm.MethodName)) ∈ UU := tb_6 (List.mem_of_getElem? (i := 136) rfl) rfl
theorem u6_138 : (Jvm.Cond.instanceMethod ({ cls := "GapLinksModel", name := "readReceiver", desc := "(I)I" } : Jvm.MethodName)) ∈ UU := tb_6 (List.mem_of_getElem? (i := 138) rfl) rfl
theorem u6_139 : (Jvm.Cond.code ({ cls := "GapLinksModel", name := "readReceiver", desc := "(I)I" } : Jvm.MethodName) prog_10_method_24_code (3 : Nat) (Option.some Jvm.ClassFile.FieldType.int)) ∈ UU := tb_6 (List.mem_of_getElem? (i := 139) rfl) rfl
theorem u6_140 : (Jvm.Cond.methodLink "GapLinksModel" (173 : Nat) ({ cls := "GapLinksModel", name := "isHeard", desc := "(II)Z" } : Jvm.MethodName)) ∈ UU := tb_6 (List.mem_of_getElem? (i := 140) rfl) rfl
theorem u6_142 : (Jvm.Cond.instanceMethod ({ cls := "GapLinksModel", name := "isHeard", desc := "(II)Z" } : Jvm.MethodName)) ∈ UU := tb_6 (List.mem_of_getElem? (i := 142) rfl) rfl
theorem u6_143 : (Jvm.Cond.code ({ cls := "GapLinksModel", name := "isHeard", desc := "(II)Z" } : Jvm.MethodName) prog_10_method_23_code (4 : Nat) (Option.some Jvm.ClassFile.FieldType.boolean)) ∈ UU := tb_6 (List.mem_of_getElem? (i := 143) rfl) rfl
theorem u6_144 : (Jvm.Cond.methodLink "GapLinksModel" (218 : Nat) ({ cls := "GapLinksModel", name := "begins", desc := "()V" } : Jvm.MethodName)) ∈ UU := tb_6 (List.mem_of_getElem? (i := 144) rfl) rfl
theorem u6_146 : (Jvm.Cond.instanceMethod ({ cls := "GapLinksModel", name := "begins", desc := "()V" } : Jvm.MethodName)) ∈ UU := tb_6 (List.mem_of_getElem? (i := 146) rfl) rfl
theorem u6_147 : (Jvm.Cond.code ({ cls := "GapLinksModel", name := "begins", desc := "()V" } : Jvm.MethodName) prog_10_method_51_code (4 : Nat) (Option.none : Option Jvm.ClassFile.FieldType)) ∈ UU := tb_6 (List.mem_of_getElem? (i := 147) rfl) rfl
theorem u6_148 : (Jvm.Cond.methodLink "GapLinksModel" (246 : Nat) ({ cls := "GapLinksModel", name := "linkAt", desc := "(II)I" } : Jvm.MethodName)) ∈ UU := tb_6 (List.mem_of_getElem? (i := 148) rfl) rfl
theorem u6_149 : (Jvm.Cond.static ({ cls := "GapLinksModel", name := "linkAt", desc := "(II)I" } : Jvm.MethodName)) ∈ UU := tb_6 (List.mem_of_getElem? (i := 149) rfl) rfl
theorem u6_150 : (Jvm.Cond.code ({ cls := "GapLinksModel", name := "linkAt", desc := "(II)I" } : Jvm.MethodName) prog_10_method_47_code (2 : Nat) (Option.some Jvm.ClassFile.FieldType.int)) ∈ UU := tb_6 (List.mem_of_getElem? (i := 150) rfl) rfl
theorem u6_151 : (Jvm.Cond.methodLink "GapLinksModel" (249 : Nat) ({ cls := "GapLinksModel", name := "mostCredit", desc := "(I)I" } : Jvm.MethodName)) ∈ UU := tb_6 (List.mem_of_getElem? (i := 151) rfl) rfl
theorem u6_153 : (Jvm.Cond.instanceMethod ({ cls := "GapLinksModel", name := "mostCredit", desc := "(I)I" } : Jvm.MethodName)) ∈ UU := tb_6 (List.mem_of_getElem? (i := 153) rfl) rfl
theorem u6_154 : (Jvm.Cond.code ({ cls := "GapLinksModel", name := "mostCredit", desc := "(I)I" } : Jvm.MethodName) prog_10_method_50_code (2 : Nat) (Option.some Jvm.ClassFile.FieldType.int)) ∈ UU := tb_6 (List.mem_of_getElem? (i := 154) rfl) rfl
theorem u6_155 : (Jvm.Cond.methodLink "GapLinksModel" (221 : Nat) ({ cls := "GapLinksModel", name := "linkOf", desc := "(II)I" } : Jvm.MethodName)) ∈ UU := tb_6 (List.mem_of_getElem? (i := 155) rfl) rfl
theorem u6_157 : (Jvm.Cond.instanceMethod ({ cls := "GapLinksModel", name := "linkOf", desc := "(II)I" } : Jvm.MethodName)) ∈ UU := tb_6 (List.mem_of_getElem? (i := 157) rfl) rfl
theorem u6_158 : (Jvm.Cond.code ({ cls := "GapLinksModel", name := "linkOf", desc := "(II)I" } : Jvm.MethodName) prog_10_method_31_code (3 : Nat) (Option.some Jvm.ClassFile.FieldType.int)) ∈ UU := tb_6 (List.mem_of_getElem? (i := 158) rfl) rfl
theorem u6_159 : (Jvm.Cond.methodLink "GapLinksModel" (252 : Nat) ({ cls := "GapLinksModel", name := "hearAt", desc := "(II)I" } : Jvm.MethodName)) ∈ UU := tb_6 (List.mem_of_getElem? (i := 159) rfl) rfl
theorem u6_160 : (Jvm.Cond.static ({ cls := "GapLinksModel", name := "hearAt", desc := "(II)I" } : Jvm.MethodName)) ∈ UU := tb_6 (List.mem_of_getElem? (i := 160) rfl) rfl
theorem u6_161 : (Jvm.Cond.code ({ cls := "GapLinksModel", name := "hearAt", desc := "(II)I" } : Jvm.MethodName) prog_10_method_49_code (2 : Nat) (Option.some Jvm.ClassFile.FieldType.int)) ∈ UU := tb_6 (List.mem_of_getElem? (i := 161) rfl) rfl
theorem u6_162 : (Jvm.Cond.methodLink "GapLinksLaw" (32 : Nat) ({ cls := "GapLinksModel", name := "fault", desc := "()I" } : Jvm.MethodName)) ∈ UU := tb_6 (List.mem_of_getElem? (i := 162) rfl) rfl
theorem u6_163 : (Jvm.Cond.instanceMethod ({ cls := "GapLinksModel", name := "fault", desc := "()I" } : Jvm.MethodName)) ∈ UU := tb_6 (List.mem_of_getElem? (i := 163) rfl) rfl
theorem u6_164 : (Jvm.Cond.selects "GapLinksModel" ({ cls := "GapLinksModel", name := "fault", desc := "()I" } : Jvm.MethodName) ({ cls := "GapLinksModel", name := "fault", desc := "()I" } : Jvm.MethodName)) ∈ UU := tb_6 (List.mem_of_getElem? (i := 164) rfl) rfl
theorem u6_165 : (Jvm.Cond.code ({ cls := "GapLinksModel", name := "fault", desc := "()I" } : Jvm.MethodName) prog_10_method_29_code (1 : Nat) (Option.some Jvm.ClassFile.FieldType.int)) ∈ UU := tb_6 (List.mem_of_getElem? (i := 165) rfl) rfl
theorem u6_166 : (Jvm.Cond.methodLink "GapLinksLaw" (36 : Nat) ({ cls := "GapLinksModel", name := "where", desc := "()I" } : Jvm.MethodName)) ∈ UU := tb_6 (List.mem_of_getElem? (i := 166) rfl) rfl
theorem u6_167 : (Jvm.Cond.instanceMethod ({ cls := "GapLinksModel", name := "where", desc := "()I" } : Jvm.MethodName)) ∈ UU := tb_6 (List.mem_of_getElem? (i := 167) rfl) rfl
theorem u6_168 : (Jvm.Cond.selects "GapLinksModel" ({ cls := "GapLinksModel", name := "where", desc := "()I" } : Jvm.MethodName) ({ cls := "GapLinksModel", name := "where", desc := "()I" } : Jvm.MethodName)) ∈ UU := tb_6 (List.mem_of_getElem? (i := 168) rfl) rfl
theorem u6_169 : (Jvm.Cond.code ({ cls := "GapLinksModel", name := "where", desc := "()I" } : Jvm.MethodName) prog_10_method_30_code (1 : Nat) (Option.some Jvm.ClassFile.FieldType.int)) ∈ UU := tb_6 (List.mem_of_getElem? (i := 169) rfl) rfl
theorem u6_170 : (Jvm.Cond.methodLink "GapLinksLaw" (40 : Nat) ({ cls := "GapLinksModel", name := "about", desc := "(I)I" } : Jvm.MethodName)) ∈ UU := tb_6 (List.mem_of_getElem? (i := 170) rfl) rfl
theorem u6_171 : (Jvm.Cond.instanceMethod ({ cls := "GapLinksModel", name := "about", desc := "(I)I" } : Jvm.MethodName)) ∈ UU := tb_6 (List.mem_of_getElem? (i := 171) rfl) rfl
theorem u6_172 : (Jvm.Cond.selects "GapLinksModel" ({ cls := "GapLinksModel", name := "about", desc := "(I)I" } : Jvm.MethodName) ({ cls := "GapLinksModel", name := "about", desc := "(I)I" } : Jvm.MethodName)) ∈ UU := tb_6 (List.mem_of_getElem? (i := 172) rfl) rfl
theorem u6_173 : (Jvm.Cond.code ({ cls := "GapLinksModel", name := "about", desc := "(I)I" } : Jvm.MethodName) prog_10_method_41_code (2 : Nat) (Option.some Jvm.ClassFile.FieldType.int)) ∈ UU := tb_6 (List.mem_of_getElem? (i := 173) rfl) rfl
theorem u6_174 : (Jvm.Cond.methodLink "GapLinksLaw" (44 : Nat) ({ cls := "GapLinksModel", name := "at", desc := "(I)I" } : Jvm.MethodName)) ∈ UU := tb_6 (List.mem_of_getElem? (i := 174) rfl) rfl
theorem u6_175 : (Jvm.Cond.instanceMethod ({ cls := "GapLinksModel", name := "at", desc := "(I)I" } : Jvm.MethodName)) ∈ UU := tb_6 (List.mem_of_getElem? (i := 175) rfl) rfl
theorem u6_176 : (Jvm.Cond.selects "GapLinksModel" ({ cls := "GapLinksModel", name := "at", desc := "(I)I" } : Jvm.MethodName) ({ cls := "GapLinksModel", name := "at", desc := "(I)I" } : Jvm.MethodName)) ∈ UU := tb_6 (List.mem_of_getElem? (i := 176) rfl) rfl
theorem u6_177 : (Jvm.Cond.code ({ cls := "GapLinksModel", name := "at", desc := "(I)I" } : Jvm.MethodName) prog_10_method_42_code (2 : Nat) (Option.some Jvm.ClassFile.FieldType.int)) ∈ UU := tb_6 (List.mem_of_getElem? (i := 177) rfl) rfl
theorem u6_178 : (Jvm.Cond.methodLink "GapLinksModel" (227 : Nat) ({ cls := "GapLinksModel", name := "isEnd", desc := "(I)Z" } : Jvm.MethodName)) ∈ UU := tb_6 (List.mem_of_getElem? (i := 178) rfl) rfl
theorem u6_180 : (Jvm.Cond.instanceMethod ({ cls := "GapLinksModel", name := "isEnd", desc := "(I)Z" } : Jvm.MethodName)) ∈ UU := tb_6 (List.mem_of_getElem? (i := 180) rfl) rfl
theorem u6_181 : (Jvm.Cond.code ({ cls := "GapLinksModel", name := "isEnd", desc := "(I)Z" } : Jvm.MethodName) prog_10_method_35_code (2 : Nat) (Option.some Jvm.ClassFile.FieldType.boolean)) ∈ UU := tb_6 (List.mem_of_getElem? (i := 181) rfl) rfl
theorem u6_182 : (Jvm.Cond.methodLink "GapLinksLaw" (49 : Nat) ({ cls := "GapLinksModel", name := "link", desc := "(II)I" } : Jvm.MethodName)) ∈ UU := tb_6 (List.mem_of_getElem? (i := 182) rfl) rfl
theorem u6_183 : (Jvm.Cond.instanceMethod ({ cls := "GapLinksModel", name := "link", desc := "(II)I" } : Jvm.MethodName)) ∈ UU := tb_6 (List.mem_of_getElem? (i := 183) rfl) rfl
theorem u6_184 : (Jvm.Cond.selects "GapLinksModel" ({ cls := "GapLinksModel", name := "link", desc := "(II)I" } : Jvm.MethodName) ({ cls := "GapLinksModel", name := "link", desc := "(II)I" } : Jvm.MethodName)) ∈ UU := tb_6 (List.mem_of_getElem? (i := 184) rfl) rfl
theorem u6_185 : (Jvm.Cond.code ({ cls := "GapLinksModel", name := "link", desc := "(II)I" } : Jvm.MethodName) prog_10_method_43_code (3 : Nat) (Option.some Jvm.ClassFile.FieldType.int)) ∈ UU := tb_6 (List.mem_of_getElem? (i := 185) rfl) rfl
theorem u6_186 : (Jvm.Cond.methodLink "GapLinksModel" (224 : Nat) ({ cls := "GapLinksModel", name := "isLink", desc := "(I)Z" } : Jvm.MethodName)) ∈ UU := tb_6 (List.mem_of_getElem? (i := 186) rfl) rfl
theorem u6_188 : (Jvm.Cond.instanceMethod ({ cls := "GapLinksModel", name := "isLink", desc := "(I)Z" } : Jvm.MethodName)) ∈ UU := tb_6 (List.mem_of_getElem? (i := 188) rfl) rfl
theorem u6_189 : (Jvm.Cond.code ({ cls := "GapLinksModel", name := "isLink", desc := "(I)Z" } : Jvm.MethodName) prog_10_method_33_code (2 : Nat) (Option.some Jvm.ClassFile.FieldType.boolean)) ∈ UU := tb_6 (List.mem_of_getElem? (i := 189) rfl) rfl
theorem u6_190 : (Jvm.Cond.methodLink "GapLinksLaw" (53 : Nat) ({ cls := "GapLinksModel", name := "receiver", desc := "(II)I" } : Jvm.MethodName)) ∈ UU := tb_6 (List.mem_of_getElem? (i := 190) rfl) rfl
theorem u6_191 : (Jvm.Cond.instanceMethod ({ cls := "GapLinksModel", name := "receiver", desc := "(II)I" } : Jvm.MethodName)) ∈ UU := tb_6 (List.mem_of_getElem? (i := 191) rfl) rfl
theorem u6_192 : (Jvm.Cond.selects "GapLinksModel" ({ cls := "GapLinksModel", name := "receiver", desc := "(II)I" } : Jvm.MethodName) ({ cls := "GapLinksModel", name := "receiver", desc := "(II)I" } : Jvm.MethodName)) ∈ UU := tb_6 (List.mem_of_getElem? (i := 192) rfl) rfl
theorem u6_193 : (Jvm.Cond.code ({ cls := "GapLinksModel", name := "receiver", desc := "(II)I" } : Jvm.MethodName) prog_10_method_44_code (3 : Nat) (Option.some Jvm.ClassFile.FieldType.int)) ∈ UU := tb_6 (List.mem_of_getElem? (i := 193) rfl) rfl
theorem u6_194 : (Jvm.Cond.methodLink "GapLinksModel" (243 : Nat) ({ cls := "GapLinksModel", name := "isReceiver", desc := "(III)Z" } : Jvm.MethodName)) ∈ UU := tb_6 (List.mem_of_getElem? (i := 194) rfl) rfl
theorem u6_196 : (Jvm.Cond.instanceMethod ({ cls := "GapLinksModel", name := "isReceiver", desc := "(III)Z" } : Jvm.MethodName)) ∈ UU := tb_6 (List.mem_of_getElem? (i := 196) rfl) rfl
theorem u6_197 : (Jvm.Cond.code ({ cls := "GapLinksModel", name := "isReceiver", desc := "(III)Z" } : Jvm.MethodName) prog_10_method_34_code (4 : Nat) (Option.some Jvm.ClassFile.FieldType.boolean)) ∈ UU := tb_6 (List.mem_of_getElem? (i := 197) rfl) rfl
theorem u6_198 : (Jvm.Cond.methodLink "GapLinksModel" (230 : Nat) ({ cls := "GapLinksModel", name := "receiverOf", desc := "(II)I" } : Jvm.MethodName)) ∈ UU := tb_6 (List.mem_of_getElem? (i := 198) rfl) rfl
theorem u6_200 : (Jvm.Cond.instanceMethod ({ cls := "GapLinksModel", name := "receiverOf", desc := "(II)I" } : Jvm.MethodName)) ∈ UU := tb_6 (List.mem_of_getElem? (i := 200) rfl) rfl
theorem u6_201 : (Jvm.Cond.code ({ cls := "GapLinksModel", name := "receiverOf", desc := "(II)I" } : Jvm.MethodName) prog_10_method_32_code (3 : Nat) (Option.some Jvm.ClassFile.FieldType.int)) ∈ UU := tb_6 (List.mem_of_getElem? (i := 201) rfl) rfl
theorem u6_202 : (Jvm.Cond.methodLink "GapLinksLaw" (60 : Nat) ({ cls := "GapLinksModel", name := "named", desc := "(J)I" } : Jvm.MethodName)) ∈ UU := tb_6 (List.mem_of_getElem? (i := 202) rfl) rfl
theorem u6_203 : (Jvm.Cond.instanceMethod ({ cls := "GapLinksModel", name := "named", desc := "(J)I" } : Jvm.MethodName)) ∈ UU := tb_6 (List.mem_of_getElem? (i := 203) rfl) rfl
theorem u6_204 : (Jvm.Cond.selects "GapLinksModel" ({ cls := "GapLinksModel", name := "named", desc := "(J)I" } : Jvm.MethodName) ({ cls := "GapLinksModel", name := "named", desc := "(J)I" } : Jvm.MethodName)) ∈ UU := tb_6 (List.mem_of_getElem? (i := 204) rfl) rfl
theorem u6_205 : (Jvm.Cond.code ({ cls := "GapLinksModel", name := "named", desc := "(J)I" } : Jvm.MethodName) prog_10_method_45_code (4 : Nat) (Option.some Jvm.ClassFile.FieldType.int)) ∈ UU := tb_6 (List.mem_of_getElem? (i := 205) rfl) rfl
theorem u6_206 : (Jvm.Cond.methodLink "GapLinksLaw" (65 : Nat) ({ cls := "GapLinksModel", name := "way", desc := "(III)I" } : Jvm.MethodName)) ∈ UU := tb_6 (List.mem_of_getElem? (i := 206) rfl) rfl
theorem u6_207 : (Jvm.Cond.instanceMethod ({ cls := "GapLinksModel", name := "way", desc := "(III)I" } : Jvm.MethodName)) ∈ UU := tb_6 (List.mem_of_getElem? (i := 207) rfl) rfl
theorem u6_208 : (Jvm.Cond.selects "GapLinksModel" ({ cls := "GapLinksModel", name := "way", desc := "(III)I" } : Jvm.MethodName) ({ cls := "GapLinksModel", name := "way", desc := "(III)I" } : Jvm.MethodName)) ∈ UU := tb_6 (List.mem_of_getElem? (i := 208) rfl) rfl
theorem u6_209 : (Jvm.Cond.code ({ cls := "GapLinksModel", name := "way", desc := "(III)I" } : Jvm.MethodName) prog_10_method_46_code (4 : Nat) (Option.some Jvm.ClassFile.FieldType.int)) ∈ UU := tb_6 (List.mem_of_getElem? (i := 209) rfl) rfl
theorem u6_210 : (Jvm.Cond.methodLink "GapLinksModel" (236 : Nat) ({ cls := "GapLinksModel", name := "wayLong", desc := "(II)I" } : Jvm.MethodName)) ∈ UU := tb_6 (List.mem_of_getElem? (i := 210) rfl) rfl
theorem u6_212 : (Jvm.Cond.instanceMethod ({ cls := "GapLinksModel", name := "wayLong", desc := "(II)I" } : Jvm.MethodName)) ∈ UU := tb_6 (List.mem_of_getElem? (i := 212) rfl) rfl
theorem u6_213 : (Jvm.Cond.code ({ cls := "GapLinksModel", name := "wayLong", desc := "(II)I" } : Jvm.MethodName) prog_10_method_38_code (3 : Nat) (Option.some Jvm.ClassFile.FieldType.int)) ∈ UU := tb_6 (List.mem_of_getElem? (i := 213) rfl) rfl
theorem u6_214 : (Jvm.Cond.methodLink "GapLinksModel" (233 : Nat) ({ cls := "GapLinksModel", name := "apart", desc := "(II)I" } : Jvm.MethodName)) ∈ UU := tb_6 (List.mem_of_getElem? (i := 214) rfl) rfl
theorem u6_215 : (Jvm.Cond.static ({ cls := "GapLinksModel", name := "apart", desc := "(II)I" } : Jvm.MethodName)) ∈ UU := tb_6 (List.mem_of_getElem? (i := 215) rfl) rfl
theorem u6_216 : (Jvm.Cond.code ({ cls := "GapLinksModel", name := "apart", desc := "(II)I" } : Jvm.MethodName) prog_10_method_37_code (2 : Nat) (Option.some Jvm.ClassFile.FieldType.int)) ∈ UU := tb_6 (List.mem_of_getElem? (i := 216) rfl) rfl
theorem u6_217 : (Jvm.Cond.methodLink "GapLinksModel" (239 : Nat) ({ cls := "GapLinksModel", name := "wayOf", desc := "(III)I" } : Jvm.MethodName)) ∈ UU := tb_6 (List.mem_of_getElem? (i := 217) rfl) rfl
theorem u6_219 : (Jvm.Cond.instanceMethod ({ cls := "GapLinksModel", name := "wayOf", desc := "(III)I" } : Jvm.MethodName)) ∈ UU := tb_6 (List.mem_of_getElem? (i := 219) rfl) rfl
theorem u6_220 : (Jvm.Cond.code ({ cls := "GapLinksModel", name := "wayOf", desc := "(III)I" } : Jvm.MethodName) prog_10_method_39_code (6 : Nat) (Option.some Jvm.ClassFile.FieldType.int)) ∈ UU := tb_6 (List.mem_of_getElem? (i := 220) rfl) rfl
theorem u6_221 : (Jvm.Cond.methodLink "GapLinksLaw" (69 : Nat) ({ cls := "GapLinksModel", name := "waits", desc := "(II)I" } : Jvm.MethodName)) ∈ UU := tb_6 (List.mem_of_getElem? (i := 221) rfl) rfl
theorem u6_222 : (Jvm.Cond.instanceMethod ({ cls := "GapLinksModel", name := "waits", desc := "(II)I" } : Jvm.MethodName)) ∈ UU := tb_6 (List.mem_of_getElem? (i := 222) rfl) rfl
theorem u6_223 : (Jvm.Cond.selects "GapLinksModel" ({ cls := "GapLinksModel", name := "waits", desc := "(II)I" } : Jvm.MethodName) ({ cls := "GapLinksModel", name := "waits", desc := "(II)I" } : Jvm.MethodName)) ∈ UU := tb_6 (List.mem_of_getElem? (i := 223) rfl) rfl
theorem u6_224 : (Jvm.Cond.code ({ cls := "GapLinksModel", name := "waits", desc := "(II)I" } : Jvm.MethodName) prog_10_method_69_code (3 : Nat) (Option.some Jvm.ClassFile.FieldType.int)) ∈ UU := tb_6 (List.mem_of_getElem? (i := 224) rfl) rfl
theorem u6_225 : (Jvm.Cond.methodLink "GapLinksLaw" (73 : Nat) ({ cls := "GapLinksModel", name := "credit", desc := "(II)I" } : Jvm.MethodName)) ∈ UU := tb_6 (List.mem_of_getElem? (i := 225) rfl) rfl
theorem u6_226 : (Jvm.Cond.instanceMethod ({ cls := "GapLinksModel", name := "credit", desc := "(II)I" } : Jvm.MethodName)) ∈ UU := tb_6 (List.mem_of_getElem? (i := 226) rfl) rfl
theorem u6_227 : (Jvm.Cond.selects "GapLinksModel" ({ cls := "GapLinksModel", name := "credit", desc := "(II)I" } : Jvm.MethodName) ({ cls := "GapLinksModel", name := "credit", desc := "(II)I" } : Jvm.MethodName)) ∈ UU := tb_6 (List.mem_of_getElem? (i := 227) rfl) rfl
theorem u6_228 : (Jvm.Cond.code ({ cls := "GapLinksModel", name := "credit", desc := "(II)I" } : Jvm.MethodName) prog_10_method_70_code (3 : Nat) (Option.some Jvm.ClassFile.FieldType.int)) ∈ UU := tb_6 (List.mem_of_getElem? (i := 228) rfl) rfl
theorem u6_229 : (Jvm.Cond.methodLink "GapLinksLaw" (77 : Nat) ({ cls := "GapLinksModel", name := "port", desc := "(III)I" } : Jvm.MethodName)) ∈ UU := tb_6 (List.mem_of_getElem? (i := 229) rfl) rfl
theorem u6_230 : (Jvm.Cond.instanceMethod ({ cls := "GapLinksModel", name := "port", desc := "(III)I" } : Jvm.MethodName)) ∈ UU := tb_6 (List.mem_of_getElem? (i := 230) rfl) rfl
theorem u6_231 : (Jvm.Cond.selects "GapLinksModel" ({ cls := "GapLinksModel", name := "port", desc := "(III)I" } : Jvm.MethodName) ({ cls := "GapLinksModel", name := "port", desc := "(III)I" } : Jvm.MethodName)) ∈ UU := tb_6 (List.mem_of_getElem? (i := 231) rfl) rfl
theorem u6_232 : (Jvm.Cond.code ({ cls := "GapLinksModel", name := "port", desc := "(III)I" } : Jvm.MethodName) prog_10_method_71_code (5 : Nat) (Option.some Jvm.ClassFile.FieldType.int)) ∈ UU := tb_6 (List.mem_of_getElem? (i := 232) rfl) rfl
theorem u6_233 : (Jvm.Cond.methodLink "GapLinksModel" (307 : Nat) ({ cls := "GapLinksModel", name := "isPort", desc := "(I)Z" } : Jvm.MethodName)) ∈ UU := tb_6 (List.mem_of_getElem? (i := 233) rfl) rfl
theorem u6_235 : (Jvm.Cond.instanceMethod ({ cls := "GapLinksModel", name := "isPort", desc := "(I)Z" } : Jvm.MethodName)) ∈ UU := tb_6 (List.mem_of_getElem? (i := 235) rfl) rfl
theorem u6_236 : (Jvm.Cond.code ({ cls := "GapLinksModel", name := "isPort", desc := "(I)Z" } : Jvm.MethodName) prog_10_method_36_code (2 : Nat) (Option.some Jvm.ClassFile.FieldType.boolean)) ∈ UU := tb_6 (List.mem_of_getElem? (i := 236) rfl) rfl
theorem u6_237 : (Jvm.Cond.methodLink "GapLinksModel" (255 : Nat) ({ cls := "GapLinksModel", name := "portAt", desc := "(II)I" } : Jvm.MethodName)) ∈ UU := tb_6 (List.mem_of_getElem? (i := 237) rfl) rfl
theorem u6_238 : (Jvm.Cond.static ({ cls := "GapLinksModel", name := "portAt", desc := "(II)I" } : Jvm.MethodName)) ∈ UU := tb_6 (List.mem_of_getElem? (i := 238) rfl) rfl
theorem u6_239 : (Jvm.Cond.code ({ cls := "GapLinksModel", name := "portAt", desc := "(II)I" } : Jvm.MethodName) prog_10_method_48_code (2 : Nat) (Option.some Jvm.ClassFile.FieldType.int)) ∈ UU := tb_6 (List.mem_of_getElem? (i := 239) rfl) rfl
theorem u7_0 : (Jvm.Cond.methodLink "GapLinksLaw" (82 : Nat) ({ cls := "GapLinksModel", name := "frame", desc := "(IIII)I" } : Jvm.MethodName)) ∈ UU := tb_7 (List.mem_of_getElem? (i := 0) rfl) rfl
theorem u7_1 : (Jvm.Cond.instanceMethod ({ cls := "GapLinksModel", name := "frame", desc := "(IIII)I" } : Jvm.MethodName)) ∈ UU := tb_7 (List.mem_of_getElem? (i := 1) rfl) rfl
theorem u7_2 : (Jvm.Cond.selects "GapLinksModel" ({ cls := "GapLinksModel", name := "frame", desc := "(IIII)I" } : Jvm.MethodName) ({ cls := "GapLinksModel", name := "frame", desc := "(IIII)I" } : Jvm.MethodName)) ∈ UU := tb_7 (List.mem_of_getElem? (i := 2) rfl) rfl
theorem u7_3 : (Jvm.Cond.code ({ cls := "GapLinksModel", name := "frame", desc := "(IIII)I" } : Jvm.MethodName) prog_10_method_72_code (5 : Nat) (Option.some Jvm.ClassFile.FieldType.int)) ∈ UU := tb_7 (List.mem_of_getElem? (i := 3) rfl) rfl
theorem u7_4 : (Jvm.Cond.methodLink "GapLinksLaw" (86 : Nat) ({ cls := "GapLinksModel", name := "lost", desc := "(II)I" } : Jvm.MethodName)) ∈ UU := tb_7 (List.mem_of_getElem? (i := 4) rfl) rfl
theorem u7_5 : (Jvm.Cond.instanceMethod ({ cls := "GapLinksModel", name := "lost", desc := "(II)I" } : Jvm.MethodName)) ∈ UU := tb_7 (List.mem_of_getElem? (i := 5) rfl) rfl
theorem u7_6 : (Jvm.Cond.selects "GapLinksModel" ({ cls := "GapLinksModel", name := "lost", desc := "(II)I" } : Jvm.MethodName) ({ cls := "GapLinksModel", name := "lost", desc := "(II)I" } : Jvm.MethodName)) ∈ UU := tb_7 (List.mem_of_getElem? (i := 6) rfl) rfl
theorem u7_7 : (Jvm.Cond.code ({ cls := "GapLinksModel", name := "lost", desc := "(II)I" } : Jvm.MethodName) prog_10_method_74_code (3 : Nat) (Option.some Jvm.ClassFile.FieldType.int)) ∈ UU := tb_7 (List.mem_of_getElem? (i := 7) rfl) rfl
theorem u7_8 : (Jvm.Cond.methodLink "GapLinksModel" (310 : Nat) ({ cls := "GapLinksModel", name := "isLoss", desc := "(II)Z" } : Jvm.MethodName)) ∈ UU := tb_7 (List.mem_of_getElem? (i := 8) rfl) rfl
theorem u7_10 : (Jvm.Cond.instanceMethod ({ cls := "GapLinksModel", name := "isLoss", desc := "(II)Z" } : Jvm.MethodName)) ∈ UU := tb_7 (List.mem_of_getElem? (i := 10) rfl) rfl
theorem u7_11 : (Jvm.Cond.code ({ cls := "GapLinksModel", name := "isLoss", desc := "(II)Z" } : Jvm.MethodName) prog_10_method_73_code (3 : Nat) (Option.some Jvm.ClassFile.FieldType.boolean)) ∈ UU := tb_7 (List.mem_of_getElem? (i := 11) rfl) rfl
theorem u7_12 : (Jvm.Cond.methodLink "GapLinksLaw" (90 : Nat) ({ cls := "GapLinksModel", name := "policed", desc := "(II)I" } : Jvm.MethodName)) ∈ UU := tb_7 (List.mem_of_getElem? (i := 12) rfl) rfl
theorem u7_13 : (Jvm.Cond.instanceMethod ({ cls := "GapLinksModel", name := "policed", desc := "(II)I" } : Jvm.MethodName)) ∈ UU := tb_7 (List.mem_of_getElem? (i := 13) rfl) rfl
theorem u7_14 : (Jvm.Cond.selects "GapLinksModel" ({ cls := "GapLinksModel", name := "policed", desc := "(II)I" } : Jvm.MethodName) ({ cls := "GapLinksModel", name := "policed", desc := "(II)I" } : Jvm.MethodName)) ∈ UU := tb_7 (List.mem_of_getElem? (i := 14) rfl) rfl
theorem u7_15 : (Jvm.Cond.code ({ cls := "GapLinksModel", name := "policed", desc := "(II)I" } : Jvm.MethodName) prog_10_method_75_code (3 : Nat) (Option.some Jvm.ClassFile.FieldType.int)) ∈ UU := tb_7 (List.mem_of_getElem? (i := 15) rfl) rfl
theorem u7_16 : (Jvm.Cond.methodLink "GapLinksLaw" (94 : Nat) ({ cls := "GapLinksModel", name := "heard", desc := "(III)I" } : Jvm.MethodName)) ∈ UU := tb_7 (List.mem_of_getElem? (i := 16) rfl) rfl
theorem u7_17 : (Jvm.Cond.instanceMethod ({ cls := "GapLinksModel", name := "heard", desc := "(III)I" } : Jvm.MethodName)) ∈ UU := tb_7 (List.mem_of_getElem? (i := 17) rfl) rfl
theorem u7_18 : (Jvm.Cond.selects "GapLinksModel" ({ cls := "GapLinksModel", name := "heard", desc := "(III)I" } : Jvm.MethodName) ({ cls := "GapLinksModel", name := "heard", desc := "(III)I" } : Jvm.MethodName)) ∈ UU := tb_7 (List.mem_of_getElem? (i := 18) rfl) rfl
theorem u7_19 : (Jvm.Cond.code ({ cls := "GapLinksModel", name := "heard", desc := "(III)I" } : Jvm.MethodName) prog_10_method_76_code (4 : Nat) (Option.some Jvm.ClassFile.FieldType.int)) ∈ UU := tb_7 (List.mem_of_getElem? (i := 19) rfl) rfl
theorem u7_20 : (Jvm.Cond.methodLink "GapLinksLaw" (98 : Nat) ({ cls := "GapLinksModel", name := "seen", desc := "(III)I" } : Jvm.MethodName)) ∈ UU := tb_7 (List.mem_of_getElem? (i := 20) rfl) rfl
theorem u7_21 : (Jvm.Cond.instanceMethod ({ cls := "GapLinksModel", name := "seen", desc := "(III)I" } : Jvm.MethodName)) ∈ UU := tb_7 (List.mem_of_getElem? (i := 21) rfl) rfl
theorem u7_22 : (Jvm.Cond.selects "GapLinksModel" ({ cls := "GapLinksModel", name := "seen", desc := "(III)I" } : Jvm.MethodName) ({ cls := "GapLinksModel", name := "seen", desc := "(III)I" } : Jvm.MethodName)) ∈ UU := tb_7 (List.mem_of_getElem? (i := 22) rfl) rfl
theorem u7_23 : (Jvm.Cond.code ({ cls := "GapLinksModel", name := "seen", desc := "(III)I" } : Jvm.MethodName) prog_10_method_77_code (4 : Nat) (Option.some Jvm.ClassFile.FieldType.int)) ∈ UU := tb_7 (List.mem_of_getElem? (i := 23) rfl) rfl
theorem u7_24 : (Jvm.Cond.methodLink "GapLinksLaw" (102 : Nat) ({ cls := "GapLinksModel", name := "taken", desc := "(III)I" } : Jvm.MethodName)) ∈ UU := tb_7 (List.mem_of_getElem? (i := 24) rfl) rfl
theorem u7_25 : (Jvm.Cond.instanceMethod ({ cls := "GapLinksModel", name := "taken", desc := "(III)I" } : Jvm.MethodName)) ∈ UU := tb_7 (List.mem_of_getElem? (i := 25) rfl) rfl
theorem u7_26 : (Jvm.Cond.selects "GapLinksModel" ({ cls := "GapLinksModel", name := "taken", desc := "(III)I" } : Jvm.MethodName) ({ cls := "GapLinksModel", name := "taken", desc := "(III)I" } : Jvm.MethodName)) ∈ UU := tb_7 (List.mem_of_getElem? (i := 26) rfl) rfl
theorem u7_27 : (Jvm.Cond.code ({ cls := "GapLinksModel", name := "taken", desc := "(III)I" } : Jvm.MethodName) prog_10_method_78_code (4 : Nat) (Option.some Jvm.ClassFile.FieldType.int)) ∈ UU := tb_7 (List.mem_of_getElem? (i := 27) rfl) rfl
theorem u7_28 : (Jvm.Cond.methodLink "GapLinksLaw" (107 : Nat) ({ cls := "GapLinksModel", name := "load", desc := "(IZ)J" } : Jvm.MethodName)) ∈ UU := tb_7 (List.mem_of_getElem? (i := 28) rfl) rfl
theorem u7_29 : (Jvm.Cond.instanceMethod ({ cls := "GapLinksModel", name := "load", desc := "(IZ)J" } : Jvm.MethodName)) ∈ UU := tb_7 (List.mem_of_getElem? (i := 29) rfl) rfl
theorem u7_30 : (Jvm.Cond.selects "GapLinksModel" ({ cls := "GapLinksModel", name := "load", desc := "(IZ)J" } : Jvm.MethodName) ({ cls := "GapLinksModel", name := "load", desc := "(IZ)J" } : Jvm.MethodName)) ∈ UU := tb_7 (List.mem_of_getElem? (i := 30) rfl) rfl
theorem u7_31 : (Jvm.Cond.code ({ cls := "GapLinksModel", name := "load", desc := "(IZ)J" } : Jvm.MethodName) prog_10_method_87_code (3 : Nat) (Option.some Jvm.ClassFile.FieldType.long)) ∈ UU := tb_7 (List.mem_of_getElem? (i := 31) rfl) rfl
theorem u7_32 : (Jvm.Cond.methodLink "GapLinksModel" (322 : Nat) ({ cls := "GapLinksModel", name := "loadOf", desc := "(I)J" } : Jvm.MethodName)) ∈ UU := tb_7 (List.mem_of_getElem? (i := 32) rfl) rfl
theorem u7_34 : (Jvm.Cond.instanceMethod ({ cls := "GapLinksModel", name := "loadOf", desc := "(I)J" } : Jvm.MethodName)) ∈ UU := tb_7 (List.mem_of_getElem? (i := 34) rfl) rfl
theorem u7_35 : (Jvm.Cond.code ({ cls := "GapLinksModel", name := "loadOf", desc := "(I)J" } : Jvm.MethodName) prog_10_method_81_code (5 : Nat) (Option.some Jvm.ClassFile.FieldType.long)) ∈ UU := tb_7 (List.mem_of_getElem? (i := 35) rfl) rfl
theorem u7_36 : (Jvm.Cond.methodLink "GapLinksModel" (315 : Nat) ({ cls := "GapLinksModel", name := "goesThrough", desc := "(II)Z" } : Jvm.MethodName)) ∈ UU := tb_7 (List.mem_of_getElem? (i := 36) rfl) rfl
theorem u7_38 : (Jvm.Cond.instanceMethod ({ cls := "GapLinksModel", name := "goesThrough", desc := "(II)Z" } : Jvm.MethodName)) ∈ UU := tb_7 (List.mem_of_getElem? (i := 38) rfl) rfl
theorem u7_39 : (Jvm.Cond.code ({ cls := "GapLinksModel", name := "goesThrough", desc := "(II)Z" } : Jvm.MethodName) prog_10_method_40_code (5 : Nat) (Option.some Jvm.ClassFile.FieldType.boolean)) ∈ UU := tb_7 (List.mem_of_getElem? (i := 39) rfl) rfl
theorem u7_40 : (Jvm.Cond.methodLink "GapLinksModel" (318 : Nat) ({ cls := "GapLinksModel", name := "rateOf", desc := "(I)J" } : Jvm.MethodName)) ∈ UU := tb_7 (List.mem_of_getElem? (i := 40) rfl) rfl
theorem u7_42 : (Jvm.Cond.instanceMethod ({ cls := "GapLinksModel", name := "rateOf", desc := "(I)J" } : Jvm.MethodName)) ∈ UU := tb_7 (List.mem_of_getElem? (i := 42) rfl) rfl
theorem u7_43 : (Jvm.Cond.code ({ cls := "GapLinksModel", name := "rateOf", desc := "(I)J" } : Jvm.MethodName) prog_10_method_80_code (2 : Nat) (Option.some Jvm.ClassFile.FieldType.long)) ∈ UU := tb_7 (List.mem_of_getElem? (i := 43) rfl) rfl
theorem u7_44 : (Jvm.Cond.constantLong "GapLinksModel" (313 : Nat) (16777216 : Int64)) ∈ UU := tb_7 (List.mem_of_getElem? (i := 44) rfl) rfl
theorem u7_45 : (Jvm.Cond.methodLink "GapLinksModel" (335 : Nat) ({ cls := "GapLinksModel", name := "part", desc := "(JJZ)J" } : Jvm.MethodName)) ∈ UU := tb_7 (List.mem_of_getElem? (i := 45) rfl) rfl
theorem u7_46 : (Jvm.Cond.static ({ cls := "GapLinksModel", name := "part", desc := "(JJZ)J" } : Jvm.MethodName)) ∈ UU := tb_7 (List.mem_of_getElem? (i := 46) rfl) rfl
theorem u7_47 : (Jvm.Cond.code ({ cls := "GapLinksModel", name := "part", desc := "(JJZ)J" } : Jvm.MethodName) prog_10_method_79_code (11 : Nat) (Option.some Jvm.ClassFile.FieldType.long)) ∈ UU := tb_7 (List.mem_of_getElem? (i := 47) rfl) rfl
theorem u7_48 : (Jvm.Cond.methodLink "GapLinksLaw" (111 : Nat) ({ cls := "GapLinksModel", name := "delay", desc := "(IZ)J" } : Jvm.MethodName)) ∈ UU := tb_7 (List.mem_of_getElem? (i := 48) rfl) rfl
theorem u7_49 : (Jvm.Cond.instanceMethod ({ cls := "GapLinksModel", name := "delay", desc := "(IZ)J" } : Jvm.MethodName)) ∈ UU := tb_7 (List.mem_of_getElem? (i := 49) rfl) rfl
theorem u7_50 : (Jvm.Cond.selects "GapLinksModel" ({ cls := "GapLinksModel", name := "delay", desc := "(IZ)J" } : Jvm.MethodName) ({ cls := "GapLinksModel", name := "delay", desc := "(IZ)J" } : Jvm.MethodName)) ∈ UU := tb_7 (List.mem_of_getElem? (i := 50) rfl) rfl
theorem u7_51 : (Jvm.Cond.code ({ cls := "GapLinksModel", name := "delay", desc := "(IZ)J" } : Jvm.MethodName) prog_10_method_88_code (3 : Nat) (Option.some Jvm.ClassFile.FieldType.long)) ∈ UU := tb_7 (List.mem_of_getElem? (i := 51) rfl) rfl
theorem u7_52 : (Jvm.Cond.methodLink "GapLinksModel" (339 : Nat) ({ cls := "GapLinksModel", name := "isBorne", desc := "()Z" } : Jvm.MethodName)) ∈ UU := tb_7 (List.mem_of_getElem? (i := 52) rfl) rfl
theorem u7_54 : (Jvm.Cond.instanceMethod ({ cls := "GapLinksModel", name := "isBorne", desc := "()Z" } : Jvm.MethodName)) ∈ UU := tb_7 (List.mem_of_getElem? (i := 54) rfl) rfl
theorem u7_55 : (Jvm.Cond.code ({ cls := "GapLinksModel", name := "isBorne", desc := "()Z" } : Jvm.MethodName) prog_10_method_82_code (2 : Nat) (Option.some Jvm.ClassFile.FieldType.boolean)) ∈ UU := tb_7 (List.mem_of_getElem? (i := 55) rfl) rfl
theorem u7_56 : (Jvm.Cond.methodLink "GapLinksModel" (332 : Nat) ({ cls := "GapLinksModel", name := "delayOf", desc := "(I)J" } : Jvm.MethodName)) ∈ UU := tb_7 (List.mem_of_getElem? (i := 56) rfl) rfl
theorem u7_58 : (Jvm.Cond.instanceMethod ({ cls := "GapLinksModel", name := "delayOf", desc := "(I)J" } : Jvm.MethodName)) ∈ UU := tb_7 (List.mem_of_getElem? (i := 58) rfl) rfl
theorem u7_59 : (Jvm.Cond.code ({ cls := "GapLinksModel", name := "delayOf", desc := "(I)J" } : Jvm.MethodName) prog_10_method_85_code (5 : Nat) (Option.some Jvm.ClassFile.FieldType.long)) ∈ UU := tb_7 (List.mem_of_getElem? (i := 59) rfl) rfl
theorem u7_60 : (Jvm.Cond.methodLink "GapLinksModel" (328 : Nat) ({ cls := "GapLinksModel", name := "burstOf", desc := "(II)J" } : Jvm.MethodName)) ∈ UU := tb_7 (List.mem_of_getElem? (i := 60) rfl) rfl
theorem u7_62 : (Jvm.Cond.instanceMethod ({ cls := "GapLinksModel", name := "burstOf", desc := "(II)J" } : Jvm.MethodName)) ∈ UU := tb_7 (List.mem_of_getElem? (i := 62) rfl) rfl
theorem u7_63 : (Jvm.Cond.code ({ cls := "GapLinksModel", name := "burstOf", desc := "(II)J" } : Jvm.MethodName) prog_10_method_84_code (4 : Nat) (Option.some Jvm.ClassFile.FieldType.long)) ∈ UU := tb_7 (List.mem_of_getElem? (i := 63) rfl) rfl
theorem u7_64 : (Jvm.Cond.methodLink "GapLinksModel" (325 : Nat) ({ cls := "GapLinksModel", name := "portAhead", desc := "(II)I" } : Jvm.MethodName)) ∈ UU := tb_7 (List.mem_of_getElem? (i := 64) rfl) rfl
theorem u7_66 : (Jvm.Cond.instanceMethod ({ cls := "GapLinksModel", name := "portAhead", desc := "(II)I" } : Jvm.MethodName)) ∈ UU := tb_7 (List.mem_of_getElem? (i := 66) rfl) rfl
theorem u7_67 : (Jvm.Cond.code ({ cls := "GapLinksModel", name := "portAhead", desc := "(II)I" } : Jvm.MethodName) prog_10_method_83_code (5 : Nat) (Option.some Jvm.ClassFile.FieldType.int)) ∈ UU := tb_7 (List.mem_of_getElem? (i := 67) rfl) rfl
theorem u7_68 : (Jvm.Cond.methodLink "GapLinksLaw" (116 : Nat) ({ cls := "GapLinksModel", name := "burst", desc := "(IIIZ)J" } : Jvm.MethodName)) ∈ UU := tb_7 (List.mem_of_getElem? (i := 68) rfl) rfl
theorem u7_69 : (Jvm.Cond.instanceMethod ({ cls := "GapLinksModel", name := "burst", desc := "(IIIZ)J" } : Jvm.MethodName)) ∈ UU := tb_7 (List.mem_of_getElem? (i := 69) rfl) rfl
theorem u7_70 : (Jvm.Cond.selects "GapLinksModel" ({ cls := "GapLinksModel", name := "burst", desc := "(IIIZ)J" } : Jvm.MethodName) ({ cls := "GapLinksModel", name := "burst", desc := "(IIIZ)J" } : Jvm.MethodName)) ∈ UU := tb_7 (List.mem_of_getElem? (i := 70) rfl) rfl
theorem u7_71 : (Jvm.Cond.code ({ cls := "GapLinksModel", name := "burst", desc := "(IIIZ)J" } : Jvm.MethodName) prog_10_method_89_code (5 : Nat) (Option.some Jvm.ClassFile.FieldType.long)) ∈ UU := tb_7 (List.mem_of_getElem? (i := 71) rfl) rfl
theorem u7_72 : (Jvm.Cond.methodLink "GapLinksLaw" (121 : Nat) ({ cls := "GapLinksModel", name := "bound", desc := "(IIZ)J" } : Jvm.MethodName)) ∈ UU := tb_7 (List.mem_of_getElem? (i := 72) rfl) rfl
theorem u7_73 : (Jvm.Cond.instanceMethod ({ cls := "GapLinksModel", name := "bound", desc := "(IIZ)J" } : Jvm.MethodName)) ∈ UU := tb_7 (List.mem_of_getElem? (i := 73) rfl) rfl
theorem u7_74 : (Jvm.Cond.selects "GapLinksModel" ({ cls := "GapLinksModel", name := "bound", desc := "(IIZ)J" } : Jvm.MethodName) ({ cls := "GapLinksModel", name := "bound", desc := "(IIZ)J" } : Jvm.MethodName)) ∈ UU := tb_7 (List.mem_of_getElem? (i := 74) rfl) rfl
theorem u7_75 : (Jvm.Cond.code ({ cls := "GapLinksModel", name := "bound", desc := "(IIZ)J" } : Jvm.MethodName) prog_10_method_90_code (4 : Nat) (Option.some Jvm.ClassFile.FieldType.long)) ∈ UU := tb_7 (List.mem_of_getElem? (i := 75) rfl) rfl
theorem u7_76 : (Jvm.Cond.methodLink "GapLinksModel" (342 : Nat) ({ cls := "GapLinksModel", name := "boundOf", desc := "(II)J" } : Jvm.MethodName)) ∈ UU := tb_7 (List.mem_of_getElem? (i := 76) rfl) rfl
theorem u7_78 : (Jvm.Cond.instanceMethod ({ cls := "GapLinksModel", name := "boundOf", desc := "(II)J" } : Jvm.MethodName)) ∈ UU := tb_7 (List.mem_of_getElem? (i := 78) rfl) rfl
theorem u7_79 : (Jvm.Cond.code ({ cls := "GapLinksModel", name := "boundOf", desc := "(II)J" } : Jvm.MethodName) prog_10_method_86_code (6 : Nat) (Option.some Jvm.ClassFile.FieldType.long)) ∈ UU := tb_7 (List.mem_of_getElem? (i := 79) rfl) rfl
theorem u7_80 : (Jvm.Cond.methodLink "GapLinksLaw" (125 : Nat) ({ cls := "GapLinksModel", name := "keeps", desc := "(II)I" } : Jvm.MethodName)) ∈ UU := tb_7 (List.mem_of_getElem? (i := 80) rfl) rfl
theorem u7_81 : (Jvm.Cond.instanceMethod ({ cls := "GapLinksModel", name := "keeps", desc := "(II)I" } : Jvm.MethodName)) ∈ UU := tb_7 (List.mem_of_getElem? (i := 81) rfl) rfl
theorem u7_82 : (Jvm.Cond.selects "GapLinksModel" ({ cls := "GapLinksModel", name := "keeps", desc := "(II)I" } : Jvm.MethodName) ({ cls := "GapLinksModel", name := "keeps", desc := "(II)I" } : Jvm.MethodName)) ∈ UU := tb_7 (List.mem_of_getElem? (i := 82) rfl) rfl
theorem u7_83 : (Jvm.Cond.code ({ cls := "GapLinksModel", name := "keeps", desc := "(II)I" } : Jvm.MethodName) prog_10_method_91_code (3 : Nat) (Option.some Jvm.ClassFile.FieldType.int)) ∈ UU := tb_7 (List.mem_of_getElem? (i := 83) rfl) rfl
theorem u7_84 : (Jvm.Cond.methodLink "GapLinksLaw" (129 : Nat) ({ cls := "GapLinksModel", name := "fullest", desc := "()I" } : Jvm.MethodName)) ∈ UU := tb_7 (List.mem_of_getElem? (i := 84) rfl) rfl
theorem u7_85 : (Jvm.Cond.instanceMethod ({ cls := "GapLinksModel", name := "fullest", desc := "()I" } : Jvm.MethodName)) ∈ UU := tb_7 (List.mem_of_getElem? (i := 85) rfl) rfl
theorem u7_86 : (Jvm.Cond.selects "GapLinksModel" ({ cls := "GapLinksModel", name := "fullest", desc := "()I" } : Jvm.MethodName) ({ cls := "GapLinksModel", name := "fullest", desc := "()I" } : Jvm.MethodName)) ∈ UU := tb_7 (List.mem_of_getElem? (i := 86) rfl) rfl
theorem u7_87 : (Jvm.Cond.code ({ cls := "GapLinksModel", name := "fullest", desc := "()I" } : Jvm.MethodName) prog_10_method_92_code (3 : Nat) (Option.some Jvm.ClassFile.FieldType.int)) ∈ UU := tb_7 (List.mem_of_getElem? (i := 87) rfl) rfl
theorem u7_88 : (Jvm.Cond.methodLink "GapLinksLaw" (133 : Nat) ({ cls := "GapLinksModel", name := "leastGap", desc := "(I)I" } : Jvm.MethodName)) ∈ UU := tb_7 (List.mem_of_getElem? (i := 88) rfl) rfl
theorem u7_89 : (Jvm.Cond.instanceMethod ({ cls := "GapLinksModel", name := "leastGap", desc := "(I)I" } : Jvm.MethodName)) ∈ UU := tb_7 (List.mem_of_getElem? (i := 89) rfl) rfl
theorem u7_90 : (Jvm.Cond.selects "GapLinksModel" ({ cls := "GapLinksModel", name := "leastGap", desc := "(I)I" } : Jvm.MethodName) ({ cls := "GapLinksModel", name := "leastGap", desc := "(I)I" } : Jvm.MethodName)) ∈ UU := tb_7 (List.mem_of_getElem? (i := 90) rfl) rfl
theorem u7_91 : (Jvm.Cond.code ({ cls := "GapLinksModel", name := "leastGap", desc := "(I)I" } : Jvm.MethodName) prog_10_method_93_code (5 : Nat) (Option.some Jvm.ClassFile.FieldType.int)) ∈ UU := tb_7 (List.mem_of_getElem? (i := 91) rfl) rfl
theorem u7_92 : (Jvm.Cond.methodLink "GapLinksLaw" (137 : Nat) ({ cls := "GapLinksModel", name := "through", desc := "(I)I" } : Jvm.MethodName)) ∈ UU := tb_7 (List.mem_of_getElem? (i := 92) rfl) rfl
theorem u7_93 : (Jvm.Cond.instanceMethod ({ cls := "GapLinksModel", name := "through", desc := "(I)I" } : Jvm.MethodName)) ∈ UU := tb_7 (List.mem_of_getElem? (i := 93) rfl) rfl
theorem u7_94 : (Jvm.Cond.selects "GapLinksModel" ({ cls := "GapLinksModel", name := "through", desc := "(I)I" } : Jvm.MethodName) ({ cls := "GapLinksModel", name := "through", desc := "(I)I" } : Jvm.MethodName)) ∈ UU := tb_7 (List.mem_of_getElem? (i := 94) rfl) rfl
theorem u7_95 : (Jvm.Cond.code ({ cls := "GapLinksModel", name := "through", desc := "(I)I" } : Jvm.MethodName) prog_10_method_94_code (4 : Nat) (Option.some Jvm.ClassFile.FieldType.int)) ∈ UU := tb_7 (List.mem_of_getElem? (i := 95) rfl) rfl
theorem u7_96 : (Jvm.Cond.methodLink "GapLinksLaw" (141 : Nat) ({ cls := "GapLinksModel", name := "send", desc := "(II)I" } : Jvm.MethodName)) ∈ UU := tb_7 (List.mem_of_getElem? (i := 96) rfl) rfl
theorem u7_97 : (Jvm.Cond.instanceMethod ({ cls := "GapLinksModel", name := "send", desc := "(II)I" } : Jvm.MethodName)) ∈ UU := tb_7 (List.mem_of_getElem? (i := 97) rfl) rfl
theorem u7_98 : (Jvm.Cond.selects "GapLinksModel" ({ cls := "GapLinksModel", name := "send", desc := "(II)I" } : Jvm.MethodName) ({ cls := "GapLinksModel", name := "send", desc := "(II)I" } : Jvm.MethodName)) ∈ UU := tb_7 (List.mem_of_getElem? (i := 98) rfl) rfl
theorem u7_99 : (Jvm.Cond.code ({ cls := "GapLinksModel", name := "send", desc := "(II)I" } : Jvm.MethodName) prog_10_method_95_code (3 : Nat) (Option.some Jvm.ClassFile.FieldType.int)) ∈ UU := tb_7 (List.mem_of_getElem? (i := 99) rfl) rfl
theorem u7_100 : (Jvm.Cond.methodLink "GapLinksLaw" (145 : Nat) ({ cls := "GapLinksModel", name := "babble", desc := "(II)I" } : Jvm.MethodName)) ∈ UU := tb_7 (List.mem_of_getElem? (i := 100) rfl) rfl
theorem u7_101 : (Jvm.Cond.instanceMethod ({ cls := "GapLinksModel", name := "babble", desc := "(II)I" } : Jvm.MethodName)) ∈ UU := tb_7 (List.mem_of_getElem? (i := 101) rfl) rfl
theorem u7_102 : (Jvm.Cond.selects "GapLinksModel" ({ cls := "GapLinksModel", name := "babble", desc := "(II)I" } : Jvm.MethodName) ({ cls := "GapLinksModel", name := "babble", desc := "(II)I" } : Jvm.MethodName)) ∈ UU := tb_7 (List.mem_of_getElem? (i := 102) rfl) rfl
theorem u7_103 : (Jvm.Cond.code ({ cls := "GapLinksModel", name := "babble", desc := "(II)I" } : Jvm.MethodName) prog_10_method_96_code (5 : Nat) (Option.some Jvm.ClassFile.FieldType.int)) ∈ UU := tb_7 (List.mem_of_getElem? (i := 103) rfl) rfl
theorem u7_104 : (Jvm.Cond.methodLink "GapLinksModel" (298 : Nat) ({ cls := "GapLinksModel", name := "isBorn", desc := "(I)I" } : Jvm.MethodName)) ∈ UU := tb_7 (List.mem_of_getElem? (i := 104) rfl) rfl
theorem u7_106 : (Jvm.Cond.instanceMethod ({ cls := "GapLinksModel", name := "isBorn", desc := "(I)I" } : Jvm.MethodName)) ∈ UU := tb_7 (List.mem_of_getElem? (i := 106) rfl) rfl
theorem u7_107 : (Jvm.Cond.code ({ cls := "GapLinksModel", name := "isBorn", desc := "(I)I" } : Jvm.MethodName) prog_10_method_56_code (5 : Nat) (Option.some Jvm.ClassFile.FieldType.int)) ∈ UU := tb_7 (List.mem_of_getElem? (i := 107) rfl) rfl
theorem u7_108 : (Jvm.Cond.methodLink "GapLinksModel" (258 : Nat) ({ cls := "GapLinksModel", name := "comes", desc := "(IIIII)Z" } : Jvm.MethodName)) ∈ UU := tb_7 (List.mem_of_getElem? (i := 108) rfl) rfl
theorem u7_110 : (Jvm.Cond.instanceMethod ({ cls := "GapLinksModel", name := "comes", desc := "(IIIII)Z" } : Jvm.MethodName)) ∈ UU := tb_7 (List.mem_of_getElem? (i := 110) rfl) rfl
theorem u7_111 : (Jvm.Cond.code ({ cls := "GapLinksModel", name := "comes", desc := "(IIIII)Z" } : Jvm.MethodName) prog_10_method_54_code (8 : Nat) (Option.some Jvm.ClassFile.FieldType.boolean)) ∈ UU := tb_7 (List.mem_of_getElem? (i := 111) rfl) rfl
theorem u7_112 : (Jvm.Cond.methodLink "GapLinksModel" (262 : Nat) ({ cls := "GapLinksModel", name := "behind", desc := "(I)I" } : Jvm.MethodName)) ∈ UU := tb_7 (List.mem_of_getElem? (i := 112) rfl) rfl
theorem u7_113 : (Jvm.Cond.static ({ cls := "GapLinksModel", name := "behind", desc := "(I)I" } : Jvm.MethodName)) ∈ UU := tb_7 (List.mem_of_getElem? (i := 113) rfl) rfl
theorem u7_114 : (Jvm.Cond.code ({ cls := "GapLinksModel", name := "behind", desc := "(I)I" } : Jvm.MethodName) prog_10_method_55_code (1 : Nat) (Option.some Jvm.ClassFile.FieldType.int)) ∈ UU := tb_7 (List.mem_of_getElem? (i := 114) rfl) rfl
theorem u7_115 : (Jvm.Cond.methodLink "GapLinksLaw" (149 : Nat) ({ cls := "GapLinksModel", name := "down", desc := "(II)I" } : Jvm.MethodName)) ∈ UU := tb_7 (List.mem_of_getElem? (i := 115) rfl) rfl
theorem u7_116 : (Jvm.Cond.instanceMethod ({ cls := "GapLinksModel", name := "down", desc := "(II)I" } : Jvm.MethodName)) ∈ UU := tb_7 (List.mem_of_getElem? (i := 116) rfl) rfl
theorem u7_117 : (Jvm.Cond.selects "GapLinksModel" ({ cls := "GapLinksModel", name := "down", desc := "(II)I" } : Jvm.MethodName) ({ cls := "GapLinksModel", name := "down", desc := "(II)I" } : Jvm.MethodName)) ∈ UU := tb_7 (List.mem_of_getElem? (i := 117) rfl) rfl
theorem u7_118 : (Jvm.Cond.code ({ cls := "GapLinksModel", name := "down", desc := "(II)I" } : Jvm.MethodName) prog_10_method_97_code (4 : Nat) (Option.some Jvm.ClassFile.FieldType.int)) ∈ UU := tb_7 (List.mem_of_getElem? (i := 118) rfl) rfl
theorem u7_119 : (Jvm.Cond.methodLink "GapLinksLaw" (153 : Nat) ({ cls := "GapLinksModel", name := "anew", desc := "(I)I" } : Jvm.MethodName)) ∈ UU := tb_7 (List.mem_of_getElem? (i := 119) rfl) rfl
theorem u7_120 : (Jvm.Cond.instanceMethod ({ cls := "GapLinksModel", name := "anew", desc := "(I)I" } : Jvm.MethodName)) ∈ UU := tb_7 (List.mem_of_getElem? (i := 120) rfl) rfl
theorem u7_121 : (Jvm.Cond.selects "GapLinksModel" ({ cls := "GapLinksModel", name := "anew", desc := "(I)I" } : Jvm.MethodName) ({ cls := "GapLinksModel", name := "anew", desc := "(I)I" } : Jvm.MethodName)) ∈ UU := tb_7 (List.mem_of_getElem? (i := 121) rfl) rfl
theorem u7_122 : (Jvm.Cond.code ({ cls := "GapLinksModel", name := "anew", desc := "(I)I" } : Jvm.MethodName) prog_10_method_98_code (4 : Nat) (Option.some Jvm.ClassFile.FieldType.int)) ∈ UU := tb_7 (List.mem_of_getElem? (i := 122) rfl) rfl
theorem u7_123 : (Jvm.Cond.methodLink "GapLinksLaw" (157 : Nat) ({ cls := "GapLinksModel", name := "ticks", desc := "(I)I" } : Jvm.MethodName)) ∈ UU := tb_7 (List.mem_of_getElem? (i := 123) rfl) rfl
theorem u7_124 : (Jvm.Cond.instanceMethod ({ cls := "GapLinksModel", name := "ticks", desc := "(I)I" } : Jvm.MethodName)) ∈ UU := tb_7 (List.mem_of_getElem? (i := 124) rfl) rfl
theorem u7_125 : (Jvm.Cond.selects "GapLinksModel" ({ cls := "GapLinksModel", name := "ticks", desc := "(I)I" } : Jvm.MethodName) ({ cls := "GapLinksModel", name := "ticks", desc := "(I)I" } : Jvm.MethodName)) ∈ UU := tb_7 (List.mem_of_getElem? (i := 125) rfl) rfl
theorem u7_126 : (Jvm.Cond.code ({ cls := "GapLinksModel", name := "ticks", desc := "(I)I" } : Jvm.MethodName) prog_10_method_99_code (2 : Nat) (Option.some Jvm.ClassFile.FieldType.int)) ∈ UU := tb_7 (List.mem_of_getElem? (i := 126) rfl) rfl
theorem u7_127 : (Jvm.Cond.methodLink "GapLinksModel" (345 : Nat) ({ cls := "GapLinksModel", name := "goes", desc := "(I)V" } : Jvm.MethodName)) ∈ UU := tb_7 (List.mem_of_getElem? (i := 127) rfl) rfl
theorem u7_129 : (Jvm.Cond.instanceMethod ({ cls := "GapLinksModel", name := "goes", desc := "(I)V" } : Jvm.MethodName)) ∈ UU := tb_7 (List.mem_of_getElem? (i := 129) rfl) rfl
theorem u7_130 : (Jvm.Cond.code ({ cls := "GapLinksModel", name := "goes", desc := "(I)V" } : Jvm.MethodName) prog_10_method_68_code (3 : Nat) (Option.none : Option Jvm.ClassFile.FieldType)) ∈ UU := tb_7 (List.mem_of_getElem? (i := 130) rfl) rfl
theorem u7_131 : (Jvm.Cond.methodLink "GapLinksModel" (304 : Nat) ({ cls := "GapLinksModel", name := "goesTick", desc := "()V" } : Jvm.MethodName)) ∈ UU := tb_7 (List.mem_of_getElem? (i := 131) rfl) rfl
theorem u7_133 : (Jvm.Cond.instanceMethod ({ cls := "GapLinksModel", name := "goesTick", desc := "()V" } : Jvm.MethodName)) ∈ UU := tb_7 (List.mem_of_getElem? (i := 133) rfl) rfl
theorem u7_134 : (Jvm.Cond.code ({ cls := "GapLinksModel", name := "goesTick", desc := "()V" } : Jvm.MethodName) prog_10_method_67_code (4 : Nat) (Option.none : Option Jvm.ClassFile.FieldType)) ∈ UU := tb_7 (List.mem_of_getElem? (i := 134) rfl) rfl
theorem u7_135 : (Jvm.Cond.methodLink "GapLinksModel" (294 : Nat) ({ cls := "GapLinksModel", name := "leaves", desc := "(II)V" } : Jvm.MethodName)) ∈ UU := tb_7 (List.mem_of_getElem? (i := 135) rfl) rfl
theorem u7_137 : (Jvm.Cond.instanceMethod ({ cls := "GapLinksModel", name := "leaves", desc := "(II)V" } : Jvm.MethodName)) ∈ UU := tb_7 (List.mem_of_getElem? (i := 137) rfl) rfl
theorem u7_138 : (Jvm.Cond.code ({ cls := "GapLinksModel", name := "leaves", desc := "(II)V" } : Jvm.MethodName) prog_10_method_65_code (8 : Nat) (Option.none : Option Jvm.ClassFile.FieldType)) ∈ UU := tb_7 (List.mem_of_getElem? (i := 138) rfl) rfl
theorem u7_139 : (Jvm.Cond.methodLink "GapLinksModel" (287 : Nat) ({ cls := "GapLinksModel", name := "arrivesAtEnd", desc := "(IIIII)V" } : Jvm.MethodName)) ∈ UU := tb_7 (List.mem_of_getElem? (i := 139) rfl) rfl
theorem u7_141 : (Jvm.Cond.instanceMethod ({ cls := "GapLinksModel", name := "arrivesAtEnd", desc := "(IIIII)V" } : Jvm.MethodName)) ∈ UU := tb_7 (List.mem_of_getElem? (i := 141) rfl) rfl
theorem u7_142 : (Jvm.Cond.code ({ cls := "GapLinksModel", name := "arrivesAtEnd", desc := "(IIIII)V" } : Jvm.MethodName) prog_10_method_64_code (9 : Nat) (Option.none : Option Jvm.ClassFile.FieldType)) ∈ UU := tb_7 (List.mem_of_getElem? (i := 142) rfl) rfl
theorem u7_143 : (Jvm.Cond.methodLink "GapLinksModel" (277 : Nat) ({ cls := "GapLinksModel", name := "isWhole", desc := "(III)Z" } : Jvm.MethodName)) ∈ UU := tb_7 (List.mem_of_getElem? (i := 143) rfl) rfl
theorem u7_145 : (Jvm.Cond.instanceMethod ({ cls := "GapLinksModel", name := "isWhole", desc := "(III)Z" } : Jvm.MethodName)) ∈ UU := tb_7 (List.mem_of_getElem? (i := 145) rfl) rfl
theorem u7_146 : (Jvm.Cond.code ({ cls := "GapLinksModel", name := "isWhole", desc := "(III)Z" } : Jvm.MethodName) prog_10_method_60_code (5 : Nat) (Option.some Jvm.ClassFile.FieldType.boolean)) ∈ UU := tb_7 (List.mem_of_getElem? (i := 146) rfl) rfl
theorem u7_147 : (Jvm.Cond.methodLink "GapLinksModel" (280 : Nat) ({ cls := "GapLinksModel", name := "isTaken", desc := "(II)Z" } : Jvm.MethodName)) ∈ UU := tb_7 (List.mem_of_getElem? (i := 147) rfl) rfl
theorem u7_149 : (Jvm.Cond.instanceMethod ({ cls := "GapLinksModel", name := "isTaken", desc := "(II)Z" } : Jvm.MethodName)) ∈ UU := tb_7 (List.mem_of_getElem? (i := 149) rfl) rfl
theorem u7_150 : (Jvm.Cond.code ({ cls := "GapLinksModel", name := "isTaken", desc := "(II)Z" } : Jvm.MethodName) prog_10_method_62_code (4 : Nat) (Option.some Jvm.ClassFile.FieldType.boolean)) ∈ UU := tb_7 (List.mem_of_getElem? (i := 150) rfl) rfl
theorem u7_151 : (Jvm.Cond.methodLink "GapLinksModel" (271 : Nat) ({ cls := "GapLinksModel", name := "ahead", desc := "(II)I" } : Jvm.MethodName)) ∈ UU := tb_7 (List.mem_of_getElem? (i := 151) rfl) rfl
theorem u7_152 : (Jvm.Cond.static ({ cls := "GapLinksModel", name := "ahead", desc := "(II)I" } : Jvm.MethodName)) ∈ UU := tb_7 (List.mem_of_getElem? (i := 152) rfl) rfl
theorem u7_153 : (Jvm.Cond.code ({ cls := "GapLinksModel", name := "ahead", desc := "(II)I" } : Jvm.MethodName) prog_10_method_61_code (2 : Nat) (Option.some Jvm.ClassFile.FieldType.int)) ∈ UU := tb_7 (List.mem_of_getElem? (i := 153) rfl) rfl
theorem u7_154 : (Jvm.Cond.methodLink "GapLinksModel" (283 : Nat) ({ cls := "GapLinksModel", name := "takes", desc := "(IIII)V" } : Jvm.MethodName)) ∈ UU := tb_7 (List.mem_of_getElem? (i := 154) rfl) rfl
theorem u7_156 : (Jvm.Cond.instanceMethod ({ cls := "GapLinksModel", name := "takes", desc := "(IIII)V" } : Jvm.MethodName)) ∈ UU := tb_7 (List.mem_of_getElem? (i := 156) rfl) rfl
theorem u7_157 : (Jvm.Cond.code ({ cls := "GapLinksModel", name := "takes", desc := "(IIII)V" } : Jvm.MethodName) prog_10_method_63_code (7 : Nat) (Option.none : Option Jvm.ClassFile.FieldType)) ∈ UU := tb_7 (List.mem_of_getElem? (i := 157) rfl) rfl
theorem u7_158 : (Jvm.Cond.methodLink "GapLinksModel" (291 : Nat) ({ cls := "GapLinksModel", name := "arrivesAtSwitch", desc := "(IIIII)V" } : Jvm.MethodName)) ∈ UU := tb_7 (List.mem_of_getElem? (i := 158) rfl) rfl
theorem u7_160 : (Jvm.Cond.instanceMethod ({ cls := "GapLinksModel", name := "arrivesAtSwitch", desc := "(IIIII)V" } : Jvm.MethodName)) ∈ UU := tb_7 (List.mem_of_getElem? (i := 160) rfl) rfl
theorem u7_161 : (Jvm.Cond.code ({ cls := "GapLinksModel", name := "arrivesAtSwitch", desc := "(IIIII)V" } : Jvm.MethodName) prog_10_method_59_code (9 : Nat) (Option.none : Option Jvm.ClassFile.FieldType)) ∈ UU := tb_7 (List.mem_of_getElem? (i := 161) rfl) rfl
theorem u7_162 : (Jvm.Cond.methodLink "GapLinksModel" (265 : Nat) ({ cls := "GapLinksModel", name := "switchBehind", desc := "(I)I" } : Jvm.MethodName)) ∈ UU := tb_7 (List.mem_of_getElem? (i := 162) rfl) rfl
theorem u7_164 : (Jvm.Cond.instanceMethod ({ cls := "GapLinksModel", name := "switchBehind", desc := "(I)I" } : Jvm.MethodName)) ∈ UU := tb_7 (List.mem_of_getElem? (i := 164) rfl) rfl
theorem u7_165 : (Jvm.Cond.code ({ cls := "GapLinksModel", name := "switchBehind", desc := "(I)I" } : Jvm.MethodName) prog_10_method_58_code (2 : Nat) (Option.some Jvm.ClassFile.FieldType.int)) ∈ UU := tb_7 (List.mem_of_getElem? (i := 165) rfl) rfl
theorem u7_166 : (Jvm.Cond.methodLink "GapLinksModel" (268 : Nat) ({ cls := "GapLinksModel", name := "liesBehind", desc := "(III)Z" } : Jvm.MethodName)) ∈ UU := tb_7 (List.mem_of_getElem? (i := 166) rfl) rfl
theorem u7_168 : (Jvm.Cond.instanceMethod ({ cls := "GapLinksModel", name := "liesBehind", desc := "(III)Z" } : Jvm.MethodName)) ∈ UU := tb_7 (List.mem_of_getElem? (i := 168) rfl) rfl
theorem u7_169 : (Jvm.Cond.code ({ cls := "GapLinksModel", name := "liesBehind", desc := "(III)Z" } : Jvm.MethodName) prog_10_method_57_code (7 : Nat) (Option.some Jvm.ClassFile.FieldType.boolean)) ∈ UU := tb_7 (List.mem_of_getElem? (i := 169) rfl) rfl
theorem u7_170 : (Jvm.Cond.methodLink "GapLinksModel" (301 : Nat) ({ cls := "GapLinksModel", name := "sends", desc := "(II)V" } : Jvm.MethodName)) ∈ UU := tb_7 (List.mem_of_getElem? (i := 170) rfl) rfl
theorem u7_172 : (Jvm.Cond.instanceMethod ({ cls := "GapLinksModel", name := "sends", desc := "(II)V" } : Jvm.MethodName)) ∈ UU := tb_7 (List.mem_of_getElem? (i := 172) rfl) rfl
theorem u7_173 : (Jvm.Cond.code ({ cls := "GapLinksModel", name := "sends", desc := "(II)V" } : Jvm.MethodName) prog_10_method_66_code (6 : Nat) (Option.none : Option Jvm.ClassFile.FieldType)) ∈ UU := tb_7 (List.mem_of_getElem? (i := 173) rfl) rfl
theorem u7_174 : (Jvm.Cond.methodLink "GapLinksLaw" (161 : Nat) ({ cls := "GapLinksModel", name := "willHear", desc := "(IIII)I" } : Jvm.MethodName)) ∈ UU := tb_7 (List.mem_of_getElem? (i := 174) rfl) rfl
theorem u7_175 : (Jvm.Cond.instanceMethod ({ cls := "GapLinksModel", name := "willHear", desc := "(IIII)I" } : Jvm.MethodName)) ∈ UU := tb_7 (List.mem_of_getElem? (i := 175) rfl) rfl
theorem u7_176 : (Jvm.Cond.selects "GapLinksModel" ({ cls := "GapLinksModel", name := "willHear", desc := "(IIII)I" } : Jvm.MethodName) ({ cls := "GapLinksModel", name := "willHear", desc := "(IIII)I" } : Jvm.MethodName)) ∈ UU := tb_7 (List.mem_of_getElem? (i := 176) rfl) rfl
theorem u7_177 : (Jvm.Cond.code ({ cls := "GapLinksModel", name := "willHear", desc := "(IIII)I" } : Jvm.MethodName) prog_10_method_100_code (6 : Nat) (Option.some Jvm.ClassFile.FieldType.int)) ∈ UU := tb_7 (List.mem_of_getElem? (i := 177) rfl) rfl
theorem u7_178 : (Jvm.Cond.methodLink "GapLinksModel" (348 : Nat) ({ cls := "GapLinksModel", name := "laysAside", desc := "()V" } : Jvm.MethodName)) ∈ UU := tb_7 (List.mem_of_getElem? (i := 178) rfl) rfl
theorem u7_180 : (Jvm.Cond.instanceMethod ({ cls := "GapLinksModel", name := "laysAside", desc := "()V" } : Jvm.MethodName)) ∈ UU := tb_7 (List.mem_of_getElem? (i := 180) rfl) rfl
theorem u7_181 : (Jvm.Cond.code ({ cls := "GapLinksModel", name := "laysAside", desc := "()V" } : Jvm.MethodName) prog_10_method_52_code (2 : Nat) (Option.none : Option Jvm.ClassFile.FieldType)) ∈ UU := tb_7 (List.mem_of_getElem? (i := 181) rfl) rfl
theorem u7_182 : (Jvm.Cond.methodLink "GapLinksModel" (351 : Nat) ({ cls := "GapLinksModel", name := "takesBack", desc := "()V" } : Jvm.MethodName)) ∈ UU := tb_7 (List.mem_of_getElem? (i := 182) rfl) rfl
theorem u7_184 : (Jvm.Cond.instanceMethod ({ cls := "GapLinksModel", name := "takesBack", desc := "()V" } : Jvm.MethodName)) ∈ UU := tb_7 (List.mem_of_getElem? (i := 184) rfl) rfl
theorem u7_185 : (Jvm.Cond.code ({ cls := "GapLinksModel", name := "takesBack", desc := "()V" } : Jvm.MethodName) prog_10_method_53_code (2 : Nat) (Option.none : Option Jvm.ClassFile.FieldType)) ∈ UU := tb_7 (List.mem_of_getElem? (i := 185) rfl) rfl
theorem u7_186 : (Jvm.Cond.methodLink "GapLinksLaw" (165 : Nat) ({ cls := "GapLinksModel", name := "willLose", desc := "(III)I" } : Jvm.MethodName)) ∈ UU := tb_7 (List.mem_of_getElem? (i := 186) rfl) rfl
theorem u7_187 : (Jvm.Cond.instanceMethod ({ cls := "GapLinksModel", name := "willLose", desc := "(III)I" } : Jvm.MethodName)) ∈ UU := tb_7 (List.mem_of_getElem? (i := 187) rfl) rfl
theorem u7_188 : (Jvm.Cond.selects "GapLinksModel" ({ cls := "GapLinksModel", name := "willLose", desc := "(III)I" } : Jvm.MethodName) ({ cls := "GapLinksModel", name := "willLose", desc := "(III)I" } : Jvm.MethodName)) ∈ UU := tb_7 (List.mem_of_getElem? (i := 188) rfl) rfl
theorem u7_189 : (Jvm.Cond.code ({ cls := "GapLinksModel", name := "willLose", desc := "(III)I" } : Jvm.MethodName) prog_10_method_101_code (5 : Nat) (Option.some Jvm.ClassFile.FieldType.int)) ∈ UU := tb_7 (List.mem_of_getElem? (i := 189) rfl) rfl
theorem u7_190 : (Jvm.Cond.methodLink "GapLinksLaw" (169 : Nat) ({ cls := "GapLinksModel", name := "quiet", desc := "()I" } : Jvm.MethodName)) ∈ UU := tb_7 (List.mem_of_getElem? (i := 190) rfl) rfl
theorem u7_191 : (Jvm.Cond.instanceMethod ({ cls := "GapLinksModel", name := "quiet", desc := "()I" } : Jvm.MethodName)) ∈ UU := tb_7 (List.mem_of_getElem? (i := 191) rfl) rfl
theorem u7_192 : (Jvm.Cond.selects "GapLinksModel" ({ cls := "GapLinksModel", name := "quiet", desc := "()I" } : Jvm.MethodName) ({ cls := "GapLinksModel", name := "quiet", desc := "()I" } : Jvm.MethodName)) ∈ UU := tb_7 (List.mem_of_getElem? (i := 192) rfl) rfl
theorem u7_193 : (Jvm.Cond.code ({ cls := "GapLinksModel", name := "quiet", desc := "()I" } : Jvm.MethodName) prog_10_method_104_code (2 : Nat) (Option.some Jvm.ClassFile.FieldType.int)) ∈ UU := tb_7 (List.mem_of_getElem? (i := 193) rfl) rfl
theorem u7_194 : (Jvm.Cond.methodLink "GapLinksModel" (354 : Nat) ({ cls := "GapLinksModel", name := "waitingMany", desc := "()I" } : Jvm.MethodName)) ∈ UU := tb_7 (List.mem_of_getElem? (i := 194) rfl) rfl
theorem u7_196 : (Jvm.Cond.instanceMethod ({ cls := "GapLinksModel", name := "waitingMany", desc := "()I" } : Jvm.MethodName)) ∈ UU := tb_7 (List.mem_of_getElem? (i := 196) rfl) rfl
theorem u7_197 : (Jvm.Cond.code ({ cls := "GapLinksModel", name := "waitingMany", desc := "()I" } : Jvm.MethodName) prog_10_method_102_code (3 : Nat) (Option.some Jvm.ClassFile.FieldType.int)) ∈ UU := tb_7 (List.mem_of_getElem? (i := 197) rfl) rfl
theorem u7_198 : (Jvm.Cond.methodLink "GapLinksModel" (357 : Nat) ({ cls := "GapLinksModel", name := "frameMany", desc := "()I" } : Jvm.MethodName)) ∈ UU := tb_7 (List.mem_of_getElem? (i := 198) rfl) rfl
theorem u7_200 : (Jvm.Cond.instanceMethod ({ cls := "GapLinksModel", name := "frameMany", desc := "()I" } : Jvm.MethodName)) ∈ UU := tb_7 (List.mem_of_getElem? (i := 200) rfl) rfl
theorem u7_201 : (Jvm.Cond.code ({ cls := "GapLinksModel", name := "frameMany", desc := "()I" } : Jvm.MethodName) prog_10_method_103_code (3 : Nat) (Option.some Jvm.ClassFile.FieldType.int)) ∈ UU := tb_7 (List.mem_of_getElem? (i := 201) rfl) rfl
theorem u7_202 : (Jvm.Cond.methodLink "GapLinksLaw" (174 : Nat) ({ cls := "GapLinksModel", name := "keep", desc := "()Z" } : Jvm.MethodName)) ∈ UU := tb_7 (List.mem_of_getElem? (i := 202) rfl) rfl
theorem u7_203 : (Jvm.Cond.instanceMethod ({ cls := "GapLinksModel", name := "keep", desc := "()Z" } : Jvm.MethodName)) ∈ UU := tb_7 (List.mem_of_getElem? (i := 203) rfl) rfl
theorem u7_204 : (Jvm.Cond.selects "GapLinksModel" ({ cls := "GapLinksModel", name := "keep", desc := "()Z" } : Jvm.MethodName) ({ cls := "GapLinksModel", name := "keep", desc := "()Z" } : Jvm.MethodName)) ∈ UU := tb_7 (List.mem_of_getElem? (i := 204) rfl) rfl
theorem u7_205 : (Jvm.Cond.code ({ cls := "GapLinksModel", name := "keep", desc := "()Z" } : Jvm.MethodName) prog_10_method_105_code (2 : Nat) (Option.some Jvm.ClassFile.FieldType.boolean)) ∈ UU := tb_7 (List.mem_of_getElem? (i := 205) rfl) rfl
theorem u7_206 : (Jvm.Cond.methodLink "GapLinksLaw" (178 : Nat) ({ cls := "GapLinksModel", name := "back", desc := "()Z" } : Jvm.MethodName)) ∈ UU := tb_7 (List.mem_of_getElem? (i := 206) rfl) rfl
theorem u7_207 : (Jvm.Cond.instanceMethod ({ cls := "GapLinksModel", name := "back", desc := "()Z" } : Jvm.MethodName)) ∈ UU := tb_7 (List.mem_of_getElem? (i := 207) rfl) rfl
theorem u7_208 : (Jvm.Cond.selects "GapLinksModel" ({ cls := "GapLinksModel", name := "back", desc := "()Z" } : Jvm.MethodName) ({ cls := "GapLinksModel", name := "back", desc := "()Z" } : Jvm.MethodName)) ∈ UU := tb_7 (List.mem_of_getElem? (i := 208) rfl) rfl
theorem u7_209 : (Jvm.Cond.code ({ cls := "GapLinksModel", name := "back", desc := "()Z" } : Jvm.MethodName) prog_10_method_106_code (2 : Nat) (Option.some Jvm.ClassFile.FieldType.boolean)) ∈ UU := tb_7 (List.mem_of_getElem? (i := 209) rfl) rfl
theorem u7_210 : (Jvm.Cond.methodLink "GapLinksLaw" (184 : Nat) ({ cls := "GapLinksModel", name := "silent", desc := "(I)I" } : Jvm.MethodName)) ∈ UU := tb_7 (List.mem_of_getElem? (i := 210) rfl) rfl
theorem u7_211 : (Jvm.Cond.instanceMethod ({ cls := "GapLinksModel", name := "silent", desc := "(I)I" } : Jvm.MethodName)) ∈ UU := tb_7 (List.mem_of_getElem? (i := 211) rfl) rfl
theorem u7_212 : (Jvm.Cond.selects "GapLinksModel" ({ cls := "GapLinksModel", name := "silent", desc := "(I)I" } : Jvm.MethodName) ({ cls := "GapLinksModel", name := "silent", desc := "(I)I" } : Jvm.MethodName)) ∈ UU := tb_7 (List.mem_of_getElem? (i := 212) rfl) rfl
theorem u7_213 : (Jvm.Cond.code ({ cls := "GapLinksModel", name := "silent", desc := "(I)I" } : Jvm.MethodName) prog_10_method_108_code (4 : Nat) (Option.some Jvm.ClassFile.FieldType.int)) ∈ UU := tb_7 (List.mem_of_getElem? (i := 213) rfl) rfl
theorem u7_214 : (Jvm.Cond.methodLink "GapLinksModel" (360 : Nat) ({ cls := "GapLinksModel", name := "isSilent", desc := "(I)Z" } : Jvm.MethodName)) ∈ UU := tb_7 (List.mem_of_getElem? (i := 214) rfl) rfl
theorem u7_216 : (Jvm.Cond.instanceMethod ({ cls := "GapLinksModel", name := "isSilent", desc := "(I)Z" } : Jvm.MethodName)) ∈ UU := tb_7 (List.mem_of_getElem? (i := 216) rfl) rfl
theorem u7_217 : (Jvm.Cond.code ({ cls := "GapLinksModel", name := "isSilent", desc := "(I)Z" } : Jvm.MethodName) prog_10_method_107_code (3 : Nat) (Option.some Jvm.ClassFile.FieldType.boolean)) ∈ UU := tb_7 (List.mem_of_getElem? (i := 217) rfl) rfl
theorem u7_218 : (Jvm.Cond.methodLink "GapLinksLaw" (191 : Nat) ({ cls := "GapLinksModel", name := "size", desc := "(I)I" } : Jvm.MethodName)) ∈ UU := tb_7 (List.mem_of_getElem? (i := 218) rfl) rfl
theorem u7_219 : (Jvm.Cond.instanceMethod ({ cls := "GapLinksModel", name := "size", desc := "(I)I" } : Jvm.MethodName)) ∈ UU := tb_7 (List.mem_of_getElem? (i := 219) rfl) rfl
theorem u7_220 : (Jvm.Cond.selects "GapLinksModel" ({ cls := "GapLinksModel", name := "size", desc := "(I)I" } : Jvm.MethodName) ({ cls := "GapLinksModel", name := "size", desc := "(I)I" } : Jvm.MethodName)) ∈ UU := tb_7 (List.mem_of_getElem? (i := 220) rfl) rfl
theorem u7_221 : (Jvm.Cond.code ({ cls := "GapLinksModel", name := "size", desc := "(I)I" } : Jvm.MethodName) prog_10_method_110_code (2 : Nat) (Option.some Jvm.ClassFile.FieldType.int)) ∈ UU := tb_7 (List.mem_of_getElem? (i := 221) rfl) rfl
theorem u7_222 : (Jvm.Cond.methodLink "GapLinksModel" (363 : Nat) ({ cls := "GapLinksModel", name := "receiverMany", desc := "()I" } : Jvm.MethodName)) ∈ UU := tb_7 (List.mem_of_getElem? (i := 222) rfl) rfl
theorem u7_224 : (Jvm.Cond.instanceMethod ({ cls := "GapLinksModel", name := "receiverMany", desc := "()I" } : Jvm.MethodName)) ∈ UU := tb_7 (List.mem_of_getElem? (i := 224) rfl) rfl
theorem u7_225 : (Jvm.Cond.code ({ cls := "GapLinksModel", name := "receiverMany", desc := "()I" } : Jvm.MethodName) prog_10_method_109_code (3 : Nat) (Option.some Jvm.ClassFile.FieldType.int)) ∈ UU := tb_7 (List.mem_of_getElem? (i := 225) rfl) rfl
theorem u7_226 : (Jvm.Cond.methodLink "GapLinksLaw" (195 : Nat) ({ cls := "GapLinksModel", name := "trouble", desc := "()I" } : Jvm.MethodName)) ∈ UU := tb_7 (List.mem_of_getElem? (i := 226) rfl) rfl
theorem u7_227 : (Jvm.Cond.instanceMethod ({ cls := "GapLinksModel", name := "trouble", desc := "()I" } : Jvm.MethodName)) ∈ UU := tb_7 (List.mem_of_getElem? (i := 227) rfl) rfl
theorem u7_228 : (Jvm.Cond.selects "GapLinksModel" ({ cls := "GapLinksModel", name := "trouble", desc := "()I" } : Jvm.MethodName) ({ cls := "GapLinksModel", name := "trouble", desc := "()I" } : Jvm.MethodName)) ∈ UU := tb_7 (List.mem_of_getElem? (i := 228) rfl) rfl
theorem u7_229 : (Jvm.Cond.code ({ cls := "GapLinksModel", name := "trouble", desc := "()I" } : Jvm.MethodName) prog_10_method_111_code (1 : Nat) (Option.some Jvm.ClassFile.FieldType.int)) ∈ UU := tb_7 (List.mem_of_getElem? (i := 229) rfl) rfl
theorem u7_230 : (Jvm.Cond.constantLong "GapLinksLaw" (54 : Nat) (4294967295 : Int64)) ∈ UU := tb_7 (List.mem_of_getElem? (i := 230) rfl) rfl
theorem u7_231 : (Jvm.Cond.sameMethod "java/lang/Throwable" "java/lang/Throwable" "fillInStackTrace" "(I)Ljava/lang/Throwable;") ∈ UU := tb_7 (List.mem_of_getElem? (i := 231) rfl) rfl
theorem u8_4 : (Jvm.Cond.fieldLink "java/lang/String" (9 : Nat) "java/lang/String" "value" "[B") ∈ UU := tb_8 (List.mem_of_getElem? (i := 4) rfl) rfl
theorem u8_5 : (Jvm.Cond.fieldLink "java/lang/String" (15 : Nat) "java/lang/String" "coder" "B") ∈ UU := tb_8 (List.mem_of_getElem? (i := 5) rfl) rfl
theorem us1_0 : Cond.selects "GapLinks" ⟨"GapLinks", "refuse", "(I)I"⟩ ⟨"GapLinks", "refuse", "(I)I"⟩ ∈ UU := pv_1 (List.mem_of_getElem? (i := 0) rfl)
theorem us1_1 : Cond.selects "GapLinks$Reader" ⟨"GapLinks$Reader", "step", "()V"⟩ ⟨"GapLinks$Reader", "step", "()V"⟩ ∈ UU := pv_1 (List.mem_of_getElem? (i := 1) rfl)
theorem us1_2 : Cond.selects "GapLinks$Reader" ⟨"GapLinks$Reader", "stepWord", "()V"⟩ ⟨"GapLinks$Reader", "stepWord", "()V"⟩ ∈ UU := pv_1 (List.mem_of_getElem? (i := 2) rfl)
theorem us1_3 : Cond.selects "GapLinks$Reader" ⟨"GapLinks$Reader", "stepWhole", "()V"⟩ ⟨"GapLinks$Reader", "stepWhole", "()V"⟩ ∈ UU := pv_1 (List.mem_of_getElem? (i := 3) rfl)
theorem us1_4 : Cond.selects "GapLinks$Reader" ⟨"GapLinks$Reader", "isWord", "(J)Z"⟩ ⟨"GapLinks$Reader", "isWord", "(J)Z"⟩ ∈ UU := pv_1 (List.mem_of_getElem? (i := 4) rfl)
theorem us1_5 : Cond.selects "GapLinks$Reader" ⟨"GapLinks$Reader", "readBus", "()V"⟩ ⟨"GapLinks$Reader", "readBus", "()V"⟩ ∈ UU := pv_1 (List.mem_of_getElem? (i := 5) rfl)
theorem us1_6 : Cond.selects "GapLinks$Reader" ⟨"GapLinks$Reader", "fail", "(I)V"⟩ ⟨"GapLinks$Reader", "fail", "(I)V"⟩ ∈ UU := pv_1 (List.mem_of_getElem? (i := 6) rfl)
theorem us1_7 : Cond.selects "GapLinks$Reader" ⟨"GapLinks$Reader", "pass", "(J)V"⟩ ⟨"GapLinks$Reader", "pass", "(J)V"⟩ ∈ UU := pv_1 (List.mem_of_getElem? (i := 7) rfl)
theorem us1_8 : Cond.selects "GapLinks$Reader" ⟨"GapLinks$Reader", "wholeWithin", "(II)I"⟩ ⟨"GapLinks$Reader", "wholeWithin", "(II)I"⟩ ∈ UU := pv_1 (List.mem_of_getElem? (i := 8) rfl)
theorem us1_9 : Cond.selects "GapLinks$Reader" ⟨"GapLinks$Reader", "checkedWhole", "(Z)I"⟩ ⟨"GapLinks$Reader", "checkedWhole", "(Z)I"⟩ ∈ UU := pv_1 (List.mem_of_getElem? (i := 9) rfl)
theorem us1_10 : Cond.selects "GapLinks$Reader" ⟨"GapLinks$Reader", "readEnd", "()V"⟩ ⟨"GapLinks$Reader", "readEnd", "()V"⟩ ∈ UU := pv_1 (List.mem_of_getElem? (i := 10) rfl)
theorem us1_11 : Cond.selects "GapLinks$Reader" ⟨"GapLinks$Reader", "beginLine", "(II)V"⟩ ⟨"GapLinks$Reader", "beginLine", "(II)V"⟩ ∈ UU := pv_1 (List.mem_of_getElem? (i := 11) rfl)
theorem us1_12 : Cond.selects "GapLinks$Reader" ⟨"GapLinks$Reader", "newName", "()J"⟩ ⟨"GapLinks$Reader", "newName", "()J"⟩ ∈ UU := pv_1 (List.mem_of_getElem? (i := 12) rfl)
theorem us1_13 : Cond.selects "GapLinks$Reader" ⟨"GapLinks$Reader", "isName", "()Z"⟩ ⟨"GapLinks$Reader", "isName", "()Z"⟩ ∈ UU := pv_1 (List.mem_of_getElem? (i := 13) rfl)
theorem us1_14 : Cond.selects "GapLinks$Reader" ⟨"GapLinks$Reader", "readLink", "()V"⟩ ⟨"GapLinks$Reader", "readLink", "()V"⟩ ∈ UU := pv_1 (List.mem_of_getElem? (i := 14) rfl)
theorem us1_15 : Cond.selects "GapLinks$Reader" ⟨"GapLinks$Reader", "knownEnd", "()I"⟩ ⟨"GapLinks$Reader", "knownEnd", "()I"⟩ ∈ UU := pv_1 (List.mem_of_getElem? (i := 15) rfl)
theorem us2_0 : Cond.selects "GapLinks$Reader" ⟨"GapLinks$Reader", "wholeGap", "()I"⟩ ⟨"GapLinks$Reader", "wholeGap", "()I"⟩ ∈ UU := pv_2 (List.mem_of_getElem? (i := 0) rfl)
theorem us2_1 : Cond.selects "GapLinks$Reader" ⟨"GapLinks$Reader", "readReceivers", "(I)V"⟩ ⟨"GapLinks$Reader", "readReceivers", "(I)V"⟩ ∈ UU := pv_2 (List.mem_of_getElem? (i := 1) rfl)
theorem us2_2 : Cond.selects "GapLinks$Ways" ⟨"GapLinks$Ways", "layOne", "(LGapLinks$Plan;II)V"⟩ ⟨"GapLinks$Ways", "layOne", "(LGapLinks$Plan;II)V"⟩ ∈ UU := pv_2 (List.mem_of_getElem? (i := 2) rfl)
theorem us2_3 : Cond.selects "GapLinks$Ways" ⟨"GapLinks$Ways", "lengthen", "(III)V"⟩ ⟨"GapLinks$Ways", "lengthen", "(III)V"⟩ ∈ UU := pv_2 (List.mem_of_getElem? (i := 3) rfl)
theorem us2_4 : Cond.selects "GapLinks$Envelope" ⟨"GapLinks$Envelope", "burstsThrough", "(LGapLinks$Plan;I)J"⟩ ⟨"GapLinks$Envelope", "burstsThrough", "(LGapLinks$Plan;I)J"⟩ ∈ UU := pv_2 (List.mem_of_getElem? (i := 4) rfl)
theorem us2_5 : Cond.selects "GapLinks$Envelope" ⟨"GapLinks$Envelope", "burstAt", "(LGapLinks$Plan;II)J"⟩ ⟨"GapLinks$Envelope", "burstAt", "(LGapLinks$Plan;II)J"⟩ ∈ UU := pv_2 (List.mem_of_getElem? (i := 5) rfl)
theorem us2_6 : Cond.selects "GapLinks" ⟨"GapLinks", "answer", "(I)I"⟩ ⟨"GapLinks", "answer", "(I)I"⟩ ∈ UU := pv_2 (List.mem_of_getElem? (i := 6) rfl)
theorem us2_7 : Cond.selects "GapLinks" ⟨"GapLinks", "noBus", "()Z"⟩ ⟨"GapLinks", "noBus", "()Z"⟩ ∈ UU := pv_2 (List.mem_of_getElem? (i := 7) rfl)
theorem us2_8 : Cond.selects "GapLinks" ⟨"GapLinks", "hasPortOnWay", "(III)Z"⟩ ⟨"GapLinks", "hasPortOnWay", "(III)Z"⟩ ∈ UU := pv_2 (List.mem_of_getElem? (i := 8) rfl)
theorem us2_9 : Cond.selects "GapLinks" ⟨"GapLinks", "part", "(JZ)J"⟩ ⟨"GapLinks", "part", "(JZ)J"⟩ ∈ UU := pv_2 (List.mem_of_getElem? (i := 9) rfl)
theorem us2_10 : Cond.selects "GapLinks$State" ⟨"GapLinks$State", "nextChange", "(LGapLinks$Plan;I)I"⟩ ⟨"GapLinks$State", "nextChange", "(LGapLinks$Plan;I)I"⟩ ∈ UU := pv_2 (List.mem_of_getElem? (i := 10) rfl)
theorem us2_11 : Cond.selects "GapLinks$State" ⟨"GapLinks$State", "growCredit", "(LGapLinks$Plan;I)V"⟩ ⟨"GapLinks$State", "growCredit", "(LGapLinks$Plan;I)V"⟩ ∈ UU := pv_2 (List.mem_of_getElem? (i := 11) rfl)
theorem us2_12 : Cond.selects "GapLinks$State" ⟨"GapLinks$State", "deliver", "(LGapLinks$Plan;)V"⟩ ⟨"GapLinks$State", "deliver", "(LGapLinks$Plan;)V"⟩ ∈ UU := pv_2 (List.mem_of_getElem? (i := 12) rfl)
theorem us2_13 : Cond.selects "GapLinks$State" ⟨"GapLinks$State", "arriveAtEnd", "(LGapLinks$Plan;II)V"⟩ ⟨"GapLinks$State", "arriveAtEnd", "(LGapLinks$Plan;II)V"⟩ ∈ UU := pv_2 (List.mem_of_getElem? (i := 13) rfl)
theorem us2_14 : Cond.selects "GapLinks$Ears" ⟨"GapLinks$Ears", "isFresh", "(LGapLinks$Plan;III)Z"⟩ ⟨"GapLinks$Ears", "isFresh", "(LGapLinks$Plan;III)Z"⟩ ∈ UU := pv_2 (List.mem_of_getElem? (i := 14) rfl)
theorem us2_15 : Cond.selects "GapLinks$Ears" ⟨"GapLinks$Ears", "take", "(IIIII)V"⟩ ⟨"GapLinks$Ears", "take", "(IIIII)V"⟩ ∈ UU := pv_2 (List.mem_of_getElem? (i := 15) rfl)
theorem us3_0 : Cond.selects "GapLinks$State" ⟨"GapLinks$State", "arriveAtSwitch", "(LGapLinks$Plan;II)V"⟩ ⟨"GapLinks$State", "arriveAtSwitch", "(LGapLinks$Plan;II)V"⟩ ∈ UU := pv_3 (List.mem_of_getElem? (i := 0) rfl)
theorem us3_1 : Cond.selects "GapLinks$State" ⟨"GapLinks$State", "paysCredit", "(LGapLinks$Plan;II)Z"⟩ ⟨"GapLinks$State", "paysCredit", "(LGapLinks$Plan;II)Z"⟩ ∈ UU := pv_3 (List.mem_of_getElem? (i := 1) rfl)
theorem us3_2 : Cond.selects "GapLinks$State" ⟨"GapLinks$State", "spread", "(LGapLinks$Plan;III)V"⟩ ⟨"GapLinks$State", "spread", "(LGapLinks$Plan;III)V"⟩ ∈ UU := pv_3 (List.mem_of_getElem? (i := 2) rfl)
theorem us3_3 : Cond.selects "GapLinks$State" ⟨"GapLinks$State", "release", "(LGapLinks$Plan;)V"⟩ ⟨"GapLinks$State", "release", "(LGapLinks$Plan;)V"⟩ ∈ UU := pv_3 (List.mem_of_getElem? (i := 3) rfl)
theorem us3_4 : Cond.selects "GapLinks$State" ⟨"GapLinks$State", "beginSending", "(LGapLinks$Plan;)V"⟩ ⟨"GapLinks$State", "beginSending", "(LGapLinks$Plan;)V"⟩ ∈ UU := pv_3 (List.mem_of_getElem? (i := 4) rfl)
theorem us3_5 : Cond.selects "java/lang/Throwable" ⟨"java/lang/Throwable", "fillInStackTrace", "(I)Ljava/lang/Throwable;"⟩ ⟨"java/lang/Throwable", "fillInStackTrace", "(I)Ljava/lang/Throwable;"⟩ ∈ UU := pv_3 (List.mem_of_getElem? (i := 5) rfl)
theorem us3_6 : Cond.selects "GapLinksModel" ⟨"GapLinksModel", "laysWord", "(I)V"⟩ ⟨"GapLinksModel", "laysWord", "(I)V"⟩ ∈ UU := pv_3 (List.mem_of_getElem? (i := 6) rfl)
theorem us3_7 : Cond.selects "GapLinksModel" ⟨"GapLinksModel", "fresh", "()V"⟩ ⟨"GapLinksModel", "fresh", "()V"⟩ ∈ UU := pv_3 (List.mem_of_getElem? (i := 7) rfl)
theorem us3_8 : Cond.selects "GapLinksModel" ⟨"GapLinksModel", "no", "(I)I"⟩ ⟨"GapLinksModel", "no", "(I)I"⟩ ∈ UU := pv_3 (List.mem_of_getElem? (i := 8) rfl)
theorem us3_9 : Cond.selects "GapLinksModel" ⟨"GapLinksModel", "readAll", "(I)I"⟩ ⟨"GapLinksModel", "readAll", "(I)I"⟩ ∈ UU := pv_3 (List.mem_of_getElem? (i := 9) rfl)
theorem us3_10 : Cond.selects "GapLinksModel" ⟨"GapLinksModel", "goesOn", "()V"⟩ ⟨"GapLinksModel", "goesOn", "()V"⟩ ∈ UU := pv_3 (List.mem_of_getElem? (i := 10) rfl)
theorem us3_11 : Cond.selects "GapLinksModel" ⟨"GapLinksModel", "see", "(I)I"⟩ ⟨"GapLinksModel", "see", "(I)I"⟩ ∈ UU := pv_3 (List.mem_of_getElem? (i := 11) rfl)
theorem us3_12 : Cond.selects "GapLinksModel" ⟨"GapLinksModel", "readsWord", "()V"⟩ ⟨"GapLinksModel", "readsWord", "()V"⟩ ∈ UU := pv_3 (List.mem_of_getElem? (i := 12) rfl)
theorem us3_13 : Cond.selects "GapLinksModel" ⟨"GapLinksModel", "readLine", "()I"⟩ ⟨"GapLinksModel", "readLine", "()I"⟩ ∈ UU := pv_3 (List.mem_of_getElem? (i := 13) rfl)
theorem us3_14 : Cond.selects "GapLinksModel" ⟨"GapLinksModel", "isWord", "(Ljava/lang/String;)Z"⟩ ⟨"GapLinksModel", "isWord", "(Ljava/lang/String;)Z"⟩ ∈ UU := pv_3 (List.mem_of_getElem? (i := 14) rfl)
theorem us3_15 : Cond.selects "GapLinksModel" ⟨"GapLinksModel", "readBus", "()I"⟩ ⟨"GapLinksModel", "readBus", "()I"⟩ ∈ UU := pv_3 (List.mem_of_getElem? (i := 15) rfl)
theorem us4_0 : Cond.selects "GapLinksModel" ⟨"GapLinksModel", "errs", "(I)I"⟩ ⟨"GapLinksModel", "errs", "(I)I"⟩ ∈ UU := pv_4 (List.mem_of_getElem? (i := 0) rfl)
theorem us4_1 : Cond.selects "GapLinksModel" ⟨"GapLinksModel", "after", "(Ljava/lang/String;II)I"⟩ ⟨"GapLinksModel", "after", "(Ljava/lang/String;II)I"⟩ ∈ UU := pv_4 (List.mem_of_getElem? (i := 1) rfl)
theorem us4_2 : Cond.selects "GapLinksModel" ⟨"GapLinksModel", "passes", "(II)I"⟩ ⟨"GapLinksModel", "passes", "(II)I"⟩ ∈ UU := pv_4 (List.mem_of_getElem? (i := 2) rfl)
theorem us4_3 : Cond.selects "GapLinksModel" ⟨"GapLinksModel", "readEnd", "()I"⟩ ⟨"GapLinksModel", "readEnd", "()I"⟩ ∈ UU := pv_4 (List.mem_of_getElem? (i := 3) rfl)
theorem us4_4 : Cond.selects "GapLinksModel" ⟨"GapLinksModel", "newName", "(I)I"⟩ ⟨"GapLinksModel", "newName", "(I)I"⟩ ∈ UU := pv_4 (List.mem_of_getElem? (i := 4) rfl)
theorem us4_5 : Cond.selects "GapLinksModel" ⟨"GapLinksModel", "isName", "()Z"⟩ ⟨"GapLinksModel", "isName", "()Z"⟩ ∈ UU := pv_4 (List.mem_of_getElem? (i := 5) rfl)
theorem us4_6 : Cond.selects "GapLinksModel" ⟨"GapLinksModel", "told", "()I"⟩ ⟨"GapLinksModel", "told", "()I"⟩ ∈ UU := pv_4 (List.mem_of_getElem? (i := 6) rfl)
theorem us4_7 : Cond.selects "GapLinksModel" ⟨"GapLinksModel", "readLink", "()I"⟩ ⟨"GapLinksModel", "readLink", "()I"⟩ ∈ UU := pv_4 (List.mem_of_getElem? (i := 7) rfl)
theorem us4_8 : Cond.selects "GapLinksModel" ⟨"GapLinksModel", "endHere", "()I"⟩ ⟨"GapLinksModel", "endHere", "()I"⟩ ∈ UU := pv_4 (List.mem_of_getElem? (i := 8) rfl)
theorem us4_9 : Cond.selects "GapLinksModel" ⟨"GapLinksModel", "readGap", "()I"⟩ ⟨"GapLinksModel", "readGap", "()I"⟩ ∈ UU := pv_4 (List.mem_of_getElem? (i := 9) rfl)
theorem us4_10 : Cond.selects "GapLinksModel" ⟨"GapLinksModel", "readReceiver", "(I)I"⟩ ⟨"GapLinksModel", "readReceiver", "(I)I"⟩ ∈ UU := pv_4 (List.mem_of_getElem? (i := 10) rfl)
theorem us4_11 : Cond.selects "GapLinksModel" ⟨"GapLinksModel", "isHeard", "(II)Z"⟩ ⟨"GapLinksModel", "isHeard", "(II)Z"⟩ ∈ UU := pv_4 (List.mem_of_getElem? (i := 11) rfl)
theorem us4_12 : Cond.selects "GapLinksModel" ⟨"GapLinksModel", "begins", "()V"⟩ ⟨"GapLinksModel", "begins", "()V"⟩ ∈ UU := pv_4 (List.mem_of_getElem? (i := 12) rfl)
theorem us4_13 : Cond.selects "GapLinksModel" ⟨"GapLinksModel", "mostCredit", "(I)I"⟩ ⟨"GapLinksModel", "mostCredit", "(I)I"⟩ ∈ UU := pv_4 (List.mem_of_getElem? (i := 13) rfl)
theorem us4_14 : Cond.selects "GapLinksModel" ⟨"GapLinksModel", "linkOf", "(II)I"⟩ ⟨"GapLinksModel", "linkOf", "(II)I"⟩ ∈ UU := pv_4 (List.mem_of_getElem? (i := 14) rfl)
theorem us4_15 : Cond.selects "GapLinksModel" ⟨"GapLinksModel", "isEnd", "(I)Z"⟩ ⟨"GapLinksModel", "isEnd", "(I)Z"⟩ ∈ UU := pv_4 (List.mem_of_getElem? (i := 15) rfl)
theorem us5_0 : Cond.selects "GapLinksModel" ⟨"GapLinksModel", "isLink", "(I)Z"⟩ ⟨"GapLinksModel", "isLink", "(I)Z"⟩ ∈ UU := pv_5 (List.mem_of_getElem? (i := 0) rfl)
theorem us5_1 : Cond.selects "GapLinksModel" ⟨"GapLinksModel", "isReceiver", "(III)Z"⟩ ⟨"GapLinksModel", "isReceiver", "(III)Z"⟩ ∈ UU := pv_5 (List.mem_of_getElem? (i := 1) rfl)
theorem us5_2 : Cond.selects "GapLinksModel" ⟨"GapLinksModel", "receiverOf", "(II)I"⟩ ⟨"GapLinksModel", "receiverOf", "(II)I"⟩ ∈ UU := pv_5 (List.mem_of_getElem? (i := 2) rfl)
theorem us5_3 : Cond.selects "GapLinksModel" ⟨"GapLinksModel", "wayLong", "(II)I"⟩ ⟨"GapLinksModel", "wayLong", "(II)I"⟩ ∈ UU := pv_5 (List.mem_of_getElem? (i := 3) rfl)
theorem us5_4 : Cond.selects "GapLinksModel" ⟨"GapLinksModel", "wayOf", "(III)I"⟩ ⟨"GapLinksModel", "wayOf", "(III)I"⟩ ∈ UU := pv_5 (List.mem_of_getElem? (i := 4) rfl)
theorem us5_5 : Cond.selects "GapLinksModel" ⟨"GapLinksModel", "isPort", "(I)Z"⟩ ⟨"GapLinksModel", "isPort", "(I)Z"⟩ ∈ UU := pv_5 (List.mem_of_getElem? (i := 5) rfl)
theorem us5_6 : Cond.selects "GapLinksModel" ⟨"GapLinksModel", "isLoss", "(II)Z"⟩ ⟨"GapLinksModel", "isLoss", "(II)Z"⟩ ∈ UU := pv_5 (List.mem_of_getElem? (i := 6) rfl)
theorem us5_7 : Cond.selects "GapLinksModel" ⟨"GapLinksModel", "loadOf", "(I)J"⟩ ⟨"GapLinksModel", "loadOf", "(I)J"⟩ ∈ UU := pv_5 (List.mem_of_getElem? (i := 7) rfl)
theorem us5_8 : Cond.selects "GapLinksModel" ⟨"GapLinksModel", "goesThrough", "(II)Z"⟩ ⟨"GapLinksModel", "goesThrough", "(II)Z"⟩ ∈ UU := pv_5 (List.mem_of_getElem? (i := 8) rfl)
theorem us5_9 : Cond.selects "GapLinksModel" ⟨"GapLinksModel", "rateOf", "(I)J"⟩ ⟨"GapLinksModel", "rateOf", "(I)J"⟩ ∈ UU := pv_5 (List.mem_of_getElem? (i := 9) rfl)
theorem us5_10 : Cond.selects "GapLinksModel" ⟨"GapLinksModel", "isBorne", "()Z"⟩ ⟨"GapLinksModel", "isBorne", "()Z"⟩ ∈ UU := pv_5 (List.mem_of_getElem? (i := 10) rfl)
theorem us5_11 : Cond.selects "GapLinksModel" ⟨"GapLinksModel", "delayOf", "(I)J"⟩ ⟨"GapLinksModel", "delayOf", "(I)J"⟩ ∈ UU := pv_5 (List.mem_of_getElem? (i := 11) rfl)
theorem us5_12 : Cond.selects "GapLinksModel" ⟨"GapLinksModel", "burstOf", "(II)J"⟩ ⟨"GapLinksModel", "burstOf", "(II)J"⟩ ∈ UU := pv_5 (List.mem_of_getElem? (i := 12) rfl)
theorem us5_13 : Cond.selects "GapLinksModel" ⟨"GapLinksModel", "portAhead", "(II)I"⟩ ⟨"GapLinksModel", "portAhead", "(II)I"⟩ ∈ UU := pv_5 (List.mem_of_getElem? (i := 13) rfl)
theorem us5_14 : Cond.selects "GapLinksModel" ⟨"GapLinksModel", "boundOf", "(II)J"⟩ ⟨"GapLinksModel", "boundOf", "(II)J"⟩ ∈ UU := pv_5 (List.mem_of_getElem? (i := 14) rfl)
theorem us5_15 : Cond.selects "GapLinksModel" ⟨"GapLinksModel", "isBorn", "(I)I"⟩ ⟨"GapLinksModel", "isBorn", "(I)I"⟩ ∈ UU := pv_5 (List.mem_of_getElem? (i := 15) rfl)
theorem us6_0 : Cond.selects "GapLinksModel" ⟨"GapLinksModel", "comes", "(IIIII)Z"⟩ ⟨"GapLinksModel", "comes", "(IIIII)Z"⟩ ∈ UU := pv_6 (List.mem_of_getElem? (i := 0) rfl)
theorem us6_1 : Cond.selects "GapLinksModel" ⟨"GapLinksModel", "goes", "(I)V"⟩ ⟨"GapLinksModel", "goes", "(I)V"⟩ ∈ UU := pv_6 (List.mem_of_getElem? (i := 1) rfl)
theorem us6_2 : Cond.selects "GapLinksModel" ⟨"GapLinksModel", "goesTick", "()V"⟩ ⟨"GapLinksModel", "goesTick", "()V"⟩ ∈ UU := pv_6 (List.mem_of_getElem? (i := 2) rfl)
theorem us6_3 : Cond.selects "GapLinksModel" ⟨"GapLinksModel", "leaves", "(II)V"⟩ ⟨"GapLinksModel", "leaves", "(II)V"⟩ ∈ UU := pv_6 (List.mem_of_getElem? (i := 3) rfl)
theorem us6_4 : Cond.selects "GapLinksModel" ⟨"GapLinksModel", "arrivesAtEnd", "(IIIII)V"⟩ ⟨"GapLinksModel", "arrivesAtEnd", "(IIIII)V"⟩ ∈ UU := pv_6 (List.mem_of_getElem? (i := 4) rfl)
theorem us6_5 : Cond.selects "GapLinksModel" ⟨"GapLinksModel", "isWhole", "(III)Z"⟩ ⟨"GapLinksModel", "isWhole", "(III)Z"⟩ ∈ UU := pv_6 (List.mem_of_getElem? (i := 5) rfl)
theorem us6_6 : Cond.selects "GapLinksModel" ⟨"GapLinksModel", "isTaken", "(II)Z"⟩ ⟨"GapLinksModel", "isTaken", "(II)Z"⟩ ∈ UU := pv_6 (List.mem_of_getElem? (i := 6) rfl)
theorem us6_7 : Cond.selects "GapLinksModel" ⟨"GapLinksModel", "takes", "(IIII)V"⟩ ⟨"GapLinksModel", "takes", "(IIII)V"⟩ ∈ UU := pv_6 (List.mem_of_getElem? (i := 7) rfl)
theorem us6_8 : Cond.selects "GapLinksModel" ⟨"GapLinksModel", "arrivesAtSwitch", "(IIIII)V"⟩ ⟨"GapLinksModel", "arrivesAtSwitch", "(IIIII)V"⟩ ∈ UU := pv_6 (List.mem_of_getElem? (i := 8) rfl)
theorem us6_9 : Cond.selects "GapLinksModel" ⟨"GapLinksModel", "switchBehind", "(I)I"⟩ ⟨"GapLinksModel", "switchBehind", "(I)I"⟩ ∈ UU := pv_6 (List.mem_of_getElem? (i := 9) rfl)
theorem us6_10 : Cond.selects "GapLinksModel" ⟨"GapLinksModel", "liesBehind", "(III)Z"⟩ ⟨"GapLinksModel", "liesBehind", "(III)Z"⟩ ∈ UU := pv_6 (List.mem_of_getElem? (i := 10) rfl)
theorem us6_11 : Cond.selects "GapLinksModel" ⟨"GapLinksModel", "sends", "(II)V"⟩ ⟨"GapLinksModel", "sends", "(II)V"⟩ ∈ UU := pv_6 (List.mem_of_getElem? (i := 11) rfl)
theorem us6_12 : Cond.selects "GapLinksModel" ⟨"GapLinksModel", "laysAside", "()V"⟩ ⟨"GapLinksModel", "laysAside", "()V"⟩ ∈ UU := pv_6 (List.mem_of_getElem? (i := 12) rfl)
theorem us6_13 : Cond.selects "GapLinksModel" ⟨"GapLinksModel", "takesBack", "()V"⟩ ⟨"GapLinksModel", "takesBack", "()V"⟩ ∈ UU := pv_6 (List.mem_of_getElem? (i := 13) rfl)
theorem us6_14 : Cond.selects "GapLinksModel" ⟨"GapLinksModel", "waitingMany", "()I"⟩ ⟨"GapLinksModel", "waitingMany", "()I"⟩ ∈ UU := pv_6 (List.mem_of_getElem? (i := 14) rfl)
theorem us6_15 : Cond.selects "GapLinksModel" ⟨"GapLinksModel", "frameMany", "()I"⟩ ⟨"GapLinksModel", "frameMany", "()I"⟩ ∈ UU := pv_6 (List.mem_of_getElem? (i := 15) rfl)
theorem us7_0 : Cond.selects "GapLinksModel" ⟨"GapLinksModel", "isSilent", "(I)Z"⟩ ⟨"GapLinksModel", "isSilent", "(I)Z"⟩ ∈ UU := pv_7 (List.mem_of_getElem? (i := 0) rfl)
theorem us7_1 : Cond.selects "GapLinksModel" ⟨"GapLinksModel", "receiverMany", "()I"⟩ ⟨"GapLinksModel", "receiverMany", "()I"⟩ ∈ UU := pv_7 (List.mem_of_getElem? (i := 1) rfl)
