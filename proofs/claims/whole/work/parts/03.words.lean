/-! the words of the tables, each by its place: a program wrote these rows -/
def UG : List Cond := lw_tbl.filter goodWord
theorem um_g {w : Cond} (h : w ∈ tables_1) (g : goodWord w = true) : w ∈ UG := List.mem_filter.mpr ⟨List.mem_append_right _ h, g⟩
theorem um_1 {w : Cond} (h : w ∈ tables_1_1) (g : goodWord w = true) : w ∈ UG := um_g (List.mem_append_left _ h) g
theorem um_2 {w : Cond} (h : w ∈ tables_1_2) (g : goodWord w = true) : w ∈ UG := um_g (List.mem_append_right _ (List.mem_append_left _ h)) g
theorem um_3 {w : Cond} (h : w ∈ tables_1_3) (g : goodWord w = true) : w ∈ UG := um_g (List.mem_append_right _ (List.mem_append_right _ (List.mem_append_left _ h))) g
theorem um_4 {w : Cond} (h : w ∈ tables_1_4) (g : goodWord w = true) : w ∈ UG := um_g (List.mem_append_right _ (List.mem_append_right _ (List.mem_append_right _ (List.mem_append_left _ h)))) g
theorem um_5 {w : Cond} (h : w ∈ tables_1_5) (g : goodWord w = true) : w ∈ UG := um_g (List.mem_append_right _ (List.mem_append_right _ (List.mem_append_right _ (List.mem_append_right _ (List.mem_append_left _ h))))) g
theorem um_6 {w : Cond} (h : w ∈ tables_1_6) (g : goodWord w = true) : w ∈ UG := um_g (List.mem_append_right _ (List.mem_append_right _ (List.mem_append_right _ (List.mem_append_right _ (List.mem_append_right _ (List.mem_append_left _ h)))))) g
theorem um_7 {w : Cond} (h : w ∈ tables_1_7) (g : goodWord w = true) : w ∈ UG := um_g (List.mem_append_right _ (List.mem_append_right _ (List.mem_append_right _ (List.mem_append_right _ (List.mem_append_right _ (List.mem_append_right _ (h))))))) g
theorem u_1_0 : Cond.initialized RL ∈ UG := um_1 (List.mem_of_getElem? (i := 0) rfl) rfl
theorem u_1_1 : Cond.initialized RX4 ∈ UG := um_1 (List.mem_of_getElem? (i := 1) rfl) rfl
theorem u_1_2 : Cond.initialized RX3 ∈ UG := um_1 (List.mem_of_getElem? (i := 2) rfl) rfl
theorem u_1_3 : Cond.initialized RJ7 ∈ UG := um_1 (List.mem_of_getElem? (i := 3) rfl) rfl
theorem u_1_4 : Cond.initialized RX2 ∈ UG := um_1 (List.mem_of_getElem? (i := 4) rfl) rfl
theorem u_1_5 : Cond.initialized RX1 ∈ UG := um_1 (List.mem_of_getElem? (i := 5) rfl) rfl
theorem u_1_6 : Cond.initialized RX0 ∈ UG := um_1 (List.mem_of_getElem? (i := 6) rfl) rfl
theorem u_1_7 : Cond.initialized RX5 ∈ UG := um_1 (List.mem_of_getElem? (i := 7) rfl) rfl
theorem u_1_8 : Cond.initialized "java/lang/Throwable" ∈ UG := um_1 (List.mem_of_getElem? (i := 8) rfl) rfl
theorem u_1_9 : Cond.initialized "java/lang/Exception" ∈ UG := um_1 (List.mem_of_getElem? (i := 9) rfl) rfl
theorem u_1_10 : Cond.initialized "java/lang/RuntimeException" ∈ UG := um_1 (List.mem_of_getElem? (i := 10) rfl) rfl
theorem u_1_11 : Cond.initialized "java/lang/IndexOutOfBoundsException" ∈ UG := um_1 (List.mem_of_getElem? (i := 11) rfl) rfl
theorem u_1_12 : Cond.initialized "java/lang/IllegalArgumentException" ∈ UG := um_1 (List.mem_of_getElem? (i := 12) rfl) rfl
theorem u_1_13 : Cond.initialized RJ10 ∈ UG := um_1 (List.mem_of_getElem? (i := 13) rfl) rfl
theorem u_1_14 : Cond.initialized RJ9 ∈ UG := um_1 (List.mem_of_getElem? (i := 14) rfl) rfl
theorem u_1_15 : Cond.initialized RJxd2413 ∈ UG := um_1 (List.mem_of_getElem? (i := 15) rfl) rfl
theorem u_1_16 : Cond.initialized RJ6 ∈ UG := um_1 (List.mem_of_getElem? (i := 16) rfl) rfl
theorem u_1_17 : Cond.initialized "java/lang/IllegalStateException" ∈ UG := um_1 (List.mem_of_getElem? (i := 17) rfl) rfl
theorem u_1_18 : Cond.initialized RJ5 ∈ UG := um_1 (List.mem_of_getElem? (i := 18) rfl) rfl
theorem u_1_19 : Cond.initialized RJ4 ∈ UG := um_1 (List.mem_of_getElem? (i := 19) rfl) rfl
theorem u_1_20 : Cond.initialized RJ0 ∈ UG := um_1 (List.mem_of_getElem? (i := 20) rfl) rfl
theorem u_1_21 : Cond.initialized RJ2 ∈ UG := um_1 (List.mem_of_getElem? (i := 21) rfl) rfl
theorem u_1_22 : Cond.initialized RJ8 ∈ UG := um_1 (List.mem_of_getElem? (i := 22) rfl) rfl
theorem u_1_23 : Cond.initialized RJ3 ∈ UG := um_1 (List.mem_of_getElem? (i := 23) rfl) rfl
theorem u_1_24 : Cond.initialized RJ1 ∈ UG := um_1 (List.mem_of_getElem? (i := 24) rfl) rfl
theorem u_1_25 : Cond.initialized "java/lang/UnsupportedOperationException" ∈ UG := um_1 (List.mem_of_getElem? (i := 25) rfl) rfl
theorem u_1_26 : Cond.initialized "java/util/NoSuchElementException" ∈ UG := um_1 (List.mem_of_getElem? (i := 26) rfl) rfl
theorem u_1_27 : Cond.classLink RL 8 RX4 ∈ UG := um_1 (List.mem_of_getElem? (i := 27) rfl) rfl
theorem u_1_28 : Cond.instantiable RX4 6 ∈ UG := um_1 (List.mem_of_getElem? (i := 28) rfl) rfl
theorem u_1_29 : Cond.methodLink RL 114 yX4_init ∈ UG := um_1 (List.mem_of_getElem? (i := 29) rfl) rfl
theorem u_1_30 : Cond.instanceMethod yX4_init ∈ UG := um_1 (List.mem_of_getElem? (i := 30) rfl) rfl
theorem u_1_31 : Cond.code yX4_init (prog_1_method_1_code) 1 (Option.none : Option Jvm.ClassFile.FieldType) ∈ UG := um_1 (List.mem_of_getElem? (i := 31) rfl) rfl
theorem u_1_32 : Cond.methodLink RX4 3 ⟨"java/lang/Object", "<init>", "()V"⟩ ∈ UG := um_1 (List.mem_of_getElem? (i := 32) rfl) rfl
theorem u_1_33 : Cond.instanceMethod ⟨"java/lang/Object", "<init>", "()V"⟩ ∈ UG := um_1 (List.mem_of_getElem? (i := 33) rfl) rfl
theorem u_1_34 : Cond.code ⟨"java/lang/Object", "<init>", "()V"⟩ (object_method_1_code) 1 (Option.none : Option Jvm.ClassFile.FieldType) ∈ UG := um_1 (List.mem_of_getElem? (i := 34) rfl) rfl
theorem u_1_35 : Cond.classLink RX4 9 RX3 ∈ UG := um_1 (List.mem_of_getElem? (i := 35) rfl) rfl
theorem u_1_36 : Cond.instantiable RX3 14 ∈ UG := um_1 (List.mem_of_getElem? (i := 36) rfl) rfl
theorem u_1_37 : Cond.methodLink RX4 11 yX3_init ∈ UG := um_1 (List.mem_of_getElem? (i := 37) rfl) rfl
theorem u_1_38 : Cond.instanceMethod yX3_init ∈ UG := um_1 (List.mem_of_getElem? (i := 38) rfl) rfl
theorem u_1_39 : Cond.code yX3_init (prog_5_method_1_code) 1 (Option.none : Option Jvm.ClassFile.FieldType) ∈ UG := um_1 (List.mem_of_getElem? (i := 39) rfl) rfl
theorem u_1_40 : Cond.methodLink RX3 3 ⟨"java/lang/Object", "<init>", "()V"⟩ ∈ UG := um_1 (List.mem_of_getElem? (i := 40) rfl) rfl
theorem u_1_41 : Cond.methodLink RX3 52 yJ7_fill_53178 ∈ UG := um_1 (List.mem_of_getElem? (i := 41) rfl) rfl
theorem u_1_42 : Cond.static yJ7_fill_53178 ∈ UG := um_1 (List.mem_of_getElem? (i := 42) rfl) rfl
theorem u_1_43 : Cond.code yJ7_fill_53178 (prog_31_method_103_code) 4 (Option.none : Option Jvm.ClassFile.FieldType) ∈ UG := um_1 (List.mem_of_getElem? (i := 43) rfl) rfl
theorem u_1_44 : Cond.fieldLink RX3 9 RX3 "capacities" "[I" ∈ UG := um_1 (List.mem_of_getElem? (i := 44) rfl) rfl
theorem u_1_45 : Cond.fieldLink RX4 53 RX3 "capacities" "[I" ∈ UG := um_1 (List.mem_of_getElem? (i := 45) rfl) rfl
theorem u_1_46 : Cond.fieldLink RX2 136 RX3 "capacities" "[I" ∈ UG := um_1 (List.mem_of_getElem? (i := 46) rfl) rfl
theorem u_1_47 : Cond.fieldLink RX3 15 RX3 "features" "[I" ∈ UG := um_1 (List.mem_of_getElem? (i := 47) rfl) rfl
theorem u_1_48 : Cond.fieldLink RX4 57 RX3 "features" "[I" ∈ UG := um_1 (List.mem_of_getElem? (i := 48) rfl) rfl
theorem u_1_49 : Cond.fieldLink RX3 18 RX3 "sizes" "[I" ∈ UG := um_1 (List.mem_of_getElem? (i := 49) rfl) rfl
theorem u_1_50 : Cond.fieldLink RX4 64 RX3 "sizes" "[I" ∈ UG := um_1 (List.mem_of_getElem? (i := 50) rfl) rfl
theorem u_1_51 : Cond.fieldLink RX3 21 RX3 "available" "[I" ∈ UG := um_1 (List.mem_of_getElem? (i := 51) rfl) rfl
theorem u_1_52 : Cond.fieldLink RX4 67 RX3 "available" "[I" ∈ UG := um_1 (List.mem_of_getElem? (i := 52) rfl) rfl
theorem u_1_53 : Cond.fieldLink RX3 24 RX3 "weights" "[I" ∈ UG := um_1 (List.mem_of_getElem? (i := 53) rfl) rfl
theorem u_1_54 : Cond.fieldLink RX4 70 RX3 "weights" "[I" ∈ UG := um_1 (List.mem_of_getElem? (i := 54) rfl) rfl
theorem u_1_55 : Cond.fieldLink RX3 27 RX3 "teachers" "[I" ∈ UG := um_1 (List.mem_of_getElem? (i := 55) rfl) rfl
theorem u_1_56 : Cond.fieldLink RX4 139 RX3 "teachers" "[I" ∈ UG := um_1 (List.mem_of_getElem? (i := 56) rfl) rfl
theorem u_1_57 : Cond.fieldLink RX2 111 RX3 "teachers" "[I" ∈ UG := um_1 (List.mem_of_getElem? (i := 57) rfl) rfl
theorem u_1_58 : Cond.fieldLink RX3 30 RX3 "groups" "[I" ∈ UG := um_1 (List.mem_of_getElem? (i := 58) rfl) rfl
theorem u_1_59 : Cond.fieldLink RX2 102 RX3 "groups" "[I" ∈ UG := um_1 (List.mem_of_getElem? (i := 59) rfl) rfl
theorem u_1_60 : Cond.fieldLink RX4 135 RX3 "groups" "[I" ∈ UG := um_1 (List.mem_of_getElem? (i := 60) rfl) rfl
theorem u_1_61 : Cond.fieldLink RX3 33 RX3 "needs" "[I" ∈ UG := um_1 (List.mem_of_getElem? (i := 61) rfl) rfl
theorem u_1_62 : Cond.fieldLink RX4 142 RX3 "needs" "[I" ∈ UG := um_1 (List.mem_of_getElem? (i := 62) rfl) rfl
theorem u_1_63 : Cond.fieldLink RX3 36 RX3 "lengths" "[I" ∈ UG := um_1 (List.mem_of_getElem? (i := 63) rfl) rfl
theorem u_1_64 : Cond.fieldLink RX4 144 RX3 "lengths" "[I" ∈ UG := um_1 (List.mem_of_getElem? (i := 64) rfl) rfl
theorem u_1_65 : Cond.fieldLink RX2 127 RX3 "lengths" "[I" ∈ UG := um_1 (List.mem_of_getElem? (i := 65) rfl) rfl
theorem u_1_66 : Cond.fieldLink RX3 39 RX3 "places" "[I" ∈ UG := um_1 (List.mem_of_getElem? (i := 66) rfl) rfl
theorem u_1_67 : Cond.fieldLink RX2 48 RX3 "places" "[I" ∈ UG := um_1 (List.mem_of_getElem? (i := 67) rfl) rfl
theorem u_1_68 : Cond.fieldLink RX4 150 RX3 "places" "[I" ∈ UG := um_1 (List.mem_of_getElem? (i := 68) rfl) rfl
theorem u_1_69 : Cond.fieldLink RX3 42 RX3 "slots" "[I" ∈ UG := um_1 (List.mem_of_getElem? (i := 69) rfl) rfl
theorem u_1_70 : Cond.fieldLink RX2 105 RX3 "slots" "[I" ∈ UG := um_1 (List.mem_of_getElem? (i := 70) rfl) rfl
theorem u_1_71 : Cond.fieldLink RX3 45 RX3 "marks" "[I" ∈ UG := um_1 (List.mem_of_getElem? (i := 71) rfl) rfl
theorem u_1_72 : Cond.fieldLink RX4 282 RX3 "marks" "[I" ∈ UG := um_1 (List.mem_of_getElem? (i := 72) rfl) rfl
theorem u_1_73 : Cond.fieldLink RX3 48 RX3 "fixed" "[Z" ∈ UG := um_1 (List.mem_of_getElem? (i := 73) rfl) rfl
theorem u_1_74 : Cond.fieldLink RX2 79 RX3 "fixed" "[Z" ∈ UG := um_1 (List.mem_of_getElem? (i := 74) rfl) rfl
theorem u_1_75 : Cond.fieldLink RX4 153 RX3 "fixed" "[Z" ∈ UG := um_1 (List.mem_of_getElem? (i := 75) rfl) rfl
theorem u_1_76 : Cond.fieldLink RX3 64 RX3 "count" "I" ∈ UG := um_1 (List.mem_of_getElem? (i := 76) rfl) rfl
theorem u_1_77 : Cond.fieldLink RX4 132 RX3 "count" "I" ∈ UG := um_1 (List.mem_of_getElem? (i := 77) rfl) rfl
theorem u_1_78 : Cond.laysFinal RX3 RX3 "capacities" "[I" ∈ UG := um_1 (List.mem_of_getElem? (i := 78) rfl) rfl
theorem u_1_80 : Cond.laysFinal RX3 RX3 "features" "[I" ∈ UG := um_1 (List.mem_of_getElem? (i := 80) rfl) rfl
theorem u_1_82 : Cond.laysFinal RX3 RX3 "sizes" "[I" ∈ UG := um_1 (List.mem_of_getElem? (i := 82) rfl) rfl
theorem u_1_84 : Cond.laysFinal RX3 RX3 "available" "[I" ∈ UG := um_1 (List.mem_of_getElem? (i := 84) rfl) rfl
theorem u_1_86 : Cond.laysFinal RX3 RX3 "weights" "[I" ∈ UG := um_1 (List.mem_of_getElem? (i := 86) rfl) rfl
theorem u_1_88 : Cond.laysFinal RX3 RX3 "teachers" "[I" ∈ UG := um_1 (List.mem_of_getElem? (i := 88) rfl) rfl
theorem u_1_90 : Cond.laysFinal RX3 RX3 "groups" "[I" ∈ UG := um_1 (List.mem_of_getElem? (i := 90) rfl) rfl
theorem u_1_92 : Cond.laysFinal RX3 RX3 "needs" "[I" ∈ UG := um_1 (List.mem_of_getElem? (i := 92) rfl) rfl
theorem u_1_94 : Cond.laysFinal RX3 RX3 "lengths" "[I" ∈ UG := um_1 (List.mem_of_getElem? (i := 94) rfl) rfl
theorem u_1_96 : Cond.laysFinal RX3 RX3 "places" "[I" ∈ UG := um_1 (List.mem_of_getElem? (i := 96) rfl) rfl
theorem u_1_98 : Cond.laysFinal RX3 RX3 "slots" "[I" ∈ UG := um_1 (List.mem_of_getElem? (i := 98) rfl) rfl
theorem u_1_100 : Cond.laysFinal RX3 RX3 "marks" "[I" ∈ UG := um_1 (List.mem_of_getElem? (i := 100) rfl) rfl
theorem u_1_102 : Cond.laysFinal RX3 RX3 "fixed" "[Z" ∈ UG := um_1 (List.mem_of_getElem? (i := 102) rfl) rfl
theorem u_1_104 : Cond.lays RX3 RX3 "count" "I" ∈ UG := um_1 (List.mem_of_getElem? (i := 104) rfl) rfl
theorem u_1_107 : Cond.arrayClass (Jvm.ClassFile.FieldType.int) ∈ UG := um_1 (List.mem_of_getElem? (i := 107) rfl) rfl
theorem u_1_108 : Cond.arrayClass (Jvm.ClassFile.FieldType.boolean) ∈ UG := um_1 (List.mem_of_getElem? (i := 108) rfl) rfl
theorem u_1_109 : Cond.classLink RX4 19 RX2 ∈ UG := um_1 (List.mem_of_getElem? (i := 109) rfl) rfl
theorem u_1_110 : Cond.instantiable RX2 5 ∈ UG := um_1 (List.mem_of_getElem? (i := 110) rfl) rfl
theorem u_1_111 : Cond.methodLink RX4 21 yX2_init ∈ UG := um_1 (List.mem_of_getElem? (i := 111) rfl) rfl
theorem u_1_112 : Cond.instanceMethod yX2_init ∈ UG := um_1 (List.mem_of_getElem? (i := 112) rfl) rfl
theorem u_1_113 : Cond.code yX2_init (prog_4_method_1_code) 2 (Option.none : Option Jvm.ClassFile.FieldType) ∈ UG := um_1 (List.mem_of_getElem? (i := 113) rfl) rfl
theorem u_1_114 : Cond.methodLink RX2 3 ⟨"java/lang/Object", "<init>", "()V"⟩ ∈ UG := um_1 (List.mem_of_getElem? (i := 114) rfl) rfl
theorem u_1_115 : Cond.fieldLink RX2 21 RX2 "table" "LTimetableBuilder$Table;" ∈ UG := um_1 (List.mem_of_getElem? (i := 115) rfl) rfl
theorem u_1_116 : Cond.fieldLink RX2 9 RX2 "before" "[I" ∈ UG := um_1 (List.mem_of_getElem? (i := 116) rfl) rfl
theorem u_1_117 : Cond.fieldLink RX2 15 RX2 "rooms" "[I" ∈ UG := um_1 (List.mem_of_getElem? (i := 117) rfl) rfl
theorem u_1_118 : Cond.fieldLink RX2 18 RX2 "ranks" "[I" ∈ UG := um_1 (List.mem_of_getElem? (i := 118) rfl) rfl
theorem u_1_119 : Cond.fieldLink RX2 89 RX2 "waiting" "I" ∈ UG := um_1 (List.mem_of_getElem? (i := 119) rfl) rfl
theorem u_1_120 : Cond.laysFinal RX2 RX2 "table" "LTimetableBuilder$Table;" ∈ UG := um_1 (List.mem_of_getElem? (i := 120) rfl) rfl
theorem u_1_122 : Cond.laysFinal RX2 RX2 "before" "[I" ∈ UG := um_1 (List.mem_of_getElem? (i := 122) rfl) rfl
theorem u_1_124 : Cond.laysFinal RX2 RX2 "rooms" "[I" ∈ UG := um_1 (List.mem_of_getElem? (i := 124) rfl) rfl
theorem u_1_126 : Cond.laysFinal RX2 RX2 "ranks" "[I" ∈ UG := um_1 (List.mem_of_getElem? (i := 126) rfl) rfl
theorem u_1_128 : Cond.lays RX2 RX2 "waiting" "I" ∈ UG := um_1 (List.mem_of_getElem? (i := 128) rfl) rfl
theorem u_1_131 : Cond.classLink RX4 28 RX1 ∈ UG := um_1 (List.mem_of_getElem? (i := 131) rfl) rfl
theorem u_1_132 : Cond.instantiable RX1 3 ∈ UG := um_1 (List.mem_of_getElem? (i := 132) rfl) rfl
theorem u_1_133 : Cond.methodLink RX4 30 yX1_init ∈ UG := um_1 (List.mem_of_getElem? (i := 133) rfl) rfl
theorem u_1_134 : Cond.instanceMethod yX1_init ∈ UG := um_1 (List.mem_of_getElem? (i := 134) rfl) rfl
theorem u_1_135 : Cond.code yX1_init (prog_3_method_1_code) 2 (Option.none : Option Jvm.ClassFile.FieldType) ∈ UG := um_1 (List.mem_of_getElem? (i := 135) rfl) rfl
theorem u_1_136 : Cond.methodLink RX1 3 ⟨"java/lang/Object", "<init>", "()V"⟩ ∈ UG := um_1 (List.mem_of_getElem? (i := 136) rfl) rfl
theorem u_1_137 : Cond.classLink RX1 9 RX3 ∈ UG := um_1 (List.mem_of_getElem? (i := 137) rfl) rfl
theorem u_1_139 : Cond.methodLink RX1 17 yX3_init ∈ UG := um_1 (List.mem_of_getElem? (i := 139) rfl) rfl
theorem u_1_140 : Cond.fieldLink RX1 11 RX1 "earlier" "[LTimetableBuilder$Table;" ∈ UG := um_1 (List.mem_of_getElem? (i := 140) rfl) rfl
theorem u_1_141 : Cond.fieldLink RX1 32 RX1 "next" "I" ∈ UG := um_1 (List.mem_of_getElem? (i := 141) rfl) rfl
theorem u_1_142 : Cond.fieldLink RX1 36 RX1 "changes" "I" ∈ UG := um_1 (List.mem_of_getElem? (i := 142) rfl) rfl
theorem u_1_143 : Cond.fieldLink RX4 300 RX1 "changes" "I" ∈ UG := um_1 (List.mem_of_getElem? (i := 143) rfl) rfl
theorem u_1_144 : Cond.laysFinal RX1 RX1 "earlier" "[LTimetableBuilder$Table;" ∈ UG := um_1 (List.mem_of_getElem? (i := 144) rfl) rfl
theorem u_1_146 : Cond.lays RX1 RX1 "next" "I" ∈ UG := um_1 (List.mem_of_getElem? (i := 146) rfl) rfl
theorem u_1_148 : Cond.lays RX1 RX1 "changes" "I" ∈ UG := um_1 (List.mem_of_getElem? (i := 148) rfl) rfl
theorem u_1_151 : Cond.classLink RX4 35 RX0 ∈ UG := um_1 (List.mem_of_getElem? (i := 151) rfl) rfl
theorem u_1_152 : Cond.instantiable RX0 8 ∈ UG := um_1 (List.mem_of_getElem? (i := 152) rfl) rfl
theorem u_1_154 : Cond.instanceMethod yX0_init ∈ UG := um_1 (List.mem_of_getElem? (i := 154) rfl) rfl
theorem u_1_155 : Cond.code yX0_init (prog_2_method_1_code) 1 (Option.none : Option Jvm.ClassFile.FieldType) ∈ UG := um_1 (List.mem_of_getElem? (i := 155) rfl) rfl
theorem u_1_156 : Cond.methodLink RX0 3 ⟨"java/lang/Object", "<init>", "()V"⟩ ∈ UG := um_1 (List.mem_of_getElem? (i := 156) rfl) rfl
theorem u_1_157 : Cond.fieldLink RX0 9 RX0 "signs" "[I" ∈ UG := um_1 (List.mem_of_getElem? (i := 157) rfl) rfl
theorem u_1_158 : Cond.fieldLink RX0 22 RX0 "position" "I" ∈ UG := um_1 (List.mem_of_getElem? (i := 158) rfl) rfl
theorem u_1_159 : Cond.fieldLink RX0 19 RX0 "used" "I" ∈ UG := um_1 (List.mem_of_getElem? (i := 159) rfl) rfl
theorem u_1_160 : Cond.fieldLink RX4 297 RX0 "used" "I" ∈ UG := um_1 (List.mem_of_getElem? (i := 160) rfl) rfl
theorem u_1_161 : Cond.fieldLink RX0 15 RX0 "errorAt" "I" ∈ UG := um_1 (List.mem_of_getElem? (i := 161) rfl) rfl
theorem u_1_162 : Cond.fieldLink RX4 122 RX0 "errorAt" "I" ∈ UG := um_1 (List.mem_of_getElem? (i := 162) rfl) rfl
theorem u_1_163 : Cond.fieldLink RX0 42 RX0 "teacher" "I" ∈ UG := um_1 (List.mem_of_getElem? (i := 163) rfl) rfl
theorem u_1_164 : Cond.fieldLink RX4 105 RX0 "teacher" "I" ∈ UG := um_1 (List.mem_of_getElem? (i := 164) rfl) rfl
theorem u_1_165 : Cond.fieldLink RX0 49 RX0 "groups" "I" ∈ UG := um_1 (List.mem_of_getElem? (i := 165) rfl) rfl
theorem u_1_166 : Cond.fieldLink RX4 109 RX0 "groups" "I" ∈ UG := um_1 (List.mem_of_getElem? (i := 166) rfl) rfl
theorem u_1_167 : Cond.fieldLink RX0 52 RX0 "needs" "I" ∈ UG := um_1 (List.mem_of_getElem? (i := 167) rfl) rfl
theorem u_1_168 : Cond.fieldLink RX4 112 RX0 "needs" "I" ∈ UG := um_1 (List.mem_of_getElem? (i := 168) rfl) rfl
theorem u_1_169 : Cond.fieldLink RX4 115 RX0 "length" "I" ∈ UG := um_1 (List.mem_of_getElem? (i := 169) rfl) rfl
theorem u_1_170 : Cond.fieldLink RX0 55 RX0 "length" "I" ∈ UG := um_1 (List.mem_of_getElem? (i := 170) rfl) rfl
theorem u_1_171 : Cond.laysFinal RX0 RX0 "signs" "[I" ∈ UG := um_1 (List.mem_of_getElem? (i := 171) rfl) rfl
theorem u_1_173 : Cond.lays RX0 RX0 "position" "I" ∈ UG := um_1 (List.mem_of_getElem? (i := 173) rfl) rfl
theorem u_1_175 : Cond.lays RX0 RX0 "used" "I" ∈ UG := um_1 (List.mem_of_getElem? (i := 175) rfl) rfl
theorem u_1_177 : Cond.lays RX0 RX0 "errorAt" "I" ∈ UG := um_1 (List.mem_of_getElem? (i := 177) rfl) rfl
theorem u_1_179 : Cond.lays RX0 RX0 "teacher" "I" ∈ UG := um_1 (List.mem_of_getElem? (i := 179) rfl) rfl
theorem u_1_181 : Cond.lays RX0 RX0 "groups" "I" ∈ UG := um_1 (List.mem_of_getElem? (i := 181) rfl) rfl
theorem u_1_183 : Cond.lays RX0 RX0 "needs" "I" ∈ UG := um_1 (List.mem_of_getElem? (i := 183) rfl) rfl
theorem u_1_185 : Cond.lays RX0 RX0 "length" "I" ∈ UG := um_1 (List.mem_of_getElem? (i := 185) rfl) rfl
theorem u_1_188 : Cond.fieldLink RX4 12 RX4 "table" "LTimetableBuilder$Table;" ∈ UG := um_1 (List.mem_of_getElem? (i := 188) rfl) rfl
theorem u_1_189 : Cond.fieldLink RX4 16 RX4 "saved" "LTimetableBuilder$Table;" ∈ UG := um_1 (List.mem_of_getElem? (i := 189) rfl) rfl
theorem u_1_190 : Cond.fieldLink RX4 24 RX4 "planner" "LTimetableBuilder$Planner;" ∈ UG := um_1 (List.mem_of_getElem? (i := 190) rfl) rfl
theorem u_1_191 : Cond.fieldLink RX4 31 RX4 "history" "LTimetableBuilder$History;" ∈ UG := um_1 (List.mem_of_getElem? (i := 191) rfl) rfl
theorem u_1_192 : Cond.fieldLink RX4 38 RX4 "text" "LTimetableBuilder$EventText;" ∈ UG := um_1 (List.mem_of_getElem? (i := 192) rfl) rfl
theorem u_1_193 : Cond.fieldLink RX4 311 RX4 "hasSaved" "Z" ∈ UG := um_1 (List.mem_of_getElem? (i := 193) rfl) rfl
theorem u_1_194 : Cond.laysFinal RX4 RX4 "table" "LTimetableBuilder$Table;" ∈ UG := um_1 (List.mem_of_getElem? (i := 194) rfl) rfl
theorem u_1_196 : Cond.laysFinal RX4 RX4 "saved" "LTimetableBuilder$Table;" ∈ UG := um_1 (List.mem_of_getElem? (i := 196) rfl) rfl
theorem u_1_198 : Cond.laysFinal RX4 RX4 "planner" "LTimetableBuilder$Planner;" ∈ UG := um_1 (List.mem_of_getElem? (i := 198) rfl) rfl
theorem u_1_200 : Cond.laysFinal RX4 RX4 "history" "LTimetableBuilder$History;" ∈ UG := um_1 (List.mem_of_getElem? (i := 200) rfl) rfl
theorem u_1_202 : Cond.laysFinal RX4 RX4 "text" "LTimetableBuilder$EventText;" ∈ UG := um_1 (List.mem_of_getElem? (i := 202) rfl) rfl
theorem u_1_204 : Cond.lays RX4 RX4 "hasSaved" "Z" ∈ UG := um_1 (List.mem_of_getElem? (i := 204) rfl) rfl
theorem u_1_207 : Cond.methodLink RL 148 yX4_errorPosition ∈ UG := um_1 (List.mem_of_getElem? (i := 207) rfl) rfl
theorem u_1_208 : Cond.instanceMethod yX4_errorPosition ∈ UG := um_1 (List.mem_of_getElem? (i := 208) rfl) rfl
theorem u_1_209 : Cond.selects RX4 yX4_errorPosition yX4_errorPosition ∈ UG := um_1 (List.mem_of_getElem? (i := 209) rfl) rfl
theorem u_1_210 : Cond.code yX4_errorPosition (prog_1_method_9_code) 1 (Option.some Jvm.ClassFile.FieldType.int) ∈ UG := um_1 (List.mem_of_getElem? (i := 210) rfl) rfl
theorem u_1_211 : Cond.methodLink RL 195 yX4_build ∈ UG := um_1 (List.mem_of_getElem? (i := 211) rfl) rfl
theorem u_1_212 : Cond.instanceMethod yX4_build ∈ UG := um_1 (List.mem_of_getElem? (i := 212) rfl) rfl
theorem u_1_213 : Cond.selects RX4 yX4_build yX4_build ∈ UG := um_1 (List.mem_of_getElem? (i := 213) rfl) rfl
theorem u_1_214 : Cond.code yX4_build (prog_1_method_24_code) 3 (Option.some Jvm.ClassFile.FieldType.int) ∈ UG := um_1 (List.mem_of_getElem? (i := 214) rfl) rfl
theorem u_1_215 : Cond.methodLink RX4 50 yX1_keep ∈ UG := um_1 (List.mem_of_getElem? (i := 215) rfl) rfl
theorem u_1_216 : Cond.instanceMethod yX1_keep ∈ UG := um_1 (List.mem_of_getElem? (i := 216) rfl) rfl
theorem u_1_217 : Cond.selects RX1 yX1_keep yX1_keep ∈ UG := um_1 (List.mem_of_getElem? (i := 217) rfl) rfl
theorem u_1_218 : Cond.code yX1_keep (prog_3_method_2_code) 2 (Option.none : Option Jvm.ClassFile.FieldType) ∈ UG := um_1 (List.mem_of_getElem? (i := 218) rfl) rfl
theorem u_1_219 : Cond.methodLink RX1 18 yX1_note ∈ UG := um_1 (List.mem_of_getElem? (i := 219) rfl) rfl
theorem u_1_220 : Cond.instanceMethod yX1_note ∈ UG := um_1 (List.mem_of_getElem? (i := 220) rfl) rfl
theorem u_1_221 : Cond.selects RX1 yX1_note yX1_note ∈ UG := um_1 (List.mem_of_getElem? (i := 221) rfl) rfl
theorem u_1_222 : Cond.code yX1_note (prog_3_method_3_code) 3 (Option.none : Option Jvm.ClassFile.FieldType) ∈ UG := um_1 (List.mem_of_getElem? (i := 222) rfl) rfl
theorem u_1_223 : Cond.methodLink RX1 25 yX1_nextRow ∈ UG := um_1 (List.mem_of_getElem? (i := 223) rfl) rfl
theorem u_1_225 : Cond.instanceMethod yX1_nextRow ∈ UG := um_1 (List.mem_of_getElem? (i := 225) rfl) rfl
theorem u_1_226 : Cond.code yX1_nextRow (prog_3_method_6_code) 1 (Option.some (Jvm.ClassFile.FieldType.object "TimetableBuilder$Table")) ∈ UG := um_1 (List.mem_of_getElem? (i := 226) rfl) rfl
theorem u_1_227 : Cond.methodLink RX1 29 yX3_copyFrom ∈ UG := um_1 (List.mem_of_getElem? (i := 227) rfl) rfl
theorem u_1_228 : Cond.instanceMethod yX3_copyFrom ∈ UG := um_1 (List.mem_of_getElem? (i := 228) rfl) rfl
theorem u_1_229 : Cond.selects RX3 yX3_copyFrom yX3_copyFrom ∈ UG := um_1 (List.mem_of_getElem? (i := 229) rfl) rfl
theorem u_1_230 : Cond.code yX3_copyFrom (prog_5_method_2_code) 2 (Option.none : Option Jvm.ClassFile.FieldType) ∈ UG := um_1 (List.mem_of_getElem? (i := 230) rfl) rfl
theorem u_1_231 : Cond.methodLink RX3 58 ⟨"java/lang/System", "arraycopy", "(Ljava/lang/Object;ILjava/lang/Object;II)V"⟩ ∈ UG := um_1 (List.mem_of_getElem? (i := 231) rfl) rfl
theorem u_1_232 : Cond.static ⟨"java/lang/System", "arraycopy", "(Ljava/lang/Object;ILjava/lang/Object;II)V"⟩ ∈ UG := um_1 (List.mem_of_getElem? (i := 232) rfl) rfl
theorem u_1_233 : Cond.native ⟨"java/lang/System", "arraycopy", "(Ljava/lang/Object;ILjava/lang/Object;II)V"⟩ ∈ UG := um_1 (List.mem_of_getElem? (i := 233) rfl) rfl
theorem u_1_234 : Cond.methodLink RX1 22 yX1_keepNoted ∈ UG := um_1 (List.mem_of_getElem? (i := 234) rfl) rfl
theorem u_1_235 : Cond.instanceMethod yX1_keepNoted ∈ UG := um_1 (List.mem_of_getElem? (i := 235) rfl) rfl
theorem u_1_236 : Cond.selects RX1 yX1_keepNoted yX1_keepNoted ∈ UG := um_1 (List.mem_of_getElem? (i := 236) rfl) rfl
theorem u_1_237 : Cond.code yX1_keepNoted (prog_3_method_4_code) 1 (Option.none : Option Jvm.ClassFile.FieldType) ∈ UG := um_1 (List.mem_of_getElem? (i := 237) rfl) rfl
theorem u_1_238 : Cond.methodLink RX1 39 yJ9_min_7cf53 ∈ UG := um_1 (List.mem_of_getElem? (i := 238) rfl) rfl
theorem u_1_239 : Cond.static yJ9_min_7cf53 ∈ UG := um_1 (List.mem_of_getElem? (i := 239) rfl) rfl
theorem u_2_0 : Cond.code yJ9_min_7cf53 (prog_19_method_69_code) 2 (Option.some Jvm.ClassFile.FieldType.int) ∈ UG := um_2 (List.mem_of_getElem? (i := 0) rfl) rfl
theorem u_2_1 : Cond.methodLink RX4 230 yX2_rankWaiting ∈ UG := um_2 (List.mem_of_getElem? (i := 1) rfl) rfl
theorem u_2_2 : Cond.instanceMethod yX2_rankWaiting ∈ UG := um_2 (List.mem_of_getElem? (i := 2) rfl) rfl
theorem u_2_3 : Cond.selects RX2 yX2_rankWaiting yX2_rankWaiting ∈ UG := um_2 (List.mem_of_getElem? (i := 3) rfl) rfl
theorem u_2_4 : Cond.code yX2_rankWaiting (prog_4_method_9_code) 2 (Option.none : Option Jvm.ClassFile.FieldType) ∈ UG := um_2 (List.mem_of_getElem? (i := 4) rfl) rfl
theorem u_2_5 : Cond.methodLink RX2 93 yX3_hasEvent ∈ UG := um_2 (List.mem_of_getElem? (i := 5) rfl) rfl
theorem u_2_6 : Cond.instanceMethod yX3_hasEvent ∈ UG := um_2 (List.mem_of_getElem? (i := 6) rfl) rfl
theorem u_2_7 : Cond.selects RX3 yX3_hasEvent yX3_hasEvent ∈ UG := um_2 (List.mem_of_getElem? (i := 7) rfl) rfl
theorem u_2_8 : Cond.code yX3_hasEvent (prog_5_method_3_code) 2 (Option.some Jvm.ClassFile.FieldType.boolean) ∈ UG := um_2 (List.mem_of_getElem? (i := 8) rfl) rfl
theorem u_2_9 : Cond.methodLink RX2 96 yX2_rankOf ∈ UG := um_2 (List.mem_of_getElem? (i := 9) rfl) rfl
theorem u_2_11 : Cond.instanceMethod yX2_rankOf ∈ UG := um_2 (List.mem_of_getElem? (i := 11) rfl) rfl
theorem u_2_12 : Cond.code yX2_rankOf (prog_4_method_10_code) 2 (Option.some Jvm.ClassFile.FieldType.int) ∈ UG := um_2 (List.mem_of_getElem? (i := 12) rfl) rfl
theorem u_2_13 : Cond.methodLink RX2 99 yX3_suitablePlaces ∈ UG := um_2 (List.mem_of_getElem? (i := 13) rfl) rfl
theorem u_2_14 : Cond.instanceMethod yX3_suitablePlaces ∈ UG := um_2 (List.mem_of_getElem? (i := 14) rfl) rfl
theorem u_2_15 : Cond.selects RX3 yX3_suitablePlaces yX3_suitablePlaces ∈ UG := um_2 (List.mem_of_getElem? (i := 15) rfl) rfl
theorem u_2_16 : Cond.code yX3_suitablePlaces (prog_5_method_20_code) 4 (Option.some Jvm.ClassFile.FieldType.int) ∈ UG := um_2 (List.mem_of_getElem? (i := 16) rfl) rfl
theorem u_2_17 : Cond.methodLink RX3 80 yX3_unsuitableAt ∈ UG := um_2 (List.mem_of_getElem? (i := 17) rfl) rfl
theorem u_2_18 : Cond.instanceMethod yX3_unsuitableAt ∈ UG := um_2 (List.mem_of_getElem? (i := 18) rfl) rfl
theorem u_2_19 : Cond.selects RX3 yX3_unsuitableAt yX3_unsuitableAt ∈ UG := um_2 (List.mem_of_getElem? (i := 19) rfl) rfl
theorem u_2_20 : Cond.code yX3_unsuitableAt (prog_5_method_16_code) 5 (Option.some Jvm.ClassFile.FieldType.int) ∈ UG := um_2 (List.mem_of_getElem? (i := 20) rfl) rfl
theorem u_2_21 : Cond.methodLink RX3 72 yX3_slotsAt ∈ UG := um_2 (List.mem_of_getElem? (i := 21) rfl) rfl
theorem u_2_22 : Cond.instanceMethod yX3_slotsAt ∈ UG := um_2 (List.mem_of_getElem? (i := 22) rfl) rfl
theorem u_2_23 : Cond.selects RX3 yX3_slotsAt yX3_slotsAt ∈ UG := um_2 (List.mem_of_getElem? (i := 23) rfl) rfl
theorem u_2_24 : Cond.code yX3_slotsAt (prog_5_method_14_code) 5 (Option.some Jvm.ClassFile.FieldType.int) ∈ UG := um_2 (List.mem_of_getElem? (i := 24) rfl) rfl
theorem u_2_25 : Cond.methodLink RX3 91 yJ6_bitCount_0f7a4 ∈ UG := um_2 (List.mem_of_getElem? (i := 25) rfl) rfl
theorem u_2_26 : Cond.static yJ6_bitCount_0f7a4 ∈ UG := um_2 (List.mem_of_getElem? (i := 26) rfl) rfl
theorem u_2_27 : Cond.code yJ6_bitCount_0f7a4 (prog_18_method_49_code) 1 (Option.some Jvm.ClassFile.FieldType.int) ∈ UG := um_2 (List.mem_of_getElem? (i := 27) rfl) rfl
theorem u_2_28 : Cond.constant RJ6 265 (1431655765 : Int32) ∈ UG := um_2 (List.mem_of_getElem? (i := 28) rfl) rfl
theorem u_2_29 : Cond.constant RJ6 266 (858993459 : Int32) ∈ UG := um_2 (List.mem_of_getElem? (i := 29) rfl) rfl
theorem u_2_30 : Cond.constant RJ6 267 (252645135 : Int32) ∈ UG := um_2 (List.mem_of_getElem? (i := 30) rfl) rfl
theorem u_2_31 : Cond.methodLink RX3 97 yX3_isAvailable ∈ UG := um_2 (List.mem_of_getElem? (i := 31) rfl) rfl
theorem u_2_32 : Cond.instanceMethod yX3_isAvailable ∈ UG := um_2 (List.mem_of_getElem? (i := 32) rfl) rfl
theorem u_2_33 : Cond.selects RX3 yX3_isAvailable yX3_isAvailable ∈ UG := um_2 (List.mem_of_getElem? (i := 33) rfl) rfl
theorem u_2_34 : Cond.code yX3_isAvailable (prog_5_method_12_code) 4 (Option.some Jvm.ClassFile.FieldType.boolean) ∈ UG := um_2 (List.mem_of_getElem? (i := 34) rfl) rfl
theorem u_2_35 : Cond.methodLink RX3 101 yX3_sizeOf ∈ UG := um_2 (List.mem_of_getElem? (i := 35) rfl) rfl
theorem u_2_36 : Cond.instanceMethod yX3_sizeOf ∈ UG := um_2 (List.mem_of_getElem? (i := 36) rfl) rfl
theorem u_2_37 : Cond.selects RX3 yX3_sizeOf yX3_sizeOf ∈ UG := um_2 (List.mem_of_getElem? (i := 37) rfl) rfl
theorem u_2_38 : Cond.code yX3_sizeOf (prog_5_method_11_code) 4 (Option.some Jvm.ClassFile.FieldType.int) ∈ UG := um_2 (List.mem_of_getElem? (i := 38) rfl) rfl
theorem u_2_39 : Cond.methodLink RX3 104 yX3_hasNeeds ∈ UG := um_2 (List.mem_of_getElem? (i := 39) rfl) rfl
theorem u_2_40 : Cond.instanceMethod yX3_hasNeeds ∈ UG := um_2 (List.mem_of_getElem? (i := 40) rfl) rfl
theorem u_2_41 : Cond.selects RX3 yX3_hasNeeds yX3_hasNeeds ∈ UG := um_2 (List.mem_of_getElem? (i := 41) rfl) rfl
theorem u_2_42 : Cond.code yX3_hasNeeds (prog_5_method_13_code) 3 (Option.some Jvm.ClassFile.FieldType.boolean) ∈ UG := um_2 (List.mem_of_getElem? (i := 42) rfl) rfl
theorem u_2_43 : Cond.methodLink RX2 38 yJ6_bitCount_0f7a4 ∈ UG := um_2 (List.mem_of_getElem? (i := 43) rfl) rfl
theorem u_2_44 : Cond.methodLink RX4 233 yX2_nextByRank ∈ UG := um_2 (List.mem_of_getElem? (i := 44) rfl) rfl
theorem u_2_45 : Cond.instanceMethod yX2_nextByRank ∈ UG := um_2 (List.mem_of_getElem? (i := 45) rfl) rfl
theorem u_2_46 : Cond.selects RX2 yX2_nextByRank yX2_nextByRank ∈ UG := um_2 (List.mem_of_getElem? (i := 46) rfl) rfl
theorem u_2_47 : Cond.code yX2_nextByRank (prog_4_method_11_code) 3 (Option.some Jvm.ClassFile.FieldType.int) ∈ UG := um_2 (List.mem_of_getElem? (i := 47) rfl) rfl
theorem u_2_49 : Cond.static yX4_contains ∈ UG := um_2 (List.mem_of_getElem? (i := 49) rfl) rfl
theorem u_2_50 : Cond.code yX4_contains (prog_1_method_43_code) 2 (Option.some Jvm.ClassFile.FieldType.boolean) ∈ UG := um_2 (List.mem_of_getElem? (i := 50) rfl) rfl
theorem u_2_51 : Cond.methodLink RX4 222 yX2_tryInsert ∈ UG := um_2 (List.mem_of_getElem? (i := 51) rfl) rfl
theorem u_2_52 : Cond.instanceMethod yX2_tryInsert ∈ UG := um_2 (List.mem_of_getElem? (i := 52) rfl) rfl
theorem u_2_53 : Cond.selects RX2 yX2_tryInsert yX2_tryInsert ∈ UG := um_2 (List.mem_of_getElem? (i := 53) rfl) rfl
theorem u_2_54 : Cond.code yX2_tryInsert (prog_4_method_2_code) 4 (Option.some Jvm.ClassFile.FieldType.int) ∈ UG := um_2 (List.mem_of_getElem? (i := 54) rfl) rfl
theorem u_2_55 : Cond.methodLink RX2 25 yX2_insertAt ∈ UG := um_2 (List.mem_of_getElem? (i := 55) rfl) rfl
theorem u_2_57 : Cond.instanceMethod yX2_insertAt ∈ UG := um_2 (List.mem_of_getElem? (i := 57) rfl) rfl
theorem u_2_58 : Cond.code yX2_insertAt (prog_4_method_3_code) 5 (Option.some Jvm.ClassFile.FieldType.boolean) ∈ UG := um_2 (List.mem_of_getElem? (i := 58) rfl) rfl
theorem u_2_59 : Cond.methodLink RX2 29 yX3_unsuitableAt ∈ UG := um_2 (List.mem_of_getElem? (i := 59) rfl) rfl
theorem u_2_60 : Cond.methodLink RX2 35 yX3_hinderingAt ∈ UG := um_2 (List.mem_of_getElem? (i := 60) rfl) rfl
theorem u_2_61 : Cond.instanceMethod yX3_hinderingAt ∈ UG := um_2 (List.mem_of_getElem? (i := 61) rfl) rfl
theorem u_2_62 : Cond.selects RX3 yX3_hinderingAt yX3_hinderingAt ∈ UG := um_2 (List.mem_of_getElem? (i := 62) rfl) rfl
theorem u_2_63 : Cond.code yX3_hinderingAt (prog_5_method_18_code) 6 (Option.some Jvm.ClassFile.FieldType.int) ∈ UG := um_2 (List.mem_of_getElem? (i := 63) rfl) rfl
theorem u_2_64 : Cond.methodLink RX3 87 yX3_clashWith ∈ UG := um_2 (List.mem_of_getElem? (i := 64) rfl) rfl
theorem u_2_66 : Cond.instanceMethod yX3_clashWith ∈ UG := um_2 (List.mem_of_getElem? (i := 66) rfl) rfl
theorem u_2_67 : Cond.code yX3_clashWith (prog_5_method_17_code) 5 (Option.some Jvm.ClassFile.FieldType.int) ∈ UG := um_2 (List.mem_of_getElem? (i := 67) rfl) rfl
theorem u_2_68 : Cond.methodLink RX2 44 yX2_hasFixed ∈ UG := um_2 (List.mem_of_getElem? (i := 68) rfl) rfl
theorem u_2_70 : Cond.instanceMethod yX2_hasFixed ∈ UG := um_2 (List.mem_of_getElem? (i := 70) rfl) rfl
theorem u_2_71 : Cond.code yX2_hasFixed (prog_4_method_4_code) 3 (Option.some Jvm.ClassFile.FieldType.boolean) ∈ UG := um_2 (List.mem_of_getElem? (i := 71) rfl) rfl
theorem u_2_72 : Cond.methodLink RX2 51 ⟨"java/lang/System", "arraycopy", "(Ljava/lang/Object;ILjava/lang/Object;II)V"⟩ ∈ UG := um_2 (List.mem_of_getElem? (i := 72) rfl) rfl
theorem u_2_73 : Cond.methodLink RX2 57 yX2_lift ∈ UG := um_2 (List.mem_of_getElem? (i := 73) rfl) rfl
theorem u_2_75 : Cond.instanceMethod yX2_lift ∈ UG := um_2 (List.mem_of_getElem? (i := 75) rfl) rfl
theorem u_2_76 : Cond.code yX2_lift (prog_4_method_5_code) 3 (Option.none : Option Jvm.ClassFile.FieldType) ∈ UG := um_2 (List.mem_of_getElem? (i := 76) rfl) rfl
theorem u_2_77 : Cond.methodLink RX2 61 yX3_moveTo ∈ UG := um_2 (List.mem_of_getElem? (i := 77) rfl) rfl
theorem u_2_78 : Cond.instanceMethod yX3_moveTo ∈ UG := um_2 (List.mem_of_getElem? (i := 78) rfl) rfl
theorem u_2_79 : Cond.selects RX3 yX3_moveTo yX3_moveTo ∈ UG := um_2 (List.mem_of_getElem? (i := 79) rfl) rfl
theorem u_2_80 : Cond.code yX3_moveTo (prog_5_method_7_code) 3 (Option.none : Option Jvm.ClassFile.FieldType) ∈ UG := um_2 (List.mem_of_getElem? (i := 80) rfl) rfl
theorem u_2_81 : Cond.methodLink RX2 65 yX2_canAllMove ∈ UG := um_2 (List.mem_of_getElem? (i := 81) rfl) rfl
theorem u_2_83 : Cond.instanceMethod yX2_canAllMove ∈ UG := um_2 (List.mem_of_getElem? (i := 83) rfl) rfl
theorem u_2_84 : Cond.code yX2_canAllMove (prog_4_method_7_code) 3 (Option.some Jvm.ClassFile.FieldType.boolean) ∈ UG := um_2 (List.mem_of_getElem? (i := 84) rfl) rfl
theorem u_2_85 : Cond.methodLink RX2 83 yX3_freePlace ∈ UG := um_2 (List.mem_of_getElem? (i := 85) rfl) rfl
theorem u_2_86 : Cond.instanceMethod yX3_freePlace ∈ UG := um_2 (List.mem_of_getElem? (i := 86) rfl) rfl
theorem u_2_87 : Cond.selects RX3 yX3_freePlace yX3_freePlace ∈ UG := um_2 (List.mem_of_getElem? (i := 87) rfl) rfl
theorem u_2_88 : Cond.code yX3_freePlace (prog_5_method_19_code) 5 (Option.some Jvm.ClassFile.FieldType.int) ∈ UG := um_2 (List.mem_of_getElem? (i := 88) rfl) rfl
theorem u_2_89 : Cond.methodLink RX3 107 yX3_obstacleAt ∈ UG := um_2 (List.mem_of_getElem? (i := 89) rfl) rfl
theorem u_2_90 : Cond.instanceMethod yX3_obstacleAt ∈ UG := um_2 (List.mem_of_getElem? (i := 90) rfl) rfl
theorem u_2_91 : Cond.selects RX3 yX3_obstacleAt yX3_obstacleAt ∈ UG := um_2 (List.mem_of_getElem? (i := 91) rfl) rfl
theorem u_2_92 : Cond.code yX3_obstacleAt (prog_5_method_15_code) 7 (Option.some Jvm.ClassFile.FieldType.int) ∈ UG := um_2 (List.mem_of_getElem? (i := 92) rfl) rfl
theorem u_2_93 : Cond.methodLink RX2 68 yX2_placeAnew ∈ UG := um_2 (List.mem_of_getElem? (i := 93) rfl) rfl
theorem u_2_94 : Cond.static yX2_placeAnew ∈ UG := um_2 (List.mem_of_getElem? (i := 94) rfl) rfl
theorem u_2_95 : Cond.code yX2_placeAnew (prog_4_method_8_code) 5 (Option.some Jvm.ClassFile.FieldType.boolean) ∈ UG := um_2 (List.mem_of_getElem? (i := 95) rfl) rfl
theorem u_2_96 : Cond.methodLink RX2 86 yX3_obstacleAt ∈ UG := um_2 (List.mem_of_getElem? (i := 96) rfl) rfl
theorem u_2_97 : Cond.methodLink RX2 72 yX2_putBack ∈ UG := um_2 (List.mem_of_getElem? (i := 97) rfl) rfl
theorem u_2_99 : Cond.instanceMethod yX2_putBack ∈ UG := um_2 (List.mem_of_getElem? (i := 99) rfl) rfl
theorem u_2_100 : Cond.code yX2_putBack (prog_4_method_6_code) 3 (Option.none : Option Jvm.ClassFile.FieldType) ∈ UG := um_2 (List.mem_of_getElem? (i := 100) rfl) rfl
theorem u_2_101 : Cond.methodLink RX4 236 yX3_unplaced ∈ UG := um_2 (List.mem_of_getElem? (i := 101) rfl) rfl
theorem u_2_102 : Cond.instanceMethod yX3_unplaced ∈ UG := um_2 (List.mem_of_getElem? (i := 102) rfl) rfl
theorem u_2_103 : Cond.selects RX3 yX3_unplaced yX3_unplaced ∈ UG := um_2 (List.mem_of_getElem? (i := 103) rfl) rfl
theorem u_2_104 : Cond.code yX3_unplaced (prog_5_method_31_code) 1 (Option.some Jvm.ClassFile.FieldType.int) ∈ UG := um_2 (List.mem_of_getElem? (i := 104) rfl) rfl
theorem u_2_105 : Cond.methodLink RX3 119 yX3_placedOnes ∈ UG := um_2 (List.mem_of_getElem? (i := 105) rfl) rfl
theorem u_2_106 : Cond.instanceMethod yX3_placedOnes ∈ UG := um_2 (List.mem_of_getElem? (i := 106) rfl) rfl
theorem u_2_107 : Cond.selects RX3 yX3_placedOnes yX3_placedOnes ∈ UG := um_2 (List.mem_of_getElem? (i := 107) rfl) rfl
theorem u_2_108 : Cond.code yX3_placedOnes (prog_5_method_29_code) 3 (Option.some Jvm.ClassFile.FieldType.int) ∈ UG := um_2 (List.mem_of_getElem? (i := 108) rfl) rfl
theorem u_2_109 : Cond.methodLink RL 214 yX4_mark ∈ UG := um_2 (List.mem_of_getElem? (i := 109) rfl) rfl
theorem u_2_110 : Cond.instanceMethod yX4_mark ∈ UG := um_2 (List.mem_of_getElem? (i := 110) rfl) rfl
theorem u_2_111 : Cond.selects RX4 yX4_mark yX4_mark ∈ UG := um_2 (List.mem_of_getElem? (i := 111) rfl) rfl
theorem u_2_112 : Cond.code yX4_mark (prog_1_method_30_code) 1 (Option.some Jvm.ClassFile.FieldType.int) ∈ UG := um_2 (List.mem_of_getElem? (i := 112) rfl) rfl
theorem u_2_113 : Cond.methodLink RX4 285 ⟨"java/lang/System", "arraycopy", "(Ljava/lang/Object;ILjava/lang/Object;II)V"⟩ ∈ UG := um_2 (List.mem_of_getElem? (i := 113) rfl) rfl
theorem u_2_114 : Cond.methodLink RX4 291 yX3_placedOnes ∈ UG := um_2 (List.mem_of_getElem? (i := 114) rfl) rfl
theorem u_2_115 : Cond.methodLink RL 218 yX4_changed ∈ UG := um_2 (List.mem_of_getElem? (i := 115) rfl) rfl
theorem u_2_116 : Cond.instanceMethod yX4_changed ∈ UG := um_2 (List.mem_of_getElem? (i := 116) rfl) rfl
theorem u_2_117 : Cond.selects RX4 yX4_changed yX4_changed ∈ UG := um_2 (List.mem_of_getElem? (i := 117) rfl) rfl
theorem u_2_118 : Cond.code yX4_changed (prog_1_method_31_code) 3 (Option.some Jvm.ClassFile.FieldType.int) ∈ UG := um_2 (List.mem_of_getElem? (i := 118) rfl) rfl
theorem u_2_119 : Cond.methodLink RL 231 yX4_save ∈ UG := um_2 (List.mem_of_getElem? (i := 119) rfl) rfl
theorem u_2_120 : Cond.instanceMethod yX4_save ∈ UG := um_2 (List.mem_of_getElem? (i := 120) rfl) rfl
theorem u_2_121 : Cond.selects RX4 yX4_save yX4_save ∈ UG := um_2 (List.mem_of_getElem? (i := 121) rfl) rfl
theorem u_2_122 : Cond.code yX4_save (prog_1_method_35_code) 1 (Option.some Jvm.ClassFile.FieldType.int) ∈ UG := um_2 (List.mem_of_getElem? (i := 122) rfl) rfl
theorem u_2_123 : Cond.methodLink RX4 308 yX3_copyFrom ∈ UG := um_2 (List.mem_of_getElem? (i := 123) rfl) rfl
theorem u_2_124 : Cond.methodLink RL 118 yL_setRoom ∈ UG := um_2 (List.mem_of_getElem? (i := 124) rfl) rfl
theorem u_2_125 : Cond.static yL_setRoom ∈ UG := um_2 (List.mem_of_getElem? (i := 125) rfl) rfl
theorem u_2_126 : Cond.codeWith yL_setRoom (method_3_code) 6 (Option.some Jvm.ClassFile.FieldType.int) ([((0 : Nat), (12 : Nat), (15 : Nat), (13 : Nat)), ((0 : Nat), (12 : Nat), (19 : Nat), (15 : Nat))]) ∈ UG := um_2 (List.mem_of_getElem? (i := 126) rfl) rfl
theorem u_2_127 : Cond.classLink RL 13 "java/lang/IndexOutOfBoundsException" ∈ UG := um_2 (List.mem_of_getElem? (i := 127) rfl) rfl
theorem u_2_128 : Cond.classLink RL 15 "java/lang/IllegalArgumentException" ∈ UG := um_2 (List.mem_of_getElem? (i := 128) rfl) rfl
theorem u_2_129 : Cond.methodLink RL 7 yX4_setRoom ∈ UG := um_2 (List.mem_of_getElem? (i := 129) rfl) rfl
theorem u_2_130 : Cond.instanceMethod yX4_setRoom ∈ UG := um_2 (List.mem_of_getElem? (i := 130) rfl) rfl
theorem u_2_131 : Cond.selects RX4 yX4_setRoom yX4_setRoom ∈ UG := um_2 (List.mem_of_getElem? (i := 131) rfl) rfl
theorem u_2_132 : Cond.code yX4_setRoom (prog_1_method_2_code) 4 (Option.some Jvm.ClassFile.FieldType.int) ∈ UG := um_2 (List.mem_of_getElem? (i := 132) rfl) rfl
theorem u_2_133 : Cond.methodLink RX4 42 yX4_requireIndex ∈ UG := um_2 (List.mem_of_getElem? (i := 133) rfl) rfl
theorem u_2_134 : Cond.static yX4_requireIndex ∈ UG := um_2 (List.mem_of_getElem? (i := 134) rfl) rfl
theorem u_2_135 : Cond.code yX4_requireIndex (prog_1_method_37_code) 2 (Option.none : Option Jvm.ClassFile.FieldType) ∈ UG := um_2 (List.mem_of_getElem? (i := 135) rfl) rfl
theorem u_2_136 : Cond.classLink RX4 317 "java/lang/IndexOutOfBoundsException" ∈ UG := um_2 (List.mem_of_getElem? (i := 136) rfl) rfl
theorem u_2_137 : Cond.instantiable "java/lang/IndexOutOfBoundsException" 6 ∈ UG := um_2 (List.mem_of_getElem? (i := 137) rfl) rfl
theorem u_2_145 : Cond.selects "java/lang/IndexOutOfBoundsException" ⟨"java/lang/Throwable", "fillInStackTrace", "(I)Ljava/lang/Throwable;"⟩ ⟨"java/lang/Throwable", "fillInStackTrace", "(I)Ljava/lang/Throwable;"⟩ ∈ UG := um_2 (List.mem_of_getElem? (i := 145) rfl) rfl
theorem u_2_146 : Cond.selects "java/lang/IndexOutOfBoundsException" ⟨"java/lang/Throwable", "fillInStackTrace", "()Ljava/lang/Throwable;"⟩ ⟨"java/lang/Throwable", "fillInStackTrace", "()Ljava/lang/Throwable;"⟩ ∈ UG := um_2 (List.mem_of_getElem? (i := 146) rfl) rfl
theorem u_2_147 : Cond.lays "java/lang/IndexOutOfBoundsException" "java/lang/Throwable" "cause" "Ljava/lang/Throwable;" ∈ UG := um_2 (List.mem_of_getElem? (i := 147) rfl) rfl
theorem u_2_148 : Cond.lays "java/lang/Throwable" "java/lang/Throwable" "cause" "Ljava/lang/Throwable;" ∈ UG := um_2 (List.mem_of_getElem? (i := 148) rfl) rfl
theorem u_2_149 : Cond.lays "java/lang/IndexOutOfBoundsException" "java/lang/Throwable" "stackTrace" "[Ljava/lang/StackTraceElement;" ∈ UG := um_2 (List.mem_of_getElem? (i := 149) rfl) rfl
theorem u_2_150 : Cond.lays "java/lang/Throwable" "java/lang/Throwable" "stackTrace" "[Ljava/lang/StackTraceElement;" ∈ UG := um_2 (List.mem_of_getElem? (i := 150) rfl) rfl
theorem u_2_151 : Cond.lays "java/lang/IndexOutOfBoundsException" "java/lang/Throwable" "suppressedExceptions" "Ljava/util/List;" ∈ UG := um_2 (List.mem_of_getElem? (i := 151) rfl) rfl
theorem u_2_152 : Cond.lays "java/lang/Throwable" "java/lang/Throwable" "suppressedExceptions" "Ljava/util/List;" ∈ UG := um_2 (List.mem_of_getElem? (i := 152) rfl) rfl
theorem u_2_153 : Cond.lays "java/lang/IndexOutOfBoundsException" "java/lang/Throwable" "detailMessage" "Ljava/lang/String;" ∈ UG := um_2 (List.mem_of_getElem? (i := 153) rfl) rfl
theorem u_2_154 : Cond.lays "java/lang/Throwable" "java/lang/Throwable" "detailMessage" "Ljava/lang/String;" ∈ UG := um_2 (List.mem_of_getElem? (i := 154) rfl) rfl
theorem u_2_155 : Cond.lays "java/lang/IndexOutOfBoundsException" "java/lang/Throwable" "backtrace" "Ljava/lang/Object;" ∈ UG := um_2 (List.mem_of_getElem? (i := 155) rfl) rfl
theorem u_2_156 : Cond.lays "java/lang/Throwable" "java/lang/Throwable" "backtrace" "Ljava/lang/Object;" ∈ UG := um_2 (List.mem_of_getElem? (i := 156) rfl) rfl
theorem u_2_157 : Cond.fieldLink "java/lang/Throwable" 198 "java/lang/Throwable" "backtrace" "Ljava/lang/Object;" ∈ UG := um_2 (List.mem_of_getElem? (i := 157) rfl) rfl
theorem u_2_159 : Cond.instanceMethod ⟨"java/lang/Throwable", "<init>", "()V"⟩ ∈ UG := um_2 (List.mem_of_getElem? (i := 159) rfl) rfl
theorem u_2_160 : Cond.code ⟨"java/lang/Throwable", "<init>", "()V"⟩ (prog_27_method_1_code) 1 (Option.none : Option Jvm.ClassFile.FieldType) ∈ UG := um_2 (List.mem_of_getElem? (i := 160) rfl) rfl
theorem u_2_161 : Cond.methodLink "java/lang/Throwable" 1 ⟨"java/lang/Object", "<init>", "()V"⟩ ∈ UG := um_2 (List.mem_of_getElem? (i := 161) rfl) rfl
theorem u_2_162 : Cond.fieldLink "java/lang/Throwable" 13 "java/lang/Throwable" "UNASSIGNED_STACK" "[Ljava/lang/StackTraceElement;" ∈ UG := um_2 (List.mem_of_getElem? (i := 162) rfl) rfl
theorem u_2_164 : Cond.fieldLink "java/lang/Throwable" 20 "java/lang/Throwable" "SUPPRESSED_SENTINEL" "Ljava/util/List;" ∈ UG := um_2 (List.mem_of_getElem? (i := 164) rfl) rfl
theorem u_2_166 : Cond.methodLink "java/lang/Throwable" 27 ⟨"java/lang/Throwable", "fillInStackTrace", "()Ljava/lang/Throwable;"⟩ ∈ UG := um_2 (List.mem_of_getElem? (i := 166) rfl) rfl
theorem u_2_167 : Cond.instanceMethod ⟨"java/lang/Throwable", "fillInStackTrace", "()Ljava/lang/Throwable;"⟩ ∈ UG := um_2 (List.mem_of_getElem? (i := 167) rfl) rfl
theorem u_2_168 : Cond.sameMethod "java/lang/Throwable" "java/lang/Throwable" "fillInStackTrace" "()Ljava/lang/Throwable;" ∈ UG := um_2 (List.mem_of_getElem? (i := 168) rfl) rfl
theorem u_2_169 : Cond.selects "java/lang/IllegalArgumentException" ⟨"java/lang/Throwable", "fillInStackTrace", "()Ljava/lang/Throwable;"⟩ ⟨"java/lang/Throwable", "fillInStackTrace", "()Ljava/lang/Throwable;"⟩ ∈ UG := um_2 (List.mem_of_getElem? (i := 169) rfl) rfl
theorem u_2_170 : Cond.selects "java/lang/IllegalStateException" ⟨"java/lang/Throwable", "fillInStackTrace", "()Ljava/lang/Throwable;"⟩ ⟨"java/lang/Throwable", "fillInStackTrace", "()Ljava/lang/Throwable;"⟩ ∈ UG := um_2 (List.mem_of_getElem? (i := 170) rfl) rfl
theorem u_2_171 : Cond.selects "java/lang/UnsupportedOperationException" ⟨"java/lang/Throwable", "fillInStackTrace", "()Ljava/lang/Throwable;"⟩ ⟨"java/lang/Throwable", "fillInStackTrace", "()Ljava/lang/Throwable;"⟩ ∈ UG := um_2 (List.mem_of_getElem? (i := 171) rfl) rfl
theorem u_2_172 : Cond.selects "java/util/NoSuchElementException" ⟨"java/lang/Throwable", "fillInStackTrace", "()Ljava/lang/Throwable;"⟩ ⟨"java/lang/Throwable", "fillInStackTrace", "()Ljava/lang/Throwable;"⟩ ∈ UG := um_2 (List.mem_of_getElem? (i := 172) rfl) rfl
theorem u_2_173 : Cond.codeSync ⟨"java/lang/Throwable", "fillInStackTrace", "()Ljava/lang/Throwable;"⟩ (prog_27_method_18_code) 1 (Option.some (Jvm.ClassFile.FieldType.object "java/lang/Throwable")) ∈ UG := um_2 (List.mem_of_getElem? (i := 173) rfl) rfl
theorem u_2_174 : Cond.methodLink "java/lang/Throwable" 202 ⟨"java/lang/Throwable", "fillInStackTrace", "(I)Ljava/lang/Throwable;"⟩ ∈ UG := um_2 (List.mem_of_getElem? (i := 174) rfl) rfl
theorem u_2_176 : Cond.instanceMethod ⟨"java/lang/Throwable", "fillInStackTrace", "(I)Ljava/lang/Throwable;"⟩ ∈ UG := um_2 (List.mem_of_getElem? (i := 176) rfl) rfl
theorem u_2_177 : Cond.instantiable "java/lang/Throwable" 6 ∈ UG := um_2 (List.mem_of_getElem? (i := 177) rfl) rfl
theorem u_2_178 : Cond.native ⟨"java/lang/Throwable", "fillInStackTrace", "(I)Ljava/lang/Throwable;"⟩ ∈ UG := um_2 (List.mem_of_getElem? (i := 178) rfl) rfl
theorem u_2_180 : Cond.methodLink RX4 319 ⟨"java/lang/IndexOutOfBoundsException", "<init>", "(Ljava/lang/String;)V"⟩ ∈ UG := um_2 (List.mem_of_getElem? (i := 180) rfl) rfl
theorem u_2_181 : Cond.instanceMethod ⟨"java/lang/IndexOutOfBoundsException", "<init>", "(Ljava/lang/String;)V"⟩ ∈ UG := um_2 (List.mem_of_getElem? (i := 181) rfl) rfl
theorem u_2_182 : Cond.code ⟨"java/lang/IndexOutOfBoundsException", "<init>", "(Ljava/lang/String;)V"⟩ (prog_17_method_2_code) 2 (Option.none : Option Jvm.ClassFile.FieldType) ∈ UG := um_2 (List.mem_of_getElem? (i := 182) rfl) rfl
theorem u_2_183 : Cond.methodLink "java/lang/IndexOutOfBoundsException" 7 ⟨"java/lang/RuntimeException", "<init>", "(Ljava/lang/String;)V"⟩ ∈ UG := um_2 (List.mem_of_getElem? (i := 183) rfl) rfl
theorem u_2_184 : Cond.instanceMethod ⟨"java/lang/RuntimeException", "<init>", "(Ljava/lang/String;)V"⟩ ∈ UG := um_2 (List.mem_of_getElem? (i := 184) rfl) rfl
theorem u_2_185 : Cond.code ⟨"java/lang/RuntimeException", "<init>", "(Ljava/lang/String;)V"⟩ (prog_21_method_2_code) 2 (Option.none : Option Jvm.ClassFile.FieldType) ∈ UG := um_2 (List.mem_of_getElem? (i := 185) rfl) rfl
theorem u_2_186 : Cond.methodLink "java/lang/RuntimeException" 7 ⟨"java/lang/Exception", "<init>", "(Ljava/lang/String;)V"⟩ ∈ UG := um_2 (List.mem_of_getElem? (i := 186) rfl) rfl
theorem u_2_187 : Cond.instanceMethod ⟨"java/lang/Exception", "<init>", "(Ljava/lang/String;)V"⟩ ∈ UG := um_2 (List.mem_of_getElem? (i := 187) rfl) rfl
theorem u_2_188 : Cond.code ⟨"java/lang/Exception", "<init>", "(Ljava/lang/String;)V"⟩ (prog_14_method_2_code) 2 (Option.none : Option Jvm.ClassFile.FieldType) ∈ UG := um_2 (List.mem_of_getElem? (i := 188) rfl) rfl
theorem u_2_189 : Cond.methodLink "java/lang/Exception" 7 ⟨"java/lang/Throwable", "<init>", "(Ljava/lang/String;)V"⟩ ∈ UG := um_2 (List.mem_of_getElem? (i := 189) rfl) rfl
theorem u_2_190 : Cond.instanceMethod ⟨"java/lang/Throwable", "<init>", "(Ljava/lang/String;)V"⟩ ∈ UG := um_2 (List.mem_of_getElem? (i := 190) rfl) rfl
theorem u_2_191 : Cond.code ⟨"java/lang/Throwable", "<init>", "(Ljava/lang/String;)V"⟩ (prog_27_method_2_code) 2 (Option.none : Option Jvm.ClassFile.FieldType) ∈ UG := um_2 (List.mem_of_getElem? (i := 191) rfl) rfl
theorem u_2_193 : Cond.fieldLink "java/lang/Throwable" 31 "java/lang/Throwable" "detailMessage" "Ljava/lang/String;" ∈ UG := um_2 (List.mem_of_getElem? (i := 193) rfl) rfl
theorem u_2_194 : Cond.fieldLink "java/lang/Throwable" 7 "java/lang/Throwable" "cause" "Ljava/lang/Throwable;" ∈ UG := um_2 (List.mem_of_getElem? (i := 194) rfl) rfl
theorem u_2_195 : Cond.fieldLink "java/lang/Throwable" 17 "java/lang/Throwable" "stackTrace" "[Ljava/lang/StackTraceElement;" ∈ UG := um_2 (List.mem_of_getElem? (i := 195) rfl) rfl
theorem u_2_196 : Cond.fieldLink "java/lang/Throwable" 24 "java/lang/Throwable" "suppressedExceptions" "Ljava/util/List;" ∈ UG := um_2 (List.mem_of_getElem? (i := 196) rfl) rfl
theorem u_2_201 : Cond.lays "java/lang/IndexOutOfBoundsException" "java/lang/Throwable" "depth" "I" ∈ UG := um_2 (List.mem_of_getElem? (i := 201) rfl) rfl
theorem u_2_205 : Cond.arrayClass (Jvm.ClassFile.FieldType.byte) ∈ UG := um_2 (List.mem_of_getElem? (i := 205) rfl) rfl
theorem u_2_206 : Cond.methodLink RX4 46 yX4_requireRange ∈ UG := um_2 (List.mem_of_getElem? (i := 206) rfl) rfl
theorem u_2_207 : Cond.static yX4_requireRange ∈ UG := um_2 (List.mem_of_getElem? (i := 207) rfl) rfl
theorem u_2_208 : Cond.code yX4_requireRange (prog_1_method_38_code) 3 (Option.none : Option Jvm.ClassFile.FieldType) ∈ UG := um_2 (List.mem_of_getElem? (i := 208) rfl) rfl
theorem u_2_209 : Cond.classLink RX4 77 "java/lang/IllegalArgumentException" ∈ UG := um_2 (List.mem_of_getElem? (i := 209) rfl) rfl
theorem u_2_210 : Cond.instantiable "java/lang/IllegalArgumentException" 6 ∈ UG := um_2 (List.mem_of_getElem? (i := 210) rfl) rfl
theorem u_2_212 : Cond.selects "java/lang/IllegalArgumentException" ⟨"java/lang/Throwable", "fillInStackTrace", "(I)Ljava/lang/Throwable;"⟩ ⟨"java/lang/Throwable", "fillInStackTrace", "(I)Ljava/lang/Throwable;"⟩ ∈ UG := um_2 (List.mem_of_getElem? (i := 212) rfl) rfl
theorem u_2_213 : Cond.lays "java/lang/IllegalArgumentException" "java/lang/Throwable" "cause" "Ljava/lang/Throwable;" ∈ UG := um_2 (List.mem_of_getElem? (i := 213) rfl) rfl
theorem u_2_214 : Cond.lays "java/lang/IllegalArgumentException" "java/lang/Throwable" "stackTrace" "[Ljava/lang/StackTraceElement;" ∈ UG := um_2 (List.mem_of_getElem? (i := 214) rfl) rfl
theorem u_2_215 : Cond.lays "java/lang/IllegalArgumentException" "java/lang/Throwable" "suppressedExceptions" "Ljava/util/List;" ∈ UG := um_2 (List.mem_of_getElem? (i := 215) rfl) rfl
theorem u_2_216 : Cond.lays "java/lang/IllegalArgumentException" "java/lang/Throwable" "detailMessage" "Ljava/lang/String;" ∈ UG := um_2 (List.mem_of_getElem? (i := 216) rfl) rfl
theorem u_2_217 : Cond.lays "java/lang/IllegalArgumentException" "java/lang/Throwable" "backtrace" "Ljava/lang/Object;" ∈ UG := um_2 (List.mem_of_getElem? (i := 217) rfl) rfl
theorem u_2_219 : Cond.methodLink RX4 81 ⟨"java/lang/IllegalArgumentException", "<init>", "(Ljava/lang/String;)V"⟩ ∈ UG := um_2 (List.mem_of_getElem? (i := 219) rfl) rfl
theorem u_2_220 : Cond.instanceMethod ⟨"java/lang/IllegalArgumentException", "<init>", "(Ljava/lang/String;)V"⟩ ∈ UG := um_2 (List.mem_of_getElem? (i := 220) rfl) rfl
theorem u_2_221 : Cond.code ⟨"java/lang/IllegalArgumentException", "<init>", "(Ljava/lang/String;)V"⟩ (prog_15_method_2_code) 2 (Option.none : Option Jvm.ClassFile.FieldType) ∈ UG := um_2 (List.mem_of_getElem? (i := 221) rfl) rfl
theorem u_2_222 : Cond.methodLink "java/lang/IllegalArgumentException" 7 ⟨"java/lang/RuntimeException", "<init>", "(Ljava/lang/String;)V"⟩ ∈ UG := um_2 (List.mem_of_getElem? (i := 222) rfl) rfl
theorem u_2_223 : Cond.lays "java/lang/IllegalArgumentException" "java/lang/Throwable" "depth" "I" ∈ UG := um_2 (List.mem_of_getElem? (i := 223) rfl) rfl
theorem u_2_225 : Cond.methodLink RX4 60 yX3_unplaceUnsuitable ∈ UG := um_2 (List.mem_of_getElem? (i := 225) rfl) rfl
theorem u_2_226 : Cond.instanceMethod yX3_unplaceUnsuitable ∈ UG := um_2 (List.mem_of_getElem? (i := 226) rfl) rfl
theorem u_2_227 : Cond.selects RX3 yX3_unplaceUnsuitable yX3_unplaceUnsuitable ∈ UG := um_2 (List.mem_of_getElem? (i := 227) rfl) rfl
theorem u_2_228 : Cond.code yX3_unplaceUnsuitable (prog_5_method_9_code) 4 (Option.some Jvm.ClassFile.FieldType.int) ∈ UG := um_2 (List.mem_of_getElem? (i := 228) rfl) rfl
theorem u_2_229 : Cond.methodLink RX3 83 yX3_release ∈ UG := um_2 (List.mem_of_getElem? (i := 229) rfl) rfl
theorem u_2_230 : Cond.instanceMethod yX3_release ∈ UG := um_2 (List.mem_of_getElem? (i := 230) rfl) rfl
theorem u_2_231 : Cond.selects RX3 yX3_release yX3_release ∈ UG := um_2 (List.mem_of_getElem? (i := 231) rfl) rfl
theorem u_2_232 : Cond.code yX3_release (prog_5_method_8_code) 2 (Option.none : Option Jvm.ClassFile.FieldType) ∈ UG := um_2 (List.mem_of_getElem? (i := 232) rfl) rfl
theorem u_2_233 : Cond.methodLink RX3 76 yX3_moveTo ∈ UG := um_2 (List.mem_of_getElem? (i := 233) rfl) rfl
theorem u_2_234 : Cond.methodLink RL 127 yL_setGroup ∈ UG := um_2 (List.mem_of_getElem? (i := 234) rfl) rfl
theorem u_2_235 : Cond.static yL_setGroup ∈ UG := um_2 (List.mem_of_getElem? (i := 235) rfl) rfl
theorem u_2_236 : Cond.codeWith yL_setGroup (method_4_code) 5 (Option.some Jvm.ClassFile.FieldType.int) ([((0 : Nat), (10 : Nat), (13 : Nat), (13 : Nat)), ((0 : Nat), (10 : Nat), (17 : Nat), (15 : Nat))]) ∈ UG := um_2 (List.mem_of_getElem? (i := 236) rfl) rfl
theorem u_2_237 : Cond.methodLink RL 17 yX4_setGroup ∈ UG := um_2 (List.mem_of_getElem? (i := 237) rfl) rfl
theorem u_2_238 : Cond.instanceMethod yX4_setGroup ∈ UG := um_2 (List.mem_of_getElem? (i := 238) rfl) rfl
theorem u_2_239 : Cond.selects RX4 yX4_setGroup yX4_setGroup ∈ UG := um_2 (List.mem_of_getElem? (i := 239) rfl) rfl
theorem u_3_0 : Cond.code yX4_setGroup (prog_1_method_3_code) 3 (Option.some Jvm.ClassFile.FieldType.int) ∈ UG := um_3 (List.mem_of_getElem? (i := 0) rfl) rfl
theorem u_3_1 : Cond.methodLink RL 131 yL_setTeacher ∈ UG := um_3 (List.mem_of_getElem? (i := 1) rfl) rfl
theorem u_3_2 : Cond.static yL_setTeacher ∈ UG := um_3 (List.mem_of_getElem? (i := 2) rfl) rfl
theorem u_3_3 : Cond.codeWith yL_setTeacher (method_5_code) 5 (Option.some Jvm.ClassFile.FieldType.int) ([((0 : Nat), (10 : Nat), (13 : Nat), (13 : Nat)), ((0 : Nat), (10 : Nat), (17 : Nat), (15 : Nat))]) ∈ UG := um_3 (List.mem_of_getElem? (i := 3) rfl) rfl
theorem u_3_4 : Cond.methodLink RL 21 yX4_setTeacher ∈ UG := um_3 (List.mem_of_getElem? (i := 4) rfl) rfl
theorem u_3_5 : Cond.instanceMethod yX4_setTeacher ∈ UG := um_3 (List.mem_of_getElem? (i := 5) rfl) rfl
theorem u_3_6 : Cond.selects RX4 yX4_setTeacher yX4_setTeacher ∈ UG := um_3 (List.mem_of_getElem? (i := 6) rfl) rfl
theorem u_3_7 : Cond.code yX4_setTeacher (prog_1_method_4_code) 3 (Option.some Jvm.ClassFile.FieldType.int) ∈ UG := um_3 (List.mem_of_getElem? (i := 7) rfl) rfl
theorem u_3_8 : Cond.methodLink RL 134 yL_setWeight ∈ UG := um_3 (List.mem_of_getElem? (i := 8) rfl) rfl
theorem u_3_9 : Cond.static yL_setWeight ∈ UG := um_3 (List.mem_of_getElem? (i := 9) rfl) rfl
theorem u_3_10 : Cond.codeWith yL_setWeight (method_6_code) 5 (Option.some Jvm.ClassFile.FieldType.int) ([((0 : Nat), (10 : Nat), (13 : Nat), (13 : Nat)), ((0 : Nat), (10 : Nat), (17 : Nat), (15 : Nat))]) ∈ UG := um_3 (List.mem_of_getElem? (i := 10) rfl) rfl
theorem u_3_11 : Cond.methodLink RL 24 yX4_setWeight ∈ UG := um_3 (List.mem_of_getElem? (i := 11) rfl) rfl
theorem u_3_12 : Cond.instanceMethod yX4_setWeight ∈ UG := um_3 (List.mem_of_getElem? (i := 12) rfl) rfl
theorem u_3_13 : Cond.selects RX4 yX4_setWeight yX4_setWeight ∈ UG := um_3 (List.mem_of_getElem? (i := 13) rfl) rfl
theorem u_3_14 : Cond.code yX4_setWeight (prog_1_method_5_code) 4 (Option.some Jvm.ClassFile.FieldType.int) ∈ UG := um_3 (List.mem_of_getElem? (i := 14) rfl) rfl
theorem u_3_15 : Cond.methodLink RL 137 yL_setting ∈ UG := um_3 (List.mem_of_getElem? (i := 15) rfl) rfl
theorem u_3_16 : Cond.static yL_setting ∈ UG := um_3 (List.mem_of_getElem? (i := 16) rfl) rfl
theorem u_3_17 : Cond.codeWith yL_setting (method_7_code) 5 (Option.some Jvm.ClassFile.FieldType.int) ([((0 : Nat), (10 : Nat), (13 : Nat), (15 : Nat)), ((0 : Nat), (10 : Nat), (17 : Nat), (13 : Nat))]) ∈ UG := um_3 (List.mem_of_getElem? (i := 17) rfl) rfl
theorem u_3_18 : Cond.methodLink RL 27 yX4_setting ∈ UG := um_3 (List.mem_of_getElem? (i := 18) rfl) rfl
theorem u_3_19 : Cond.instanceMethod yX4_setting ∈ UG := um_3 (List.mem_of_getElem? (i := 19) rfl) rfl
theorem u_3_20 : Cond.selects RX4 yX4_setting yX4_setting ∈ UG := um_3 (List.mem_of_getElem? (i := 20) rfl) rfl
theorem u_3_21 : Cond.code yX4_setting (prog_1_method_6_code) 3 (Option.some Jvm.ClassFile.FieldType.int) ∈ UG := um_3 (List.mem_of_getElem? (i := 21) rfl) rfl
theorem u_3_22 : Cond.methodLink RL 140 yL_append ∈ UG := um_3 (List.mem_of_getElem? (i := 22) rfl) rfl
theorem u_3_23 : Cond.static yL_append ∈ UG := um_3 (List.mem_of_getElem? (i := 23) rfl) rfl
theorem u_3_24 : Cond.codeWith yL_append (method_8_code) 4 (Option.some Jvm.ClassFile.FieldType.int) ([((0 : Nat), (9 : Nat), (12 : Nat), (15 : Nat)), ((0 : Nat), (9 : Nat), (15 : Nat), (34 : Nat))]) ∈ UG := um_3 (List.mem_of_getElem? (i := 24) rfl) rfl
theorem u_3_25 : Cond.classLink RL 34 "java/lang/IllegalStateException" ∈ UG := um_3 (List.mem_of_getElem? (i := 25) rfl) rfl
theorem u_3_26 : Cond.methodLink RL 30 yX4_append ∈ UG := um_3 (List.mem_of_getElem? (i := 26) rfl) rfl
theorem u_3_27 : Cond.instanceMethod yX4_append ∈ UG := um_3 (List.mem_of_getElem? (i := 27) rfl) rfl
theorem u_3_28 : Cond.selects RX4 yX4_append yX4_append ∈ UG := um_3 (List.mem_of_getElem? (i := 28) rfl) rfl
theorem u_3_29 : Cond.code yX4_append (prog_1_method_7_code) 2 (Option.some Jvm.ClassFile.FieldType.int) ∈ UG := um_3 (List.mem_of_getElem? (i := 29) rfl) rfl
theorem u_3_30 : Cond.methodLink RX4 73 yX0_isText ∈ UG := um_3 (List.mem_of_getElem? (i := 30) rfl) rfl
theorem u_3_31 : Cond.static yX0_isText ∈ UG := um_3 (List.mem_of_getElem? (i := 31) rfl) rfl
theorem u_3_32 : Cond.code yX0_isText (prog_2_method_2_code) 3 (Option.some Jvm.ClassFile.FieldType.boolean) ∈ UG := um_3 (List.mem_of_getElem? (i := 32) rfl) rfl
theorem u_3_34 : Cond.methodLink RX4 84 yX0_hasRoomFor ∈ UG := um_3 (List.mem_of_getElem? (i := 34) rfl) rfl
theorem u_3_35 : Cond.instanceMethod yX0_hasRoomFor ∈ UG := um_3 (List.mem_of_getElem? (i := 35) rfl) rfl
theorem u_3_36 : Cond.selects RX0 yX0_hasRoomFor yX0_hasRoomFor ∈ UG := um_3 (List.mem_of_getElem? (i := 36) rfl) rfl
theorem u_3_37 : Cond.code yX0_hasRoomFor (prog_2_method_3_code) 4 (Option.some Jvm.ClassFile.FieldType.boolean) ∈ UG := um_3 (List.mem_of_getElem? (i := 37) rfl) rfl
theorem u_3_38 : Cond.classLink RX4 87 "java/lang/IllegalStateException" ∈ UG := um_3 (List.mem_of_getElem? (i := 38) rfl) rfl
theorem u_3_39 : Cond.instantiable "java/lang/IllegalStateException" 6 ∈ UG := um_3 (List.mem_of_getElem? (i := 39) rfl) rfl
theorem u_3_41 : Cond.selects "java/lang/IllegalStateException" ⟨"java/lang/Throwable", "fillInStackTrace", "(I)Ljava/lang/Throwable;"⟩ ⟨"java/lang/Throwable", "fillInStackTrace", "(I)Ljava/lang/Throwable;"⟩ ∈ UG := um_3 (List.mem_of_getElem? (i := 41) rfl) rfl
theorem u_3_42 : Cond.lays "java/lang/IllegalStateException" "java/lang/Throwable" "cause" "Ljava/lang/Throwable;" ∈ UG := um_3 (List.mem_of_getElem? (i := 42) rfl) rfl
theorem u_3_43 : Cond.lays "java/lang/IllegalStateException" "java/lang/Throwable" "stackTrace" "[Ljava/lang/StackTraceElement;" ∈ UG := um_3 (List.mem_of_getElem? (i := 43) rfl) rfl
theorem u_3_44 : Cond.lays "java/lang/IllegalStateException" "java/lang/Throwable" "suppressedExceptions" "Ljava/util/List;" ∈ UG := um_3 (List.mem_of_getElem? (i := 44) rfl) rfl
theorem u_3_45 : Cond.lays "java/lang/IllegalStateException" "java/lang/Throwable" "detailMessage" "Ljava/lang/String;" ∈ UG := um_3 (List.mem_of_getElem? (i := 45) rfl) rfl
theorem u_3_46 : Cond.lays "java/lang/IllegalStateException" "java/lang/Throwable" "backtrace" "Ljava/lang/Object;" ∈ UG := um_3 (List.mem_of_getElem? (i := 46) rfl) rfl
theorem u_3_48 : Cond.methodLink RX4 91 ⟨"java/lang/IllegalStateException", "<init>", "(Ljava/lang/String;)V"⟩ ∈ UG := um_3 (List.mem_of_getElem? (i := 48) rfl) rfl
theorem u_3_49 : Cond.instanceMethod ⟨"java/lang/IllegalStateException", "<init>", "(Ljava/lang/String;)V"⟩ ∈ UG := um_3 (List.mem_of_getElem? (i := 49) rfl) rfl
theorem u_3_50 : Cond.code ⟨"java/lang/IllegalStateException", "<init>", "(Ljava/lang/String;)V"⟩ (prog_16_method_2_code) 2 (Option.none : Option Jvm.ClassFile.FieldType) ∈ UG := um_3 (List.mem_of_getElem? (i := 50) rfl) rfl
theorem u_3_51 : Cond.methodLink "java/lang/IllegalStateException" 7 ⟨"java/lang/RuntimeException", "<init>", "(Ljava/lang/String;)V"⟩ ∈ UG := um_3 (List.mem_of_getElem? (i := 51) rfl) rfl
theorem u_3_52 : Cond.lays "java/lang/IllegalStateException" "java/lang/Throwable" "depth" "I" ∈ UG := um_3 (List.mem_of_getElem? (i := 52) rfl) rfl
theorem u_3_54 : Cond.methodLink RX4 92 yX0_add ∈ UG := um_3 (List.mem_of_getElem? (i := 54) rfl) rfl
theorem u_3_55 : Cond.instanceMethod yX0_add ∈ UG := um_3 (List.mem_of_getElem? (i := 55) rfl) rfl
theorem u_3_56 : Cond.selects RX0 yX0_add yX0_add ∈ UG := um_3 (List.mem_of_getElem? (i := 56) rfl) rfl
theorem u_3_57 : Cond.code yX0_add (prog_2_method_4_code) 4 (Option.some Jvm.ClassFile.FieldType.int) ∈ UG := um_3 (List.mem_of_getElem? (i := 57) rfl) rfl
theorem u_3_58 : Cond.methodLink RL 144 yL_addEvent ∈ UG := um_3 (List.mem_of_getElem? (i := 58) rfl) rfl
theorem u_3_59 : Cond.static yL_addEvent ∈ UG := um_3 (List.mem_of_getElem? (i := 59) rfl) rfl
theorem u_3_60 : Cond.codeWith yL_addEvent (method_9_code) 3 (Option.some Jvm.ClassFile.FieldType.int) ([((0 : Nat), (8 : Nat), (11 : Nat), (15 : Nat)), ((0 : Nat), (8 : Nat), (14 : Nat), (34 : Nat))]) ∈ UG := um_3 (List.mem_of_getElem? (i := 60) rfl) rfl
theorem u_3_61 : Cond.methodLink RL 36 yX4_addEvent ∈ UG := um_3 (List.mem_of_getElem? (i := 61) rfl) rfl
theorem u_3_62 : Cond.instanceMethod yX4_addEvent ∈ UG := um_3 (List.mem_of_getElem? (i := 62) rfl) rfl
theorem u_3_63 : Cond.selects RX4 yX4_addEvent yX4_addEvent ∈ UG := um_3 (List.mem_of_getElem? (i := 63) rfl) rfl
theorem u_3_64 : Cond.code yX4_addEvent (prog_1_method_8_code) 1 (Option.some Jvm.ClassFile.FieldType.int) ∈ UG := um_3 (List.mem_of_getElem? (i := 64) rfl) rfl
theorem u_3_65 : Cond.methodLink RX4 96 yX0_readEvent ∈ UG := um_3 (List.mem_of_getElem? (i := 65) rfl) rfl
theorem u_3_66 : Cond.instanceMethod yX0_readEvent ∈ UG := um_3 (List.mem_of_getElem? (i := 66) rfl) rfl
theorem u_3_67 : Cond.selects RX0 yX0_readEvent yX0_readEvent ∈ UG := um_3 (List.mem_of_getElem? (i := 67) rfl) rfl
theorem u_3_68 : Cond.code yX0_readEvent (prog_2_method_5_code) 2 (Option.some Jvm.ClassFile.FieldType.boolean) ∈ UG := um_3 (List.mem_of_getElem? (i := 68) rfl) rfl
theorem u_3_69 : Cond.methodLink RX0 25 yX0_readTeacher ∈ UG := um_3 (List.mem_of_getElem? (i := 69) rfl) rfl
theorem u_3_71 : Cond.instanceMethod yX0_readTeacher ∈ UG := um_3 (List.mem_of_getElem? (i := 71) rfl) rfl
theorem u_3_72 : Cond.code yX0_readTeacher (prog_2_method_6_code) 1 (Option.some Jvm.ClassFile.FieldType.boolean) ∈ UG := um_3 (List.mem_of_getElem? (i := 72) rfl) rfl
theorem u_3_73 : Cond.methodLink RX0 38 yX0_digit ∈ UG := um_3 (List.mem_of_getElem? (i := 73) rfl) rfl
theorem u_3_75 : Cond.instanceMethod yX0_digit ∈ UG := um_3 (List.mem_of_getElem? (i := 75) rfl) rfl
theorem u_3_76 : Cond.code yX0_digit (prog_2_method_11_code) 2 (Option.some Jvm.ClassFile.FieldType.int) ∈ UG := um_3 (List.mem_of_getElem? (i := 76) rfl) rfl
theorem u_3_77 : Cond.methodLink RX0 58 yX0_sign ∈ UG := um_3 (List.mem_of_getElem? (i := 77) rfl) rfl
theorem u_3_79 : Cond.instanceMethod yX0_sign ∈ UG := um_3 (List.mem_of_getElem? (i := 79) rfl) rfl
theorem u_3_80 : Cond.code yX0_sign (prog_2_method_10_code) 1 (Option.some Jvm.ClassFile.FieldType.int) ∈ UG := um_3 (List.mem_of_getElem? (i := 80) rfl) rfl
theorem u_3_81 : Cond.methodLink RX0 45 yX0_skip ∈ UG := um_3 (List.mem_of_getElem? (i := 81) rfl) rfl
theorem u_3_83 : Cond.instanceMethod yX0_skip ∈ UG := um_3 (List.mem_of_getElem? (i := 83) rfl) rfl
theorem u_3_84 : Cond.code yX0_skip (prog_2_method_12_code) 2 (Option.some Jvm.ClassFile.FieldType.boolean) ∈ UG := um_3 (List.mem_of_getElem? (i := 84) rfl) rfl
theorem u_3_85 : Cond.methodLink RX0 29 yX0_readGroups ∈ UG := um_3 (List.mem_of_getElem? (i := 85) rfl) rfl
theorem u_3_87 : Cond.instanceMethod yX0_readGroups ∈ UG := um_3 (List.mem_of_getElem? (i := 87) rfl) rfl
theorem u_3_88 : Cond.code yX0_readGroups (prog_2_method_7_code) 4 (Option.some Jvm.ClassFile.FieldType.boolean) ∈ UG := um_3 (List.mem_of_getElem? (i := 88) rfl) rfl
theorem u_3_89 : Cond.methodLink RX0 32 yX0_readNeeds ∈ UG := um_3 (List.mem_of_getElem? (i := 89) rfl) rfl
theorem u_3_91 : Cond.instanceMethod yX0_readNeeds ∈ UG := um_3 (List.mem_of_getElem? (i := 91) rfl) rfl
theorem u_3_92 : Cond.code yX0_readNeeds (prog_2_method_8_code) 4 (Option.some Jvm.ClassFile.FieldType.boolean) ∈ UG := um_3 (List.mem_of_getElem? (i := 92) rfl) rfl
theorem u_3_93 : Cond.methodLink RX0 35 yX0_readLength ∈ UG := um_3 (List.mem_of_getElem? (i := 93) rfl) rfl
theorem u_3_95 : Cond.instanceMethod yX0_readLength ∈ UG := um_3 (List.mem_of_getElem? (i := 95) rfl) rfl
theorem u_3_96 : Cond.code yX0_readLength (prog_2_method_9_code) 2 (Option.some Jvm.ClassFile.FieldType.boolean) ∈ UG := um_3 (List.mem_of_getElem? (i := 96) rfl) rfl
theorem u_3_98 : Cond.methodLink RX4 102 yX4_requireRoomForEvent ∈ UG := um_3 (List.mem_of_getElem? (i := 98) rfl) rfl
theorem u_3_100 : Cond.instanceMethod yX4_requireRoomForEvent ∈ UG := um_3 (List.mem_of_getElem? (i := 100) rfl) rfl
theorem u_3_101 : Cond.code yX4_requireRoomForEvent (prog_1_method_40_code) 1 (Option.none : Option Jvm.ClassFile.FieldType) ∈ UG := um_3 (List.mem_of_getElem? (i := 101) rfl) rfl
theorem u_3_103 : Cond.methodLink RX4 118 yX3_newEvent ∈ UG := um_3 (List.mem_of_getElem? (i := 103) rfl) rfl
theorem u_3_104 : Cond.instanceMethod yX3_newEvent ∈ UG := um_3 (List.mem_of_getElem? (i := 104) rfl) rfl
theorem u_3_105 : Cond.selects RX3 yX3_newEvent yX3_newEvent ∈ UG := um_3 (List.mem_of_getElem? (i := 105) rfl) rfl
theorem u_3_106 : Cond.code yX3_newEvent (prog_5_method_4_code) 6 (Option.some Jvm.ClassFile.FieldType.int) ∈ UG := um_3 (List.mem_of_getElem? (i := 106) rfl) rfl
theorem u_3_107 : Cond.methodLink RL 152 yL_removeEvent ∈ UG := um_3 (List.mem_of_getElem? (i := 107) rfl) rfl
theorem u_3_108 : Cond.static yL_removeEvent ∈ UG := um_3 (List.mem_of_getElem? (i := 108) rfl) rfl
theorem u_3_109 : Cond.codeWith yL_removeEvent (method_10_code) 4 (Option.some Jvm.ClassFile.FieldType.int) ([((0 : Nat), (9 : Nat), (12 : Nat), (13 : Nat))]) ∈ UG := um_3 (List.mem_of_getElem? (i := 109) rfl) rfl
theorem u_3_110 : Cond.methodLink RL 40 yX4_removeEvent ∈ UG := um_3 (List.mem_of_getElem? (i := 110) rfl) rfl
theorem u_3_111 : Cond.instanceMethod yX4_removeEvent ∈ UG := um_3 (List.mem_of_getElem? (i := 111) rfl) rfl
theorem u_3_112 : Cond.selects RX4 yX4_removeEvent yX4_removeEvent ∈ UG := um_3 (List.mem_of_getElem? (i := 112) rfl) rfl
theorem u_3_113 : Cond.code yX4_removeEvent (prog_1_method_10_code) 2 (Option.some Jvm.ClassFile.FieldType.int) ∈ UG := um_3 (List.mem_of_getElem? (i := 113) rfl) rfl
theorem u_3_114 : Cond.methodLink RX4 125 yX4_requireEvent ∈ UG := um_3 (List.mem_of_getElem? (i := 114) rfl) rfl
theorem u_3_116 : Cond.instanceMethod yX4_requireEvent ∈ UG := um_3 (List.mem_of_getElem? (i := 116) rfl) rfl
theorem u_3_117 : Cond.code yX4_requireEvent (prog_1_method_39_code) 2 (Option.none : Option Jvm.ClassFile.FieldType) ∈ UG := um_3 (List.mem_of_getElem? (i := 117) rfl) rfl
theorem u_3_118 : Cond.methodLink RX4 320 yX3_hasEvent ∈ UG := um_3 (List.mem_of_getElem? (i := 118) rfl) rfl
theorem u_3_120 : Cond.methodLink RX4 129 yX3_dropEvent ∈ UG := um_3 (List.mem_of_getElem? (i := 120) rfl) rfl
theorem u_3_121 : Cond.instanceMethod yX3_dropEvent ∈ UG := um_3 (List.mem_of_getElem? (i := 121) rfl) rfl
theorem u_3_122 : Cond.selects RX3 yX3_dropEvent yX3_dropEvent ∈ UG := um_3 (List.mem_of_getElem? (i := 122) rfl) rfl
theorem u_3_123 : Cond.code yX3_dropEvent (prog_5_method_5_code) 3 (Option.none : Option Jvm.ClassFile.FieldType) ∈ UG := um_3 (List.mem_of_getElem? (i := 123) rfl) rfl
theorem u_3_124 : Cond.methodLink RX3 68 yX3_closeUp ∈ UG := um_3 (List.mem_of_getElem? (i := 124) rfl) rfl
theorem u_3_125 : Cond.static yX3_closeUp ∈ UG := um_3 (List.mem_of_getElem? (i := 125) rfl) rfl
theorem u_3_126 : Cond.code yX3_closeUp (prog_5_method_6_code) 4 (Option.none : Option Jvm.ClassFile.FieldType) ∈ UG := um_3 (List.mem_of_getElem? (i := 126) rfl) rfl
theorem u_3_127 : Cond.methodLink RL 155 yL_split ∈ UG := um_3 (List.mem_of_getElem? (i := 127) rfl) rfl
theorem u_3_128 : Cond.static yL_split ∈ UG := um_3 (List.mem_of_getElem? (i := 128) rfl) rfl
theorem u_3_129 : Cond.codeWith yL_split (method_11_code) 5 (Option.some Jvm.ClassFile.FieldType.int) ([((0 : Nat), (10 : Nat), (13 : Nat), (13 : Nat)), ((0 : Nat), (10 : Nat), (17 : Nat), (15 : Nat)), ((0 : Nat), (10 : Nat), (21 : Nat), (34 : Nat))]) ∈ UG := um_3 (List.mem_of_getElem? (i := 129) rfl) rfl
theorem u_3_130 : Cond.methodLink RL 43 yX4_split ∈ UG := um_3 (List.mem_of_getElem? (i := 130) rfl) rfl
theorem u_3_131 : Cond.instanceMethod yX4_split ∈ UG := um_3 (List.mem_of_getElem? (i := 131) rfl) rfl
theorem u_3_132 : Cond.selects RX4 yX4_split yX4_split ∈ UG := um_3 (List.mem_of_getElem? (i := 132) rfl) rfl
theorem u_3_133 : Cond.code yX4_split (prog_1_method_11_code) 4 (Option.some Jvm.ClassFile.FieldType.int) ∈ UG := um_3 (List.mem_of_getElem? (i := 133) rfl) rfl
theorem u_3_135 : Cond.methodLink RL 158 yL_event ∈ UG := um_3 (List.mem_of_getElem? (i := 135) rfl) rfl
theorem u_3_136 : Cond.static yL_event ∈ UG := um_3 (List.mem_of_getElem? (i := 136) rfl) rfl
theorem u_3_137 : Cond.codeWith yL_event (method_12_code) 5 (Option.some Jvm.ClassFile.FieldType.int) ([((0 : Nat), (10 : Nat), (13 : Nat), (13 : Nat)), ((0 : Nat), (10 : Nat), (17 : Nat), (15 : Nat))]) ∈ UG := um_3 (List.mem_of_getElem? (i := 137) rfl) rfl
theorem u_3_138 : Cond.methodLink RL 46 yX4_event ∈ UG := um_3 (List.mem_of_getElem? (i := 138) rfl) rfl
theorem u_3_139 : Cond.instanceMethod yX4_event ∈ UG := um_3 (List.mem_of_getElem? (i := 139) rfl) rfl
theorem u_3_140 : Cond.selects RX4 yX4_event yX4_event ∈ UG := um_3 (List.mem_of_getElem? (i := 140) rfl) rfl
theorem u_3_141 : Cond.code yX4_event (prog_1_method_12_code) 3 (Option.some Jvm.ClassFile.FieldType.int) ∈ UG := um_3 (List.mem_of_getElem? (i := 141) rfl) rfl
theorem u_3_142 : Cond.methodLink RX4 147 yX3_sizeOf ∈ UG := um_3 (List.mem_of_getElem? (i := 142) rfl) rfl
theorem u_3_143 : Cond.methodLink RL 161 yL_describe ∈ UG := um_3 (List.mem_of_getElem? (i := 143) rfl) rfl
theorem u_3_144 : Cond.static yL_describe ∈ UG := um_3 (List.mem_of_getElem? (i := 144) rfl) rfl
theorem u_3_145 : Cond.codeWith yL_describe (method_13_code) 5 (Option.some Jvm.ClassFile.FieldType.int) ([((0 : Nat), (10 : Nat), (13 : Nat), (13 : Nat))]) ∈ UG := um_3 (List.mem_of_getElem? (i := 145) rfl) rfl
theorem u_3_146 : Cond.methodLink RL 49 yX4_describe ∈ UG := um_3 (List.mem_of_getElem? (i := 146) rfl) rfl
theorem u_3_147 : Cond.instanceMethod yX4_describe ∈ UG := um_3 (List.mem_of_getElem? (i := 147) rfl) rfl
theorem u_3_148 : Cond.selects RX4 yX4_describe yX4_describe ∈ UG := um_3 (List.mem_of_getElem? (i := 148) rfl) rfl
theorem u_3_149 : Cond.code yX4_describe (prog_1_method_13_code) 4 (Option.some Jvm.ClassFile.FieldType.int) ∈ UG := um_3 (List.mem_of_getElem? (i := 149) rfl) rfl
theorem u_3_150 : Cond.methodLink RX4 159 yX3_textOf ∈ UG := um_3 (List.mem_of_getElem? (i := 150) rfl) rfl
theorem u_3_151 : Cond.instanceMethod yX3_textOf ∈ UG := um_3 (List.mem_of_getElem? (i := 151) rfl) rfl
theorem u_3_152 : Cond.selects RX3 yX3_textOf yX3_textOf ∈ UG := um_3 (List.mem_of_getElem? (i := 152) rfl) rfl
theorem u_3_153 : Cond.code yX3_textOf (prog_5_method_34_code) 5 (Option.some (Jvm.ClassFile.FieldType.object "java/lang/StringBuilder")) ∈ UG := um_3 (List.mem_of_getElem? (i := 153) rfl) rfl
theorem u_3_154 : Cond.classLink RX3 138 RJ4 ∈ UG := um_3 (List.mem_of_getElem? (i := 154) rfl) rfl
theorem u_3_155 : Cond.instantiable RJ4 4 ∈ UG := um_3 (List.mem_of_getElem? (i := 155) rfl) rfl
theorem u_3_156 : Cond.methodLink RX3 140 yJ4_init_da8c8 ∈ UG := um_3 (List.mem_of_getElem? (i := 156) rfl) rfl
theorem u_3_157 : Cond.instanceMethod yJ4_init_da8c8 ∈ UG := um_3 (List.mem_of_getElem? (i := 157) rfl) rfl
theorem u_3_158 : Cond.code yJ4_init_da8c8 (prog_23_method_1_code) 1 (Option.none : Option Jvm.ClassFile.FieldType) ∈ UG := um_3 (List.mem_of_getElem? (i := 158) rfl) rfl
theorem u_3_159 : Cond.methodLink RJ4 1 yJ5_init_d00df ∈ UG := um_3 (List.mem_of_getElem? (i := 159) rfl) rfl
theorem u_3_160 : Cond.instanceMethod yJ5_init_d00df ∈ UG := um_3 (List.mem_of_getElem? (i := 160) rfl) rfl
theorem u_3_161 : Cond.code yJ5_init_d00df (prog_9_method_2_code) 2 (Option.none : Option Jvm.ClassFile.FieldType) ∈ UG := um_3 (List.mem_of_getElem? (i := 161) rfl) rfl
theorem u_3_162 : Cond.methodLink RJ5 3 ⟨"java/lang/Object", "<init>", "()V"⟩ ∈ UG := um_3 (List.mem_of_getElem? (i := 162) rfl) rfl
theorem u_3_163 : Cond.fieldLink RJ5 18 RJ0 "COMPACT_STRINGS" "Z" ∈ UG := um_3 (List.mem_of_getElem? (i := 163) rfl) rfl
theorem u_3_165 : Cond.methodLink RJ5 26 yJ2_newBytesFor_77867 ∈ UG := um_3 (List.mem_of_getElem? (i := 165) rfl) rfl
theorem u_3_166 : Cond.static yJ2_newBytesFor_77867 ∈ UG := um_3 (List.mem_of_getElem? (i := 166) rfl) rfl
theorem u_3_167 : Cond.code yJ2_newBytesFor_77867 (prog_25_method_2_code) 1 (Option.some (Jvm.ClassFile.FieldType.array Jvm.ClassFile.FieldType.byte)) ∈ UG := um_3 (List.mem_of_getElem? (i := 167) rfl) rfl
theorem u_3_168 : Cond.methodLink RJ2 11 yJ2_newBytesLength_0f7a4 ∈ UG := um_3 (List.mem_of_getElem? (i := 168) rfl) rfl
theorem u_3_169 : Cond.static yJ2_newBytesLength_0f7a4 ∈ UG := um_3 (List.mem_of_getElem? (i := 169) rfl) rfl
theorem u_3_170 : Cond.code yJ2_newBytesLength_0f7a4 (prog_25_method_3_code) 1 (Option.some Jvm.ClassFile.FieldType.int) ∈ UG := um_3 (List.mem_of_getElem? (i := 170) rfl) rfl
theorem u_3_171 : Cond.constant RJ2 20 (1073741823 : Int32) ∈ UG := um_3 (List.mem_of_getElem? (i := 171) rfl) rfl
theorem u_3_172 : Cond.fieldLink RJ5 15 RJ5 "value" "[B" ∈ UG := um_3 (List.mem_of_getElem? (i := 172) rfl) rfl
theorem u_3_173 : Cond.fieldLink RJ5 22 RJ5 "coder" "B" ∈ UG := um_3 (List.mem_of_getElem? (i := 173) rfl) rfl
theorem u_3_174 : Cond.fieldLink RJ5 79 RJ5 "count" "I" ∈ UG := um_3 (List.mem_of_getElem? (i := 174) rfl) rfl
theorem u_3_175 : Cond.lays RJ4 RJ5 "value" "[B" ∈ UG := um_3 (List.mem_of_getElem? (i := 175) rfl) rfl
theorem u_3_177 : Cond.lays RJ4 RJ5 "coder" "B" ∈ UG := um_3 (List.mem_of_getElem? (i := 177) rfl) rfl
theorem u_3_179 : Cond.lays RJ4 RJ5 "maybeLatin1" "Z" ∈ UG := um_3 (List.mem_of_getElem? (i := 179) rfl) rfl
theorem u_3_181 : Cond.lays RJ4 RJ5 "count" "I" ∈ UG := um_3 (List.mem_of_getElem? (i := 181) rfl) rfl
theorem u_3_184 : Cond.methodLink RX3 141 yJ4_append_bf812 ∈ UG := um_3 (List.mem_of_getElem? (i := 184) rfl) rfl
theorem u_3_185 : Cond.instanceMethod yJ4_append_bf812 ∈ UG := um_3 (List.mem_of_getElem? (i := 185) rfl) rfl
theorem u_3_186 : Cond.selects RJ4 yJ4_append_bf812 yJ4_append_bf812 ∈ UG := um_3 (List.mem_of_getElem? (i := 186) rfl) rfl
theorem u_3_187 : Cond.code yJ4_append_bf812 (prog_23_method_15_code) 2 (Option.some (Jvm.ClassFile.FieldType.object "java/lang/StringBuilder")) ∈ UG := um_3 (List.mem_of_getElem? (i := 187) rfl) rfl
theorem u_3_188 : Cond.methodLink RJ4 53 yJ5_append_c97b9 ∈ UG := um_3 (List.mem_of_getElem? (i := 188) rfl) rfl
theorem u_3_189 : Cond.instanceMethod yJ5_append_c97b9 ∈ UG := um_3 (List.mem_of_getElem? (i := 189) rfl) rfl
theorem u_3_190 : Cond.code yJ5_append_c97b9 (prog_9_method_32_code) 4 (Option.some (Jvm.ClassFile.FieldType.object "java/lang/AbstractStringBuilder")) ∈ UG := um_3 (List.mem_of_getElem? (i := 190) rfl) rfl
theorem u_3_191 : Cond.methodLink RJ5 245 yJ6_stringSize_0f7a4 ∈ UG := um_3 (List.mem_of_getElem? (i := 191) rfl) rfl
theorem u_3_192 : Cond.static yJ6_stringSize_0f7a4 ∈ UG := um_3 (List.mem_of_getElem? (i := 192) rfl) rfl
theorem u_3_193 : Cond.code yJ6_stringSize_0f7a4 (prog_18_method_13_code) 4 (Option.some Jvm.ClassFile.FieldType.int) ∈ UG := um_3 (List.mem_of_getElem? (i := 193) rfl) rfl
theorem u_3_194 : Cond.methodLink RJ5 100 yJ5_ensureCapacityInternal_d00df ∈ UG := um_3 (List.mem_of_getElem? (i := 194) rfl) rfl
theorem u_3_196 : Cond.instanceMethod yJ5_ensureCapacityInternal_d00df ∈ UG := um_3 (List.mem_of_getElem? (i := 196) rfl) rfl
theorem u_3_197 : Cond.code yJ5_ensureCapacityInternal_d00df (prog_9_method_9_code) 3 (Option.none : Option Jvm.ClassFile.FieldType) ∈ UG := um_3 (List.mem_of_getElem? (i := 197) rfl) rfl
theorem u_3_198 : Cond.methodLink RJ5 104 yJ5_newCapacity_0f7a4 ∈ UG := um_3 (List.mem_of_getElem? (i := 198) rfl) rfl
theorem u_3_200 : Cond.instanceMethod yJ5_newCapacity_0f7a4 ∈ UG := um_3 (List.mem_of_getElem? (i := 200) rfl) rfl
theorem u_3_201 : Cond.code yJ5_newCapacity_0f7a4 (prog_9_method_10_code) 6 (Option.some Jvm.ClassFile.FieldType.int) ∈ UG := um_3 (List.mem_of_getElem? (i := 201) rfl) rfl
theorem u_3_202 : Cond.methodLink RJ5 114 yJ8_newLength_cabcc ∈ UG := um_3 (List.mem_of_getElem? (i := 202) rfl) rfl
theorem u_3_203 : Cond.static yJ8_newLength_cabcc ∈ UG := um_3 (List.mem_of_getElem? (i := 203) rfl) rfl
theorem u_3_204 : Cond.code yJ8_newLength_cabcc (prog_33_method_27_code) 4 (Option.some Jvm.ClassFile.FieldType.int) ∈ UG := um_3 (List.mem_of_getElem? (i := 204) rfl) rfl
theorem u_3_205 : Cond.methodLink RJ8 194 yJ9_max_7cf53 ∈ UG := um_3 (List.mem_of_getElem? (i := 205) rfl) rfl
theorem u_3_206 : Cond.static yJ9_max_7cf53 ∈ UG := um_3 (List.mem_of_getElem? (i := 206) rfl) rfl
theorem u_3_207 : Cond.code yJ9_max_7cf53 (prog_19_method_65_code) 2 (Option.some Jvm.ClassFile.FieldType.int) ∈ UG := um_3 (List.mem_of_getElem? (i := 207) rfl) rfl
theorem u_3_208 : Cond.constant RJ8 200 (2147483639 : Int32) ∈ UG := um_3 (List.mem_of_getElem? (i := 208) rfl) rfl
theorem u_3_209 : Cond.methodLink RJ8 201 yJ8_hugeLength_7cf53 ∈ UG := um_3 (List.mem_of_getElem? (i := 209) rfl) rfl
theorem u_3_210 : Cond.static yJ8_hugeLength_7cf53 ∈ UG := um_3 (List.mem_of_getElem? (i := 210) rfl) rfl
theorem u_3_211 : Cond.code yJ8_hugeLength_7cf53 (prog_33_method_28_code) 3 (Option.some Jvm.ClassFile.FieldType.int) ∈ UG := um_3 (List.mem_of_getElem? (i := 211) rfl) rfl
theorem u_3_212 : Cond.constant RJ5 39 (2147483647 : Int32) ∈ UG := um_3 (List.mem_of_getElem? (i := 212) rfl) rfl
theorem u_3_213 : Cond.methodLink RJ5 108 yJ7_copyOf_9075b ∈ UG := um_3 (List.mem_of_getElem? (i := 213) rfl) rfl
theorem u_3_214 : Cond.static yJ7_copyOf_9075b ∈ UG := um_3 (List.mem_of_getElem? (i := 214) rfl) rfl
theorem u_3_215 : Cond.code yJ7_copyOf_9075b (prog_31_method_121_code) 3 (Option.some (Jvm.ClassFile.FieldType.array Jvm.ClassFile.FieldType.byte)) ∈ UG := um_3 (List.mem_of_getElem? (i := 215) rfl) rfl
theorem u_3_216 : Cond.methodLink RJ7 310 ⟨"[B", "clone", "()Ljava/lang/Object;"⟩ ∈ UG := um_3 (List.mem_of_getElem? (i := 216) rfl) rfl
theorem u_3_217 : Cond.sameMethod "[B" "java/lang/Object" "clone" "()Ljava/lang/Object;" ∈ UG := um_3 (List.mem_of_getElem? (i := 217) rfl) rfl
theorem u_3_218 : Cond.native ⟨"java/lang/Object", "clone", "()Ljava/lang/Object;"⟩ ∈ UG := um_3 (List.mem_of_getElem? (i := 218) rfl) rfl
theorem u_3_219 : Cond.instanceMethod ⟨"java/lang/Object", "clone", "()Ljava/lang/Object;"⟩ ∈ UG := um_3 (List.mem_of_getElem? (i := 219) rfl) rfl
theorem u_3_220 : Cond.selects "[B" ⟨"[B", "clone", "()Ljava/lang/Object;"⟩ ⟨"java/lang/Object", "clone", "()Ljava/lang/Object;"⟩ ∈ UG := um_3 (List.mem_of_getElem? (i := 220) rfl) rfl
theorem u_3_222 : Cond.classLink RJ7 311 "[B" ∈ UG := um_3 (List.mem_of_getElem? (i := 222) rfl) rfl
theorem u_3_223 : Cond.methodLink RJ7 304 yJ9_min_7cf53 ∈ UG := um_3 (List.mem_of_getElem? (i := 223) rfl) rfl
theorem u_3_224 : Cond.methodLink RJ7 150 ⟨"java/lang/System", "arraycopy", "(Ljava/lang/Object;ILjava/lang/Object;II)V"⟩ ∈ UG := um_3 (List.mem_of_getElem? (i := 224) rfl) rfl
theorem u_3_225 : Cond.methodLink RJ5 83 yJ5_isLatin1_aae02 ∈ UG := um_3 (List.mem_of_getElem? (i := 225) rfl) rfl
theorem u_3_226 : Cond.instanceMethod yJ5_isLatin1_aae02 ∈ UG := um_3 (List.mem_of_getElem? (i := 226) rfl) rfl
theorem u_3_227 : Cond.sameMethod RJ5 RJ5 "isLatin1" "()Z" ∈ UG := um_3 (List.mem_of_getElem? (i := 227) rfl) rfl
theorem u_3_228 : Cond.selects RJ4 yJ5_isLatin1_aae02 yJ5_isLatin1_aae02 ∈ UG := um_3 (List.mem_of_getElem? (i := 228) rfl) rfl
theorem u_3_229 : Cond.code yJ5_isLatin1_aae02 (prog_9_method_68_code) 1 (Option.some Jvm.ClassFile.FieldType.boolean) ∈ UG := um_3 (List.mem_of_getElem? (i := 229) rfl) rfl
theorem u_3_230 : Cond.methodLink RJ5 248 yJ6_getChars_ba4f3 ∈ UG := um_3 (List.mem_of_getElem? (i := 230) rfl) rfl
theorem u_3_231 : Cond.static yJ6_getChars_ba4f3 ∈ UG := um_3 (List.mem_of_getElem? (i := 231) rfl) rfl
theorem u_3_232 : Cond.code yJ6_getChars_ba4f3 (prog_18_method_12_code) 7 (Option.some Jvm.ClassFile.FieldType.int) ∈ UG := um_3 (List.mem_of_getElem? (i := 232) rfl) rfl
theorem u_3_233 : Cond.fieldLink RJ6 83 RJ6 "DigitOnes" "[B" ∈ UG := um_3 (List.mem_of_getElem? (i := 233) rfl) rfl
theorem u_3_235 : Cond.fieldLink RJ6 87 RJ6 "DigitTens" "[B" ∈ UG := um_3 (List.mem_of_getElem? (i := 235) rfl) rfl
theorem u_3_237 : Cond.methodLink RJ5 251 yJ2_getChars_46870 ∈ UG := um_3 (List.mem_of_getElem? (i := 237) rfl) rfl
theorem u_3_238 : Cond.static yJ2_getChars_46870 ∈ UG := um_3 (List.mem_of_getElem? (i := 238) rfl) rfl
theorem u_3_239 : Cond.code yJ2_getChars_46870 (prog_25_method_77_code) 5 (Option.some Jvm.ClassFile.FieldType.int) ∈ UG := um_3 (List.mem_of_getElem? (i := 239) rfl) rfl
theorem u_4_0 : Cond.methodLink RJ2 96 yJ2_checkBoundsBeginEnd_d044e ∈ UG := um_4 (List.mem_of_getElem? (i := 0) rfl) rfl
theorem u_4_1 : Cond.static yJ2_checkBoundsBeginEnd_d044e ∈ UG := um_4 (List.mem_of_getElem? (i := 1) rfl) rfl
theorem u_4_2 : Cond.code yJ2_checkBoundsBeginEnd_d044e (prog_25_method_93_code) 3 (Option.none : Option Jvm.ClassFile.FieldType) ∈ UG := um_4 (List.mem_of_getElem? (i := 2) rfl) rfl
theorem u_4_3 : Cond.methodLink RJ2 48 yJ2_length_9d52b ∈ UG := um_4 (List.mem_of_getElem? (i := 3) rfl) rfl
theorem u_4_4 : Cond.static yJ2_length_9d52b ∈ UG := um_4 (List.mem_of_getElem? (i := 4) rfl) rfl
theorem u_4_5 : Cond.code yJ2_length_9d52b (prog_25_method_6_code) 1 (Option.some Jvm.ClassFile.FieldType.int) ∈ UG := um_4 (List.mem_of_getElem? (i := 5) rfl) rfl
theorem u_4_6 : Cond.methodLink RJ2 241 yJ0_checkBoundsBeginEnd_23922 ∈ UG := um_4 (List.mem_of_getElem? (i := 6) rfl) rfl
theorem u_4_7 : Cond.static yJ0_checkBoundsBeginEnd_23922 ∈ UG := um_4 (List.mem_of_getElem? (i := 7) rfl) rfl
theorem u_4_8 : Cond.code yJ0_checkBoundsBeginEnd_23922 (prog_22_method_158_code) 3 (Option.none : Option Jvm.ClassFile.FieldType) ∈ UG := um_4 (List.mem_of_getElem? (i := 8) rfl) rfl
theorem u_4_9 : Cond.fieldLink RJ0 1053 RJ3 "SIOOBE_FORMATTER" "Ljava/util/function/BiFunction;" ∈ UG := um_4 (List.mem_of_getElem? (i := 9) rfl) rfl
theorem u_4_11 : Cond.methodLink RJ0 1062 yJ3_checkFromToIndex_8c36e ∈ UG := um_4 (List.mem_of_getElem? (i := 11) rfl) rfl
theorem u_4_12 : Cond.static yJ3_checkFromToIndex_8c36e ∈ UG := um_4 (List.mem_of_getElem? (i := 12) rfl) rfl
theorem u_4_13 : Cond.code yJ3_checkFromToIndex_8c36e (prog_34_method_12_code) 4 (Option.some Jvm.ClassFile.FieldType.int) ∈ UG := um_4 (List.mem_of_getElem? (i := 13) rfl) rfl
theorem u_4_14 : Cond.methodLink RJ2 393 yJ2_getChars_ba4f3 ∈ UG := um_4 (List.mem_of_getElem? (i := 14) rfl) rfl
theorem u_4_15 : Cond.static yJ2_getChars_ba4f3 ∈ UG := um_4 (List.mem_of_getElem? (i := 15) rfl) rfl
theorem u_4_16 : Cond.code yJ2_getChars_ba4f3 (prog_25_method_89_code) 7 (Option.some Jvm.ClassFile.FieldType.int) ∈ UG := um_4 (List.mem_of_getElem? (i := 16) rfl) rfl
theorem u_4_17 : Cond.fieldLink RJ2 403 RJ6 "DigitOnes" "[B" ∈ UG := um_4 (List.mem_of_getElem? (i := 17) rfl) rfl
theorem u_4_18 : Cond.methodLink RJ2 111 yJ2_putChar_b72d1 ∈ UG := um_4 (List.mem_of_getElem? (i := 18) rfl) rfl
theorem u_4_19 : Cond.static yJ2_putChar_b72d1 ∈ UG := um_4 (List.mem_of_getElem? (i := 19) rfl) rfl
theorem u_4_20 : Cond.code yJ2_putChar_b72d1 (prog_25_method_4_code) 3 (Option.none : Option Jvm.ClassFile.FieldType) ∈ UG := um_4 (List.mem_of_getElem? (i := 20) rfl) rfl
theorem u_4_21 : Cond.fieldLink RJ2 44 RJ2 "$assertionsDisabled" "Z" ∈ UG := um_4 (List.mem_of_getElem? (i := 21) rfl) rfl
theorem u_4_23 : Cond.fieldLink RJ2 59 RJ2 "HI_BYTE_SHIFT" "I" ∈ UG := um_4 (List.mem_of_getElem? (i := 23) rfl) rfl
theorem u_4_25 : Cond.fieldLink RJ2 63 RJ2 "LO_BYTE_SHIFT" "I" ∈ UG := um_4 (List.mem_of_getElem? (i := 25) rfl) rfl
theorem u_4_27 : Cond.fieldLink RJ2 407 RJ6 "DigitTens" "[B" ∈ UG := um_4 (List.mem_of_getElem? (i := 27) rfl) rfl
theorem u_4_29 : Cond.methodLink RX3 145 yJ4_append_cf468 ∈ UG := um_4 (List.mem_of_getElem? (i := 29) rfl) rfl
theorem u_4_30 : Cond.instanceMethod yJ4_append_cf468 ∈ UG := um_4 (List.mem_of_getElem? (i := 30) rfl) rfl
theorem u_4_31 : Cond.selects RJ4 yJ4_append_cf468 yJ4_append_cf468 ∈ UG := um_4 (List.mem_of_getElem? (i := 31) rfl) rfl
theorem u_4_32 : Cond.code yJ4_append_cf468 (prog_23_method_14_code) 2 (Option.some (Jvm.ClassFile.FieldType.object "java/lang/StringBuilder")) ∈ UG := um_4 (List.mem_of_getElem? (i := 32) rfl) rfl
theorem u_4_33 : Cond.methodLink RJ4 50 yJ5_append_3fe6f ∈ UG := um_4 (List.mem_of_getElem? (i := 33) rfl) rfl
theorem u_4_34 : Cond.instanceMethod yJ5_append_3fe6f ∈ UG := um_4 (List.mem_of_getElem? (i := 34) rfl) rfl
theorem u_4_35 : Cond.code yJ5_append_3fe6f (prog_9_method_31_code) 2 (Option.some (Jvm.ClassFile.FieldType.object "java/lang/AbstractStringBuilder")) ∈ UG := um_4 (List.mem_of_getElem? (i := 35) rfl) rfl
theorem u_4_36 : Cond.methodLink RJ5 191 yJ1_canEncode_fc78d ∈ UG := um_4 (List.mem_of_getElem? (i := 36) rfl) rfl
theorem u_4_37 : Cond.static yJ1_canEncode_fc78d ∈ UG := um_4 (List.mem_of_getElem? (i := 37) rfl) rfl
theorem u_4_38 : Cond.code yJ1_canEncode_fc78d (prog_24_method_3_code) 1 (Option.some Jvm.ClassFile.FieldType.boolean) ∈ UG := um_4 (List.mem_of_getElem? (i := 38) rfl) rfl
theorem u_4_39 : Cond.methodLink RJ5 195 yJ5_inflate_da8c8 ∈ UG := um_4 (List.mem_of_getElem? (i := 39) rfl) rfl
theorem u_4_41 : Cond.instanceMethod yJ5_inflate_da8c8 ∈ UG := um_4 (List.mem_of_getElem? (i := 41) rfl) rfl
theorem u_4_42 : Cond.code yJ5_inflate_da8c8 (prog_9_method_11_code) 2 (Option.none : Option Jvm.ClassFile.FieldType) ∈ UG := um_4 (List.mem_of_getElem? (i := 42) rfl) rfl
theorem u_4_43 : Cond.methodLink RJ5 125 yJ1_inflate_0e8fd ∈ UG := um_4 (List.mem_of_getElem? (i := 43) rfl) rfl
theorem u_4_44 : Cond.static yJ1_inflate_0e8fd ∈ UG := um_4 (List.mem_of_getElem? (i := 44) rfl) rfl
theorem u_4_45 : Cond.code yJ1_inflate_0e8fd (prog_24_method_50_code) 5 (Option.none : Option Jvm.ClassFile.FieldType) ∈ UG := um_4 (List.mem_of_getElem? (i := 45) rfl) rfl
theorem u_4_46 : Cond.methodLink RJ1 240 yJ2_inflate_0e8fd ∈ UG := um_4 (List.mem_of_getElem? (i := 46) rfl) rfl
theorem u_4_47 : Cond.static yJ2_inflate_0e8fd ∈ UG := um_4 (List.mem_of_getElem? (i := 47) rfl) rfl
theorem u_4_48 : Cond.code yJ2_inflate_0e8fd (prog_25_method_86_code) 6 (Option.none : Option Jvm.ClassFile.FieldType) ∈ UG := um_4 (List.mem_of_getElem? (i := 48) rfl) rfl
theorem u_4_49 : Cond.methodLink RJ2 173 yJ2_checkBoundsOffCount_d044e ∈ UG := um_4 (List.mem_of_getElem? (i := 49) rfl) rfl
theorem u_4_50 : Cond.static yJ2_checkBoundsOffCount_d044e ∈ UG := um_4 (List.mem_of_getElem? (i := 50) rfl) rfl
theorem u_4_51 : Cond.code yJ2_checkBoundsOffCount_d044e (prog_25_method_94_code) 3 (Option.none : Option Jvm.ClassFile.FieldType) ∈ UG := um_4 (List.mem_of_getElem? (i := 51) rfl) rfl
theorem u_4_52 : Cond.methodLink RJ2 419 yJ0_checkBoundsOffCount_cabcc ∈ UG := um_4 (List.mem_of_getElem? (i := 52) rfl) rfl
theorem u_4_53 : Cond.static yJ0_checkBoundsOffCount_cabcc ∈ UG := um_4 (List.mem_of_getElem? (i := 53) rfl) rfl
theorem u_4_54 : Cond.code yJ0_checkBoundsOffCount_cabcc (prog_22_method_157_code) 3 (Option.some Jvm.ClassFile.FieldType.int) ∈ UG := um_4 (List.mem_of_getElem? (i := 54) rfl) rfl
theorem u_4_55 : Cond.methodLink RJ0 1065 yJ3_checkFromIndexSize_8c36e ∈ UG := um_4 (List.mem_of_getElem? (i := 55) rfl) rfl
theorem u_4_56 : Cond.static yJ3_checkFromIndexSize_8c36e ∈ UG := um_4 (List.mem_of_getElem? (i := 56) rfl) rfl
theorem u_4_57 : Cond.code yJ3_checkFromIndexSize_8c36e (prog_34_method_13_code) 4 (Option.some Jvm.ClassFile.FieldType.int) ∈ UG := um_4 (List.mem_of_getElem? (i := 57) rfl) rfl
theorem u_4_58 : Cond.methodLink RJ5 197 yJ2_putCharSB_b72d1 ∈ UG := um_4 (List.mem_of_getElem? (i := 58) rfl) rfl
theorem u_4_59 : Cond.static yJ2_putCharSB_b72d1 ∈ UG := um_4 (List.mem_of_getElem? (i := 59) rfl) rfl
theorem u_4_60 : Cond.code yJ2_putCharSB_b72d1 (prog_25_method_71_code) 3 (Option.none : Option Jvm.ClassFile.FieldType) ∈ UG := um_4 (List.mem_of_getElem? (i := 60) rfl) rfl
theorem u_4_61 : Cond.methodLink RJ2 67 yJ2_checkIndex_2214a ∈ UG := um_4 (List.mem_of_getElem? (i := 61) rfl) rfl
theorem u_4_62 : Cond.static yJ2_checkIndex_2214a ∈ UG := um_4 (List.mem_of_getElem? (i := 62) rfl) rfl
theorem u_4_63 : Cond.code yJ2_checkIndex_2214a (prog_25_method_91_code) 2 (Option.none : Option Jvm.ClassFile.FieldType) ∈ UG := um_4 (List.mem_of_getElem? (i := 63) rfl) rfl
theorem u_4_64 : Cond.methodLink RJ2 414 yJ0_checkIndex_df160 ∈ UG := um_4 (List.mem_of_getElem? (i := 64) rfl) rfl
theorem u_4_65 : Cond.static yJ0_checkIndex_df160 ∈ UG := um_4 (List.mem_of_getElem? (i := 65) rfl) rfl
theorem u_4_66 : Cond.code yJ0_checkIndex_df160 (prog_22_method_155_code) 2 (Option.none : Option Jvm.ClassFile.FieldType) ∈ UG := um_4 (List.mem_of_getElem? (i := 66) rfl) rfl
theorem u_4_67 : Cond.methodLink RJ0 1059 yJ3_checkIndex_8e157 ∈ UG := um_4 (List.mem_of_getElem? (i := 67) rfl) rfl
theorem u_4_68 : Cond.static yJ3_checkIndex_8e157 ∈ UG := um_4 (List.mem_of_getElem? (i := 68) rfl) rfl
theorem u_4_69 : Cond.code yJ3_checkIndex_8e157 (prog_34_method_11_code) 3 (Option.some Jvm.ClassFile.FieldType.int) ∈ UG := um_4 (List.mem_of_getElem? (i := 69) rfl) rfl
theorem u_4_70 : Cond.methodLink RX4 163 yJ4_length_8abf5 ∈ UG := um_4 (List.mem_of_getElem? (i := 70) rfl) rfl
theorem u_4_71 : Cond.instanceMethod yJ4_length_8abf5 ∈ UG := um_4 (List.mem_of_getElem? (i := 71) rfl) rfl
theorem u_4_72 : Cond.selects RJ4 yJ4_length_8abf5 yJ4_length_8abf5 ∈ UG := um_4 (List.mem_of_getElem? (i := 72) rfl) rfl
theorem u_4_73 : Cond.code yJ4_length_8abf5 (prog_23_method_93_code) 1 (Option.some Jvm.ClassFile.FieldType.int) ∈ UG := um_4 (List.mem_of_getElem? (i := 73) rfl) rfl
theorem u_4_74 : Cond.methodLink RJ4 343 yJ5_length_8abf5 ∈ UG := um_4 (List.mem_of_getElem? (i := 74) rfl) rfl
theorem u_4_75 : Cond.instanceMethod yJ5_length_8abf5 ∈ UG := um_4 (List.mem_of_getElem? (i := 75) rfl) rfl
theorem u_4_76 : Cond.code yJ5_length_8abf5 (prog_9_method_6_code) 1 (Option.some Jvm.ClassFile.FieldType.int) ∈ UG := um_4 (List.mem_of_getElem? (i := 76) rfl) rfl
theorem u_4_77 : Cond.methodLink RX4 167 yJ4_charAt_5068e ∈ UG := um_4 (List.mem_of_getElem? (i := 77) rfl) rfl
theorem u_4_78 : Cond.instanceMethod yJ4_charAt_5068e ∈ UG := um_4 (List.mem_of_getElem? (i := 78) rfl) rfl
theorem u_4_79 : Cond.selects RJ4 yJ4_charAt_5068e yJ4_charAt_5068e ∈ UG := um_4 (List.mem_of_getElem? (i := 79) rfl) rfl
theorem u_4_80 : Cond.code yJ4_charAt_5068e (prog_23_method_88_code) 2 (Option.some Jvm.ClassFile.FieldType.char) ∈ UG := um_4 (List.mem_of_getElem? (i := 80) rfl) rfl
theorem u_4_81 : Cond.methodLink RJ4 329 yJ5_charAt_5068e ∈ UG := um_4 (List.mem_of_getElem? (i := 81) rfl) rfl
theorem u_4_82 : Cond.instanceMethod yJ5_charAt_5068e ∈ UG := um_4 (List.mem_of_getElem? (i := 82) rfl) rfl
theorem u_4_83 : Cond.code yJ5_charAt_5068e (prog_9_method_14_code) 5 (Option.some Jvm.ClassFile.FieldType.char) ∈ UG := um_4 (List.mem_of_getElem? (i := 83) rfl) rfl
theorem u_4_84 : Cond.methodLink RJ5 138 yJ9_min_7cf53 ∈ UG := um_4 (List.mem_of_getElem? (i := 84) rfl) rfl
theorem u_4_85 : Cond.methodLink RJ5 144 yJ0_checkIndex_df160 ∈ UG := um_4 (List.mem_of_getElem? (i := 85) rfl) rfl
theorem u_4_86 : Cond.methodLink RJ5 148 yJ2_getChar_3b067 ∈ UG := um_4 (List.mem_of_getElem? (i := 86) rfl) rfl
theorem u_4_87 : Cond.static yJ2_getChar_3b067 ∈ UG := um_4 (List.mem_of_getElem? (i := 87) rfl) rfl
theorem u_4_88 : Cond.code yJ2_getChar_3b067 (prog_25_method_5_code) 2 (Option.some Jvm.ClassFile.FieldType.char) ∈ UG := um_4 (List.mem_of_getElem? (i := 88) rfl) rfl
theorem u_4_89 : Cond.methodLink RL 164 yL_place ∈ UG := um_4 (List.mem_of_getElem? (i := 89) rfl) rfl
theorem u_4_90 : Cond.static yL_place ∈ UG := um_4 (List.mem_of_getElem? (i := 90) rfl) rfl
theorem u_4_91 : Cond.codeWith yL_place (method_14_code) 5 (Option.some Jvm.ClassFile.FieldType.int) ([((0 : Nat), (10 : Nat), (13 : Nat), (13 : Nat)), ((0 : Nat), (10 : Nat), (17 : Nat), (55 : Nat)), ((0 : Nat), (10 : Nat), (21 : Nat), (34 : Nat))]) ∈ UG := um_4 (List.mem_of_getElem? (i := 91) rfl) rfl
theorem u_4_92 : Cond.classLink RL 55 "java/lang/UnsupportedOperationException" ∈ UG := um_4 (List.mem_of_getElem? (i := 92) rfl) rfl
theorem u_4_93 : Cond.methodLink RL 52 yX4_place ∈ UG := um_4 (List.mem_of_getElem? (i := 93) rfl) rfl
theorem u_4_94 : Cond.instanceMethod yX4_place ∈ UG := um_4 (List.mem_of_getElem? (i := 94) rfl) rfl
theorem u_4_95 : Cond.selects RX4 yX4_place yX4_place ∈ UG := um_4 (List.mem_of_getElem? (i := 95) rfl) rfl
theorem u_4_96 : Cond.code yX4_place (prog_1_method_14_code) 4 (Option.some Jvm.ClassFile.FieldType.int) ∈ UG := um_4 (List.mem_of_getElem? (i := 96) rfl) rfl
theorem u_4_97 : Cond.classLink RX4 171 "java/lang/UnsupportedOperationException" ∈ UG := um_4 (List.mem_of_getElem? (i := 97) rfl) rfl
theorem u_4_98 : Cond.instantiable "java/lang/UnsupportedOperationException" 6 ∈ UG := um_4 (List.mem_of_getElem? (i := 98) rfl) rfl
theorem u_4_100 : Cond.selects "java/lang/UnsupportedOperationException" ⟨"java/lang/Throwable", "fillInStackTrace", "(I)Ljava/lang/Throwable;"⟩ ⟨"java/lang/Throwable", "fillInStackTrace", "(I)Ljava/lang/Throwable;"⟩ ∈ UG := um_4 (List.mem_of_getElem? (i := 100) rfl) rfl
theorem u_4_101 : Cond.lays "java/lang/UnsupportedOperationException" "java/lang/Throwable" "cause" "Ljava/lang/Throwable;" ∈ UG := um_4 (List.mem_of_getElem? (i := 101) rfl) rfl
theorem u_4_102 : Cond.lays "java/lang/UnsupportedOperationException" "java/lang/Throwable" "stackTrace" "[Ljava/lang/StackTraceElement;" ∈ UG := um_4 (List.mem_of_getElem? (i := 102) rfl) rfl
theorem u_4_103 : Cond.lays "java/lang/UnsupportedOperationException" "java/lang/Throwable" "suppressedExceptions" "Ljava/util/List;" ∈ UG := um_4 (List.mem_of_getElem? (i := 103) rfl) rfl
theorem u_4_104 : Cond.lays "java/lang/UnsupportedOperationException" "java/lang/Throwable" "detailMessage" "Ljava/lang/String;" ∈ UG := um_4 (List.mem_of_getElem? (i := 104) rfl) rfl
theorem u_4_105 : Cond.lays "java/lang/UnsupportedOperationException" "java/lang/Throwable" "backtrace" "Ljava/lang/Object;" ∈ UG := um_4 (List.mem_of_getElem? (i := 105) rfl) rfl
theorem u_4_107 : Cond.methodLink RX4 175 ⟨"java/lang/UnsupportedOperationException", "<init>", "(Ljava/lang/String;)V"⟩ ∈ UG := um_4 (List.mem_of_getElem? (i := 107) rfl) rfl
theorem u_4_108 : Cond.instanceMethod ⟨"java/lang/UnsupportedOperationException", "<init>", "(Ljava/lang/String;)V"⟩ ∈ UG := um_4 (List.mem_of_getElem? (i := 108) rfl) rfl
theorem u_4_109 : Cond.code ⟨"java/lang/UnsupportedOperationException", "<init>", "(Ljava/lang/String;)V"⟩ (prog_28_method_2_code) 2 (Option.none : Option Jvm.ClassFile.FieldType) ∈ UG := um_4 (List.mem_of_getElem? (i := 109) rfl) rfl
theorem u_4_110 : Cond.methodLink "java/lang/UnsupportedOperationException" 7 ⟨"java/lang/RuntimeException", "<init>", "(Ljava/lang/String;)V"⟩ ∈ UG := um_4 (List.mem_of_getElem? (i := 110) rfl) rfl
theorem u_4_111 : Cond.lays "java/lang/UnsupportedOperationException" "java/lang/Throwable" "depth" "I" ∈ UG := um_4 (List.mem_of_getElem? (i := 111) rfl) rfl
theorem u_4_113 : Cond.methodLink RX4 176 yX4_requireFree ∈ UG := um_4 (List.mem_of_getElem? (i := 113) rfl) rfl
theorem u_4_115 : Cond.instanceMethod yX4_requireFree ∈ UG := um_4 (List.mem_of_getElem? (i := 115) rfl) rfl
theorem u_4_116 : Cond.code yX4_requireFree (prog_1_method_42_code) 3 (Option.none : Option Jvm.ClassFile.FieldType) ∈ UG := um_4 (List.mem_of_getElem? (i := 116) rfl) rfl
theorem u_4_117 : Cond.methodLink RX4 188 yX3_obstacleAt ∈ UG := um_4 (List.mem_of_getElem? (i := 117) rfl) rfl
theorem u_4_119 : Cond.methodLink RX4 179 yX3_moveTo ∈ UG := um_4 (List.mem_of_getElem? (i := 119) rfl) rfl
theorem u_4_120 : Cond.methodLink RL 167 yL_unplace ∈ UG := um_4 (List.mem_of_getElem? (i := 120) rfl) rfl
theorem u_4_121 : Cond.static yL_unplace ∈ UG := um_4 (List.mem_of_getElem? (i := 121) rfl) rfl
theorem u_4_122 : Cond.codeWith yL_unplace (method_15_code) 4 (Option.some Jvm.ClassFile.FieldType.int) ([((0 : Nat), (9 : Nat), (12 : Nat), (13 : Nat)), ((0 : Nat), (9 : Nat), (15 : Nat), (34 : Nat))]) ∈ UG := um_4 (List.mem_of_getElem? (i := 122) rfl) rfl
theorem u_4_123 : Cond.methodLink RL 57 yX4_unplace ∈ UG := um_4 (List.mem_of_getElem? (i := 123) rfl) rfl
theorem u_4_124 : Cond.instanceMethod yX4_unplace ∈ UG := um_4 (List.mem_of_getElem? (i := 124) rfl) rfl
theorem u_4_125 : Cond.selects RX4 yX4_unplace yX4_unplace ∈ UG := um_4 (List.mem_of_getElem? (i := 125) rfl) rfl
theorem u_4_126 : Cond.code yX4_unplace (prog_1_method_15_code) 3 (Option.some Jvm.ClassFile.FieldType.int) ∈ UG := um_4 (List.mem_of_getElem? (i := 126) rfl) rfl
theorem u_4_127 : Cond.methodLink RX4 182 yX4_requirePlaced ∈ UG := um_4 (List.mem_of_getElem? (i := 127) rfl) rfl
theorem u_4_129 : Cond.instanceMethod yX4_requirePlaced ∈ UG := um_4 (List.mem_of_getElem? (i := 129) rfl) rfl
theorem u_4_130 : Cond.code yX4_requirePlaced (prog_1_method_41_code) 2 (Option.none : Option Jvm.ClassFile.FieldType) ∈ UG := um_4 (List.mem_of_getElem? (i := 130) rfl) rfl
theorem u_4_132 : Cond.methodLink RX4 185 yX3_release ∈ UG := um_4 (List.mem_of_getElem? (i := 132) rfl) rfl
theorem u_4_133 : Cond.methodLink RL 170 yL_fix ∈ UG := um_4 (List.mem_of_getElem? (i := 133) rfl) rfl
theorem u_4_134 : Cond.static yL_fix ∈ UG := um_4 (List.mem_of_getElem? (i := 134) rfl) rfl
theorem u_4_135 : Cond.codeWith yL_fix (method_16_code) 5 (Option.some Jvm.ClassFile.FieldType.int) ([((0 : Nat), (17 : Nat), (20 : Nat), (13 : Nat)), ((0 : Nat), (17 : Nat), (24 : Nat), (34 : Nat))]) ∈ UG := um_4 (List.mem_of_getElem? (i := 135) rfl) rfl
theorem u_4_136 : Cond.methodLink RL 60 yX4_fix ∈ UG := um_4 (List.mem_of_getElem? (i := 136) rfl) rfl
theorem u_4_137 : Cond.instanceMethod yX4_fix ∈ UG := um_4 (List.mem_of_getElem? (i := 137) rfl) rfl
theorem u_4_138 : Cond.selects RX4 yX4_fix yX4_fix ∈ UG := um_4 (List.mem_of_getElem? (i := 138) rfl) rfl
theorem u_4_139 : Cond.code yX4_fix (prog_1_method_16_code) 4 (Option.some Jvm.ClassFile.FieldType.boolean) ∈ UG := um_4 (List.mem_of_getElem? (i := 139) rfl) rfl
theorem u_4_140 : Cond.methodLink RL 174 yL_obstacle ∈ UG := um_4 (List.mem_of_getElem? (i := 140) rfl) rfl
theorem u_4_141 : Cond.static yL_obstacle ∈ UG := um_4 (List.mem_of_getElem? (i := 141) rfl) rfl
theorem u_4_142 : Cond.codeWith yL_obstacle (method_17_code) 5 (Option.some Jvm.ClassFile.FieldType.int) ([((0 : Nat), (10 : Nat), (13 : Nat), (13 : Nat))]) ∈ UG := um_4 (List.mem_of_getElem? (i := 142) rfl) rfl
theorem u_4_143 : Cond.methodLink RL 64 yX4_obstacle ∈ UG := um_4 (List.mem_of_getElem? (i := 143) rfl) rfl
theorem u_4_144 : Cond.instanceMethod yX4_obstacle ∈ UG := um_4 (List.mem_of_getElem? (i := 144) rfl) rfl
theorem u_4_145 : Cond.selects RX4 yX4_obstacle yX4_obstacle ∈ UG := um_4 (List.mem_of_getElem? (i := 145) rfl) rfl
theorem u_4_146 : Cond.code yX4_obstacle (prog_1_method_17_code) 3 (Option.some Jvm.ClassFile.FieldType.int) ∈ UG := um_4 (List.mem_of_getElem? (i := 146) rfl) rfl
theorem u_4_147 : Cond.methodLink RL 177 yL_places ∈ UG := um_4 (List.mem_of_getElem? (i := 147) rfl) rfl
theorem u_4_148 : Cond.static yL_places ∈ UG := um_4 (List.mem_of_getElem? (i := 148) rfl) rfl
theorem u_4_149 : Cond.codeWith yL_places (method_18_code) 5 (Option.some Jvm.ClassFile.FieldType.int) ([((0 : Nat), (10 : Nat), (13 : Nat), (13 : Nat)), ((0 : Nat), (10 : Nat), (17 : Nat), (15 : Nat))]) ∈ UG := um_4 (List.mem_of_getElem? (i := 149) rfl) rfl
theorem u_4_150 : Cond.methodLink RL 67 yX4_places ∈ UG := um_4 (List.mem_of_getElem? (i := 150) rfl) rfl
theorem u_4_151 : Cond.instanceMethod yX4_places ∈ UG := um_4 (List.mem_of_getElem? (i := 151) rfl) rfl
theorem u_4_152 : Cond.selects RX4 yX4_places yX4_places ∈ UG := um_4 (List.mem_of_getElem? (i := 152) rfl) rfl
theorem u_4_153 : Cond.code yX4_places (prog_1_method_18_code) 5 (Option.some Jvm.ClassFile.FieldType.int) ∈ UG := um_4 (List.mem_of_getElem? (i := 153) rfl) rfl
theorem u_4_154 : Cond.methodLink RL 180 yL_free ∈ UG := um_4 (List.mem_of_getElem? (i := 154) rfl) rfl
theorem u_4_155 : Cond.static yL_free ∈ UG := um_4 (List.mem_of_getElem? (i := 155) rfl) rfl
theorem u_4_156 : Cond.codeWith yL_free (method_19_code) 5 (Option.some Jvm.ClassFile.FieldType.int) ([((0 : Nat), (10 : Nat), (13 : Nat), (13 : Nat)), ((0 : Nat), (10 : Nat), (17 : Nat), (73 : Nat))]) ∈ UG := um_4 (List.mem_of_getElem? (i := 156) rfl) rfl
theorem u_4_157 : Cond.classLink RL 73 "java/util/NoSuchElementException" ∈ UG := um_4 (List.mem_of_getElem? (i := 157) rfl) rfl
theorem u_4_158 : Cond.methodLink RL 70 yX4_free ∈ UG := um_4 (List.mem_of_getElem? (i := 158) rfl) rfl
theorem u_4_159 : Cond.instanceMethod yX4_free ∈ UG := um_4 (List.mem_of_getElem? (i := 159) rfl) rfl
theorem u_4_160 : Cond.selects RX4 yX4_free yX4_free ∈ UG := um_4 (List.mem_of_getElem? (i := 160) rfl) rfl
theorem u_4_161 : Cond.code yX4_free (prog_1_method_19_code) 4 (Option.some Jvm.ClassFile.FieldType.int) ∈ UG := um_4 (List.mem_of_getElem? (i := 161) rfl) rfl
theorem u_4_162 : Cond.methodLink RX4 192 yX3_freePlace ∈ UG := um_4 (List.mem_of_getElem? (i := 162) rfl) rfl
theorem u_4_163 : Cond.classLink RX4 195 "java/util/NoSuchElementException" ∈ UG := um_4 (List.mem_of_getElem? (i := 163) rfl) rfl
theorem u_4_164 : Cond.instantiable "java/util/NoSuchElementException" 6 ∈ UG := um_4 (List.mem_of_getElem? (i := 164) rfl) rfl
theorem u_4_166 : Cond.selects "java/util/NoSuchElementException" ⟨"java/lang/Throwable", "fillInStackTrace", "(I)Ljava/lang/Throwable;"⟩ ⟨"java/lang/Throwable", "fillInStackTrace", "(I)Ljava/lang/Throwable;"⟩ ∈ UG := um_4 (List.mem_of_getElem? (i := 166) rfl) rfl
theorem u_4_167 : Cond.lays "java/util/NoSuchElementException" "java/lang/Throwable" "cause" "Ljava/lang/Throwable;" ∈ UG := um_4 (List.mem_of_getElem? (i := 167) rfl) rfl
theorem u_4_168 : Cond.lays "java/util/NoSuchElementException" "java/lang/Throwable" "stackTrace" "[Ljava/lang/StackTraceElement;" ∈ UG := um_4 (List.mem_of_getElem? (i := 168) rfl) rfl
theorem u_4_169 : Cond.lays "java/util/NoSuchElementException" "java/lang/Throwable" "suppressedExceptions" "Ljava/util/List;" ∈ UG := um_4 (List.mem_of_getElem? (i := 169) rfl) rfl
theorem u_4_170 : Cond.lays "java/util/NoSuchElementException" "java/lang/Throwable" "detailMessage" "Ljava/lang/String;" ∈ UG := um_4 (List.mem_of_getElem? (i := 170) rfl) rfl
theorem u_4_171 : Cond.lays "java/util/NoSuchElementException" "java/lang/Throwable" "backtrace" "Ljava/lang/Object;" ∈ UG := um_4 (List.mem_of_getElem? (i := 171) rfl) rfl
theorem u_4_172 : Cond.methodLink RX4 199 ⟨"java/util/NoSuchElementException", "<init>", "(Ljava/lang/String;)V"⟩ ∈ UG := um_4 (List.mem_of_getElem? (i := 172) rfl) rfl
theorem u_4_173 : Cond.instanceMethod ⟨"java/util/NoSuchElementException", "<init>", "(Ljava/lang/String;)V"⟩ ∈ UG := um_4 (List.mem_of_getElem? (i := 173) rfl) rfl
theorem u_4_174 : Cond.code ⟨"java/util/NoSuchElementException", "<init>", "(Ljava/lang/String;)V"⟩ (prog_32_method_4_code) 2 (Option.none : Option Jvm.ClassFile.FieldType) ∈ UG := um_4 (List.mem_of_getElem? (i := 174) rfl) rfl
theorem u_4_175 : Cond.methodLink "java/util/NoSuchElementException" 13 ⟨"java/lang/RuntimeException", "<init>", "(Ljava/lang/String;)V"⟩ ∈ UG := um_4 (List.mem_of_getElem? (i := 175) rfl) rfl
theorem u_4_176 : Cond.lays "java/util/NoSuchElementException" "java/lang/Throwable" "depth" "I" ∈ UG := um_4 (List.mem_of_getElem? (i := 176) rfl) rfl
theorem u_4_178 : Cond.methodLink RL 183 yL_hindering ∈ UG := um_4 (List.mem_of_getElem? (i := 178) rfl) rfl
theorem u_4_179 : Cond.static yL_hindering ∈ UG := um_4 (List.mem_of_getElem? (i := 179) rfl) rfl
theorem u_4_180 : Cond.codeWith yL_hindering (method_20_code) 5 (Option.some Jvm.ClassFile.FieldType.int) ([((0 : Nat), (10 : Nat), (13 : Nat), (13 : Nat))]) ∈ UG := um_4 (List.mem_of_getElem? (i := 180) rfl) rfl
theorem u_4_181 : Cond.methodLink RL 75 yX4_hindering ∈ UG := um_4 (List.mem_of_getElem? (i := 181) rfl) rfl
theorem u_4_182 : Cond.instanceMethod yX4_hindering ∈ UG := um_4 (List.mem_of_getElem? (i := 182) rfl) rfl
theorem u_4_183 : Cond.selects RX4 yX4_hindering yX4_hindering ∈ UG := um_4 (List.mem_of_getElem? (i := 183) rfl) rfl
theorem u_4_184 : Cond.code yX4_hindering (prog_1_method_20_code) 3 (Option.some Jvm.ClassFile.FieldType.int) ∈ UG := um_4 (List.mem_of_getElem? (i := 184) rfl) rfl
theorem u_4_185 : Cond.methodLink RX4 200 yX3_hinderingAt ∈ UG := um_4 (List.mem_of_getElem? (i := 185) rfl) rfl
theorem u_4_186 : Cond.methodLink RL 186 yL_at ∈ UG := um_4 (List.mem_of_getElem? (i := 186) rfl) rfl
theorem u_4_187 : Cond.static yL_at ∈ UG := um_4 (List.mem_of_getElem? (i := 187) rfl) rfl
theorem u_4_188 : Cond.codeWith yL_at (method_21_code) 5 (Option.some Jvm.ClassFile.FieldType.int) ([((0 : Nat), (10 : Nat), (13 : Nat), (13 : Nat)), ((0 : Nat), (10 : Nat), (17 : Nat), (73 : Nat))]) ∈ UG := um_4 (List.mem_of_getElem? (i := 188) rfl) rfl
theorem u_4_189 : Cond.methodLink RL 78 yX4_at ∈ UG := um_4 (List.mem_of_getElem? (i := 189) rfl) rfl
theorem u_4_190 : Cond.instanceMethod yX4_at ∈ UG := um_4 (List.mem_of_getElem? (i := 190) rfl) rfl
theorem u_4_191 : Cond.selects RX4 yX4_at yX4_at ∈ UG := um_4 (List.mem_of_getElem? (i := 191) rfl) rfl
theorem u_4_192 : Cond.code yX4_at (prog_1_method_21_code) 4 (Option.some Jvm.ClassFile.FieldType.int) ∈ UG := um_4 (List.mem_of_getElem? (i := 192) rfl) rfl
theorem u_4_193 : Cond.methodLink RX4 203 yX3_eventIn ∈ UG := um_4 (List.mem_of_getElem? (i := 193) rfl) rfl
theorem u_4_194 : Cond.instanceMethod yX3_eventIn ∈ UG := um_4 (List.mem_of_getElem? (i := 194) rfl) rfl
theorem u_4_195 : Cond.selects RX3 yX3_eventIn yX3_eventIn ∈ UG := um_4 (List.mem_of_getElem? (i := 195) rfl) rfl
theorem u_4_196 : Cond.code yX3_eventIn (prog_5_method_21_code) 4 (Option.some Jvm.ClassFile.FieldType.int) ∈ UG := um_4 (List.mem_of_getElem? (i := 196) rfl) rfl
theorem u_4_198 : Cond.methodLink RL 189 yL_taken ∈ UG := um_4 (List.mem_of_getElem? (i := 198) rfl) rfl
theorem u_4_199 : Cond.static yL_taken ∈ UG := um_4 (List.mem_of_getElem? (i := 199) rfl) rfl
theorem u_4_200 : Cond.codeWith yL_taken (method_22_code) 5 (Option.some Jvm.ClassFile.FieldType.int) ([((0 : Nat), (10 : Nat), (13 : Nat), (15 : Nat)), ((0 : Nat), (10 : Nat), (17 : Nat), (13 : Nat))]) ∈ UG := um_4 (List.mem_of_getElem? (i := 200) rfl) rfl
theorem u_4_201 : Cond.methodLink RL 81 yX4_taken ∈ UG := um_4 (List.mem_of_getElem? (i := 201) rfl) rfl
theorem u_4_202 : Cond.instanceMethod yX4_taken ∈ UG := um_4 (List.mem_of_getElem? (i := 202) rfl) rfl
theorem u_4_203 : Cond.selects RX4 yX4_taken yX4_taken ∈ UG := um_4 (List.mem_of_getElem? (i := 203) rfl) rfl
theorem u_4_204 : Cond.code yX4_taken (prog_1_method_22_code) 3 (Option.some Jvm.ClassFile.FieldType.int) ∈ UG := um_4 (List.mem_of_getElem? (i := 204) rfl) rfl
theorem u_4_205 : Cond.methodLink RX4 208 yX3_slotsOfTeacher ∈ UG := um_4 (List.mem_of_getElem? (i := 205) rfl) rfl
theorem u_4_206 : Cond.instanceMethod yX3_slotsOfTeacher ∈ UG := um_4 (List.mem_of_getElem? (i := 206) rfl) rfl
theorem u_4_207 : Cond.selects RX3 yX3_slotsOfTeacher yX3_slotsOfTeacher ∈ UG := um_4 (List.mem_of_getElem? (i := 207) rfl) rfl
theorem u_4_208 : Cond.code yX3_slotsOfTeacher (prog_5_method_22_code) 4 (Option.some Jvm.ClassFile.FieldType.int) ∈ UG := um_4 (List.mem_of_getElem? (i := 208) rfl) rfl
theorem u_4_209 : Cond.methodLink RX4 211 yX3_slotsOfGroup ∈ UG := um_4 (List.mem_of_getElem? (i := 209) rfl) rfl
theorem u_4_210 : Cond.instanceMethod yX3_slotsOfGroup ∈ UG := um_4 (List.mem_of_getElem? (i := 210) rfl) rfl
theorem u_4_211 : Cond.selects RX3 yX3_slotsOfGroup yX3_slotsOfGroup ∈ UG := um_4 (List.mem_of_getElem? (i := 211) rfl) rfl
theorem u_4_212 : Cond.code yX3_slotsOfGroup (prog_5_method_23_code) 4 (Option.some Jvm.ClassFile.FieldType.int) ∈ UG := um_4 (List.mem_of_getElem? (i := 212) rfl) rfl
theorem u_4_213 : Cond.methodLink RX4 214 yX3_slotsOfRoom ∈ UG := um_4 (List.mem_of_getElem? (i := 213) rfl) rfl
theorem u_4_214 : Cond.instanceMethod yX3_slotsOfRoom ∈ UG := um_4 (List.mem_of_getElem? (i := 214) rfl) rfl
theorem u_4_215 : Cond.selects RX3 yX3_slotsOfRoom yX3_slotsOfRoom ∈ UG := um_4 (List.mem_of_getElem? (i := 215) rfl) rfl
theorem u_4_216 : Cond.code yX3_slotsOfRoom (prog_5_method_24_code) 4 (Option.some Jvm.ClassFile.FieldType.int) ∈ UG := um_4 (List.mem_of_getElem? (i := 216) rfl) rfl
theorem u_4_217 : Cond.methodLink RL 192 yL_insert ∈ UG := um_4 (List.mem_of_getElem? (i := 217) rfl) rfl
theorem u_4_218 : Cond.static yL_insert ∈ UG := um_4 (List.mem_of_getElem? (i := 218) rfl) rfl
theorem u_4_219 : Cond.codeWith yL_insert (method_23_code) 4 (Option.some Jvm.ClassFile.FieldType.int) ([((0 : Nat), (9 : Nat), (12 : Nat), (13 : Nat)), ((0 : Nat), (9 : Nat), (15 : Nat), (34 : Nat)), ((0 : Nat), (9 : Nat), (18 : Nat), (55 : Nat))]) ∈ UG := um_4 (List.mem_of_getElem? (i := 219) rfl) rfl
theorem u_4_220 : Cond.methodLink RL 84 yX4_insert ∈ UG := um_4 (List.mem_of_getElem? (i := 220) rfl) rfl
theorem u_4_221 : Cond.instanceMethod yX4_insert ∈ UG := um_4 (List.mem_of_getElem? (i := 221) rfl) rfl
theorem u_4_222 : Cond.selects RX4 yX4_insert yX4_insert ∈ UG := um_4 (List.mem_of_getElem? (i := 222) rfl) rfl
theorem u_4_223 : Cond.code yX4_insert (prog_1_method_23_code) 3 (Option.some Jvm.ClassFile.FieldType.int) ∈ UG := um_4 (List.mem_of_getElem? (i := 223) rfl) rfl
theorem u_4_225 : Cond.methodLink RX4 219 yX1_note ∈ UG := um_4 (List.mem_of_getElem? (i := 225) rfl) rfl
theorem u_4_227 : Cond.methodLink RX4 227 yX1_keepNoted ∈ UG := um_4 (List.mem_of_getElem? (i := 227) rfl) rfl
theorem u_4_228 : Cond.methodLink RL 199 yL_exchange ∈ UG := um_4 (List.mem_of_getElem? (i := 228) rfl) rfl
theorem u_4_229 : Cond.static yL_exchange ∈ UG := um_4 (List.mem_of_getElem? (i := 229) rfl) rfl
theorem u_4_230 : Cond.codeWith yL_exchange (method_24_code) 5 (Option.some Jvm.ClassFile.FieldType.int) ([((0 : Nat), (10 : Nat), (13 : Nat), (13 : Nat)), ((0 : Nat), (10 : Nat), (17 : Nat), (34 : Nat)), ((0 : Nat), (10 : Nat), (21 : Nat), (55 : Nat))]) ∈ UG := um_4 (List.mem_of_getElem? (i := 230) rfl) rfl
theorem u_4_231 : Cond.methodLink RL 87 yX4_exchange ∈ UG := um_4 (List.mem_of_getElem? (i := 231) rfl) rfl
theorem u_4_232 : Cond.instanceMethod yX4_exchange ∈ UG := um_4 (List.mem_of_getElem? (i := 232) rfl) rfl
theorem u_4_233 : Cond.selects RX4 yX4_exchange yX4_exchange ∈ UG := um_4 (List.mem_of_getElem? (i := 233) rfl) rfl
theorem u_4_234 : Cond.code yX4_exchange (prog_1_method_25_code) 5 (Option.some Jvm.ClassFile.FieldType.int) ∈ UG := um_4 (List.mem_of_getElem? (i := 234) rfl) rfl
theorem u_4_235 : Cond.methodLink RX4 239 yX4_chain ∈ UG := um_4 (List.mem_of_getElem? (i := 235) rfl) rfl
theorem u_4_236 : Cond.instanceMethod yX4_chain ∈ UG := um_4 (List.mem_of_getElem? (i := 236) rfl) rfl
theorem u_4_237 : Cond.selects RX4 yX4_chain yX4_chain ∈ UG := um_4 (List.mem_of_getElem? (i := 237) rfl) rfl
theorem u_4_238 : Cond.code yX4_chain (prog_1_method_26_code) 3 (Option.some Jvm.ClassFile.FieldType.int) ∈ UG := um_4 (List.mem_of_getElem? (i := 238) rfl) rfl
theorem u_4_239 : Cond.methodLink RX4 242 yX3_slotOf ∈ UG := um_4 (List.mem_of_getElem? (i := 239) rfl) rfl
theorem u_5_0 : Cond.instanceMethod yX3_slotOf ∈ UG := um_5 (List.mem_of_getElem? (i := 0) rfl) rfl
theorem u_5_1 : Cond.selects RX3 yX3_slotOf yX3_slotOf ∈ UG := um_5 (List.mem_of_getElem? (i := 1) rfl) rfl
theorem u_5_2 : Cond.code yX3_slotOf (prog_5_method_10_code) 2 (Option.some Jvm.ClassFile.FieldType.int) ∈ UG := um_5 (List.mem_of_getElem? (i := 2) rfl) rfl
theorem u_5_4 : Cond.methodLink RX4 261 yX2_chainOf ∈ UG := um_5 (List.mem_of_getElem? (i := 4) rfl) rfl
theorem u_5_5 : Cond.instanceMethod yX2_chainOf ∈ UG := um_5 (List.mem_of_getElem? (i := 5) rfl) rfl
theorem u_5_6 : Cond.selects RX2 yX2_chainOf yX2_chainOf ∈ UG := um_5 (List.mem_of_getElem? (i := 6) rfl) rfl
theorem u_5_7 : Cond.code yX2_chainOf (prog_4_method_12_code) 7 (Option.some Jvm.ClassFile.FieldType.int) ∈ UG := um_5 (List.mem_of_getElem? (i := 7) rfl) rfl
theorem u_5_8 : Cond.methodLink RX2 108 yX2_withLinked ∈ UG := um_5 (List.mem_of_getElem? (i := 8) rfl) rfl
theorem u_5_10 : Cond.instanceMethod yX2_withLinked ∈ UG := um_5 (List.mem_of_getElem? (i := 10) rfl) rfl
theorem u_5_11 : Cond.code yX2_withLinked (prog_4_method_13_code) 8 (Option.some Jvm.ClassFile.FieldType.int) ∈ UG := um_5 (List.mem_of_getElem? (i := 11) rfl) rfl
theorem u_5_12 : Cond.methodLink RX4 245 yX2_findRooms ∈ UG := um_5 (List.mem_of_getElem? (i := 12) rfl) rfl
theorem u_5_13 : Cond.instanceMethod yX2_findRooms ∈ UG := um_5 (List.mem_of_getElem? (i := 13) rfl) rfl
theorem u_5_14 : Cond.selects RX2 yX2_findRooms yX2_findRooms ∈ UG := um_5 (List.mem_of_getElem? (i := 14) rfl) rfl
theorem u_5_15 : Cond.code yX2_findRooms (prog_4_method_14_code) 4 (Option.some Jvm.ClassFile.FieldType.boolean) ∈ UG := um_5 (List.mem_of_getElem? (i := 15) rfl) rfl
theorem u_5_16 : Cond.methodLink RX2 114 yX2_canSwap ∈ UG := um_5 (List.mem_of_getElem? (i := 16) rfl) rfl
theorem u_5_18 : Cond.instanceMethod yX2_canSwap ∈ UG := um_5 (List.mem_of_getElem? (i := 18) rfl) rfl
theorem u_5_19 : Cond.code yX2_canSwap (prog_4_method_15_code) 6 (Option.some Jvm.ClassFile.FieldType.boolean) ∈ UG := um_5 (List.mem_of_getElem? (i := 19) rfl) rfl
theorem u_5_20 : Cond.methodLink RX2 130 yX3_isAvailable ∈ UG := um_5 (List.mem_of_getElem? (i := 20) rfl) rfl
theorem u_5_21 : Cond.methodLink RX2 117 yX2_membersIn ∈ UG := um_5 (List.mem_of_getElem? (i := 21) rfl) rfl
theorem u_5_23 : Cond.instanceMethod yX2_membersIn ∈ UG := um_5 (List.mem_of_getElem? (i := 23) rfl) rfl
theorem u_5_24 : Cond.code yX2_membersIn (prog_4_method_16_code) 5 (Option.some Jvm.ClassFile.FieldType.int) ∈ UG := um_5 (List.mem_of_getElem? (i := 24) rfl) rfl
theorem u_5_25 : Cond.methodLink RX2 120 yX2_openRooms ∈ UG := um_5 (List.mem_of_getElem? (i := 25) rfl) rfl
theorem u_5_27 : Cond.instanceMethod yX2_openRooms ∈ UG := um_5 (List.mem_of_getElem? (i := 27) rfl) rfl
theorem u_5_28 : Cond.code yX2_openRooms (prog_4_method_17_code) 5 (Option.some Jvm.ClassFile.FieldType.int) ∈ UG := um_5 (List.mem_of_getElem? (i := 28) rfl) rfl
theorem u_5_29 : Cond.methodLink RX2 123 yX2_giveRooms ∈ UG := um_5 (List.mem_of_getElem? (i := 29) rfl) rfl
theorem u_5_30 : Cond.static yX2_giveRooms ∈ UG := um_5 (List.mem_of_getElem? (i := 30) rfl) rfl
theorem u_5_31 : Cond.code yX2_giveRooms (prog_4_method_18_code) 7 (Option.some Jvm.ClassFile.FieldType.boolean) ∈ UG := um_5 (List.mem_of_getElem? (i := 31) rfl) rfl
theorem u_5_32 : Cond.methodLink RX2 133 yX3_sizeOf ∈ UG := um_5 (List.mem_of_getElem? (i := 32) rfl) rfl
theorem u_5_33 : Cond.methodLink RX2 139 yX3_hasNeeds ∈ UG := um_5 (List.mem_of_getElem? (i := 33) rfl) rfl
theorem u_5_35 : Cond.methodLink RX4 251 yX2_swapSlots ∈ UG := um_5 (List.mem_of_getElem? (i := 35) rfl) rfl
theorem u_5_36 : Cond.instanceMethod yX2_swapSlots ∈ UG := um_5 (List.mem_of_getElem? (i := 36) rfl) rfl
theorem u_5_37 : Cond.selects RX2 yX2_swapSlots yX2_swapSlots ∈ UG := um_5 (List.mem_of_getElem? (i := 37) rfl) rfl
theorem u_5_38 : Cond.code yX2_swapSlots (prog_4_method_19_code) 6 (Option.none : Option Jvm.ClassFile.FieldType) ∈ UG := um_5 (List.mem_of_getElem? (i := 38) rfl) rfl
theorem u_5_39 : Cond.methodLink RX2 142 yX3_slotOf ∈ UG := um_5 (List.mem_of_getElem? (i := 39) rfl) rfl
theorem u_5_40 : Cond.methodLink RX4 254 yJ6_bitCount_0f7a4 ∈ UG := um_5 (List.mem_of_getElem? (i := 40) rfl) rfl
theorem u_5_41 : Cond.methodLink RL 202 yL_chain ∈ UG := um_5 (List.mem_of_getElem? (i := 41) rfl) rfl
theorem u_5_42 : Cond.static yL_chain ∈ UG := um_5 (List.mem_of_getElem? (i := 42) rfl) rfl
theorem u_5_43 : Cond.codeWith yL_chain (method_25_code) 5 (Option.some Jvm.ClassFile.FieldType.int) ([((0 : Nat), (10 : Nat), (13 : Nat), (13 : Nat)), ((0 : Nat), (10 : Nat), (17 : Nat), (34 : Nat))]) ∈ UG := um_5 (List.mem_of_getElem? (i := 43) rfl) rfl
theorem u_5_44 : Cond.methodLink RL 90 yX4_chain ∈ UG := um_5 (List.mem_of_getElem? (i := 44) rfl) rfl
theorem u_5_45 : Cond.methodLink RL 205 yL_improve ∈ UG := um_5 (List.mem_of_getElem? (i := 45) rfl) rfl
theorem u_5_46 : Cond.static yL_improve ∈ UG := um_5 (List.mem_of_getElem? (i := 46) rfl) rfl
theorem u_5_47 : Cond.codeWith yL_improve (method_26_code) 4 (Option.some Jvm.ClassFile.FieldType.int) ([((0 : Nat), (9 : Nat), (12 : Nat), (15 : Nat))]) ∈ UG := um_5 (List.mem_of_getElem? (i := 47) rfl) rfl
theorem u_5_48 : Cond.methodLink RL 93 yX4_improve ∈ UG := um_5 (List.mem_of_getElem? (i := 48) rfl) rfl
theorem u_5_49 : Cond.instanceMethod yX4_improve ∈ UG := um_5 (List.mem_of_getElem? (i := 49) rfl) rfl
theorem u_5_50 : Cond.selects RX4 yX4_improve yX4_improve ∈ UG := um_5 (List.mem_of_getElem? (i := 50) rfl) rfl
theorem u_5_51 : Cond.code yX4_improve (prog_1_method_27_code) 3 (Option.some Jvm.ClassFile.FieldType.int) ∈ UG := um_5 (List.mem_of_getElem? (i := 51) rfl) rfl
theorem u_5_52 : Cond.methodLink RX4 264 yX2_makeStep ∈ UG := um_5 (List.mem_of_getElem? (i := 52) rfl) rfl
theorem u_5_53 : Cond.instanceMethod yX2_makeStep ∈ UG := um_5 (List.mem_of_getElem? (i := 53) rfl) rfl
theorem u_5_54 : Cond.selects RX2 yX2_makeStep yX2_makeStep ∈ UG := um_5 (List.mem_of_getElem? (i := 54) rfl) rfl
theorem u_5_55 : Cond.code yX2_makeStep (prog_4_method_20_code) 6 (Option.some Jvm.ClassFile.FieldType.boolean) ∈ UG := um_5 (List.mem_of_getElem? (i := 55) rfl) rfl
theorem u_5_56 : Cond.methodLink RX2 145 yX3_totalCost ∈ UG := um_5 (List.mem_of_getElem? (i := 56) rfl) rfl
theorem u_5_57 : Cond.instanceMethod yX3_totalCost ∈ UG := um_5 (List.mem_of_getElem? (i := 57) rfl) rfl
theorem u_5_58 : Cond.selects RX3 yX3_totalCost yX3_totalCost ∈ UG := um_5 (List.mem_of_getElem? (i := 58) rfl) rfl
theorem u_5_59 : Cond.code yX3_totalCost (prog_5_method_32_code) 1 (Option.some Jvm.ClassFile.FieldType.int) ∈ UG := um_5 (List.mem_of_getElem? (i := 59) rfl) rfl
theorem u_5_60 : Cond.methodLink RX3 123 yX3_gaps ∈ UG := um_5 (List.mem_of_getElem? (i := 60) rfl) rfl
theorem u_5_61 : Cond.instanceMethod yX3_gaps ∈ UG := um_5 (List.mem_of_getElem? (i := 61) rfl) rfl
theorem u_5_62 : Cond.selects RX3 yX3_gaps yX3_gaps ∈ UG := um_5 (List.mem_of_getElem? (i := 62) rfl) rfl
theorem u_5_63 : Cond.code yX3_gaps (prog_5_method_25_code) 4 (Option.some Jvm.ClassFile.FieldType.int) ∈ UG := um_5 (List.mem_of_getElem? (i := 63) rfl) rfl
theorem u_5_64 : Cond.methodLink RX3 113 yX3_slotsOfGroup ∈ UG := um_5 (List.mem_of_getElem? (i := 64) rfl) rfl
theorem u_5_65 : Cond.methodLink RX3 116 yX3_gapsOfDay ∈ UG := um_5 (List.mem_of_getElem? (i := 65) rfl) rfl
theorem u_5_66 : Cond.static yX3_gapsOfDay ∈ UG := um_5 (List.mem_of_getElem? (i := 66) rfl) rfl
theorem u_5_67 : Cond.code yX3_gapsOfDay (prog_5_method_26_code) 5 (Option.some Jvm.ClassFile.FieldType.int) ∈ UG := um_5 (List.mem_of_getElem? (i := 67) rfl) rfl
theorem u_5_68 : Cond.methodLink RX3 126 yX3_lateOnes ∈ UG := um_5 (List.mem_of_getElem? (i := 68) rfl) rfl
theorem u_5_69 : Cond.instanceMethod yX3_lateOnes ∈ UG := um_5 (List.mem_of_getElem? (i := 69) rfl) rfl
theorem u_5_70 : Cond.selects RX3 yX3_lateOnes yX3_lateOnes ∈ UG := um_5 (List.mem_of_getElem? (i := 70) rfl) rfl
theorem u_5_71 : Cond.code yX3_lateOnes (prog_5_method_27_code) 3 (Option.some Jvm.ClassFile.FieldType.int) ∈ UG := um_5 (List.mem_of_getElem? (i := 71) rfl) rfl
theorem u_5_72 : Cond.methodLink RX3 129 yX3_slack ∈ UG := um_5 (List.mem_of_getElem? (i := 72) rfl) rfl
theorem u_5_73 : Cond.instanceMethod yX3_slack ∈ UG := um_5 (List.mem_of_getElem? (i := 73) rfl) rfl
theorem u_5_74 : Cond.selects RX3 yX3_slack yX3_slack ∈ UG := um_5 (List.mem_of_getElem? (i := 74) rfl) rfl
theorem u_5_75 : Cond.code yX3_slack (prog_5_method_28_code) 4 (Option.some Jvm.ClassFile.FieldType.int) ∈ UG := um_5 (List.mem_of_getElem? (i := 75) rfl) rfl
theorem u_5_76 : Cond.methodLink RX3 132 yX3_unplaced ∈ UG := um_5 (List.mem_of_getElem? (i := 76) rfl) rfl
theorem u_5_77 : Cond.methodLink RX2 149 yX2_cheaperPlace ∈ UG := um_5 (List.mem_of_getElem? (i := 77) rfl) rfl
theorem u_5_79 : Cond.instanceMethod yX2_cheaperPlace ∈ UG := um_5 (List.mem_of_getElem? (i := 79) rfl) rfl
theorem u_5_80 : Cond.code yX2_cheaperPlace (prog_4_method_21_code) 7 (Option.some Jvm.ClassFile.FieldType.int) ∈ UG := um_5 (List.mem_of_getElem? (i := 80) rfl) rfl
theorem u_5_81 : Cond.methodLink RX2 152 yX3_costIf ∈ UG := um_5 (List.mem_of_getElem? (i := 81) rfl) rfl
theorem u_5_82 : Cond.instanceMethod yX3_costIf ∈ UG := um_5 (List.mem_of_getElem? (i := 82) rfl) rfl
theorem u_5_83 : Cond.selects RX3 yX3_costIf yX3_costIf ∈ UG := um_5 (List.mem_of_getElem? (i := 83) rfl) rfl
theorem u_5_84 : Cond.code yX3_costIf (prog_5_method_33_code) 5 (Option.some Jvm.ClassFile.FieldType.int) ∈ UG := um_5 (List.mem_of_getElem? (i := 84) rfl) rfl
theorem u_5_85 : Cond.methodLink RX3 135 yX3_totalCost ∈ UG := um_5 (List.mem_of_getElem? (i := 85) rfl) rfl
theorem u_5_86 : Cond.methodLink RL 208 yL_cost ∈ UG := um_5 (List.mem_of_getElem? (i := 86) rfl) rfl
theorem u_5_87 : Cond.static yL_cost ∈ UG := um_5 (List.mem_of_getElem? (i := 87) rfl) rfl
theorem u_5_88 : Cond.codeWith yL_cost (method_27_code) 4 (Option.some Jvm.ClassFile.FieldType.int) ([((0 : Nat), (9 : Nat), (12 : Nat), (15 : Nat))]) ∈ UG := um_5 (List.mem_of_getElem? (i := 88) rfl) rfl
theorem u_5_89 : Cond.methodLink RL 96 yX4_cost ∈ UG := um_5 (List.mem_of_getElem? (i := 89) rfl) rfl
theorem u_5_90 : Cond.instanceMethod yX4_cost ∈ UG := um_5 (List.mem_of_getElem? (i := 90) rfl) rfl
theorem u_5_91 : Cond.selects RX4 yX4_cost yX4_cost ∈ UG := um_5 (List.mem_of_getElem? (i := 91) rfl) rfl
theorem u_5_92 : Cond.code yX4_cost (prog_1_method_28_code) 2 (Option.some Jvm.ClassFile.FieldType.int) ∈ UG := um_5 (List.mem_of_getElem? (i := 92) rfl) rfl
theorem u_5_93 : Cond.methodLink RX4 267 yX3_gaps ∈ UG := um_5 (List.mem_of_getElem? (i := 93) rfl) rfl
theorem u_5_94 : Cond.methodLink RX4 270 yX3_lateOnes ∈ UG := um_5 (List.mem_of_getElem? (i := 94) rfl) rfl
theorem u_5_95 : Cond.methodLink RX4 273 yX3_slack ∈ UG := um_5 (List.mem_of_getElem? (i := 95) rfl) rfl
theorem u_5_96 : Cond.methodLink RX4 276 yX3_totalCost ∈ UG := um_5 (List.mem_of_getElem? (i := 96) rfl) rfl
theorem u_5_97 : Cond.methodLink RL 211 yL_costAt ∈ UG := um_5 (List.mem_of_getElem? (i := 97) rfl) rfl
theorem u_5_98 : Cond.static yL_costAt ∈ UG := um_5 (List.mem_of_getElem? (i := 98) rfl) rfl
theorem u_5_99 : Cond.codeWith yL_costAt (method_28_code) 5 (Option.some Jvm.ClassFile.FieldType.int) ([((0 : Nat), (10 : Nat), (13 : Nat), (13 : Nat)), ((0 : Nat), (10 : Nat), (17 : Nat), (34 : Nat))]) ∈ UG := um_5 (List.mem_of_getElem? (i := 99) rfl) rfl
theorem u_5_100 : Cond.methodLink RL 99 yX4_costAt ∈ UG := um_5 (List.mem_of_getElem? (i := 100) rfl) rfl
theorem u_5_101 : Cond.instanceMethod yX4_costAt ∈ UG := um_5 (List.mem_of_getElem? (i := 101) rfl) rfl
theorem u_5_102 : Cond.selects RX4 yX4_costAt yX4_costAt ∈ UG := um_5 (List.mem_of_getElem? (i := 102) rfl) rfl
theorem u_5_103 : Cond.code yX4_costAt (prog_1_method_29_code) 3 (Option.some Jvm.ClassFile.FieldType.int) ∈ UG := um_5 (List.mem_of_getElem? (i := 103) rfl) rfl
theorem u_5_104 : Cond.methodLink RX4 279 yX3_costIf ∈ UG := um_5 (List.mem_of_getElem? (i := 104) rfl) rfl
theorem u_5_105 : Cond.methodLink RL 222 yL_marked ∈ UG := um_5 (List.mem_of_getElem? (i := 105) rfl) rfl
theorem u_5_106 : Cond.static yL_marked ∈ UG := um_5 (List.mem_of_getElem? (i := 106) rfl) rfl
theorem u_5_107 : Cond.codeWith yL_marked (method_29_code) 4 (Option.some Jvm.ClassFile.FieldType.int) ([((0 : Nat), (9 : Nat), (12 : Nat), (13 : Nat))]) ∈ UG := um_5 (List.mem_of_getElem? (i := 107) rfl) rfl
theorem u_5_108 : Cond.methodLink RL 102 yX4_marked ∈ UG := um_5 (List.mem_of_getElem? (i := 108) rfl) rfl
theorem u_5_109 : Cond.instanceMethod yX4_marked ∈ UG := um_5 (List.mem_of_getElem? (i := 109) rfl) rfl
theorem u_5_110 : Cond.selects RX4 yX4_marked yX4_marked ∈ UG := um_5 (List.mem_of_getElem? (i := 110) rfl) rfl
theorem u_5_111 : Cond.code yX4_marked (prog_1_method_32_code) 2 (Option.some Jvm.ClassFile.FieldType.int) ∈ UG := um_5 (List.mem_of_getElem? (i := 111) rfl) rfl
theorem u_5_112 : Cond.methodLink RL 225 yL_count ∈ UG := um_5 (List.mem_of_getElem? (i := 112) rfl) rfl
theorem u_5_113 : Cond.static yL_count ∈ UG := um_5 (List.mem_of_getElem? (i := 113) rfl) rfl
theorem u_5_114 : Cond.codeWith yL_count (method_30_code) 4 (Option.some Jvm.ClassFile.FieldType.int) ([((0 : Nat), (9 : Nat), (12 : Nat), (15 : Nat))]) ∈ UG := um_5 (List.mem_of_getElem? (i := 114) rfl) rfl
theorem u_5_115 : Cond.methodLink RL 105 yX4_count ∈ UG := um_5 (List.mem_of_getElem? (i := 115) rfl) rfl
theorem u_5_116 : Cond.instanceMethod yX4_count ∈ UG := um_5 (List.mem_of_getElem? (i := 116) rfl) rfl
theorem u_5_117 : Cond.selects RX4 yX4_count yX4_count ∈ UG := um_5 (List.mem_of_getElem? (i := 117) rfl) rfl
theorem u_5_118 : Cond.code yX4_count (prog_1_method_33_code) 2 (Option.some Jvm.ClassFile.FieldType.int) ∈ UG := um_5 (List.mem_of_getElem? (i := 118) rfl) rfl
theorem u_5_119 : Cond.methodLink RX4 294 yX3_fixedOnes ∈ UG := um_5 (List.mem_of_getElem? (i := 119) rfl) rfl
theorem u_5_120 : Cond.instanceMethod yX3_fixedOnes ∈ UG := um_5 (List.mem_of_getElem? (i := 120) rfl) rfl
theorem u_5_121 : Cond.selects RX3 yX3_fixedOnes yX3_fixedOnes ∈ UG := um_5 (List.mem_of_getElem? (i := 121) rfl) rfl
theorem u_5_122 : Cond.code yX3_fixedOnes (prog_5_method_30_code) 3 (Option.some Jvm.ClassFile.FieldType.int) ∈ UG := um_5 (List.mem_of_getElem? (i := 122) rfl) rfl
theorem u_5_123 : Cond.methodLink RL 228 yL_undo ∈ UG := um_5 (List.mem_of_getElem? (i := 123) rfl) rfl
theorem u_5_124 : Cond.static yL_undo ∈ UG := um_5 (List.mem_of_getElem? (i := 124) rfl) rfl
theorem u_5_125 : Cond.codeWith yL_undo (method_31_code) 3 (Option.some Jvm.ClassFile.FieldType.int) ([((0 : Nat), (8 : Nat), (11 : Nat), (34 : Nat))]) ∈ UG := um_5 (List.mem_of_getElem? (i := 125) rfl) rfl
theorem u_5_126 : Cond.methodLink RL 108 yX4_undo ∈ UG := um_5 (List.mem_of_getElem? (i := 126) rfl) rfl
theorem u_5_127 : Cond.instanceMethod yX4_undo ∈ UG := um_5 (List.mem_of_getElem? (i := 127) rfl) rfl
theorem u_5_128 : Cond.selects RX4 yX4_undo yX4_undo ∈ UG := um_5 (List.mem_of_getElem? (i := 128) rfl) rfl
theorem u_5_129 : Cond.code yX4_undo (prog_1_method_34_code) 1 (Option.some Jvm.ClassFile.FieldType.int) ∈ UG := um_5 (List.mem_of_getElem? (i := 129) rfl) rfl
theorem u_5_131 : Cond.methodLink RX4 305 yX1_takeBack ∈ UG := um_5 (List.mem_of_getElem? (i := 131) rfl) rfl
theorem u_5_132 : Cond.instanceMethod yX1_takeBack ∈ UG := um_5 (List.mem_of_getElem? (i := 132) rfl) rfl
theorem u_5_133 : Cond.selects RX1 yX1_takeBack yX1_takeBack ∈ UG := um_5 (List.mem_of_getElem? (i := 133) rfl) rfl
theorem u_5_134 : Cond.code yX1_takeBack (prog_3_method_5_code) 2 (Option.none : Option Jvm.ClassFile.FieldType) ∈ UG := um_5 (List.mem_of_getElem? (i := 134) rfl) rfl
theorem u_5_135 : Cond.methodLink RX1 45 yJ9_max_7cf53 ∈ UG := um_5 (List.mem_of_getElem? (i := 135) rfl) rfl
theorem u_5_136 : Cond.methodLink RL 235 yL_restore ∈ UG := um_5 (List.mem_of_getElem? (i := 136) rfl) rfl
theorem u_5_137 : Cond.static yL_restore ∈ UG := um_5 (List.mem_of_getElem? (i := 137) rfl) rfl
theorem u_5_138 : Cond.codeWith yL_restore (method_32_code) 3 (Option.some Jvm.ClassFile.FieldType.int) ([((0 : Nat), (8 : Nat), (11 : Nat), (34 : Nat))]) ∈ UG := um_5 (List.mem_of_getElem? (i := 138) rfl) rfl
theorem u_5_139 : Cond.methodLink RL 111 yX4_restore ∈ UG := um_5 (List.mem_of_getElem? (i := 139) rfl) rfl
theorem u_5_140 : Cond.instanceMethod yX4_restore ∈ UG := um_5 (List.mem_of_getElem? (i := 140) rfl) rfl
theorem u_5_141 : Cond.selects RX4 yX4_restore yX4_restore ∈ UG := um_5 (List.mem_of_getElem? (i := 141) rfl) rfl
theorem u_5_142 : Cond.code yX4_restore (prog_1_method_36_code) 1 (Option.some Jvm.ClassFile.FieldType.int) ∈ UG := um_5 (List.mem_of_getElem? (i := 142) rfl) rfl
theorem u_5_144 : Cond.methodLink RL 124 yX5_thrown ∈ UG := um_5 (List.mem_of_getElem? (i := 144) rfl) rfl
theorem u_5_145 : Cond.instanceMethod yX5_thrown ∈ UG := um_5 (List.mem_of_getElem? (i := 145) rfl) rfl
theorem u_5_146 : Cond.selects RX5 yX5_thrown yX5_thrown ∈ UG := um_5 (List.mem_of_getElem? (i := 146) rfl) rfl
theorem u_5_147 : Cond.code yX5_thrown (prog_7_method_1_code) 1 (Option.some Jvm.ClassFile.FieldType.int) ∈ UG := um_5 (List.mem_of_getElem? (i := 147) rfl) rfl
theorem u_5_148 : Cond.classLink RL 115 RX5 ∈ UG := um_5 (List.mem_of_getElem? (i := 148) rfl) rfl
theorem u_5_149 : Cond.instantiable RX5 17 ∈ UG := um_5 (List.mem_of_getElem? (i := 149) rfl) rfl
theorem u_5_150 : Cond.methodLink RL 117 yX5_init ∈ UG := um_5 (List.mem_of_getElem? (i := 150) rfl) rfl
theorem u_5_151 : Cond.instanceMethod yX5_init ∈ UG := um_5 (List.mem_of_getElem? (i := 151) rfl) rfl
theorem u_5_152 : Cond.code yX5_init (prog_7_method_2_code) 2 (Option.none : Option Jvm.ClassFile.FieldType) ∈ UG := um_5 (List.mem_of_getElem? (i := 152) rfl) rfl
theorem u_5_153 : Cond.methodLink RX5 7 ⟨"java/lang/Object", "<init>", "()V"⟩ ∈ UG := um_5 (List.mem_of_getElem? (i := 153) rfl) rfl
theorem u_5_154 : Cond.fieldLink RX5 1 RX5 "thrown" "I" ∈ UG := um_5 (List.mem_of_getElem? (i := 154) rfl) rfl
theorem u_5_155 : Cond.fieldLink RX5 13 RX5 "all" "[I" ∈ UG := um_5 (List.mem_of_getElem? (i := 155) rfl) rfl
theorem u_5_156 : Cond.fieldLink RX5 43 RX5 "changes" "I" ∈ UG := um_5 (List.mem_of_getElem? (i := 156) rfl) rfl
theorem u_5_157 : Cond.fieldLink RX5 209 RX5 "isSaved" "Z" ∈ UG := um_5 (List.mem_of_getElem? (i := 157) rfl) rfl
theorem u_5_158 : Cond.fieldLink RX5 17 RX5 "letters" "[I" ∈ UG := um_5 (List.mem_of_getElem? (i := 158) rfl) rfl
theorem u_5_159 : Cond.fieldLink RX5 89 RX5 "letterMany" "I" ∈ UG := um_5 (List.mem_of_getElem? (i := 159) rfl) rfl
theorem u_5_160 : Cond.fieldLink RX5 92 RX5 "at" "I" ∈ UG := um_5 (List.mem_of_getElem? (i := 160) rfl) rfl
theorem u_5_161 : Cond.fieldLink RX5 20 RX5 "fault" "I" ∈ UG := um_5 (List.mem_of_getElem? (i := 161) rfl) rfl
theorem u_5_162 : Cond.fieldLink RX5 107 RX5 "readTeacher" "I" ∈ UG := um_5 (List.mem_of_getElem? (i := 162) rfl) rfl
theorem u_5_163 : Cond.fieldLink RX5 110 RX5 "readGroups" "I" ∈ UG := um_5 (List.mem_of_getElem? (i := 163) rfl) rfl
theorem u_5_164 : Cond.fieldLink RX5 98 RX5 "readNeeds" "I" ∈ UG := um_5 (List.mem_of_getElem? (i := 164) rfl) rfl
theorem u_5_165 : Cond.fieldLink RX5 101 RX5 "readLength" "I" ∈ UG := um_5 (List.mem_of_getElem? (i := 165) rfl) rfl
theorem u_5_166 : Cond.fieldLink RX5 23 RX5 "text" "[I" ∈ UG := um_5 (List.mem_of_getElem? (i := 166) rfl) rfl
theorem u_5_167 : Cond.fieldLink RX5 123 RX5 "textMany" "I" ∈ UG := um_5 (List.mem_of_getElem? (i := 167) rfl) rfl
theorem u_5_168 : Cond.fieldLink RX5 26 RX5 "stood" "[I" ∈ UG := um_5 (List.mem_of_getElem? (i := 168) rfl) rfl
theorem u_5_169 : Cond.fieldLink RX5 29 RX5 "spare" "[I" ∈ UG := um_5 (List.mem_of_getElem? (i := 169) rfl) rfl
theorem u_5_170 : Cond.fieldLink RX5 32 RX5 "order" "[I" ∈ UG := um_5 (List.mem_of_getElem? (i := 170) rfl) rfl
theorem u_5_171 : Cond.lays RX5 RX5 "thrown" "I" ∈ UG := um_5 (List.mem_of_getElem? (i := 171) rfl) rfl
theorem u_5_173 : Cond.laysFinal RX5 RX5 "all" "[I" ∈ UG := um_5 (List.mem_of_getElem? (i := 173) rfl) rfl
theorem u_5_175 : Cond.lays RX5 RX5 "changes" "I" ∈ UG := um_5 (List.mem_of_getElem? (i := 175) rfl) rfl
theorem u_5_177 : Cond.lays RX5 RX5 "isSaved" "Z" ∈ UG := um_5 (List.mem_of_getElem? (i := 177) rfl) rfl
theorem u_5_179 : Cond.laysFinal RX5 RX5 "letters" "[I" ∈ UG := um_5 (List.mem_of_getElem? (i := 179) rfl) rfl
theorem u_5_181 : Cond.lays RX5 RX5 "letterMany" "I" ∈ UG := um_5 (List.mem_of_getElem? (i := 181) rfl) rfl
theorem u_5_183 : Cond.lays RX5 RX5 "at" "I" ∈ UG := um_5 (List.mem_of_getElem? (i := 183) rfl) rfl
theorem u_5_185 : Cond.lays RX5 RX5 "fault" "I" ∈ UG := um_5 (List.mem_of_getElem? (i := 185) rfl) rfl
theorem u_5_187 : Cond.lays RX5 RX5 "readTeacher" "I" ∈ UG := um_5 (List.mem_of_getElem? (i := 187) rfl) rfl
theorem u_5_189 : Cond.lays RX5 RX5 "readGroups" "I" ∈ UG := um_5 (List.mem_of_getElem? (i := 189) rfl) rfl
theorem u_5_191 : Cond.lays RX5 RX5 "readNeeds" "I" ∈ UG := um_5 (List.mem_of_getElem? (i := 191) rfl) rfl
theorem u_5_193 : Cond.lays RX5 RX5 "readLength" "I" ∈ UG := um_5 (List.mem_of_getElem? (i := 193) rfl) rfl
theorem u_5_195 : Cond.laysFinal RX5 RX5 "text" "[I" ∈ UG := um_5 (List.mem_of_getElem? (i := 195) rfl) rfl
theorem u_5_197 : Cond.lays RX5 RX5 "textMany" "I" ∈ UG := um_5 (List.mem_of_getElem? (i := 197) rfl) rfl
theorem u_5_199 : Cond.laysFinal RX5 RX5 "stood" "[I" ∈ UG := um_5 (List.mem_of_getElem? (i := 199) rfl) rfl
theorem u_5_201 : Cond.laysFinal RX5 RX5 "spare" "[I" ∈ UG := um_5 (List.mem_of_getElem? (i := 201) rfl) rfl
theorem u_5_203 : Cond.laysFinal RX5 RX5 "order" "[I" ∈ UG := um_5 (List.mem_of_getElem? (i := 203) rfl) rfl
theorem u_5_206 : Cond.methodLink RL 123 yX5_setRoom ∈ UG := um_5 (List.mem_of_getElem? (i := 206) rfl) rfl
theorem u_5_207 : Cond.instanceMethod yX5_setRoom ∈ UG := um_5 (List.mem_of_getElem? (i := 207) rfl) rfl
theorem u_5_208 : Cond.selects RX5 yX5_setRoom yX5_setRoom ∈ UG := um_5 (List.mem_of_getElem? (i := 208) rfl) rfl
theorem u_5_209 : Cond.code yX5_setRoom (prog_7_method_21_code) 4 (Option.some Jvm.ClassFile.FieldType.int) ∈ UG := um_5 (List.mem_of_getElem? (i := 209) rfl) rfl
theorem u_5_210 : Cond.methodLink RX5 39 yX5_in ∈ UG := um_5 (List.mem_of_getElem? (i := 210) rfl) rfl
theorem u_5_211 : Cond.static yX5_in ∈ UG := um_5 (List.mem_of_getElem? (i := 211) rfl) rfl
theorem u_5_212 : Cond.code yX5_in (prog_7_method_3_code) 3 (Option.some Jvm.ClassFile.FieldType.boolean) ∈ UG := um_5 (List.mem_of_getElem? (i := 212) rfl) rfl
theorem u_5_213 : Cond.methodLink RX5 83 yX5_keeps ∈ UG := um_5 (List.mem_of_getElem? (i := 213) rfl) rfl
theorem u_5_215 : Cond.instanceMethod yX5_keeps ∈ UG := um_5 (List.mem_of_getElem? (i := 215) rfl) rfl
theorem u_5_216 : Cond.code yX5_keeps (prog_7_method_8_code) 2 (Option.none : Option Jvm.ClassFile.FieldType) ∈ UG := um_5 (List.mem_of_getElem? (i := 216) rfl) rfl
theorem u_5_217 : Cond.methodLink RX5 46 yX5_copies ∈ UG := um_5 (List.mem_of_getElem? (i := 217) rfl) rfl
theorem u_5_219 : Cond.instanceMethod yX5_copies ∈ UG := um_5 (List.mem_of_getElem? (i := 219) rfl) rfl
theorem u_5_220 : Cond.code yX5_copies (prog_7_method_7_code) 4 (Option.none : Option Jvm.ClassFile.FieldType) ∈ UG := um_5 (List.mem_of_getElem? (i := 220) rfl) rfl
theorem u_5_221 : Cond.methodLink RX5 86 yX5_clears ∈ UG := um_5 (List.mem_of_getElem? (i := 221) rfl) rfl
theorem u_5_223 : Cond.instanceMethod yX5_clears ∈ UG := um_5 (List.mem_of_getElem? (i := 223) rfl) rfl
theorem u_5_224 : Cond.code yX5_clears (prog_7_method_20_code) 3 (Option.some Jvm.ClassFile.FieldType.int) ∈ UG := um_5 (List.mem_of_getElem? (i := 224) rfl) rfl
theorem u_5_225 : Cond.methodLink RX5 35 yX5_many ∈ UG := um_5 (List.mem_of_getElem? (i := 225) rfl) rfl
theorem u_5_227 : Cond.instanceMethod yX5_many ∈ UG := um_5 (List.mem_of_getElem? (i := 227) rfl) rfl
theorem u_5_228 : Cond.code yX5_many (prog_7_method_5_code) 1 (Option.some Jvm.ClassFile.FieldType.int) ∈ UG := um_5 (List.mem_of_getElem? (i := 228) rfl) rfl
theorem u_5_229 : Cond.methodLink RX5 54 yX5_of ∈ UG := um_5 (List.mem_of_getElem? (i := 229) rfl) rfl
theorem u_5_231 : Cond.instanceMethod yX5_of ∈ UG := um_5 (List.mem_of_getElem? (i := 231) rfl) rfl
theorem u_5_232 : Cond.code yX5_of (prog_7_method_4_code) 3 (Option.some Jvm.ClassFile.FieldType.int) ∈ UG := um_5 (List.mem_of_getElem? (i := 232) rfl) rfl
theorem u_5_233 : Cond.methodLink RX5 75 yX5_isSuitable ∈ UG := um_5 (List.mem_of_getElem? (i := 233) rfl) rfl
theorem u_5_235 : Cond.instanceMethod yX5_isSuitable ∈ UG := um_5 (List.mem_of_getElem? (i := 235) rfl) rfl
theorem u_5_236 : Cond.code yX5_isSuitable (prog_7_method_17_code) 3 (Option.some Jvm.ClassFile.FieldType.boolean) ∈ UG := um_5 (List.mem_of_getElem? (i := 236) rfl) rfl
theorem u_5_237 : Cond.methodLink RX5 72 yX5_obstacleOf ∈ UG := um_5 (List.mem_of_getElem? (i := 237) rfl) rfl
theorem u_5_239 : Cond.instanceMethod yX5_obstacleOf ∈ UG := um_5 (List.mem_of_getElem? (i := 239) rfl) rfl
theorem u_6_0 : Cond.code yX5_obstacleOf (prog_7_method_16_code) 7 (Option.some Jvm.ClassFile.FieldType.int) ∈ UG := um_6 (List.mem_of_getElem? (i := 0) rfl) rfl
theorem u_6_1 : Cond.methodLink RX5 50 yX5_isLast ∈ UG := um_6 (List.mem_of_getElem? (i := 1) rfl) rfl
theorem u_6_2 : Cond.static yX5_isLast ∈ UG := um_6 (List.mem_of_getElem? (i := 2) rfl) rfl
theorem u_6_3 : Cond.code yX5_isLast (prog_7_method_9_code) 1 (Option.some Jvm.ClassFile.FieldType.boolean) ∈ UG := um_6 (List.mem_of_getElem? (i := 3) rfl) rfl
theorem u_6_4 : Cond.methodLink RX5 58 yX5_slots ∈ UG := um_6 (List.mem_of_getElem? (i := 4) rfl) rfl
theorem u_6_5 : Cond.static yX5_slots ∈ UG := um_6 (List.mem_of_getElem? (i := 5) rfl) rfl
theorem u_6_6 : Cond.code yX5_slots (prog_7_method_10_code) 2 (Option.some Jvm.ClassFile.FieldType.int) ∈ UG := um_6 (List.mem_of_getElem? (i := 6) rfl) rfl
theorem u_6_7 : Cond.methodLink RX5 69 yX5_sizeOf ∈ UG := um_6 (List.mem_of_getElem? (i := 7) rfl) rfl
theorem u_6_9 : Cond.instanceMethod yX5_sizeOf ∈ UG := um_6 (List.mem_of_getElem? (i := 9) rfl) rfl
theorem u_6_10 : Cond.code yX5_sizeOf (prog_7_method_12_code) 4 (Option.some Jvm.ClassFile.FieldType.int) ∈ UG := um_6 (List.mem_of_getElem? (i := 10) rfl) rfl
theorem u_6_11 : Cond.methodLink RX5 65 yX5_hinders ∈ UG := um_6 (List.mem_of_getElem? (i := 11) rfl) rfl
theorem u_6_13 : Cond.instanceMethod yX5_hinders ∈ UG := um_6 (List.mem_of_getElem? (i := 13) rfl) rfl
theorem u_6_14 : Cond.code yX5_hinders (prog_7_method_14_code) 5 (Option.some Jvm.ClassFile.FieldType.boolean) ∈ UG := um_6 (List.mem_of_getElem? (i := 14) rfl) rfl
theorem u_6_15 : Cond.methodLink RX5 61 yX5_slotsOf ∈ UG := um_6 (List.mem_of_getElem? (i := 15) rfl) rfl
theorem u_6_17 : Cond.instanceMethod yX5_slotsOf ∈ UG := um_6 (List.mem_of_getElem? (i := 17) rfl) rfl
theorem u_6_18 : Cond.code yX5_slotsOf (prog_7_method_11_code) 2 (Option.some Jvm.ClassFile.FieldType.int) ∈ UG := um_6 (List.mem_of_getElem? (i := 18) rfl) rfl
theorem u_6_19 : Cond.methodLink RX5 79 yX5_lifts ∈ UG := um_6 (List.mem_of_getElem? (i := 19) rfl) rfl
theorem u_6_21 : Cond.instanceMethod yX5_lifts ∈ UG := um_6 (List.mem_of_getElem? (i := 21) rfl) rfl
theorem u_6_22 : Cond.code yX5_lifts (prog_7_method_19_code) 2 (Option.none : Option Jvm.ClassFile.FieldType) ∈ UG := um_6 (List.mem_of_getElem? (i := 22) rfl) rfl
theorem u_6_23 : Cond.methodLink RL 130 yX5_setGroup ∈ UG := um_6 (List.mem_of_getElem? (i := 23) rfl) rfl
theorem u_6_24 : Cond.instanceMethod yX5_setGroup ∈ UG := um_6 (List.mem_of_getElem? (i := 24) rfl) rfl
theorem u_6_25 : Cond.selects RX5 yX5_setGroup yX5_setGroup ∈ UG := um_6 (List.mem_of_getElem? (i := 25) rfl) rfl
theorem u_6_26 : Cond.code yX5_setGroup (prog_7_method_22_code) 3 (Option.some Jvm.ClassFile.FieldType.int) ∈ UG := um_6 (List.mem_of_getElem? (i := 26) rfl) rfl
theorem u_6_27 : Cond.methodLink RL 133 yX5_setTeacher ∈ UG := um_6 (List.mem_of_getElem? (i := 27) rfl) rfl
theorem u_6_28 : Cond.instanceMethod yX5_setTeacher ∈ UG := um_6 (List.mem_of_getElem? (i := 28) rfl) rfl
theorem u_6_29 : Cond.selects RX5 yX5_setTeacher yX5_setTeacher ∈ UG := um_6 (List.mem_of_getElem? (i := 29) rfl) rfl
theorem u_6_30 : Cond.code yX5_setTeacher (prog_7_method_23_code) 3 (Option.some Jvm.ClassFile.FieldType.int) ∈ UG := um_6 (List.mem_of_getElem? (i := 30) rfl) rfl
theorem u_6_31 : Cond.methodLink RL 136 yX5_setWeight ∈ UG := um_6 (List.mem_of_getElem? (i := 31) rfl) rfl
theorem u_6_32 : Cond.instanceMethod yX5_setWeight ∈ UG := um_6 (List.mem_of_getElem? (i := 32) rfl) rfl
theorem u_6_33 : Cond.selects RX5 yX5_setWeight yX5_setWeight ∈ UG := um_6 (List.mem_of_getElem? (i := 33) rfl) rfl
theorem u_6_34 : Cond.code yX5_setWeight (prog_7_method_24_code) 4 (Option.some Jvm.ClassFile.FieldType.int) ∈ UG := um_6 (List.mem_of_getElem? (i := 34) rfl) rfl
theorem u_6_35 : Cond.methodLink RL 139 yX5_setting ∈ UG := um_6 (List.mem_of_getElem? (i := 35) rfl) rfl
theorem u_6_36 : Cond.instanceMethod yX5_setting ∈ UG := um_6 (List.mem_of_getElem? (i := 36) rfl) rfl
theorem u_6_37 : Cond.selects RX5 yX5_setting yX5_setting ∈ UG := um_6 (List.mem_of_getElem? (i := 37) rfl) rfl
theorem u_6_38 : Cond.code yX5_setting (prog_7_method_25_code) 3 (Option.some Jvm.ClassFile.FieldType.int) ∈ UG := um_6 (List.mem_of_getElem? (i := 38) rfl) rfl
theorem u_6_39 : Cond.methodLink RL 143 yX5_append ∈ UG := um_6 (List.mem_of_getElem? (i := 39) rfl) rfl
theorem u_6_40 : Cond.instanceMethod yX5_append ∈ UG := um_6 (List.mem_of_getElem? (i := 40) rfl) rfl
theorem u_6_41 : Cond.selects RX5 yX5_append yX5_append ∈ UG := um_6 (List.mem_of_getElem? (i := 41) rfl) rfl
theorem u_6_42 : Cond.code yX5_append (prog_7_method_26_code) 5 (Option.some Jvm.ClassFile.FieldType.int) ∈ UG := um_6 (List.mem_of_getElem? (i := 42) rfl) rfl
theorem u_6_43 : Cond.methodLink RL 147 yX5_addEvent ∈ UG := um_6 (List.mem_of_getElem? (i := 43) rfl) rfl
theorem u_6_44 : Cond.instanceMethod yX5_addEvent ∈ UG := um_6 (List.mem_of_getElem? (i := 44) rfl) rfl
theorem u_6_45 : Cond.selects RX5 yX5_addEvent yX5_addEvent ∈ UG := um_6 (List.mem_of_getElem? (i := 45) rfl) rfl
theorem u_6_46 : Cond.code yX5_addEvent (prog_7_method_31_code) 1 (Option.some Jvm.ClassFile.FieldType.int) ∈ UG := um_6 (List.mem_of_getElem? (i := 46) rfl) rfl
theorem u_6_47 : Cond.methodLink RX5 113 yX5_reads ∈ UG := um_6 (List.mem_of_getElem? (i := 47) rfl) rfl
theorem u_6_49 : Cond.instanceMethod yX5_reads ∈ UG := um_6 (List.mem_of_getElem? (i := 49) rfl) rfl
theorem u_6_50 : Cond.code yX5_reads (prog_7_method_29_code) 3 (Option.none : Option Jvm.ClassFile.FieldType) ∈ UG := um_6 (List.mem_of_getElem? (i := 50) rfl) rfl
theorem u_6_51 : Cond.methodLink RX5 104 yX5_digit ∈ UG := um_6 (List.mem_of_getElem? (i := 51) rfl) rfl
theorem u_6_53 : Cond.instanceMethod yX5_digit ∈ UG := um_6 (List.mem_of_getElem? (i := 53) rfl) rfl
theorem u_6_54 : Cond.code yX5_digit (prog_7_method_28_code) 3 (Option.some Jvm.ClassFile.FieldType.int) ∈ UG := um_6 (List.mem_of_getElem? (i := 54) rfl) rfl
theorem u_6_55 : Cond.methodLink RX5 95 yX5_here ∈ UG := um_6 (List.mem_of_getElem? (i := 55) rfl) rfl
theorem u_6_57 : Cond.instanceMethod yX5_here ∈ UG := um_6 (List.mem_of_getElem? (i := 57) rfl) rfl
theorem u_6_58 : Cond.code yX5_here (prog_7_method_27_code) 1 (Option.some Jvm.ClassFile.FieldType.int) ∈ UG := um_6 (List.mem_of_getElem? (i := 58) rfl) rfl
theorem u_6_59 : Cond.methodLink RX5 116 yX5_opens ∈ UG := um_6 (List.mem_of_getElem? (i := 59) rfl) rfl
theorem u_6_61 : Cond.instanceMethod yX5_opens ∈ UG := um_6 (List.mem_of_getElem? (i := 61) rfl) rfl
theorem u_6_62 : Cond.code yX5_opens (prog_7_method_30_code) 6 (Option.some Jvm.ClassFile.FieldType.int) ∈ UG := um_6 (List.mem_of_getElem? (i := 62) rfl) rfl
theorem u_6_63 : Cond.methodLink RL 151 yX5_errorPosition ∈ UG := um_6 (List.mem_of_getElem? (i := 63) rfl) rfl
theorem u_6_64 : Cond.instanceMethod yX5_errorPosition ∈ UG := um_6 (List.mem_of_getElem? (i := 64) rfl) rfl
theorem u_6_65 : Cond.selects RX5 yX5_errorPosition yX5_errorPosition ∈ UG := um_6 (List.mem_of_getElem? (i := 65) rfl) rfl
theorem u_6_66 : Cond.code yX5_errorPosition (prog_7_method_32_code) 1 (Option.some Jvm.ClassFile.FieldType.int) ∈ UG := um_6 (List.mem_of_getElem? (i := 66) rfl) rfl
theorem u_6_67 : Cond.methodLink RL 154 yX5_removeEvent ∈ UG := um_6 (List.mem_of_getElem? (i := 67) rfl) rfl
theorem u_6_68 : Cond.instanceMethod yX5_removeEvent ∈ UG := um_6 (List.mem_of_getElem? (i := 68) rfl) rfl
theorem u_6_69 : Cond.selects RX5 yX5_removeEvent yX5_removeEvent ∈ UG := um_6 (List.mem_of_getElem? (i := 69) rfl) rfl
theorem u_6_70 : Cond.code yX5_removeEvent (prog_7_method_33_code) 4 (Option.some Jvm.ClassFile.FieldType.int) ∈ UG := um_6 (List.mem_of_getElem? (i := 70) rfl) rfl
theorem u_6_71 : Cond.methodLink RX5 120 yX5_isEvent ∈ UG := um_6 (List.mem_of_getElem? (i := 71) rfl) rfl
theorem u_6_73 : Cond.instanceMethod yX5_isEvent ∈ UG := um_6 (List.mem_of_getElem? (i := 73) rfl) rfl
theorem u_6_74 : Cond.code yX5_isEvent (prog_7_method_6_code) 2 (Option.some Jvm.ClassFile.FieldType.boolean) ∈ UG := um_6 (List.mem_of_getElem? (i := 74) rfl) rfl
theorem u_6_75 : Cond.methodLink RL 157 yX5_split ∈ UG := um_6 (List.mem_of_getElem? (i := 75) rfl) rfl
theorem u_6_76 : Cond.instanceMethod yX5_split ∈ UG := um_6 (List.mem_of_getElem? (i := 76) rfl) rfl
theorem u_6_77 : Cond.selects RX5 yX5_split yX5_split ∈ UG := um_6 (List.mem_of_getElem? (i := 77) rfl) rfl
theorem u_6_78 : Cond.code yX5_split (prog_7_method_34_code) 3 (Option.some Jvm.ClassFile.FieldType.int) ∈ UG := um_6 (List.mem_of_getElem? (i := 78) rfl) rfl
theorem u_6_79 : Cond.methodLink RL 160 yX5_event ∈ UG := um_6 (List.mem_of_getElem? (i := 79) rfl) rfl
theorem u_6_80 : Cond.instanceMethod yX5_event ∈ UG := um_6 (List.mem_of_getElem? (i := 80) rfl) rfl
theorem u_6_81 : Cond.selects RX5 yX5_event yX5_event ∈ UG := um_6 (List.mem_of_getElem? (i := 81) rfl) rfl
theorem u_6_82 : Cond.code yX5_event (prog_7_method_35_code) 3 (Option.some Jvm.ClassFile.FieldType.int) ∈ UG := um_6 (List.mem_of_getElem? (i := 82) rfl) rfl
theorem u_6_83 : Cond.methodLink RL 163 yX5_describe ∈ UG := um_6 (List.mem_of_getElem? (i := 83) rfl) rfl
theorem u_6_84 : Cond.instanceMethod yX5_describe ∈ UG := um_6 (List.mem_of_getElem? (i := 84) rfl) rfl
theorem u_6_85 : Cond.selects RX5 yX5_describe yX5_describe ∈ UG := um_6 (List.mem_of_getElem? (i := 85) rfl) rfl
theorem u_6_86 : Cond.code yX5_describe (prog_7_method_37_code) 4 (Option.some Jvm.ClassFile.FieldType.int) ∈ UG := um_6 (List.mem_of_getElem? (i := 86) rfl) rfl
theorem u_6_87 : Cond.methodLink RX5 126 yX5_writes ∈ UG := um_6 (List.mem_of_getElem? (i := 87) rfl) rfl
theorem u_6_89 : Cond.instanceMethod yX5_writes ∈ UG := um_6 (List.mem_of_getElem? (i := 89) rfl) rfl
theorem u_6_90 : Cond.code yX5_writes (prog_7_method_36_code) 2 (Option.none : Option Jvm.ClassFile.FieldType) ∈ UG := um_6 (List.mem_of_getElem? (i := 90) rfl) rfl
theorem u_6_91 : Cond.methodLink RL 166 yX5_place ∈ UG := um_6 (List.mem_of_getElem? (i := 91) rfl) rfl
theorem u_6_92 : Cond.instanceMethod yX5_place ∈ UG := um_6 (List.mem_of_getElem? (i := 92) rfl) rfl
theorem u_6_93 : Cond.selects RX5 yX5_place yX5_place ∈ UG := um_6 (List.mem_of_getElem? (i := 93) rfl) rfl
theorem u_6_94 : Cond.code yX5_place (prog_7_method_39_code) 4 (Option.some Jvm.ClassFile.FieldType.int) ∈ UG := um_6 (List.mem_of_getElem? (i := 94) rfl) rfl
theorem u_6_95 : Cond.methodLink RX5 129 yX5_isPlace ∈ UG := um_6 (List.mem_of_getElem? (i := 95) rfl) rfl
theorem u_6_96 : Cond.static yX5_isPlace ∈ UG := um_6 (List.mem_of_getElem? (i := 96) rfl) rfl
theorem u_6_97 : Cond.code yX5_isPlace (prog_7_method_38_code) 1 (Option.some Jvm.ClassFile.FieldType.boolean) ∈ UG := um_6 (List.mem_of_getElem? (i := 97) rfl) rfl
theorem u_6_98 : Cond.methodLink RX5 132 yX5_lays ∈ UG := um_6 (List.mem_of_getElem? (i := 98) rfl) rfl
theorem u_6_100 : Cond.instanceMethod yX5_lays ∈ UG := um_6 (List.mem_of_getElem? (i := 100) rfl) rfl
theorem u_6_101 : Cond.code yX5_lays (prog_7_method_18_code) 3 (Option.none : Option Jvm.ClassFile.FieldType) ∈ UG := um_6 (List.mem_of_getElem? (i := 101) rfl) rfl
theorem u_6_102 : Cond.methodLink RL 169 yX5_unplace ∈ UG := um_6 (List.mem_of_getElem? (i := 102) rfl) rfl
theorem u_6_103 : Cond.instanceMethod yX5_unplace ∈ UG := um_6 (List.mem_of_getElem? (i := 103) rfl) rfl
theorem u_6_104 : Cond.selects RX5 yX5_unplace yX5_unplace ∈ UG := um_6 (List.mem_of_getElem? (i := 104) rfl) rfl
theorem u_6_105 : Cond.code yX5_unplace (prog_7_method_40_code) 3 (Option.some Jvm.ClassFile.FieldType.int) ∈ UG := um_6 (List.mem_of_getElem? (i := 105) rfl) rfl
theorem u_6_106 : Cond.methodLink RL 173 yX5_fix ∈ UG := um_6 (List.mem_of_getElem? (i := 106) rfl) rfl
theorem u_6_107 : Cond.instanceMethod yX5_fix ∈ UG := um_6 (List.mem_of_getElem? (i := 107) rfl) rfl
theorem u_6_108 : Cond.selects RX5 yX5_fix yX5_fix ∈ UG := um_6 (List.mem_of_getElem? (i := 108) rfl) rfl
theorem u_6_109 : Cond.code yX5_fix (prog_7_method_41_code) 4 (Option.some Jvm.ClassFile.FieldType.boolean) ∈ UG := um_6 (List.mem_of_getElem? (i := 109) rfl) rfl
theorem u_6_110 : Cond.methodLink RL 176 yX5_obstacle ∈ UG := um_6 (List.mem_of_getElem? (i := 110) rfl) rfl
theorem u_6_111 : Cond.instanceMethod yX5_obstacle ∈ UG := um_6 (List.mem_of_getElem? (i := 111) rfl) rfl
theorem u_6_112 : Cond.selects RX5 yX5_obstacle yX5_obstacle ∈ UG := um_6 (List.mem_of_getElem? (i := 112) rfl) rfl
theorem u_6_113 : Cond.code yX5_obstacle (prog_7_method_42_code) 3 (Option.some Jvm.ClassFile.FieldType.int) ∈ UG := um_6 (List.mem_of_getElem? (i := 113) rfl) rfl
theorem u_6_114 : Cond.methodLink RL 179 yX5_places ∈ UG := um_6 (List.mem_of_getElem? (i := 114) rfl) rfl
theorem u_6_115 : Cond.instanceMethod yX5_places ∈ UG := um_6 (List.mem_of_getElem? (i := 115) rfl) rfl
theorem u_6_116 : Cond.selects RX5 yX5_places yX5_places ∈ UG := um_6 (List.mem_of_getElem? (i := 116) rfl) rfl
theorem u_6_117 : Cond.code yX5_places (prog_7_method_44_code) 3 (Option.some Jvm.ClassFile.FieldType.int) ∈ UG := um_6 (List.mem_of_getElem? (i := 117) rfl) rfl
theorem u_6_118 : Cond.methodLink RX5 135 yX5_placesOf ∈ UG := um_6 (List.mem_of_getElem? (i := 118) rfl) rfl
theorem u_6_120 : Cond.instanceMethod yX5_placesOf ∈ UG := um_6 (List.mem_of_getElem? (i := 120) rfl) rfl
theorem u_6_121 : Cond.code yX5_placesOf (prog_7_method_43_code) 6 (Option.some Jvm.ClassFile.FieldType.int) ∈ UG := um_6 (List.mem_of_getElem? (i := 121) rfl) rfl
theorem u_6_122 : Cond.methodLink RL 182 yX5_free ∈ UG := um_6 (List.mem_of_getElem? (i := 122) rfl) rfl
theorem u_6_123 : Cond.instanceMethod yX5_free ∈ UG := um_6 (List.mem_of_getElem? (i := 123) rfl) rfl
theorem u_6_124 : Cond.selects RX5 yX5_free yX5_free ∈ UG := um_6 (List.mem_of_getElem? (i := 124) rfl) rfl
theorem u_6_125 : Cond.code yX5_free (prog_7_method_45_code) 5 (Option.some Jvm.ClassFile.FieldType.int) ∈ UG := um_6 (List.mem_of_getElem? (i := 125) rfl) rfl
theorem u_6_126 : Cond.methodLink RL 185 yX5_hindering ∈ UG := um_6 (List.mem_of_getElem? (i := 126) rfl) rfl
theorem u_6_127 : Cond.instanceMethod yX5_hindering ∈ UG := um_6 (List.mem_of_getElem? (i := 127) rfl) rfl
theorem u_6_128 : Cond.selects RX5 yX5_hindering yX5_hindering ∈ UG := um_6 (List.mem_of_getElem? (i := 128) rfl) rfl
theorem u_6_129 : Cond.code yX5_hindering (prog_7_method_46_code) 3 (Option.some Jvm.ClassFile.FieldType.int) ∈ UG := um_6 (List.mem_of_getElem? (i := 129) rfl) rfl
theorem u_6_130 : Cond.methodLink RX5 139 yX5_hinderingOf ∈ UG := um_6 (List.mem_of_getElem? (i := 130) rfl) rfl
theorem u_6_132 : Cond.instanceMethod yX5_hinderingOf ∈ UG := um_6 (List.mem_of_getElem? (i := 132) rfl) rfl
theorem u_6_133 : Cond.code yX5_hinderingOf (prog_7_method_15_code) 5 (Option.some Jvm.ClassFile.FieldType.int) ∈ UG := um_6 (List.mem_of_getElem? (i := 133) rfl) rfl
theorem u_6_134 : Cond.methodLink RL 188 yX5_at ∈ UG := um_6 (List.mem_of_getElem? (i := 134) rfl) rfl
theorem u_6_135 : Cond.instanceMethod yX5_at ∈ UG := um_6 (List.mem_of_getElem? (i := 135) rfl) rfl
theorem u_6_136 : Cond.selects RX5 yX5_at yX5_at ∈ UG := um_6 (List.mem_of_getElem? (i := 136) rfl) rfl
theorem u_6_137 : Cond.code yX5_at (prog_7_method_47_code) 4 (Option.some Jvm.ClassFile.FieldType.int) ∈ UG := um_6 (List.mem_of_getElem? (i := 137) rfl) rfl
theorem u_6_138 : Cond.methodLink RL 191 yX5_taken ∈ UG := um_6 (List.mem_of_getElem? (i := 138) rfl) rfl
theorem u_6_139 : Cond.instanceMethod yX5_taken ∈ UG := um_6 (List.mem_of_getElem? (i := 139) rfl) rfl
theorem u_6_140 : Cond.selects RX5 yX5_taken yX5_taken ∈ UG := um_6 (List.mem_of_getElem? (i := 140) rfl) rfl
theorem u_6_141 : Cond.code yX5_taken (prog_7_method_48_code) 6 (Option.some Jvm.ClassFile.FieldType.int) ∈ UG := um_6 (List.mem_of_getElem? (i := 141) rfl) rfl
theorem u_6_142 : Cond.methodLink RL 194 yX5_insert ∈ UG := um_6 (List.mem_of_getElem? (i := 142) rfl) rfl
theorem u_6_143 : Cond.instanceMethod yX5_insert ∈ UG := um_6 (List.mem_of_getElem? (i := 143) rfl) rfl
theorem u_6_144 : Cond.selects RX5 yX5_insert yX5_insert ∈ UG := um_6 (List.mem_of_getElem? (i := 144) rfl) rfl
theorem u_6_145 : Cond.code yX5_insert (prog_7_method_55_code) 5 (Option.some Jvm.ClassFile.FieldType.int) ∈ UG := um_6 (List.mem_of_getElem? (i := 145) rfl) rfl
theorem u_6_146 : Cond.methodLink RX5 157 yX5_inserts ∈ UG := um_6 (List.mem_of_getElem? (i := 146) rfl) rfl
theorem u_6_148 : Cond.instanceMethod yX5_inserts ∈ UG := um_6 (List.mem_of_getElem? (i := 148) rfl) rfl
theorem u_6_149 : Cond.code yX5_inserts (prog_7_method_54_code) 5 (Option.some Jvm.ClassFile.FieldType.int) ∈ UG := um_6 (List.mem_of_getElem? (i := 149) rfl) rfl
theorem u_6_150 : Cond.methodLink RX5 148 yX5_bits ∈ UG := um_6 (List.mem_of_getElem? (i := 150) rfl) rfl
theorem u_6_151 : Cond.static yX5_bits ∈ UG := um_6 (List.mem_of_getElem? (i := 151) rfl) rfl
theorem u_6_152 : Cond.code yX5_bits (prog_7_method_49_code) 3 (Option.some Jvm.ClassFile.FieldType.int) ∈ UG := um_6 (List.mem_of_getElem? (i := 152) rfl) rfl
theorem u_6_153 : Cond.methodLink RX5 151 yX5_hasFixed ∈ UG := um_6 (List.mem_of_getElem? (i := 153) rfl) rfl
theorem u_6_155 : Cond.instanceMethod yX5_hasFixed ∈ UG := um_6 (List.mem_of_getElem? (i := 155) rfl) rfl
theorem u_6_156 : Cond.code yX5_hasFixed (prog_7_method_51_code) 3 (Option.some Jvm.ClassFile.FieldType.boolean) ∈ UG := um_6 (List.mem_of_getElem? (i := 156) rfl) rfl
theorem u_6_157 : Cond.methodLink RX5 154 yX5_insertsAt ∈ UG := um_6 (List.mem_of_getElem? (i := 157) rfl) rfl
theorem u_6_159 : Cond.instanceMethod yX5_insertsAt ∈ UG := um_6 (List.mem_of_getElem? (i := 159) rfl) rfl
theorem u_6_160 : Cond.code yX5_insertsAt (prog_7_method_53_code) 5 (Option.some Jvm.ClassFile.FieldType.boolean) ∈ UG := um_6 (List.mem_of_getElem? (i := 160) rfl) rfl
theorem u_6_161 : Cond.methodLink RX5 145 yX5_spreads ∈ UG := um_6 (List.mem_of_getElem? (i := 161) rfl) rfl
theorem u_6_163 : Cond.instanceMethod yX5_spreads ∈ UG := um_6 (List.mem_of_getElem? (i := 163) rfl) rfl
theorem u_6_164 : Cond.code yX5_spreads (prog_7_method_52_code) 4 (Option.some Jvm.ClassFile.FieldType.boolean) ∈ UG := um_6 (List.mem_of_getElem? (i := 164) rfl) rfl
theorem u_6_165 : Cond.methodLink RX5 142 yX5_lowest ∈ UG := um_6 (List.mem_of_getElem? (i := 165) rfl) rfl
theorem u_6_166 : Cond.static yX5_lowest ∈ UG := um_6 (List.mem_of_getElem? (i := 166) rfl) rfl
theorem u_6_167 : Cond.code yX5_lowest (prog_7_method_50_code) 2 (Option.some Jvm.ClassFile.FieldType.int) ∈ UG := um_6 (List.mem_of_getElem? (i := 167) rfl) rfl
theorem u_6_168 : Cond.methodLink RL 198 yX5_build ∈ UG := um_6 (List.mem_of_getElem? (i := 168) rfl) rfl
theorem u_6_169 : Cond.instanceMethod yX5_build ∈ UG := um_6 (List.mem_of_getElem? (i := 169) rfl) rfl
theorem u_6_170 : Cond.selects RX5 yX5_build yX5_build ∈ UG := um_6 (List.mem_of_getElem? (i := 170) rfl) rfl
theorem u_6_171 : Cond.code yX5_build (prog_7_method_57_code) 5 (Option.some Jvm.ClassFile.FieldType.int) ∈ UG := um_6 (List.mem_of_getElem? (i := 171) rfl) rfl
theorem u_6_172 : Cond.methodLink RX5 160 yX5_suitables ∈ UG := um_6 (List.mem_of_getElem? (i := 172) rfl) rfl
theorem u_6_174 : Cond.instanceMethod yX5_suitables ∈ UG := um_6 (List.mem_of_getElem? (i := 174) rfl) rfl
theorem u_6_175 : Cond.code yX5_suitables (prog_7_method_58_code) 4 (Option.some Jvm.ClassFile.FieldType.int) ∈ UG := um_6 (List.mem_of_getElem? (i := 175) rfl) rfl
theorem u_6_176 : Cond.methodLink RX5 163 yX5_isAhead ∈ UG := um_6 (List.mem_of_getElem? (i := 176) rfl) rfl
theorem u_6_178 : Cond.instanceMethod yX5_isAhead ∈ UG := um_6 (List.mem_of_getElem? (i := 178) rfl) rfl
theorem u_6_179 : Cond.code yX5_isAhead (prog_7_method_56_code) 7 (Option.some Jvm.ClassFile.FieldType.boolean) ∈ UG := um_6 (List.mem_of_getElem? (i := 179) rfl) rfl
theorem u_6_180 : Cond.methodLink RL 204 yX5_chain ∈ UG := um_6 (List.mem_of_getElem? (i := 180) rfl) rfl
theorem u_6_181 : Cond.instanceMethod yX5_chain ∈ UG := um_6 (List.mem_of_getElem? (i := 181) rfl) rfl
theorem u_6_182 : Cond.selects RX5 yX5_chain yX5_chain ∈ UG := um_6 (List.mem_of_getElem? (i := 182) rfl) rfl
theorem u_6_183 : Cond.code yX5_chain (prog_7_method_61_code) 3 (Option.some Jvm.ClassFile.FieldType.int) ∈ UG := um_6 (List.mem_of_getElem? (i := 183) rfl) rfl
theorem u_6_184 : Cond.methodLink RX5 169 yX5_chainThrown ∈ UG := um_6 (List.mem_of_getElem? (i := 184) rfl) rfl
theorem u_6_186 : Cond.instanceMethod yX5_chainThrown ∈ UG := um_6 (List.mem_of_getElem? (i := 186) rfl) rfl
theorem u_6_187 : Cond.code yX5_chainThrown (prog_7_method_59_code) 3 (Option.some Jvm.ClassFile.FieldType.int) ∈ UG := um_6 (List.mem_of_getElem? (i := 187) rfl) rfl
theorem u_6_188 : Cond.methodLink RX5 172 yX5_chainOf ∈ UG := um_6 (List.mem_of_getElem? (i := 188) rfl) rfl
theorem u_6_190 : Cond.instanceMethod yX5_chainOf ∈ UG := um_6 (List.mem_of_getElem? (i := 190) rfl) rfl
theorem u_6_191 : Cond.code yX5_chainOf (prog_7_method_60_code) 8 (Option.some Jvm.ClassFile.FieldType.int) ∈ UG := um_6 (List.mem_of_getElem? (i := 191) rfl) rfl
theorem u_6_192 : Cond.methodLink RX5 166 yX5_isBound ∈ UG := um_6 (List.mem_of_getElem? (i := 192) rfl) rfl
theorem u_6_194 : Cond.instanceMethod yX5_isBound ∈ UG := um_6 (List.mem_of_getElem? (i := 194) rfl) rfl
theorem u_6_195 : Cond.code yX5_isBound (prog_7_method_13_code) 3 (Option.some Jvm.ClassFile.FieldType.boolean) ∈ UG := um_6 (List.mem_of_getElem? (i := 195) rfl) rfl
theorem u_6_196 : Cond.methodLink RL 201 yX5_exchange ∈ UG := um_6 (List.mem_of_getElem? (i := 196) rfl) rfl
theorem u_6_197 : Cond.instanceMethod yX5_exchange ∈ UG := um_6 (List.mem_of_getElem? (i := 197) rfl) rfl
theorem u_6_198 : Cond.selects RX5 yX5_exchange yX5_exchange ∈ UG := um_6 (List.mem_of_getElem? (i := 198) rfl) rfl
theorem u_6_199 : Cond.code yX5_exchange (prog_7_method_65_code) 8 (Option.some Jvm.ClassFile.FieldType.int) ∈ UG := um_6 (List.mem_of_getElem? (i := 199) rfl) rfl
theorem u_6_200 : Cond.methodLink RX5 181 yX5_canMove ∈ UG := um_6 (List.mem_of_getElem? (i := 200) rfl) rfl
theorem u_6_202 : Cond.instanceMethod yX5_canMove ∈ UG := um_6 (List.mem_of_getElem? (i := 202) rfl) rfl
theorem u_6_203 : Cond.code yX5_canMove (prog_7_method_62_code) 6 (Option.some Jvm.ClassFile.FieldType.boolean) ∈ UG := um_6 (List.mem_of_getElem? (i := 203) rfl) rfl
theorem u_6_204 : Cond.methodLink RX5 184 yX5_settlesBoth ∈ UG := um_6 (List.mem_of_getElem? (i := 204) rfl) rfl
theorem u_6_206 : Cond.instanceMethod yX5_settlesBoth ∈ UG := um_6 (List.mem_of_getElem? (i := 206) rfl) rfl
theorem u_6_207 : Cond.code yX5_settlesBoth (prog_7_method_66_code) 6 (Option.some Jvm.ClassFile.FieldType.boolean) ∈ UG := um_6 (List.mem_of_getElem? (i := 207) rfl) rfl
theorem u_6_208 : Cond.methodLink RX5 178 yX5_settles ∈ UG := um_6 (List.mem_of_getElem? (i := 208) rfl) rfl
theorem u_6_210 : Cond.instanceMethod yX5_settles ∈ UG := um_6 (List.mem_of_getElem? (i := 210) rfl) rfl
theorem u_6_211 : Cond.code yX5_settles (prog_7_method_64_code) 5 (Option.some Jvm.ClassFile.FieldType.boolean) ∈ UG := um_6 (List.mem_of_getElem? (i := 211) rfl) rfl
theorem u_6_212 : Cond.methodLink RX5 175 yX5_roomsIn ∈ UG := um_6 (List.mem_of_getElem? (i := 212) rfl) rfl
theorem u_6_214 : Cond.instanceMethod yX5_roomsIn ∈ UG := um_6 (List.mem_of_getElem? (i := 214) rfl) rfl
theorem u_6_215 : Cond.code yX5_roomsIn (prog_7_method_63_code) 4 (Option.some Jvm.ClassFile.FieldType.int) ∈ UG := um_6 (List.mem_of_getElem? (i := 215) rfl) rfl
theorem u_6_216 : Cond.methodLink RL 210 yX5_cost ∈ UG := um_6 (List.mem_of_getElem? (i := 216) rfl) rfl
theorem u_6_217 : Cond.instanceMethod yX5_cost ∈ UG := um_6 (List.mem_of_getElem? (i := 217) rfl) rfl
theorem u_6_218 : Cond.selects RX5 yX5_cost yX5_cost ∈ UG := um_6 (List.mem_of_getElem? (i := 218) rfl) rfl
theorem u_6_219 : Cond.code yX5_cost (prog_7_method_72_code) 2 (Option.some Jvm.ClassFile.FieldType.int) ∈ UG := um_6 (List.mem_of_getElem? (i := 219) rfl) rfl
theorem u_6_220 : Cond.methodLink RX5 187 yX5_gaps ∈ UG := um_6 (List.mem_of_getElem? (i := 220) rfl) rfl
theorem u_6_222 : Cond.instanceMethod yX5_gaps ∈ UG := um_6 (List.mem_of_getElem? (i := 222) rfl) rfl
theorem u_6_223 : Cond.code yX5_gaps (prog_7_method_67_code) 8 (Option.some Jvm.ClassFile.FieldType.int) ∈ UG := um_6 (List.mem_of_getElem? (i := 223) rfl) rfl
theorem u_6_224 : Cond.methodLink RX5 190 yX5_lates ∈ UG := um_6 (List.mem_of_getElem? (i := 224) rfl) rfl
theorem u_6_226 : Cond.instanceMethod yX5_lates ∈ UG := um_6 (List.mem_of_getElem? (i := 226) rfl) rfl
theorem u_6_227 : Cond.code yX5_lates (prog_7_method_68_code) 3 (Option.some Jvm.ClassFile.FieldType.int) ∈ UG := um_6 (List.mem_of_getElem? (i := 227) rfl) rfl
theorem u_6_228 : Cond.methodLink RX5 193 yX5_slack ∈ UG := um_6 (List.mem_of_getElem? (i := 228) rfl) rfl
theorem u_6_230 : Cond.instanceMethod yX5_slack ∈ UG := um_6 (List.mem_of_getElem? (i := 230) rfl) rfl
theorem u_6_231 : Cond.code yX5_slack (prog_7_method_69_code) 3 (Option.some Jvm.ClassFile.FieldType.int) ∈ UG := um_6 (List.mem_of_getElem? (i := 231) rfl) rfl
theorem u_6_232 : Cond.methodLink RX5 196 yX5_unplaced ∈ UG := um_6 (List.mem_of_getElem? (i := 232) rfl) rfl
theorem u_6_234 : Cond.instanceMethod yX5_unplaced ∈ UG := um_6 (List.mem_of_getElem? (i := 234) rfl) rfl
theorem u_6_235 : Cond.code yX5_unplaced (prog_7_method_70_code) 3 (Option.some Jvm.ClassFile.FieldType.int) ∈ UG := um_6 (List.mem_of_getElem? (i := 235) rfl) rfl
theorem u_6_236 : Cond.methodLink RX5 199 yX5_costs ∈ UG := um_6 (List.mem_of_getElem? (i := 236) rfl) rfl
theorem u_6_238 : Cond.instanceMethod yX5_costs ∈ UG := um_6 (List.mem_of_getElem? (i := 238) rfl) rfl
theorem u_6_239 : Cond.code yX5_costs (prog_7_method_71_code) 1 (Option.some Jvm.ClassFile.FieldType.int) ∈ UG := um_6 (List.mem_of_getElem? (i := 239) rfl) rfl
theorem u_7_0 : Cond.methodLink RL 213 yX5_costAt ∈ UG := um_7 (List.mem_of_getElem? (i := 0) rfl) rfl
theorem u_7_1 : Cond.instanceMethod yX5_costAt ∈ UG := um_7 (List.mem_of_getElem? (i := 1) rfl) rfl
theorem u_7_2 : Cond.selects RX5 yX5_costAt yX5_costAt ∈ UG := um_7 (List.mem_of_getElem? (i := 2) rfl) rfl
theorem u_7_3 : Cond.code yX5_costAt (prog_7_method_74_code) 3 (Option.some Jvm.ClassFile.FieldType.int) ∈ UG := um_7 (List.mem_of_getElem? (i := 3) rfl) rfl
theorem u_7_4 : Cond.methodLink RX5 202 yX5_costsAt ∈ UG := um_7 (List.mem_of_getElem? (i := 4) rfl) rfl
theorem u_7_6 : Cond.instanceMethod yX5_costsAt ∈ UG := um_7 (List.mem_of_getElem? (i := 6) rfl) rfl
theorem u_7_7 : Cond.code yX5_costsAt (prog_7_method_73_code) 5 (Option.some Jvm.ClassFile.FieldType.int) ∈ UG := um_7 (List.mem_of_getElem? (i := 7) rfl) rfl
theorem u_7_8 : Cond.methodLink RL 207 yX5_improve ∈ UG := um_7 (List.mem_of_getElem? (i := 8) rfl) rfl
theorem u_7_9 : Cond.instanceMethod yX5_improve ∈ UG := um_7 (List.mem_of_getElem? (i := 9) rfl) rfl
theorem u_7_10 : Cond.selects RX5 yX5_improve yX5_improve ∈ UG := um_7 (List.mem_of_getElem? (i := 10) rfl) rfl
theorem u_7_11 : Cond.code yX5_improve (prog_7_method_76_code) 3 (Option.some Jvm.ClassFile.FieldType.int) ∈ UG := um_7 (List.mem_of_getElem? (i := 11) rfl) rfl
theorem u_7_12 : Cond.methodLink RX5 205 yX5_improves ∈ UG := um_7 (List.mem_of_getElem? (i := 12) rfl) rfl
theorem u_7_14 : Cond.instanceMethod yX5_improves ∈ UG := um_7 (List.mem_of_getElem? (i := 14) rfl) rfl
theorem u_7_15 : Cond.code yX5_improves (prog_7_method_75_code) 7 (Option.some Jvm.ClassFile.FieldType.boolean) ∈ UG := um_7 (List.mem_of_getElem? (i := 15) rfl) rfl
theorem u_7_16 : Cond.methodLink RL 217 yX5_mark ∈ UG := um_7 (List.mem_of_getElem? (i := 16) rfl) rfl
theorem u_7_17 : Cond.instanceMethod yX5_mark ∈ UG := um_7 (List.mem_of_getElem? (i := 17) rfl) rfl
theorem u_7_18 : Cond.selects RX5 yX5_mark yX5_mark ∈ UG := um_7 (List.mem_of_getElem? (i := 18) rfl) rfl
theorem u_7_19 : Cond.code yX5_mark (prog_7_method_77_code) 2 (Option.some Jvm.ClassFile.FieldType.int) ∈ UG := um_7 (List.mem_of_getElem? (i := 19) rfl) rfl
theorem u_7_20 : Cond.methodLink RL 221 yX5_changed ∈ UG := um_7 (List.mem_of_getElem? (i := 20) rfl) rfl
theorem u_7_21 : Cond.instanceMethod yX5_changed ∈ UG := um_7 (List.mem_of_getElem? (i := 21) rfl) rfl
theorem u_7_22 : Cond.selects RX5 yX5_changed yX5_changed ∈ UG := um_7 (List.mem_of_getElem? (i := 22) rfl) rfl
theorem u_7_23 : Cond.code yX5_changed (prog_7_method_78_code) 3 (Option.some Jvm.ClassFile.FieldType.int) ∈ UG := um_7 (List.mem_of_getElem? (i := 23) rfl) rfl
theorem u_7_24 : Cond.methodLink RL 224 yX5_marked ∈ UG := um_7 (List.mem_of_getElem? (i := 24) rfl) rfl
theorem u_7_25 : Cond.instanceMethod yX5_marked ∈ UG := um_7 (List.mem_of_getElem? (i := 25) rfl) rfl
theorem u_7_26 : Cond.selects RX5 yX5_marked yX5_marked ∈ UG := um_7 (List.mem_of_getElem? (i := 26) rfl) rfl
theorem u_7_27 : Cond.code yX5_marked (prog_7_method_79_code) 2 (Option.some Jvm.ClassFile.FieldType.int) ∈ UG := um_7 (List.mem_of_getElem? (i := 27) rfl) rfl
theorem u_7_28 : Cond.methodLink RL 227 yX5_count ∈ UG := um_7 (List.mem_of_getElem? (i := 28) rfl) rfl
theorem u_7_29 : Cond.instanceMethod yX5_count ∈ UG := um_7 (List.mem_of_getElem? (i := 29) rfl) rfl
theorem u_7_30 : Cond.selects RX5 yX5_count yX5_count ∈ UG := um_7 (List.mem_of_getElem? (i := 30) rfl) rfl
theorem u_7_31 : Cond.code yX5_count (prog_7_method_80_code) 4 (Option.some Jvm.ClassFile.FieldType.int) ∈ UG := um_7 (List.mem_of_getElem? (i := 31) rfl) rfl
theorem u_7_32 : Cond.methodLink RL 230 yX5_undo ∈ UG := um_7 (List.mem_of_getElem? (i := 32) rfl) rfl
theorem u_7_33 : Cond.instanceMethod yX5_undo ∈ UG := um_7 (List.mem_of_getElem? (i := 33) rfl) rfl
theorem u_7_34 : Cond.selects RX5 yX5_undo yX5_undo ∈ UG := um_7 (List.mem_of_getElem? (i := 34) rfl) rfl
theorem u_7_35 : Cond.code yX5_undo (prog_7_method_81_code) 1 (Option.some Jvm.ClassFile.FieldType.int) ∈ UG := um_7 (List.mem_of_getElem? (i := 35) rfl) rfl
theorem u_7_36 : Cond.methodLink RL 234 yX5_save ∈ UG := um_7 (List.mem_of_getElem? (i := 36) rfl) rfl
theorem u_7_37 : Cond.instanceMethod yX5_save ∈ UG := um_7 (List.mem_of_getElem? (i := 37) rfl) rfl
theorem u_7_38 : Cond.selects RX5 yX5_save yX5_save ∈ UG := um_7 (List.mem_of_getElem? (i := 38) rfl) rfl
theorem u_7_39 : Cond.code yX5_save (prog_7_method_82_code) 1 (Option.some Jvm.ClassFile.FieldType.int) ∈ UG := um_7 (List.mem_of_getElem? (i := 39) rfl) rfl
theorem u_7_40 : Cond.methodLink RL 237 yX5_restore ∈ UG := um_7 (List.mem_of_getElem? (i := 40) rfl) rfl
theorem u_7_41 : Cond.instanceMethod yX5_restore ∈ UG := um_7 (List.mem_of_getElem? (i := 41) rfl) rfl
theorem u_7_42 : Cond.selects RX5 yX5_restore yX5_restore ∈ UG := um_7 (List.mem_of_getElem? (i := 42) rfl) rfl
theorem u_7_43 : Cond.code yX5_restore (prog_7_method_83_code) 1 (Option.some Jvm.ClassFile.FieldType.int) ∈ UG := um_7 (List.mem_of_getElem? (i := 43) rfl) rfl
theorem u_7_44 : Cond.arrayClass (Jvm.ClassFile.FieldType.long) ∈ UG := um_7 (List.mem_of_getElem? (i := 44) rfl) rfl
theorem u_7_45 : Cond.sameMethod "java/lang/Throwable" "java/lang/Throwable" "fillInStackTrace" "(I)Ljava/lang/Throwable;" ∈ UG := um_7 (List.mem_of_getElem? (i := 45) rfl) rfl
theorem u_7_46 : Cond.sameMethod RJ5 RJ5 "append" "(I)Ljava/lang/AbstractStringBuilder;" ∈ UG := um_7 (List.mem_of_getElem? (i := 46) rfl) rfl
theorem u_7_47 : Cond.sameMethod RJ5 RJ5 "ensureCapacityInternal" "(I)V" ∈ UG := um_7 (List.mem_of_getElem? (i := 47) rfl) rfl
theorem u_7_48 : Cond.sameMethod RJ5 RJ5 "newCapacity" "(I)I" ∈ UG := um_7 (List.mem_of_getElem? (i := 48) rfl) rfl
theorem u_7_49 : Cond.sameMethod RJ5 RJ5 "append" "(C)Ljava/lang/AbstractStringBuilder;" ∈ UG := um_7 (List.mem_of_getElem? (i := 49) rfl) rfl
theorem u_7_50 : Cond.sameMethod RJ5 RJ5 "inflate" "()V" ∈ UG := um_7 (List.mem_of_getElem? (i := 50) rfl) rfl
theorem u_7_51 : Cond.sameMethod RJ5 RJ5 "length" "()I" ∈ UG := um_7 (List.mem_of_getElem? (i := 51) rfl) rfl
theorem u_7_52 : Cond.sameMethod RJ5 RJ5 "charAt" "(I)C" ∈ UG := um_7 (List.mem_of_getElem? (i := 52) rfl) rfl
theorem u_sp_0 : Cond.selects RX1 yX1_nextRow yX1_nextRow ∈ UG := List.mem_filter.mpr ⟨List.mem_append_left _ (List.mem_of_getElem? (i := 0) rfl), rfl⟩
theorem u_sp_1 : Cond.selects RX2 yX2_rankOf yX2_rankOf ∈ UG := List.mem_filter.mpr ⟨List.mem_append_left _ (List.mem_of_getElem? (i := 1) rfl), rfl⟩
theorem u_sp_2 : Cond.selects RX2 yX2_insertAt yX2_insertAt ∈ UG := List.mem_filter.mpr ⟨List.mem_append_left _ (List.mem_of_getElem? (i := 2) rfl), rfl⟩
theorem u_sp_3 : Cond.selects RX3 yX3_clashWith yX3_clashWith ∈ UG := List.mem_filter.mpr ⟨List.mem_append_left _ (List.mem_of_getElem? (i := 3) rfl), rfl⟩
theorem u_sp_4 : Cond.selects RX2 yX2_hasFixed yX2_hasFixed ∈ UG := List.mem_filter.mpr ⟨List.mem_append_left _ (List.mem_of_getElem? (i := 4) rfl), rfl⟩
theorem u_sp_5 : Cond.selects RX2 yX2_lift yX2_lift ∈ UG := List.mem_filter.mpr ⟨List.mem_append_left _ (List.mem_of_getElem? (i := 5) rfl), rfl⟩
theorem u_sp_6 : Cond.selects RX2 yX2_canAllMove yX2_canAllMove ∈ UG := List.mem_filter.mpr ⟨List.mem_append_left _ (List.mem_of_getElem? (i := 6) rfl), rfl⟩
theorem u_sp_7 : Cond.selects RX2 yX2_putBack yX2_putBack ∈ UG := List.mem_filter.mpr ⟨List.mem_append_left _ (List.mem_of_getElem? (i := 7) rfl), rfl⟩
theorem u_sp_9 : Cond.selects RX0 yX0_readTeacher yX0_readTeacher ∈ UG := List.mem_filter.mpr ⟨List.mem_append_left _ (List.mem_of_getElem? (i := 9) rfl), rfl⟩
theorem u_sp_10 : Cond.selects RX0 yX0_digit yX0_digit ∈ UG := List.mem_filter.mpr ⟨List.mem_append_left _ (List.mem_of_getElem? (i := 10) rfl), rfl⟩
theorem u_sp_11 : Cond.selects RX0 yX0_sign yX0_sign ∈ UG := List.mem_filter.mpr ⟨List.mem_append_left _ (List.mem_of_getElem? (i := 11) rfl), rfl⟩
theorem u_sp_12 : Cond.selects RX0 yX0_skip yX0_skip ∈ UG := List.mem_filter.mpr ⟨List.mem_append_left _ (List.mem_of_getElem? (i := 12) rfl), rfl⟩
theorem u_sp_13 : Cond.selects RX0 yX0_readGroups yX0_readGroups ∈ UG := List.mem_filter.mpr ⟨List.mem_append_left _ (List.mem_of_getElem? (i := 13) rfl), rfl⟩
theorem u_sp_14 : Cond.selects RX0 yX0_readNeeds yX0_readNeeds ∈ UG := List.mem_filter.mpr ⟨List.mem_append_left _ (List.mem_of_getElem? (i := 14) rfl), rfl⟩
theorem u_sp_15 : Cond.selects RX0 yX0_readLength yX0_readLength ∈ UG := List.mem_filter.mpr ⟨List.mem_append_left _ (List.mem_of_getElem? (i := 15) rfl), rfl⟩
theorem u_sp_16 : Cond.selects RX4 yX4_requireRoomForEvent yX4_requireRoomForEvent ∈ UG := List.mem_filter.mpr ⟨List.mem_append_left _ (List.mem_of_getElem? (i := 16) rfl), rfl⟩
theorem u_sp_17 : Cond.selects RX4 yX4_requireEvent yX4_requireEvent ∈ UG := List.mem_filter.mpr ⟨List.mem_append_left _ (List.mem_of_getElem? (i := 17) rfl), rfl⟩
theorem u_sp_18 : Cond.selects RX4 yX4_requireFree yX4_requireFree ∈ UG := List.mem_filter.mpr ⟨List.mem_append_left _ (List.mem_of_getElem? (i := 18) rfl), rfl⟩
theorem u_sp_19 : Cond.selects RX4 yX4_requirePlaced yX4_requirePlaced ∈ UG := List.mem_filter.mpr ⟨List.mem_append_left _ (List.mem_of_getElem? (i := 19) rfl), rfl⟩
theorem u_sp_20 : Cond.selects RX2 yX2_withLinked yX2_withLinked ∈ UG := List.mem_filter.mpr ⟨List.mem_append_left _ (List.mem_of_getElem? (i := 20) rfl), rfl⟩
theorem u_sp_21 : Cond.selects RX2 yX2_canSwap yX2_canSwap ∈ UG := List.mem_filter.mpr ⟨List.mem_append_left _ (List.mem_of_getElem? (i := 21) rfl), rfl⟩
theorem u_sp_22 : Cond.selects RX2 yX2_membersIn yX2_membersIn ∈ UG := List.mem_filter.mpr ⟨List.mem_append_left _ (List.mem_of_getElem? (i := 22) rfl), rfl⟩
theorem u_sp_23 : Cond.selects RX2 yX2_openRooms yX2_openRooms ∈ UG := List.mem_filter.mpr ⟨List.mem_append_left _ (List.mem_of_getElem? (i := 23) rfl), rfl⟩
theorem u_sp_24 : Cond.selects RX2 yX2_cheaperPlace yX2_cheaperPlace ∈ UG := List.mem_filter.mpr ⟨List.mem_append_left _ (List.mem_of_getElem? (i := 24) rfl), rfl⟩
theorem u_sp_25 : Cond.selects RX5 yX5_keeps yX5_keeps ∈ UG := List.mem_filter.mpr ⟨List.mem_append_left _ (List.mem_of_getElem? (i := 25) rfl), rfl⟩
theorem u_sp_26 : Cond.selects RX5 yX5_copies yX5_copies ∈ UG := List.mem_filter.mpr ⟨List.mem_append_left _ (List.mem_of_getElem? (i := 26) rfl), rfl⟩
theorem u_sp_27 : Cond.selects RX5 yX5_clears yX5_clears ∈ UG := List.mem_filter.mpr ⟨List.mem_append_left _ (List.mem_of_getElem? (i := 27) rfl), rfl⟩
theorem u_sp_28 : Cond.selects RX5 yX5_many yX5_many ∈ UG := List.mem_filter.mpr ⟨List.mem_append_left _ (List.mem_of_getElem? (i := 28) rfl), rfl⟩
theorem u_sp_29 : Cond.selects RX5 yX5_of yX5_of ∈ UG := List.mem_filter.mpr ⟨List.mem_append_left _ (List.mem_of_getElem? (i := 29) rfl), rfl⟩
theorem u_sp_30 : Cond.selects RX5 yX5_isSuitable yX5_isSuitable ∈ UG := List.mem_filter.mpr ⟨List.mem_append_left _ (List.mem_of_getElem? (i := 30) rfl), rfl⟩
theorem u_sp_31 : Cond.selects RX5 yX5_obstacleOf yX5_obstacleOf ∈ UG := List.mem_filter.mpr ⟨List.mem_append_left _ (List.mem_of_getElem? (i := 31) rfl), rfl⟩
theorem u_sp_32 : Cond.selects RX5 yX5_sizeOf yX5_sizeOf ∈ UG := List.mem_filter.mpr ⟨List.mem_append_left _ (List.mem_of_getElem? (i := 32) rfl), rfl⟩
theorem u_sp_33 : Cond.selects RX5 yX5_hinders yX5_hinders ∈ UG := List.mem_filter.mpr ⟨List.mem_append_left _ (List.mem_of_getElem? (i := 33) rfl), rfl⟩
theorem u_sp_34 : Cond.selects RX5 yX5_slotsOf yX5_slotsOf ∈ UG := List.mem_filter.mpr ⟨List.mem_append_left _ (List.mem_of_getElem? (i := 34) rfl), rfl⟩
theorem u_sp_35 : Cond.selects RX5 yX5_lifts yX5_lifts ∈ UG := List.mem_filter.mpr ⟨List.mem_append_left _ (List.mem_of_getElem? (i := 35) rfl), rfl⟩
theorem u_sp_36 : Cond.selects RX5 yX5_reads yX5_reads ∈ UG := List.mem_filter.mpr ⟨List.mem_append_left _ (List.mem_of_getElem? (i := 36) rfl), rfl⟩
theorem u_sp_37 : Cond.selects RX5 yX5_digit yX5_digit ∈ UG := List.mem_filter.mpr ⟨List.mem_append_left _ (List.mem_of_getElem? (i := 37) rfl), rfl⟩
theorem u_sp_38 : Cond.selects RX5 yX5_here yX5_here ∈ UG := List.mem_filter.mpr ⟨List.mem_append_left _ (List.mem_of_getElem? (i := 38) rfl), rfl⟩
theorem u_sp_39 : Cond.selects RX5 yX5_opens yX5_opens ∈ UG := List.mem_filter.mpr ⟨List.mem_append_left _ (List.mem_of_getElem? (i := 39) rfl), rfl⟩
theorem u_sp_40 : Cond.selects RX5 yX5_isEvent yX5_isEvent ∈ UG := List.mem_filter.mpr ⟨List.mem_append_left _ (List.mem_of_getElem? (i := 40) rfl), rfl⟩
theorem u_sp_41 : Cond.selects RX5 yX5_writes yX5_writes ∈ UG := List.mem_filter.mpr ⟨List.mem_append_left _ (List.mem_of_getElem? (i := 41) rfl), rfl⟩
theorem u_sp_42 : Cond.selects RX5 yX5_lays yX5_lays ∈ UG := List.mem_filter.mpr ⟨List.mem_append_left _ (List.mem_of_getElem? (i := 42) rfl), rfl⟩
theorem u_sp_43 : Cond.selects RX5 yX5_placesOf yX5_placesOf ∈ UG := List.mem_filter.mpr ⟨List.mem_append_left _ (List.mem_of_getElem? (i := 43) rfl), rfl⟩
theorem u_sp_44 : Cond.selects RX5 yX5_hinderingOf yX5_hinderingOf ∈ UG := List.mem_filter.mpr ⟨List.mem_append_left _ (List.mem_of_getElem? (i := 44) rfl), rfl⟩
theorem u_sp_45 : Cond.selects RX5 yX5_inserts yX5_inserts ∈ UG := List.mem_filter.mpr ⟨List.mem_append_left _ (List.mem_of_getElem? (i := 45) rfl), rfl⟩
theorem u_sp_46 : Cond.selects RX5 yX5_hasFixed yX5_hasFixed ∈ UG := List.mem_filter.mpr ⟨List.mem_append_left _ (List.mem_of_getElem? (i := 46) rfl), rfl⟩
theorem u_sp_47 : Cond.selects RX5 yX5_insertsAt yX5_insertsAt ∈ UG := List.mem_filter.mpr ⟨List.mem_append_left _ (List.mem_of_getElem? (i := 47) rfl), rfl⟩
theorem u_sp_48 : Cond.selects RX5 yX5_spreads yX5_spreads ∈ UG := List.mem_filter.mpr ⟨List.mem_append_left _ (List.mem_of_getElem? (i := 48) rfl), rfl⟩
theorem u_sp_49 : Cond.selects RX5 yX5_suitables yX5_suitables ∈ UG := List.mem_filter.mpr ⟨List.mem_append_left _ (List.mem_of_getElem? (i := 49) rfl), rfl⟩
theorem u_sp_50 : Cond.selects RX5 yX5_isAhead yX5_isAhead ∈ UG := List.mem_filter.mpr ⟨List.mem_append_left _ (List.mem_of_getElem? (i := 50) rfl), rfl⟩
theorem u_sp_51 : Cond.selects RX5 yX5_chainThrown yX5_chainThrown ∈ UG := List.mem_filter.mpr ⟨List.mem_append_left _ (List.mem_of_getElem? (i := 51) rfl), rfl⟩
theorem u_sp_52 : Cond.selects RX5 yX5_chainOf yX5_chainOf ∈ UG := List.mem_filter.mpr ⟨List.mem_append_left _ (List.mem_of_getElem? (i := 52) rfl), rfl⟩
theorem u_sp_53 : Cond.selects RX5 yX5_isBound yX5_isBound ∈ UG := List.mem_filter.mpr ⟨List.mem_append_left _ (List.mem_of_getElem? (i := 53) rfl), rfl⟩
theorem u_sp_54 : Cond.selects RX5 yX5_canMove yX5_canMove ∈ UG := List.mem_filter.mpr ⟨List.mem_append_left _ (List.mem_of_getElem? (i := 54) rfl), rfl⟩
theorem u_sp_55 : Cond.selects RX5 yX5_settlesBoth yX5_settlesBoth ∈ UG := List.mem_filter.mpr ⟨List.mem_append_left _ (List.mem_of_getElem? (i := 55) rfl), rfl⟩
theorem u_sp_56 : Cond.selects RX5 yX5_settles yX5_settles ∈ UG := List.mem_filter.mpr ⟨List.mem_append_left _ (List.mem_of_getElem? (i := 56) rfl), rfl⟩
theorem u_sp_57 : Cond.selects RX5 yX5_roomsIn yX5_roomsIn ∈ UG := List.mem_filter.mpr ⟨List.mem_append_left _ (List.mem_of_getElem? (i := 57) rfl), rfl⟩
theorem u_sp_58 : Cond.selects RX5 yX5_gaps yX5_gaps ∈ UG := List.mem_filter.mpr ⟨List.mem_append_left _ (List.mem_of_getElem? (i := 58) rfl), rfl⟩
theorem u_sp_59 : Cond.selects RX5 yX5_lates yX5_lates ∈ UG := List.mem_filter.mpr ⟨List.mem_append_left _ (List.mem_of_getElem? (i := 59) rfl), rfl⟩
theorem u_sp_60 : Cond.selects RX5 yX5_slack yX5_slack ∈ UG := List.mem_filter.mpr ⟨List.mem_append_left _ (List.mem_of_getElem? (i := 60) rfl), rfl⟩
theorem u_sp_61 : Cond.selects RX5 yX5_unplaced yX5_unplaced ∈ UG := List.mem_filter.mpr ⟨List.mem_append_left _ (List.mem_of_getElem? (i := 61) rfl), rfl⟩
theorem u_sp_62 : Cond.selects RX5 yX5_costs yX5_costs ∈ UG := List.mem_filter.mpr ⟨List.mem_append_left _ (List.mem_of_getElem? (i := 62) rfl), rfl⟩
theorem u_sp_63 : Cond.selects RX5 yX5_costsAt yX5_costsAt ∈ UG := List.mem_filter.mpr ⟨List.mem_append_left _ (List.mem_of_getElem? (i := 63) rfl), rfl⟩
theorem u_sp_64 : Cond.selects RX5 yX5_improves yX5_improves ∈ UG := List.mem_filter.mpr ⟨List.mem_append_left _ (List.mem_of_getElem? (i := 64) rfl), rfl⟩
