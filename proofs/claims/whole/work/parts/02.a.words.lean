def gT : List Cond := lw_tbl.filter goodWord
theorem gT_of {w : Cond} (h : w ∈ lw_tbl) (g : goodWord w = true) : w ∈ gT := List.mem_filter.mpr ⟨h, g⟩
theorem gT_tbl {w : Cond} (h : w ∈ gT) : w ∈ lw_tbl := (List.mem_filter.mp h).1
theorem gT_good {w : Cond} (h : w ∈ gT) : (w.onTables && w.keeps) = true ∨ ∃ ty, w = .arrayClass ty := good_of_word (List.mem_filter.mp h).2
theorem tins (i : Nat) {w : Cond} (h : (k2_sels lw_privs)[i]? = some w) (g : goodWord w = true) : w ∈ gT := gT_of (List.mem_append_left _ (List.mem_of_getElem? h)) g
theorem tin1 (i : Nat) {w : Cond} (h : tables_1_1[i]? = some w) (g : goodWord w = true) : w ∈ gT := gT_of (List.mem_append_right _ (List.mem_append_left _ (List.mem_of_getElem? h))) g
theorem tnn1 (i : Nat) {w : Cond} (h : tables_1_1[i]? = some w) : w ∈ lw_tbl := List.mem_append_right _ (List.mem_append_left _ (List.mem_of_getElem? h))
theorem tin2 (i : Nat) {w : Cond} (h : tables_1_2[i]? = some w) (g : goodWord w = true) : w ∈ gT := gT_of (List.mem_append_right _ (List.mem_append_right _ (List.mem_append_left _ (List.mem_of_getElem? h)))) g
theorem tnn2 (i : Nat) {w : Cond} (h : tables_1_2[i]? = some w) : w ∈ lw_tbl := List.mem_append_right _ (List.mem_append_right _ (List.mem_append_left _ (List.mem_of_getElem? h)))
theorem tin3 (i : Nat) {w : Cond} (h : tables_1_3[i]? = some w) (g : goodWord w = true) : w ∈ gT := gT_of (List.mem_append_right _ (List.mem_append_right _ (List.mem_append_right _ (List.mem_append_left _ (List.mem_of_getElem? h))))) g
theorem tnn3 (i : Nat) {w : Cond} (h : tables_1_3[i]? = some w) : w ∈ lw_tbl := List.mem_append_right _ (List.mem_append_right _ (List.mem_append_right _ (List.mem_append_left _ (List.mem_of_getElem? h))))
theorem tin4 (i : Nat) {w : Cond} (h : tables_1_4[i]? = some w) (g : goodWord w = true) : w ∈ gT := gT_of (List.mem_append_right _ (List.mem_append_right _ (List.mem_append_right _ (List.mem_append_right _ (List.mem_append_left _ (List.mem_of_getElem? h)))))) g
theorem tnn4 (i : Nat) {w : Cond} (h : tables_1_4[i]? = some w) : w ∈ lw_tbl := List.mem_append_right _ (List.mem_append_right _ (List.mem_append_right _ (List.mem_append_right _ (List.mem_append_left _ (List.mem_of_getElem? h)))))
theorem tin5 (i : Nat) {w : Cond} (h : tables_1_5[i]? = some w) (g : goodWord w = true) : w ∈ gT := gT_of (List.mem_append_right _ (List.mem_append_right _ (List.mem_append_right _ (List.mem_append_right _ (List.mem_append_right _ (List.mem_of_getElem? h)))))) g
theorem tnn5 (i : Nat) {w : Cond} (h : tables_1_5[i]? = some w) : w ∈ lw_tbl := List.mem_append_right _ (List.mem_append_right _ (List.mem_append_right _ (List.mem_append_right _ (List.mem_append_right _ (List.mem_of_getElem? h)))))
theorem tw1_0 : Cond.initialized "OrphanLogsLaw" ∈ gT := tin1 0 rfl rfl
theorem tw1_1 : Cond.initialized "OrphanLogs" ∈ gT := tin1 1 rfl rfl
theorem tw1_2 : Cond.initialized "OrphanLogs$Office" ∈ gT := tin1 2 rfl rfl
theorem tw1_3 : Cond.initialized "OrphanLogs$Post" ∈ gT := tin1 3 rfl rfl
theorem tw1_4 : Cond.initialized "OrphanLogs$Rests" ∈ gT := tin1 4 rfl rfl
theorem tw1_5 : Cond.initialized "java/lang/Math" ∈ gT := tin1 5 rfl rfl
theorem tw1_6 : Cond.initialized "OrphanLogs$Sayings" ∈ gT := tin1 6 rfl rfl
theorem tw1_7 : Cond.initialized "OrphanLogs$Loss" ∈ gT := tin1 7 rfl rfl
theorem tw1_8 : Cond.initialized "OrphanLogs$Clerk" ∈ gT := tin1 8 rfl rfl
theorem tw1_9 : Cond.initialized "OrphanLogs$Text" ∈ gT := tin1 9 rfl rfl
theorem tw1_10 : Cond.initialized "OrphanLogs$Reader" ∈ gT := tin1 10 rfl rfl
theorem tw1_11 : Cond.initialized "OrphanLogs$Tally" ∈ gT := tin1 11 rfl rfl
theorem tw1_12 : Cond.initialized "OrphanLogsModel" ∈ gT := tin1 12 rfl rfl
theorem tw1_13 : Cond.classLink "OrphanLogsLaw" (7 : Nat) "OrphanLogs" ∈ gT := tin1 13 rfl rfl
theorem tw1_14 : Cond.instantiable "OrphanLogs" (4 : Nat) ∈ gT := tin1 14 rfl rfl
theorem tw1_15 : Cond.methodLink "OrphanLogsLaw" (9 : Nat) ({ cls := "OrphanLogs", name := "<init>", desc := "()V" } : Jvm.MethodName) ∈ gT := tin1 15 rfl rfl
theorem tw1_16 : Cond.instanceMethod ({ cls := "OrphanLogs", name := "<init>", desc := "()V" } : Jvm.MethodName) ∈ gT := tin1 16 rfl rfl
theorem tw1_17 : Cond.code ({ cls := "OrphanLogs", name := "<init>", desc := "()V" } : Jvm.MethodName) prog_1_method_1_code (1 : Nat) (Option.none : Option Jvm.ClassFile.FieldType) ∈ gT := tin1 17 rfl rfl
theorem tw1_18 : Cond.methodLink "OrphanLogs" (3 : Nat) ({ cls := "java/lang/Object", name := "<init>", desc := "()V" } : Jvm.MethodName) ∈ gT := tin1 18 rfl rfl
theorem tw1_19 : Cond.instanceMethod ({ cls := "java/lang/Object", name := "<init>", desc := "()V" } : Jvm.MethodName) ∈ gT := tin1 19 rfl rfl
theorem tw1_20 : Cond.code ({ cls := "java/lang/Object", name := "<init>", desc := "()V" } : Jvm.MethodName) object_method_1_code (1 : Nat) (Option.none : Option Jvm.ClassFile.FieldType) ∈ gT := tin1 20 rfl rfl
theorem tw1_21 : Cond.classLink "OrphanLogs" (9 : Nat) "OrphanLogs$Office" ∈ gT := tin1 21 rfl rfl
theorem tw1_22 : Cond.instantiable "OrphanLogs$Office" (6 : Nat) ∈ gT := tin1 22 rfl rfl
theorem tw1_23 : Cond.methodLink "OrphanLogs" (11 : Nat) ({ cls := "OrphanLogs$Office", name := "<init>", desc := "()V" } : Jvm.MethodName) ∈ gT := tin1 23 rfl rfl
theorem tw1_24 : Cond.instanceMethod ({ cls := "OrphanLogs$Office", name := "<init>", desc := "()V" } : Jvm.MethodName) ∈ gT := tin1 24 rfl rfl
theorem tw1_25 : Cond.code ({ cls := "OrphanLogs$Office", name := "<init>", desc := "()V" } : Jvm.MethodName) prog_4_method_1_code (2 : Nat) (Option.none : Option Jvm.ClassFile.FieldType) ∈ gT := tin1 25 rfl rfl
theorem tw1_26 : Cond.methodLink "OrphanLogs$Office" (3 : Nat) ({ cls := "java/lang/Object", name := "<init>", desc := "()V" } : Jvm.MethodName) ∈ gT := tin1 26 rfl rfl
theorem tw1_27 : Cond.classLink "OrphanLogs$Office" (9 : Nat) "OrphanLogs$Clerk" ∈ gT := tin1 27 rfl rfl
theorem tw1_29 : Cond.classLink "OrphanLogs$Office" (17 : Nat) "OrphanLogs$Post" ∈ gT := tin1 29 rfl rfl
theorem tw1_30 : Cond.instantiable "OrphanLogs$Post" (5 : Nat) ∈ gT := tin1 30 rfl rfl
theorem tw1_32 : Cond.instanceMethod ({ cls := "OrphanLogs$Post", name := "<init>", desc := "()V" } : Jvm.MethodName) ∈ gT := tin1 32 rfl rfl
theorem tw1_33 : Cond.code ({ cls := "OrphanLogs$Post", name := "<init>", desc := "()V" } : Jvm.MethodName) prog_5_method_1_code (1 : Nat) (Option.none : Option Jvm.ClassFile.FieldType) ∈ gT := tin1 33 rfl rfl
theorem tw1_34 : Cond.methodLink "OrphanLogs$Post" (3 : Nat) ({ cls := "java/lang/Object", name := "<init>", desc := "()V" } : Jvm.MethodName) ∈ gT := tin1 34 rfl rfl
theorem tw1_35 : Cond.classLink "OrphanLogs$Post" (21 : Nat) "OrphanLogs$Rests" ∈ gT := tin1 35 rfl rfl
theorem tw1_36 : Cond.instantiable "OrphanLogs$Rests" (2 : Nat) ∈ gT := tin1 36 rfl rfl
theorem tw1_37 : Cond.methodLink "OrphanLogs$Post" (23 : Nat) ({ cls := "OrphanLogs$Rests", name := "<init>", desc := "(I)V" } : Jvm.MethodName) ∈ gT := tin1 37 rfl rfl
theorem tw1_38 : Cond.instanceMethod ({ cls := "OrphanLogs$Rests", name := "<init>", desc := "(I)V" } : Jvm.MethodName) ∈ gT := tin1 38 rfl rfl
theorem tw1_39 : Cond.code ({ cls := "OrphanLogs$Rests", name := "<init>", desc := "(I)V" } : Jvm.MethodName) prog_7_method_1_code (3 : Nat) (Option.none : Option Jvm.ClassFile.FieldType) ∈ gT := tin1 39 rfl rfl
theorem tw1_40 : Cond.methodLink "OrphanLogs$Rests" (3 : Nat) ({ cls := "java/lang/Object", name := "<init>", desc := "()V" } : Jvm.MethodName) ∈ gT := tin1 40 rfl rfl
theorem tw1_41 : Cond.methodLink "OrphanLogs$Rests" (9 : Nat) ({ cls := "java/lang/Math", name := "min", desc := "(II)I" } : Jvm.MethodName) ∈ gT := tin1 41 rfl rfl
theorem tw1_42 : Cond.static ({ cls := "java/lang/Math", name := "min", desc := "(II)I" } : Jvm.MethodName) ∈ gT := tin1 42 rfl rfl
theorem tw1_43 : Cond.code ({ cls := "java/lang/Math", name := "min", desc := "(II)I" } : Jvm.MethodName) prog_13_method_69_code (2 : Nat) (Option.some Jvm.ClassFile.FieldType.int) ∈ gT := tin1 43 rfl rfl
theorem tw1_44 : Cond.methodLink "OrphanLogs$Rests" (15 : Nat) ({ cls := "java/lang/Math", name := "max", desc := "(II)I" } : Jvm.MethodName) ∈ gT := tin1 44 rfl rfl
theorem tw1_45 : Cond.static ({ cls := "java/lang/Math", name := "max", desc := "(II)I" } : Jvm.MethodName) ∈ gT := tin1 45 rfl rfl
theorem tw1_46 : Cond.code ({ cls := "java/lang/Math", name := "max", desc := "(II)I" } : Jvm.MethodName) prog_13_method_65_code (2 : Nat) (Option.some Jvm.ClassFile.FieldType.int) ∈ gT := tin1 46 rfl rfl
theorem tw1_47 : Cond.fieldLink "OrphanLogs$Rests" (18 : Nat) "OrphanLogs$Rests" "lives" "[I" ∈ gT := tin1 47 rfl rfl
theorem tw1_48 : Cond.fieldLink "OrphanLogs$Rests" (24 : Nat) "OrphanLogs$Rests" "pages" "[I" ∈ gT := tin1 48 rfl rfl
theorem tw1_49 : Cond.laysFinal "OrphanLogs$Rests" "OrphanLogs$Rests" "lives" "[I" ∈ gT := tin1 49 rfl rfl
theorem tw1_51 : Cond.laysFinal "OrphanLogs$Rests" "OrphanLogs$Rests" "pages" "[I" ∈ gT := tin1 51 rfl rfl
theorem tw1_54 : Cond.arrayClass Jvm.ClassFile.FieldType.int ∈ gT := tin1 54 rfl rfl
theorem tw1_55 : Cond.fieldLink "OrphanLogs$Post" (30 : Nat) "OrphanLogs$Post" "count" "I" ∈ gT := tin1 55 rfl rfl
theorem tw1_58 : Cond.fieldLink "OrphanLogs$Post" (9 : Nat) "OrphanLogs$Post" "senders" "[I" ∈ gT := tin1 58 rfl rfl
theorem tw1_60 : Cond.fieldLink "OrphanLogs$Post" (15 : Nat) "OrphanLogs$Post" "receivers" "[I" ∈ gT := tin1 60 rfl rfl
theorem tw1_61 : Cond.fieldLink "OrphanLogs$Post" (18 : Nat) "OrphanLogs$Post" "sums" "[I" ∈ gT := tin1 61 rfl rfl
theorem tw1_63 : Cond.fieldLink "OrphanLogs$Post" (26 : Nat) "OrphanLogs$Post" "rests" "LOrphanLogs$Rests;" ∈ gT := tin1 63 rfl rfl
theorem tw1_65 : Cond.lays "OrphanLogs$Post" "OrphanLogs$Post" "count" "I" ∈ gT := tin1 65 rfl rfl
theorem tw1_67 : Cond.laysFinal "OrphanLogs$Post" "OrphanLogs$Post" "senders" "[I" ∈ gT := tin1 67 rfl rfl
theorem tw1_69 : Cond.laysFinal "OrphanLogs$Post" "OrphanLogs$Post" "receivers" "[I" ∈ gT := tin1 69 rfl rfl
theorem tw1_71 : Cond.laysFinal "OrphanLogs$Post" "OrphanLogs$Post" "sums" "[I" ∈ gT := tin1 71 rfl rfl
theorem tw1_73 : Cond.laysFinal "OrphanLogs$Post" "OrphanLogs$Post" "rests" "LOrphanLogs$Rests;" ∈ gT := tin1 73 rfl rfl
theorem tw1_76 : Cond.classLink "OrphanLogs$Office" (24 : Nat) "OrphanLogs$Sayings" ∈ gT := tin1 76 rfl rfl
theorem tw1_77 : Cond.instantiable "OrphanLogs$Sayings" (6 : Nat) ∈ gT := tin1 77 rfl rfl
theorem tw1_79 : Cond.instanceMethod ({ cls := "OrphanLogs$Sayings", name := "<init>", desc := "()V" } : Jvm.MethodName) ∈ gT := tin1 79 rfl rfl
theorem tw1_80 : Cond.code ({ cls := "OrphanLogs$Sayings", name := "<init>", desc := "()V" } : Jvm.MethodName) prog_8_method_1_code (1 : Nat) (Option.none : Option Jvm.ClassFile.FieldType) ∈ gT := tin1 80 rfl rfl
theorem tw1_81 : Cond.methodLink "OrphanLogs$Sayings" (3 : Nat) ({ cls := "java/lang/Object", name := "<init>", desc := "()V" } : Jvm.MethodName) ∈ gT := tin1 81 rfl rfl
theorem tw1_82 : Cond.fieldLink "OrphanLogs$Sayings" (24 : Nat) "OrphanLogs$Sayings" "count" "I" ∈ gT := tin1 82 rfl rfl
theorem tw1_85 : Cond.fieldLink "OrphanLogs$Sayings" (28 : Nat) "OrphanLogs$Sayings" "releasedCount" "I" ∈ gT := tin1 85 rfl rfl
theorem tw1_87 : Cond.fieldLink "OrphanLogs$Sayings" (9 : Nat) "OrphanLogs$Sayings" "clerks" "[I" ∈ gT := tin1 87 rfl rfl
theorem tw1_89 : Cond.fieldLink "OrphanLogs$Sayings" (15 : Nat) "OrphanLogs$Sayings" "pages" "[I" ∈ gT := tin1 89 rfl rfl
theorem tw1_91 : Cond.fieldLink "OrphanLogs$Sayings" (18 : Nat) "OrphanLogs$Sayings" "states" "[I" ∈ gT := tin1 91 rfl rfl
theorem tw1_93 : Cond.fieldLink "OrphanLogs$Sayings" (21 : Nat) "OrphanLogs$Sayings" "releasedOnes" "[I" ∈ gT := tin1 93 rfl rfl
theorem tw1_94 : Cond.lays "OrphanLogs$Sayings" "OrphanLogs$Sayings" "count" "I" ∈ gT := tin1 94 rfl rfl
theorem tw1_96 : Cond.lays "OrphanLogs$Sayings" "OrphanLogs$Sayings" "releasedCount" "I" ∈ gT := tin1 96 rfl rfl
theorem tw1_98 : Cond.laysFinal "OrphanLogs$Sayings" "OrphanLogs$Sayings" "clerks" "[I" ∈ gT := tin1 98 rfl rfl
theorem tw1_100 : Cond.laysFinal "OrphanLogs$Sayings" "OrphanLogs$Sayings" "pages" "[I" ∈ gT := tin1 100 rfl rfl
theorem tw1_102 : Cond.laysFinal "OrphanLogs$Sayings" "OrphanLogs$Sayings" "states" "[I" ∈ gT := tin1 102 rfl rfl
theorem tw1_104 : Cond.laysFinal "OrphanLogs$Sayings" "OrphanLogs$Sayings" "releasedOnes" "[I" ∈ gT := tin1 104 rfl rfl
theorem tw1_107 : Cond.classLink "OrphanLogs$Office" (31 : Nat) "OrphanLogs$Loss" ∈ gT := tin1 107 rfl rfl
theorem tw1_108 : Cond.instantiable "OrphanLogs$Loss" (4 : Nat) ∈ gT := tin1 108 rfl rfl
theorem tw1_110 : Cond.instanceMethod ({ cls := "OrphanLogs$Loss", name := "<init>", desc := "()V" } : Jvm.MethodName) ∈ gT := tin1 110 rfl rfl
theorem tw1_111 : Cond.code ({ cls := "OrphanLogs$Loss", name := "<init>", desc := "()V" } : Jvm.MethodName) prog_3_method_1_code (1 : Nat) (Option.none : Option Jvm.ClassFile.FieldType) ∈ gT := tin1 111 rfl rfl
theorem tw1_112 : Cond.methodLink "OrphanLogs$Loss" (3 : Nat) ({ cls := "java/lang/Object", name := "<init>", desc := "()V" } : Jvm.MethodName) ∈ gT := tin1 112 rfl rfl
theorem tw1_113 : Cond.fieldLink "OrphanLogs$Loss" (18 : Nat) "OrphanLogs$Loss" "loser" "I" ∈ gT := tin1 113 rfl rfl
theorem tw1_114 : Cond.fieldLink "OrphanLogs$Loss" (27 : Nat) "OrphanLogs$Loss" "n" "I" ∈ gT := tin1 114 rfl rfl
theorem tw1_115 : Cond.fieldLink "OrphanLogs$Loss" (9 : Nat) "OrphanLogs$Loss" "keeps" "[I" ∈ gT := tin1 115 rfl rfl
theorem tw1_116 : Cond.fieldLink "OrphanLogs$Loss" (15 : Nat) "OrphanLogs$Loss" "before" "[I" ∈ gT := tin1 116 rfl rfl
theorem tw1_117 : Cond.lays "OrphanLogs$Loss" "OrphanLogs$Loss" "loser" "I" ∈ gT := tin1 117 rfl rfl
theorem tw1_119 : Cond.lays "OrphanLogs$Loss" "OrphanLogs$Loss" "n" "I" ∈ gT := tin1 119 rfl rfl
theorem tw1_121 : Cond.laysFinal "OrphanLogs$Loss" "OrphanLogs$Loss" "keeps" "[I" ∈ gT := tin1 121 rfl rfl
theorem tw1_123 : Cond.laysFinal "OrphanLogs$Loss" "OrphanLogs$Loss" "before" "[I" ∈ gT := tin1 123 rfl rfl
theorem tw1_126 : Cond.instantiable "OrphanLogs$Clerk" (9 : Nat) ∈ gT := tin1 126 rfl rfl
theorem tw1_127 : Cond.methodLink "OrphanLogs$Office" (38 : Nat) ({ cls := "OrphanLogs$Clerk", name := "<init>", desc := "(I)V" } : Jvm.MethodName) ∈ gT := tin1 127 rfl rfl
theorem tw1_128 : Cond.instanceMethod ({ cls := "OrphanLogs$Clerk", name := "<init>", desc := "(I)V" } : Jvm.MethodName) ∈ gT := tin1 128 rfl rfl
theorem tw1_129 : Cond.code ({ cls := "OrphanLogs$Clerk", name := "<init>", desc := "(I)V" } : Jvm.MethodName) prog_2_method_1_code (2 : Nat) (Option.none : Option Jvm.ClassFile.FieldType) ∈ gT := tin1 129 rfl rfl
theorem tw1_130 : Cond.methodLink "OrphanLogs$Clerk" (3 : Nat) ({ cls := "java/lang/Object", name := "<init>", desc := "()V" } : Jvm.MethodName) ∈ gT := tin1 130 rfl rfl
theorem tw1_131 : Cond.classLink "OrphanLogs$Clerk" (18 : Nat) "OrphanLogs$Rests" ∈ gT := tin1 131 rfl rfl
theorem tw1_132 : Cond.methodLink "OrphanLogs$Clerk" (20 : Nat) ({ cls := "OrphanLogs$Rests", name := "<init>", desc := "(I)V" } : Jvm.MethodName) ∈ gT := tin1 132 rfl rfl
theorem tw1_133 : Cond.fieldLink "OrphanLogs$Clerk" (30 : Nat) "OrphanLogs$Clerk" "number" "I" ∈ gT := tin1 133 rfl rfl
theorem tw1_135 : Cond.fieldLink "OrphanLogs$Clerk" (34 : Nat) "OrphanLogs$Clerk" "life" "I" ∈ gT := tin1 135 rfl rfl
theorem tw1_137 : Cond.fieldLink "OrphanLogs$Clerk" (37 : Nat) "OrphanLogs$Clerk" "now" "I" ∈ gT := tin1 137 rfl rfl
theorem tw1_141 : Cond.fieldLink "OrphanLogs$Clerk" (40 : Nat) "OrphanLogs$Clerk" "written" "I" ∈ gT := tin1 141 rfl rfl
theorem tw1_144 : Cond.fieldLink "OrphanLogs$Clerk" (43 : Nat) "OrphanLogs$Clerk" "leastKept" "I" ∈ gT := tin1 144 rfl rfl
theorem tw1_147 : Cond.fieldLink "OrphanLogs$Clerk" (9 : Nat) "OrphanLogs$Clerk" "lives" "[I" ∈ gT := tin1 147 rfl rfl
theorem tw1_149 : Cond.fieldLink "OrphanLogs$Clerk" (15 : Nat) "OrphanLogs$Clerk" "sums" "[I" ∈ gT := tin1 149 rfl rfl
theorem tw1_151 : Cond.fieldLink "OrphanLogs$Clerk" (23 : Nat) "OrphanLogs$Clerk" "rests" "LOrphanLogs$Rests;" ∈ gT := tin1 151 rfl rfl
theorem tw1_155 : Cond.fieldLink "OrphanLogs$Clerk" (27 : Nat) "OrphanLogs$Clerk" "ends" "[I" ∈ gT := tin1 155 rfl rfl
theorem tw1_156 : Cond.laysFinal "OrphanLogs$Clerk" "OrphanLogs$Clerk" "number" "I" ∈ gT := tin1 156 rfl rfl
theorem tw1_158 : Cond.lays "OrphanLogs$Clerk" "OrphanLogs$Clerk" "life" "I" ∈ gT := tin1 158 rfl rfl
theorem tw1_160 : Cond.lays "OrphanLogs$Clerk" "OrphanLogs$Clerk" "now" "I" ∈ gT := tin1 160 rfl rfl
theorem tw1_162 : Cond.lays "OrphanLogs$Clerk" "OrphanLogs$Clerk" "written" "I" ∈ gT := tin1 162 rfl rfl
theorem tw1_164 : Cond.lays "OrphanLogs$Clerk" "OrphanLogs$Clerk" "leastKept" "I" ∈ gT := tin1 164 rfl rfl
theorem tw1_166 : Cond.laysFinal "OrphanLogs$Clerk" "OrphanLogs$Clerk" "lives" "[I" ∈ gT := tin1 166 rfl rfl
theorem tw1_168 : Cond.laysFinal "OrphanLogs$Clerk" "OrphanLogs$Clerk" "sums" "[I" ∈ gT := tin1 168 rfl rfl
theorem tw1_170 : Cond.laysFinal "OrphanLogs$Clerk" "OrphanLogs$Clerk" "rests" "LOrphanLogs$Rests;" ∈ gT := tin1 170 rfl rfl
theorem tw1_172 : Cond.laysFinal "OrphanLogs$Clerk" "OrphanLogs$Clerk" "ends" "[I" ∈ gT := tin1 172 rfl rfl
theorem tw1_175 : Cond.methodLink "OrphanLogs$Office" (41 : Nat) ({ cls := "OrphanLogs$Office", name := "begin", desc := "(I)V" } : Jvm.MethodName) ∈ gT := tin1 175 rfl rfl
theorem tw1_176 : Cond.instanceMethod ({ cls := "OrphanLogs$Office", name := "begin", desc := "(I)V" } : Jvm.MethodName) ∈ gT := tin1 176 rfl rfl
theorem tw1_177 : Cond.selects "OrphanLogs$Office" ({ cls := "OrphanLogs$Office", name := "begin", desc := "(I)V" } : Jvm.MethodName) ({ cls := "OrphanLogs$Office", name := "begin", desc := "(I)V" } : Jvm.MethodName) ∈ gT := tin1 177 rfl rfl
theorem tw1_178 : Cond.code ({ cls := "OrphanLogs$Office", name := "begin", desc := "(I)V" } : Jvm.MethodName) prog_4_method_2_code (3 : Nat) (Option.none : Option Jvm.ClassFile.FieldType) ∈ gT := tin1 178 rfl rfl
theorem tw1_179 : Cond.methodLink "OrphanLogs$Office" (54 : Nat) ({ cls := "OrphanLogs$Sayings", name := "begin", desc := "()V" } : Jvm.MethodName) ∈ gT := tin1 179 rfl rfl
theorem tw1_180 : Cond.instanceMethod ({ cls := "OrphanLogs$Sayings", name := "begin", desc := "()V" } : Jvm.MethodName) ∈ gT := tin1 180 rfl rfl
theorem tw1_181 : Cond.selects "OrphanLogs$Sayings" ({ cls := "OrphanLogs$Sayings", name := "begin", desc := "()V" } : Jvm.MethodName) ({ cls := "OrphanLogs$Sayings", name := "begin", desc := "()V" } : Jvm.MethodName) ∈ gT := tin1 181 rfl rfl
theorem tw1_182 : Cond.code ({ cls := "OrphanLogs$Sayings", name := "begin", desc := "()V" } : Jvm.MethodName) prog_8_method_2_code (1 : Nat) (Option.none : Option Jvm.ClassFile.FieldType) ∈ gT := tin1 182 rfl rfl
theorem tw1_183 : Cond.methodLink "OrphanLogs$Office" (56 : Nat) ({ cls := "OrphanLogs$Clerk", name := "begin", desc := "()V" } : Jvm.MethodName) ∈ gT := tin1 183 rfl rfl
theorem tw1_184 : Cond.instanceMethod ({ cls := "OrphanLogs$Clerk", name := "begin", desc := "()V" } : Jvm.MethodName) ∈ gT := tin1 184 rfl rfl
theorem tw1_185 : Cond.selects "OrphanLogs$Clerk" ({ cls := "OrphanLogs$Clerk", name := "begin", desc := "()V" } : Jvm.MethodName) ({ cls := "OrphanLogs$Clerk", name := "begin", desc := "()V" } : Jvm.MethodName) ∈ gT := tin1 185 rfl rfl
theorem tw1_186 : Cond.code ({ cls := "OrphanLogs$Clerk", name := "begin", desc := "()V" } : Jvm.MethodName) prog_2_method_2_code (2 : Nat) (Option.none : Option Jvm.ClassFile.FieldType) ∈ gT := tin1 186 rfl rfl
theorem tw1_188 : Cond.static ({ cls := "OrphanLogs", name := "put", desc := "([III)V" } : Jvm.MethodName) ∈ gT := tin1 188 rfl rfl
theorem tw1_189 : Cond.code ({ cls := "OrphanLogs", name := "put", desc := "([III)V" } : Jvm.MethodName) prog_1_method_31_code (3 : Nat) (Option.none : Option Jvm.ClassFile.FieldType) ∈ gT := tin1 189 rfl rfl
theorem tw1_190 : Cond.methodLink "OrphanLogs$Clerk" (50 : Nat) ({ cls := "OrphanLogs$Rests", name := "set", desc := "(IIII)V" } : Jvm.MethodName) ∈ gT := tin1 190 rfl rfl
theorem tw1_191 : Cond.instanceMethod ({ cls := "OrphanLogs$Rests", name := "set", desc := "(IIII)V" } : Jvm.MethodName) ∈ gT := tin1 191 rfl rfl
theorem tw1_192 : Cond.selects "OrphanLogs$Rests" ({ cls := "OrphanLogs$Rests", name := "set", desc := "(IIII)V" } : Jvm.MethodName) ({ cls := "OrphanLogs$Rests", name := "set", desc := "(IIII)V" } : Jvm.MethodName) ∈ gT := tin1 192 rfl rfl
theorem tw1_193 : Cond.code ({ cls := "OrphanLogs$Rests", name := "set", desc := "(IIII)V" } : Jvm.MethodName) prog_7_method_4_code (5 : Nat) (Option.none : Option Jvm.ClassFile.FieldType) ∈ gT := tin1 193 rfl rfl
theorem tw1_195 : Cond.fieldLink "OrphanLogs$Office" (44 : Nat) "OrphanLogs$Office" "n" "I" ∈ gT := tin1 195 rfl rfl
theorem tw1_198 : Cond.fieldLink "OrphanLogs$Office" (48 : Nat) "OrphanLogs$Office" "gone" "I" ∈ gT := tin1 198 rfl rfl
theorem tw1_200 : Cond.fieldLink "OrphanLogs$Office" (11 : Nat) "OrphanLogs$Office" "clerks" "[LOrphanLogs$Clerk;" ∈ gT := tin1 200 rfl rfl
theorem tw1_201 : Cond.fieldLink "OrphanLogs$Office" (20 : Nat) "OrphanLogs$Office" "post" "LOrphanLogs$Post;" ∈ gT := tin1 201 rfl rfl
theorem tw1_203 : Cond.fieldLink "OrphanLogs$Office" (27 : Nat) "OrphanLogs$Office" "sayings" "LOrphanLogs$Sayings;" ∈ gT := tin1 203 rfl rfl
theorem tw1_205 : Cond.fieldLink "OrphanLogs$Office" (34 : Nat) "OrphanLogs$Office" "loss" "LOrphanLogs$Loss;" ∈ gT := tin1 205 rfl rfl
theorem tw1_206 : Cond.lays "OrphanLogs$Office" "OrphanLogs$Office" "n" "I" ∈ gT := tin1 206 rfl rfl
theorem tw1_208 : Cond.lays "OrphanLogs$Office" "OrphanLogs$Office" "gone" "I" ∈ gT := tin1 208 rfl rfl
theorem tw1_210 : Cond.laysFinal "OrphanLogs$Office" "OrphanLogs$Office" "clerks" "[LOrphanLogs$Clerk;" ∈ gT := tin1 210 rfl rfl
theorem tw1_212 : Cond.laysFinal "OrphanLogs$Office" "OrphanLogs$Office" "post" "LOrphanLogs$Post;" ∈ gT := tin1 212 rfl rfl
theorem tw1_214 : Cond.laysFinal "OrphanLogs$Office" "OrphanLogs$Office" "sayings" "LOrphanLogs$Sayings;" ∈ gT := tin1 214 rfl rfl
theorem tw1_216 : Cond.laysFinal "OrphanLogs$Office" "OrphanLogs$Office" "loss" "LOrphanLogs$Loss;" ∈ gT := tin1 216 rfl rfl
theorem tw1_219 : Cond.classLink "OrphanLogs" (16 : Nat) "OrphanLogs$Text" ∈ gT := tin1 219 rfl rfl
theorem tw1_220 : Cond.instantiable "OrphanLogs$Text" (2 : Nat) ∈ gT := tin1 220 rfl rfl
theorem tw1_222 : Cond.instanceMethod ({ cls := "OrphanLogs$Text", name := "<init>", desc := "()V" } : Jvm.MethodName) ∈ gT := tin1 222 rfl rfl
theorem tw1_223 : Cond.code ({ cls := "OrphanLogs$Text", name := "<init>", desc := "()V" } : Jvm.MethodName) prog_10_method_1_code (1 : Nat) (Option.none : Option Jvm.ClassFile.FieldType) ∈ gT := tin1 223 rfl rfl
theorem tw1_224 : Cond.methodLink "OrphanLogs$Text" (3 : Nat) ({ cls := "java/lang/Object", name := "<init>", desc := "()V" } : Jvm.MethodName) ∈ gT := tin1 224 rfl rfl
theorem tw1_225 : Cond.fieldLink "OrphanLogs$Text" (15 : Nat) "OrphanLogs$Text" "length" "I" ∈ gT := tin1 225 rfl rfl
theorem tw1_228 : Cond.fieldLink "OrphanLogs$Text" (9 : Nat) "OrphanLogs$Text" "bytes" "[I" ∈ gT := tin1 228 rfl rfl
theorem tw1_229 : Cond.lays "OrphanLogs$Text" "OrphanLogs$Text" "length" "I" ∈ gT := tin1 229 rfl rfl
theorem tw1_231 : Cond.laysFinal "OrphanLogs$Text" "OrphanLogs$Text" "bytes" "[I" ∈ gT := tin1 231 rfl rfl
theorem tw1_234 : Cond.classLink "OrphanLogs" (23 : Nat) "OrphanLogs$Reader" ∈ gT := tin1 234 rfl rfl
theorem tw1_235 : Cond.instantiable "OrphanLogs$Reader" (6 : Nat) ∈ gT := tin1 235 rfl rfl
theorem tw1_237 : Cond.instanceMethod ({ cls := "OrphanLogs$Reader", name := "<init>", desc := "()V" } : Jvm.MethodName) ∈ gT := tin1 237 rfl rfl
theorem tw1_238 : Cond.code ({ cls := "OrphanLogs$Reader", name := "<init>", desc := "()V" } : Jvm.MethodName) prog_6_method_1_code (1 : Nat) (Option.none : Option Jvm.ClassFile.FieldType) ∈ gT := tin1 238 rfl rfl
theorem tw1_239 : Cond.methodLink "OrphanLogs$Reader" (3 : Nat) ({ cls := "java/lang/Object", name := "<init>", desc := "()V" } : Jvm.MethodName) ∈ gT := tin1 239 rfl rfl
theorem tw2_0 : Cond.fieldLink "OrphanLogs$Reader" (21 : Nat) "OrphanLogs$Reader" "count" "I" ∈ gT := tin2 0 rfl rfl
theorem tw2_2 : Cond.fieldLink "OrphanLogs$Reader" (25 : Nat) "OrphanLogs$Reader" "place" "I" ∈ gT := tin2 2 rfl rfl
theorem tw2_3 : Cond.fieldLink "OrphanLogs$Reader" (28 : Nat) "OrphanLogs$Reader" "fault" "I" ∈ gT := tin2 3 rfl rfl
theorem tw2_4 : Cond.fieldLink "OrphanLogs$Reader" (9 : Nat) "OrphanLogs$Reader" "kinds" "[I" ∈ gT := tin2 4 rfl rfl
theorem tw2_6 : Cond.fieldLink "OrphanLogs$Reader" (15 : Nat) "OrphanLogs$Reader" "firsts" "[I" ∈ gT := tin2 6 rfl rfl
theorem tw2_8 : Cond.fieldLink "OrphanLogs$Reader" (18 : Nat) "OrphanLogs$Reader" "seconds" "[I" ∈ gT := tin2 8 rfl rfl
theorem tw2_10 : Cond.lays "OrphanLogs$Reader" "OrphanLogs$Reader" "count" "I" ∈ gT := tin2 10 rfl rfl
theorem tw2_12 : Cond.lays "OrphanLogs$Reader" "OrphanLogs$Reader" "place" "I" ∈ gT := tin2 12 rfl rfl
theorem tw2_14 : Cond.lays "OrphanLogs$Reader" "OrphanLogs$Reader" "fault" "I" ∈ gT := tin2 14 rfl rfl
theorem tw2_16 : Cond.laysFinal "OrphanLogs$Reader" "OrphanLogs$Reader" "kinds" "[I" ∈ gT := tin2 16 rfl rfl
theorem tw2_18 : Cond.laysFinal "OrphanLogs$Reader" "OrphanLogs$Reader" "firsts" "[I" ∈ gT := tin2 18 rfl rfl
theorem tw2_20 : Cond.laysFinal "OrphanLogs$Reader" "OrphanLogs$Reader" "seconds" "[I" ∈ gT := tin2 20 rfl rfl
theorem tw2_23 : Cond.classLink "OrphanLogs" (30 : Nat) "OrphanLogs$Tally" ∈ gT := tin2 23 rfl rfl
theorem tw2_24 : Cond.instantiable "OrphanLogs$Tally" (3 : Nat) ∈ gT := tin2 24 rfl rfl
theorem tw2_26 : Cond.instanceMethod ({ cls := "OrphanLogs$Tally", name := "<init>", desc := "()V" } : Jvm.MethodName) ∈ gT := tin2 26 rfl rfl
theorem tw2_27 : Cond.code ({ cls := "OrphanLogs$Tally", name := "<init>", desc := "()V" } : Jvm.MethodName) prog_9_method_1_code (1 : Nat) (Option.none : Option Jvm.ClassFile.FieldType) ∈ gT := tin2 27 rfl rfl
theorem tw2_28 : Cond.methodLink "OrphanLogs$Tally" (3 : Nat) ({ cls := "java/lang/Object", name := "<init>", desc := "()V" } : Jvm.MethodName) ∈ gT := tin2 28 rfl rfl
theorem tw2_29 : Cond.fieldLink "OrphanLogs$Tally" (9 : Nat) "OrphanLogs$Tally" "bad" "I" ∈ gT := tin2 29 rfl rfl
theorem tw2_31 : Cond.fieldLink "OrphanLogs$Tally" (15 : Nat) "OrphanLogs$Tally" "no" "I" ∈ gT := tin2 31 rfl rfl
theorem tw2_33 : Cond.fieldLink "OrphanLogs$Tally" (18 : Nat) "OrphanLogs$Tally" "full" "I" ∈ gT := tin2 33 rfl rfl
theorem tw2_35 : Cond.lays "OrphanLogs$Tally" "OrphanLogs$Tally" "bad" "I" ∈ gT := tin2 35 rfl rfl
theorem tw2_37 : Cond.lays "OrphanLogs$Tally" "OrphanLogs$Tally" "no" "I" ∈ gT := tin2 37 rfl rfl
theorem tw2_39 : Cond.lays "OrphanLogs$Tally" "OrphanLogs$Tally" "full" "I" ∈ gT := tin2 39 rfl rfl
theorem tw2_42 : Cond.fieldLink "OrphanLogs" (12 : Nat) "OrphanLogs" "office" "LOrphanLogs$Office;" ∈ gT := tin2 42 rfl rfl
theorem tw2_43 : Cond.fieldLink "OrphanLogs" (19 : Nat) "OrphanLogs" "text" "LOrphanLogs$Text;" ∈ gT := tin2 43 rfl rfl
theorem tw2_44 : Cond.fieldLink "OrphanLogs" (26 : Nat) "OrphanLogs" "reader" "LOrphanLogs$Reader;" ∈ gT := tin2 44 rfl rfl
theorem tw2_45 : Cond.fieldLink "OrphanLogs" (33 : Nat) "OrphanLogs" "tally" "LOrphanLogs$Tally;" ∈ gT := tin2 45 rfl rfl
theorem tw2_46 : Cond.laysFinal "OrphanLogs" "OrphanLogs" "office" "LOrphanLogs$Office;" ∈ gT := tin2 46 rfl rfl
theorem tw2_48 : Cond.laysFinal "OrphanLogs" "OrphanLogs" "text" "LOrphanLogs$Text;" ∈ gT := tin2 48 rfl rfl
theorem tw2_50 : Cond.laysFinal "OrphanLogs" "OrphanLogs" "reader" "LOrphanLogs$Reader;" ∈ gT := tin2 50 rfl rfl
theorem tw2_52 : Cond.laysFinal "OrphanLogs" "OrphanLogs" "tally" "LOrphanLogs$Tally;" ∈ gT := tin2 52 rfl rfl
theorem tw2_55 : Cond.methodLink "OrphanLogsLaw" (13 : Nat) ({ cls := "OrphanLogs", name := "clerks", desc := "(I)I" } : Jvm.MethodName) ∈ gT := tin2 55 rfl rfl
theorem tw2_56 : Cond.instanceMethod ({ cls := "OrphanLogs", name := "clerks", desc := "(I)I" } : Jvm.MethodName) ∈ gT := tin2 56 rfl rfl
theorem tw2_57 : Cond.selects "OrphanLogs" ({ cls := "OrphanLogs", name := "clerks", desc := "(I)I" } : Jvm.MethodName) ({ cls := "OrphanLogs", name := "clerks", desc := "(I)I" } : Jvm.MethodName) ∈ gT := tin2 57 rfl rfl
theorem tw2_58 : Cond.code ({ cls := "OrphanLogs", name := "clerks", desc := "(I)I" } : Jvm.MethodName) prog_1_method_2_code (3 : Nat) (Option.some Jvm.ClassFile.FieldType.int) ∈ gT := tin2 58 rfl rfl
theorem tw2_59 : Cond.methodLink "OrphanLogs" (37 : Nat) ({ cls := "OrphanLogs", name := "within", desc := "(III)Z" } : Jvm.MethodName) ∈ gT := tin2 59 rfl rfl
theorem tw2_60 : Cond.static ({ cls := "OrphanLogs", name := "within", desc := "(III)Z" } : Jvm.MethodName) ∈ gT := tin2 60 rfl rfl
theorem tw2_61 : Cond.code ({ cls := "OrphanLogs", name := "within", desc := "(III)Z" } : Jvm.MethodName) prog_1_method_28_code (3 : Nat) (Option.some Jvm.ClassFile.FieldType.boolean) ∈ gT := tin2 61 rfl rfl
theorem tw2_62 : Cond.methodLink "OrphanLogs" (41 : Nat) ({ cls := "OrphanLogs$Tally", name := "counted", desc := "(I)I" } : Jvm.MethodName) ∈ gT := tin2 62 rfl rfl
theorem tw2_63 : Cond.instanceMethod ({ cls := "OrphanLogs$Tally", name := "counted", desc := "(I)I" } : Jvm.MethodName) ∈ gT := tin2 63 rfl rfl
theorem tw2_64 : Cond.selects "OrphanLogs$Tally" ({ cls := "OrphanLogs$Tally", name := "counted", desc := "(I)I" } : Jvm.MethodName) ({ cls := "OrphanLogs$Tally", name := "counted", desc := "(I)I" } : Jvm.MethodName) ∈ gT := tin2 64 rfl rfl
theorem tw2_65 : Cond.code ({ cls := "OrphanLogs$Tally", name := "counted", desc := "(I)I" } : Jvm.MethodName) prog_9_method_2_code (2 : Nat) (Option.some Jvm.ClassFile.FieldType.int) ∈ gT := tin2 65 rfl rfl
theorem tw2_66 : Cond.methodLink "OrphanLogs" (49 : Nat) ({ cls := "OrphanLogs$Office", name := "begin", desc := "(I)V" } : Jvm.MethodName) ∈ gT := tin2 66 rfl rfl
theorem tw2_67 : Cond.methodLink "OrphanLogsLaw" (18 : Nat) ({ cls := "OrphanLogs", name := "work", desc := "(II)I" } : Jvm.MethodName) ∈ gT := tin2 67 rfl rfl
theorem tw2_68 : Cond.instanceMethod ({ cls := "OrphanLogs", name := "work", desc := "(II)I" } : Jvm.MethodName) ∈ gT := tin2 68 rfl rfl
theorem tw2_69 : Cond.selects "OrphanLogs" ({ cls := "OrphanLogs", name := "work", desc := "(II)I" } : Jvm.MethodName) ({ cls := "OrphanLogs", name := "work", desc := "(II)I" } : Jvm.MethodName) ∈ gT := tin2 69 rfl rfl
theorem tw2_70 : Cond.code ({ cls := "OrphanLogs", name := "work", desc := "(II)I" } : Jvm.MethodName) prog_1_method_3_code (4 : Nat) (Option.some Jvm.ClassFile.FieldType.int) ∈ gT := tin2 70 rfl rfl
theorem tw2_71 : Cond.methodLink "OrphanLogs" (53 : Nat) ({ cls := "OrphanLogs$Office", name := "hasClerk", desc := "(I)Z" } : Jvm.MethodName) ∈ gT := tin2 71 rfl rfl
theorem tw2_72 : Cond.instanceMethod ({ cls := "OrphanLogs$Office", name := "hasClerk", desc := "(I)Z" } : Jvm.MethodName) ∈ gT := tin2 72 rfl rfl
theorem tw2_73 : Cond.selects "OrphanLogs$Office" ({ cls := "OrphanLogs$Office", name := "hasClerk", desc := "(I)Z" } : Jvm.MethodName) ({ cls := "OrphanLogs$Office", name := "hasClerk", desc := "(I)Z" } : Jvm.MethodName) ∈ gT := tin2 73 rfl rfl
theorem tw2_74 : Cond.code ({ cls := "OrphanLogs$Office", name := "hasClerk", desc := "(I)Z" } : Jvm.MethodName) prog_4_method_3_code (2 : Nat) (Option.some Jvm.ClassFile.FieldType.boolean) ∈ gT := tin2 74 rfl rfl
theorem tw2_75 : Cond.methodLink "OrphanLogs" (57 : Nat) ({ cls := "OrphanLogs$Office", name := "addWork", desc := "(II)I" } : Jvm.MethodName) ∈ gT := tin2 75 rfl rfl
theorem tw2_76 : Cond.instanceMethod ({ cls := "OrphanLogs$Office", name := "addWork", desc := "(II)I" } : Jvm.MethodName) ∈ gT := tin2 76 rfl rfl
theorem tw2_77 : Cond.selects "OrphanLogs$Office" ({ cls := "OrphanLogs$Office", name := "addWork", desc := "(II)I" } : Jvm.MethodName) ({ cls := "OrphanLogs$Office", name := "addWork", desc := "(II)I" } : Jvm.MethodName) ∈ gT := tin2 77 rfl rfl
theorem tw2_78 : Cond.code ({ cls := "OrphanLogs$Office", name := "addWork", desc := "(II)I" } : Jvm.MethodName) prog_4_method_5_code (3 : Nat) (Option.some Jvm.ClassFile.FieldType.int) ∈ gT := tin2 78 rfl rfl
theorem tw2_79 : Cond.methodLink "OrphanLogs$Office" (57 : Nat) ({ cls := "OrphanLogs$Office", name := "clerk", desc := "(I)LOrphanLogs$Clerk;" } : Jvm.MethodName) ∈ gT := tin2 79 rfl rfl
theorem tw2_80 : Cond.instanceMethod ({ cls := "OrphanLogs$Office", name := "clerk", desc := "(I)LOrphanLogs$Clerk;" } : Jvm.MethodName) ∈ gT := tin2 80 rfl rfl
theorem tw2_81 : Cond.selects "OrphanLogs$Office" ({ cls := "OrphanLogs$Office", name := "clerk", desc := "(I)LOrphanLogs$Clerk;" } : Jvm.MethodName) ({ cls := "OrphanLogs$Office", name := "clerk", desc := "(I)LOrphanLogs$Clerk;" } : Jvm.MethodName) ∈ gT := tin2 81 rfl rfl
theorem tw2_82 : Cond.code ({ cls := "OrphanLogs$Office", name := "clerk", desc := "(I)LOrphanLogs$Clerk;" } : Jvm.MethodName) prog_4_method_4_code (2 : Nat) (Option.some (Jvm.ClassFile.FieldType.object "OrphanLogs$Clerk")) ∈ gT := tin2 82 rfl rfl
theorem tw2_83 : Cond.methodLink "OrphanLogs$Office" (61 : Nat) ({ cls := "OrphanLogs$Clerk", name := "isFull", desc := "()Z" } : Jvm.MethodName) ∈ gT := tin2 83 rfl rfl
theorem tw2_84 : Cond.instanceMethod ({ cls := "OrphanLogs$Clerk", name := "isFull", desc := "()Z" } : Jvm.MethodName) ∈ gT := tin2 84 rfl rfl
theorem tw2_85 : Cond.selects "OrphanLogs$Clerk" ({ cls := "OrphanLogs$Clerk", name := "isFull", desc := "()Z" } : Jvm.MethodName) ({ cls := "OrphanLogs$Clerk", name := "isFull", desc := "()Z" } : Jvm.MethodName) ∈ gT := tin2 85 rfl rfl
theorem tw2_86 : Cond.code ({ cls := "OrphanLogs$Clerk", name := "isFull", desc := "()Z" } : Jvm.MethodName) prog_2_method_3_code (1 : Nat) (Option.some Jvm.ClassFile.FieldType.boolean) ∈ gT := tin2 86 rfl rfl
theorem tw2_87 : Cond.methodLink "OrphanLogs$Office" (65 : Nat) ({ cls := "OrphanLogs$Clerk", name := "addPage", desc := "(I)I" } : Jvm.MethodName) ∈ gT := tin2 87 rfl rfl
theorem tw2_88 : Cond.instanceMethod ({ cls := "OrphanLogs$Clerk", name := "addPage", desc := "(I)I" } : Jvm.MethodName) ∈ gT := tin2 88 rfl rfl
theorem tw2_89 : Cond.selects "OrphanLogs$Clerk" ({ cls := "OrphanLogs$Clerk", name := "addPage", desc := "(I)I" } : Jvm.MethodName) ({ cls := "OrphanLogs$Clerk", name := "addPage", desc := "(I)I" } : Jvm.MethodName) ∈ gT := tin2 89 rfl rfl
theorem tw2_90 : Cond.code ({ cls := "OrphanLogs$Clerk", name := "addPage", desc := "(I)I" } : Jvm.MethodName) prog_2_method_4_code (5 : Nat) (Option.some Jvm.ClassFile.FieldType.int) ∈ gT := tin2 90 rfl rfl
theorem tw2_92 : Cond.static ({ cls := "OrphanLogs", name := "at", desc := "([II)I" } : Jvm.MethodName) ∈ gT := tin2 92 rfl rfl
theorem tw2_93 : Cond.code ({ cls := "OrphanLogs", name := "at", desc := "([II)I" } : Jvm.MethodName) prog_1_method_30_code (2 : Nat) (Option.some Jvm.ClassFile.FieldType.int) ∈ gT := tin2 93 rfl rfl
theorem tw2_94 : Cond.constantLong "OrphanLogs$Clerk" (58 : Nat) (3 : Int64) ∈ gT := tin2 94 rfl rfl
theorem tw2_95 : Cond.constant "OrphanLogs$Clerk" (60 : Nat) (1000003 : Int32) ∈ gT := tin2 95 rfl rfl
theorem tw2_97 : Cond.static ({ cls := "OrphanLogs", name := "leftOver", desc := "(JI)I" } : Jvm.MethodName) ∈ gT := tin2 97 rfl rfl
theorem tw2_98 : Cond.code ({ cls := "OrphanLogs", name := "leftOver", desc := "(JI)I" } : Jvm.MethodName) prog_1_method_32_code (3 : Nat) (Option.some Jvm.ClassFile.FieldType.int) ∈ gT := tin2 98 rfl rfl
theorem tw2_99 : Cond.methodLink "OrphanLogs$Clerk" (65 : Nat) ({ cls := "OrphanLogs$Rests", name := "copyRow", desc := "(LOrphanLogs$Rests;II)V" } : Jvm.MethodName) ∈ gT := tin2 99 rfl rfl
theorem tw2_100 : Cond.instanceMethod ({ cls := "OrphanLogs$Rests", name := "copyRow", desc := "(LOrphanLogs$Rests;II)V" } : Jvm.MethodName) ∈ gT := tin2 100 rfl rfl
theorem tw2_101 : Cond.selects "OrphanLogs$Rests" ({ cls := "OrphanLogs$Rests", name := "copyRow", desc := "(LOrphanLogs$Rests;II)V" } : Jvm.MethodName) ({ cls := "OrphanLogs$Rests", name := "copyRow", desc := "(LOrphanLogs$Rests;II)V" } : Jvm.MethodName) ∈ gT := tin2 101 rfl rfl
theorem tw2_102 : Cond.code ({ cls := "OrphanLogs$Rests", name := "copyRow", desc := "(LOrphanLogs$Rests;II)V" } : Jvm.MethodName) prog_7_method_5_code (5 : Nat) (Option.none : Option Jvm.ClassFile.FieldType) ∈ gT := tin2 102 rfl rfl
theorem tw2_103 : Cond.methodLink "OrphanLogs$Rests" (35 : Nat) ({ cls := "OrphanLogs$Rests", name := "lifeOf", desc := "(II)I" } : Jvm.MethodName) ∈ gT := tin2 103 rfl rfl
theorem tw2_104 : Cond.instanceMethod ({ cls := "OrphanLogs$Rests", name := "lifeOf", desc := "(II)I" } : Jvm.MethodName) ∈ gT := tin2 104 rfl rfl
theorem tw2_105 : Cond.selects "OrphanLogs$Rests" ({ cls := "OrphanLogs$Rests", name := "lifeOf", desc := "(II)I" } : Jvm.MethodName) ({ cls := "OrphanLogs$Rests", name := "lifeOf", desc := "(II)I" } : Jvm.MethodName) ∈ gT := tin2 105 rfl rfl
theorem tw2_106 : Cond.code ({ cls := "OrphanLogs$Rests", name := "lifeOf", desc := "(II)I" } : Jvm.MethodName) prog_7_method_2_code (3 : Nat) (Option.some Jvm.ClassFile.FieldType.int) ∈ gT := tin2 106 rfl rfl
theorem tw2_108 : Cond.methodLink "OrphanLogs$Rests" (38 : Nat) ({ cls := "OrphanLogs$Rests", name := "pageOf", desc := "(II)I" } : Jvm.MethodName) ∈ gT := tin2 108 rfl rfl
theorem tw2_109 : Cond.instanceMethod ({ cls := "OrphanLogs$Rests", name := "pageOf", desc := "(II)I" } : Jvm.MethodName) ∈ gT := tin2 109 rfl rfl
theorem tw2_110 : Cond.selects "OrphanLogs$Rests" ({ cls := "OrphanLogs$Rests", name := "pageOf", desc := "(II)I" } : Jvm.MethodName) ({ cls := "OrphanLogs$Rests", name := "pageOf", desc := "(II)I" } : Jvm.MethodName) ∈ gT := tin2 110 rfl rfl
theorem tw2_111 : Cond.code ({ cls := "OrphanLogs$Rests", name := "pageOf", desc := "(II)I" } : Jvm.MethodName) prog_7_method_3_code (3 : Nat) (Option.some Jvm.ClassFile.FieldType.int) ∈ gT := tin2 111 rfl rfl
theorem tw2_112 : Cond.methodLink "OrphanLogs$Rests" (41 : Nat) ({ cls := "OrphanLogs$Rests", name := "set", desc := "(IIII)V" } : Jvm.MethodName) ∈ gT := tin2 112 rfl rfl
theorem tw2_113 : Cond.methodLink "OrphanLogsLaw" (23 : Nat) ({ cls := "OrphanLogs", name := "send", desc := "(II)I" } : Jvm.MethodName) ∈ gT := tin2 113 rfl rfl
theorem tw2_114 : Cond.instanceMethod ({ cls := "OrphanLogs", name := "send", desc := "(II)I" } : Jvm.MethodName) ∈ gT := tin2 114 rfl rfl
theorem tw2_115 : Cond.selects "OrphanLogs" ({ cls := "OrphanLogs", name := "send", desc := "(II)I" } : Jvm.MethodName) ({ cls := "OrphanLogs", name := "send", desc := "(II)I" } : Jvm.MethodName) ∈ gT := tin2 115 rfl rfl
theorem tw2_116 : Cond.code ({ cls := "OrphanLogs", name := "send", desc := "(II)I" } : Jvm.MethodName) prog_1_method_4_code (4 : Nat) (Option.some Jvm.ClassFile.FieldType.int) ∈ gT := tin2 116 rfl rfl
theorem tw2_117 : Cond.methodLink "OrphanLogs" (61 : Nat) ({ cls := "OrphanLogs$Office", name := "sendLetter", desc := "(II)I" } : Jvm.MethodName) ∈ gT := tin2 117 rfl rfl
theorem tw2_118 : Cond.instanceMethod ({ cls := "OrphanLogs$Office", name := "sendLetter", desc := "(II)I" } : Jvm.MethodName) ∈ gT := tin2 118 rfl rfl
theorem tw2_119 : Cond.selects "OrphanLogs$Office" ({ cls := "OrphanLogs$Office", name := "sendLetter", desc := "(II)I" } : Jvm.MethodName) ({ cls := "OrphanLogs$Office", name := "sendLetter", desc := "(II)I" } : Jvm.MethodName) ∈ gT := tin2 119 rfl rfl
theorem tw2_120 : Cond.code ({ cls := "OrphanLogs$Office", name := "sendLetter", desc := "(II)I" } : Jvm.MethodName) prog_4_method_6_code (3 : Nat) (Option.some Jvm.ClassFile.FieldType.int) ∈ gT := tin2 120 rfl rfl
theorem tw2_121 : Cond.methodLink "OrphanLogs$Office" (69 : Nat) ({ cls := "OrphanLogs$Post", name := "add", desc := "(LOrphanLogs$Clerk;I)V" } : Jvm.MethodName) ∈ gT := tin2 121 rfl rfl
theorem tw2_122 : Cond.instanceMethod ({ cls := "OrphanLogs$Post", name := "add", desc := "(LOrphanLogs$Clerk;I)V" } : Jvm.MethodName) ∈ gT := tin2 122 rfl rfl
theorem tw2_123 : Cond.selects "OrphanLogs$Post" ({ cls := "OrphanLogs$Post", name := "add", desc := "(LOrphanLogs$Clerk;I)V" } : Jvm.MethodName) ({ cls := "OrphanLogs$Post", name := "add", desc := "(LOrphanLogs$Clerk;I)V" } : Jvm.MethodName) ∈ gT := tin2 123 rfl rfl
theorem tw2_124 : Cond.code ({ cls := "OrphanLogs$Post", name := "add", desc := "(LOrphanLogs$Clerk;I)V" } : Jvm.MethodName) prog_5_method_2_code (3 : Nat) (Option.none : Option Jvm.ClassFile.FieldType) ∈ gT := tin2 124 rfl rfl
theorem tw2_126 : Cond.methodLink "OrphanLogs$Post" (43 : Nat) ({ cls := "OrphanLogs$Clerk", name := "sumNow", desc := "()I" } : Jvm.MethodName) ∈ gT := tin2 126 rfl rfl
theorem tw2_127 : Cond.instanceMethod ({ cls := "OrphanLogs$Clerk", name := "sumNow", desc := "()I" } : Jvm.MethodName) ∈ gT := tin2 127 rfl rfl
theorem tw2_128 : Cond.selects "OrphanLogs$Clerk" ({ cls := "OrphanLogs$Clerk", name := "sumNow", desc := "()I" } : Jvm.MethodName) ({ cls := "OrphanLogs$Clerk", name := "sumNow", desc := "()I" } : Jvm.MethodName) ∈ gT := tin2 128 rfl rfl
theorem tw2_129 : Cond.code ({ cls := "OrphanLogs$Clerk", name := "sumNow", desc := "()I" } : Jvm.MethodName) prog_2_method_11_code (1 : Nat) (Option.some Jvm.ClassFile.FieldType.int) ∈ gT := tin2 129 rfl rfl
theorem tw2_130 : Cond.methodLink "OrphanLogs$Post" (51 : Nat) ({ cls := "OrphanLogs$Rests", name := "copyRow", desc := "(LOrphanLogs$Rests;II)V" } : Jvm.MethodName) ∈ gT := tin2 130 rfl rfl
theorem tw2_131 : Cond.methodLink "OrphanLogsLaw" (27 : Nat) ({ cls := "OrphanLogs", name := "get", desc := "(II)I" } : Jvm.MethodName) ∈ gT := tin2 131 rfl rfl
theorem tw2_132 : Cond.instanceMethod ({ cls := "OrphanLogs", name := "get", desc := "(II)I" } : Jvm.MethodName) ∈ gT := tin2 132 rfl rfl
theorem tw2_133 : Cond.selects "OrphanLogs" ({ cls := "OrphanLogs", name := "get", desc := "(II)I" } : Jvm.MethodName) ({ cls := "OrphanLogs", name := "get", desc := "(II)I" } : Jvm.MethodName) ∈ gT := tin2 133 rfl rfl
theorem tw2_134 : Cond.code ({ cls := "OrphanLogs", name := "get", desc := "(II)I" } : Jvm.MethodName) prog_1_method_5_code (4 : Nat) (Option.some Jvm.ClassFile.FieldType.int) ∈ gT := tin2 134 rfl rfl
theorem tw2_135 : Cond.methodLink "OrphanLogs" (64 : Nat) ({ cls := "OrphanLogs$Office", name := "takeLetter", desc := "(II)I" } : Jvm.MethodName) ∈ gT := tin2 135 rfl rfl
theorem tw2_136 : Cond.instanceMethod ({ cls := "OrphanLogs$Office", name := "takeLetter", desc := "(II)I" } : Jvm.MethodName) ∈ gT := tin2 136 rfl rfl
theorem tw2_137 : Cond.selects "OrphanLogs$Office" ({ cls := "OrphanLogs$Office", name := "takeLetter", desc := "(II)I" } : Jvm.MethodName) ({ cls := "OrphanLogs$Office", name := "takeLetter", desc := "(II)I" } : Jvm.MethodName) ∈ gT := tin2 137 rfl rfl
theorem tw2_138 : Cond.code ({ cls := "OrphanLogs$Office", name := "takeLetter", desc := "(II)I" } : Jvm.MethodName) prog_4_method_7_code (6 : Nat) (Option.some Jvm.ClassFile.FieldType.int) ∈ gT := tin2 138 rfl rfl
theorem tw2_139 : Cond.methodLink "OrphanLogs$Office" (73 : Nat) ({ cls := "OrphanLogs$Post", name := "find", desc := "(II)I" } : Jvm.MethodName) ∈ gT := tin2 139 rfl rfl
theorem tw2_140 : Cond.instanceMethod ({ cls := "OrphanLogs$Post", name := "find", desc := "(II)I" } : Jvm.MethodName) ∈ gT := tin2 140 rfl rfl
theorem tw2_141 : Cond.selects "OrphanLogs$Post" ({ cls := "OrphanLogs$Post", name := "find", desc := "(II)I" } : Jvm.MethodName) ({ cls := "OrphanLogs$Post", name := "find", desc := "(II)I" } : Jvm.MethodName) ∈ gT := tin2 141 rfl rfl
theorem tw2_142 : Cond.code ({ cls := "OrphanLogs$Post", name := "find", desc := "(II)I" } : Jvm.MethodName) prog_5_method_4_code (5 : Nat) (Option.some Jvm.ClassFile.FieldType.int) ∈ gT := tin2 142 rfl rfl
theorem tw2_144 : Cond.methodLink "OrphanLogs$Office" (77 : Nat) ({ cls := "OrphanLogs$Office", name := "isDeadLetter", desc := "(I)Z" } : Jvm.MethodName) ∈ gT := tin2 144 rfl rfl
theorem tw2_146 : Cond.instanceMethod ({ cls := "OrphanLogs$Office", name := "isDeadLetter", desc := "(I)Z" } : Jvm.MethodName) ∈ gT := tin2 146 rfl rfl
theorem tw2_147 : Cond.code ({ cls := "OrphanLogs$Office", name := "isDeadLetter", desc := "(I)Z" } : Jvm.MethodName) prog_4_method_8_code (3 : Nat) (Option.some Jvm.ClassFile.FieldType.boolean) ∈ gT := tin2 147 rfl rfl
theorem tw2_148 : Cond.methodLink "OrphanLogs$Office" (100 : Nat) ({ cls := "OrphanLogs$Rests", name := "lifeOf", desc := "(II)I" } : Jvm.MethodName) ∈ gT := tin2 148 rfl rfl
theorem tw2_149 : Cond.methodLink "OrphanLogs$Office" (105 : Nat) ({ cls := "OrphanLogs$Rests", name := "pageOf", desc := "(II)I" } : Jvm.MethodName) ∈ gT := tin2 149 rfl rfl
theorem tw2_150 : Cond.methodLink "OrphanLogs$Office" (108 : Nat) ({ cls := "OrphanLogs$Clerk", name := "isDeadRest", desc := "(II)Z" } : Jvm.MethodName) ∈ gT := tin2 150 rfl rfl
theorem tw2_151 : Cond.instanceMethod ({ cls := "OrphanLogs$Clerk", name := "isDeadRest", desc := "(II)Z" } : Jvm.MethodName) ∈ gT := tin2 151 rfl rfl
theorem tw2_152 : Cond.selects "OrphanLogs$Clerk" ({ cls := "OrphanLogs$Clerk", name := "isDeadRest", desc := "(II)Z" } : Jvm.MethodName) ({ cls := "OrphanLogs$Clerk", name := "isDeadRest", desc := "(II)Z" } : Jvm.MethodName) ∈ gT := tin2 152 rfl rfl
theorem tw2_153 : Cond.code ({ cls := "OrphanLogs$Clerk", name := "isDeadRest", desc := "(II)Z" } : Jvm.MethodName) prog_2_method_9_code (4 : Nat) (Option.some Jvm.ClassFile.FieldType.boolean) ∈ gT := tin2 153 rfl rfl
theorem tw2_154 : Cond.methodLink "OrphanLogs$Clerk" (84 : Nat) ({ cls := "java/lang/Math", name := "max", desc := "(II)I" } : Jvm.MethodName) ∈ gT := tin2 154 rfl rfl
theorem tw2_156 : Cond.methodLink "OrphanLogs$Office" (93 : Nat) ({ cls := "OrphanLogs$Clerk", name := "restAlsoOn", desc := "(LOrphanLogs$Rests;I)V" } : Jvm.MethodName) ∈ gT := tin2 156 rfl rfl
theorem tw2_157 : Cond.instanceMethod ({ cls := "OrphanLogs$Clerk", name := "restAlsoOn", desc := "(LOrphanLogs$Rests;I)V" } : Jvm.MethodName) ∈ gT := tin2 157 rfl rfl
theorem tw2_158 : Cond.selects "OrphanLogs$Clerk" ({ cls := "OrphanLogs$Clerk", name := "restAlsoOn", desc := "(LOrphanLogs$Rests;I)V" } : Jvm.MethodName) ({ cls := "OrphanLogs$Clerk", name := "restAlsoOn", desc := "(LOrphanLogs$Rests;I)V" } : Jvm.MethodName) ∈ gT := tin2 158 rfl rfl
theorem tw2_159 : Cond.code ({ cls := "OrphanLogs$Clerk", name := "restAlsoOn", desc := "(LOrphanLogs$Rests;I)V" } : Jvm.MethodName) prog_2_method_5_code (4 : Nat) (Option.none : Option Jvm.ClassFile.FieldType) ∈ gT := tin2 159 rfl rfl
theorem tw2_160 : Cond.methodLink "OrphanLogs$Clerk" (69 : Nat) ({ cls := "OrphanLogs$Rests", name := "lifeOf", desc := "(II)I" } : Jvm.MethodName) ∈ gT := tin2 160 rfl rfl
theorem tw2_161 : Cond.methodLink "OrphanLogs$Clerk" (73 : Nat) ({ cls := "OrphanLogs$Rests", name := "pageOf", desc := "(II)I" } : Jvm.MethodName) ∈ gT := tin2 161 rfl rfl
theorem tw2_162 : Cond.methodLink "OrphanLogs$Clerk" (76 : Nat) ({ cls := "OrphanLogs$Rests", name := "raise", desc := "(IIII)V" } : Jvm.MethodName) ∈ gT := tin2 162 rfl rfl
theorem tw2_163 : Cond.instanceMethod ({ cls := "OrphanLogs$Rests", name := "raise", desc := "(IIII)V" } : Jvm.MethodName) ∈ gT := tin2 163 rfl rfl
theorem tw2_164 : Cond.selects "OrphanLogs$Rests" ({ cls := "OrphanLogs$Rests", name := "raise", desc := "(IIII)V" } : Jvm.MethodName) ({ cls := "OrphanLogs$Rests", name := "raise", desc := "(IIII)V" } : Jvm.MethodName) ∈ gT := tin2 164 rfl rfl
theorem tw2_165 : Cond.code ({ cls := "OrphanLogs$Rests", name := "raise", desc := "(IIII)V" } : Jvm.MethodName) prog_7_method_6_code (7 : Nat) (Option.none : Option Jvm.ClassFile.FieldType) ∈ gT := tin2 165 rfl rfl
theorem tw2_166 : Cond.methodLink "OrphanLogs$Office" (97 : Nat) ({ cls := "OrphanLogs$Post", name := "remove", desc := "(I)V" } : Jvm.MethodName) ∈ gT := tin2 166 rfl rfl
theorem tw2_167 : Cond.instanceMethod ({ cls := "OrphanLogs$Post", name := "remove", desc := "(I)V" } : Jvm.MethodName) ∈ gT := tin2 167 rfl rfl
theorem tw2_168 : Cond.selects "OrphanLogs$Post" ({ cls := "OrphanLogs$Post", name := "remove", desc := "(I)V" } : Jvm.MethodName) ({ cls := "OrphanLogs$Post", name := "remove", desc := "(I)V" } : Jvm.MethodName) ∈ gT := tin2 168 rfl rfl
theorem tw2_169 : Cond.code ({ cls := "OrphanLogs$Post", name := "remove", desc := "(I)V" } : Jvm.MethodName) prog_5_method_3_code (3 : Nat) (Option.none : Option Jvm.ClassFile.FieldType) ∈ gT := tin2 169 rfl rfl
theorem tw2_170 : Cond.methodLink "OrphanLogsLaw" (31 : Nat) ({ cls := "OrphanLogs", name := "writes", desc := "(II)I" } : Jvm.MethodName) ∈ gT := tin2 170 rfl rfl
theorem tw2_171 : Cond.instanceMethod ({ cls := "OrphanLogs", name := "writes", desc := "(II)I" } : Jvm.MethodName) ∈ gT := tin2 171 rfl rfl
theorem tw2_172 : Cond.selects "OrphanLogs" ({ cls := "OrphanLogs", name := "writes", desc := "(II)I" } : Jvm.MethodName) ({ cls := "OrphanLogs", name := "writes", desc := "(II)I" } : Jvm.MethodName) ∈ gT := tin2 172 rfl rfl
theorem tw2_173 : Cond.code ({ cls := "OrphanLogs", name := "writes", desc := "(II)I" } : Jvm.MethodName) prog_1_method_6_code (4 : Nat) (Option.some Jvm.ClassFile.FieldType.int) ∈ gT := tin2 173 rfl rfl
theorem tw2_174 : Cond.methodLink "OrphanLogs" (67 : Nat) ({ cls := "OrphanLogs$Office", name := "writePages", desc := "(II)I" } : Jvm.MethodName) ∈ gT := tin2 174 rfl rfl
theorem tw2_175 : Cond.instanceMethod ({ cls := "OrphanLogs$Office", name := "writePages", desc := "(II)I" } : Jvm.MethodName) ∈ gT := tin2 175 rfl rfl
theorem tw2_176 : Cond.selects "OrphanLogs$Office" ({ cls := "OrphanLogs$Office", name := "writePages", desc := "(II)I" } : Jvm.MethodName) ({ cls := "OrphanLogs$Office", name := "writePages", desc := "(II)I" } : Jvm.MethodName) ∈ gT := tin2 176 rfl rfl
theorem tw2_177 : Cond.code ({ cls := "OrphanLogs$Office", name := "writePages", desc := "(II)I" } : Jvm.MethodName) prog_4_method_10_code (3 : Nat) (Option.some Jvm.ClassFile.FieldType.int) ∈ gT := tin2 177 rfl rfl
theorem tw2_178 : Cond.methodLink "OrphanLogs$Office" (112 : Nat) ({ cls := "OrphanLogs$Clerk", name := "writeMore", desc := "(I)I" } : Jvm.MethodName) ∈ gT := tin2 178 rfl rfl
theorem tw2_179 : Cond.instanceMethod ({ cls := "OrphanLogs$Clerk", name := "writeMore", desc := "(I)I" } : Jvm.MethodName) ∈ gT := tin2 179 rfl rfl
theorem tw2_180 : Cond.selects "OrphanLogs$Clerk" ({ cls := "OrphanLogs$Clerk", name := "writeMore", desc := "(I)I" } : Jvm.MethodName) ({ cls := "OrphanLogs$Clerk", name := "writeMore", desc := "(I)I" } : Jvm.MethodName) ∈ gT := tin2 180 rfl rfl
theorem tw2_181 : Cond.code ({ cls := "OrphanLogs$Clerk", name := "writeMore", desc := "(I)I" } : Jvm.MethodName) prog_2_method_6_code (2 : Nat) (Option.some Jvm.ClassFile.FieldType.int) ∈ gT := tin2 181 rfl rfl
theorem tw2_182 : Cond.methodLink "OrphanLogs$Clerk" (79 : Nat) ({ cls := "java/lang/Math", name := "min", desc := "(II)I" } : Jvm.MethodName) ∈ gT := tin2 182 rfl rfl
theorem tw2_183 : Cond.methodLink "OrphanLogsLaw" (35 : Nat) ({ cls := "OrphanLogs", name := "loses", desc := "(I)I" } : Jvm.MethodName) ∈ gT := tin2 183 rfl rfl
theorem tw2_184 : Cond.instanceMethod ({ cls := "OrphanLogs", name := "loses", desc := "(I)I" } : Jvm.MethodName) ∈ gT := tin2 184 rfl rfl
theorem tw2_185 : Cond.selects "OrphanLogs" ({ cls := "OrphanLogs", name := "loses", desc := "(I)I" } : Jvm.MethodName) ({ cls := "OrphanLogs", name := "loses", desc := "(I)I" } : Jvm.MethodName) ∈ gT := tin2 185 rfl rfl
theorem tw2_186 : Cond.code ({ cls := "OrphanLogs", name := "loses", desc := "(I)I" } : Jvm.MethodName) prog_1_method_7_code (2 : Nat) (Option.some Jvm.ClassFile.FieldType.int) ∈ gT := tin2 186 rfl rfl
theorem tw2_187 : Cond.methodLink "OrphanLogs" (70 : Nat) ({ cls := "OrphanLogs$Office", name := "lose", desc := "(I)I" } : Jvm.MethodName) ∈ gT := tin2 187 rfl rfl
theorem tw2_188 : Cond.instanceMethod ({ cls := "OrphanLogs$Office", name := "lose", desc := "(I)I" } : Jvm.MethodName) ∈ gT := tin2 188 rfl rfl
theorem tw2_189 : Cond.selects "OrphanLogs$Office" ({ cls := "OrphanLogs$Office", name := "lose", desc := "(I)I" } : Jvm.MethodName) ({ cls := "OrphanLogs$Office", name := "lose", desc := "(I)I" } : Jvm.MethodName) ∈ gT := tin2 189 rfl rfl
theorem tw2_190 : Cond.code ({ cls := "OrphanLogs$Office", name := "lose", desc := "(I)I" } : Jvm.MethodName) prog_4_method_11_code (3 : Nat) (Option.some Jvm.ClassFile.FieldType.int) ∈ gT := tin2 190 rfl rfl
theorem tw2_191 : Cond.methodLink "OrphanLogs$Office" (118 : Nat) ({ cls := "OrphanLogs$Loss", name := "foresee", desc := "(LOrphanLogs$Office;I)V" } : Jvm.MethodName) ∈ gT := tin2 191 rfl rfl
theorem tw2_192 : Cond.instanceMethod ({ cls := "OrphanLogs$Loss", name := "foresee", desc := "(LOrphanLogs$Office;I)V" } : Jvm.MethodName) ∈ gT := tin2 192 rfl rfl
theorem tw2_193 : Cond.selects "OrphanLogs$Loss" ({ cls := "OrphanLogs$Loss", name := "foresee", desc := "(LOrphanLogs$Office;I)V" } : Jvm.MethodName) ({ cls := "OrphanLogs$Loss", name := "foresee", desc := "(LOrphanLogs$Office;I)V" } : Jvm.MethodName) ∈ gT := tin2 193 rfl rfl
theorem tw2_194 : Cond.code ({ cls := "OrphanLogs$Loss", name := "foresee", desc := "(LOrphanLogs$Office;I)V" } : Jvm.MethodName) prog_3_method_2_code (6 : Nat) (Option.none : Option Jvm.ClassFile.FieldType) ∈ gT := tin2 194 rfl rfl
theorem tw2_195 : Cond.methodLink "OrphanLogs$Loss" (28 : Nat) ({ cls := "OrphanLogs$Office", name := "clerk", desc := "(I)LOrphanLogs$Clerk;" } : Jvm.MethodName) ∈ gT := tin2 195 rfl rfl
theorem tw2_198 : Cond.methodLink "OrphanLogs$Loss" (48 : Nat) ({ cls := "OrphanLogs$Loss", name := "firstDead", desc := "(LOrphanLogs$Clerk;I)I" } : Jvm.MethodName) ∈ gT := tin2 198 rfl rfl
theorem tw2_200 : Cond.instanceMethod ({ cls := "OrphanLogs$Loss", name := "firstDead", desc := "(LOrphanLogs$Clerk;I)I" } : Jvm.MethodName) ∈ gT := tin2 200 rfl rfl
theorem tw2_201 : Cond.code ({ cls := "OrphanLogs$Loss", name := "firstDead", desc := "(LOrphanLogs$Clerk;I)I" } : Jvm.MethodName) prog_3_method_3_code (5 : Nat) (Option.some Jvm.ClassFile.FieldType.int) ∈ gT := tin2 201 rfl rfl
theorem tw2_202 : Cond.methodLink "OrphanLogs$Loss" (59 : Nat) ({ cls := "OrphanLogs$Rests", name := "pageOf", desc := "(II)I" } : Jvm.MethodName) ∈ gT := tin2 202 rfl rfl
theorem tw2_203 : Cond.methodLink "OrphanLogs$Office" (122 : Nat) ({ cls := "OrphanLogs$Loss", name := "fells", desc := "(I)Z" } : Jvm.MethodName) ∈ gT := tin2 203 rfl rfl
theorem tw2_204 : Cond.instanceMethod ({ cls := "OrphanLogs$Loss", name := "fells", desc := "(I)Z" } : Jvm.MethodName) ∈ gT := tin2 204 rfl rfl
theorem tw2_205 : Cond.selects "OrphanLogs$Loss" ({ cls := "OrphanLogs$Loss", name := "fells", desc := "(I)Z" } : Jvm.MethodName) ({ cls := "OrphanLogs$Loss", name := "fells", desc := "(I)Z" } : Jvm.MethodName) ∈ gT := tin2 205 rfl rfl
theorem tw2_206 : Cond.code ({ cls := "OrphanLogs$Loss", name := "fells", desc := "(I)Z" } : Jvm.MethodName) prog_3_method_5_code (2 : Nat) (Option.some Jvm.ClassFile.FieldType.boolean) ∈ gT := tin2 206 rfl rfl
theorem tw2_207 : Cond.methodLink "OrphanLogs$Office" (125 : Nat) ({ cls := "OrphanLogs$Loss", name := "keptBy", desc := "(I)I" } : Jvm.MethodName) ∈ gT := tin2 207 rfl rfl
theorem tw2_208 : Cond.instanceMethod ({ cls := "OrphanLogs$Loss", name := "keptBy", desc := "(I)I" } : Jvm.MethodName) ∈ gT := tin2 208 rfl rfl
theorem tw2_209 : Cond.selects "OrphanLogs$Loss" ({ cls := "OrphanLogs$Loss", name := "keptBy", desc := "(I)I" } : Jvm.MethodName) ({ cls := "OrphanLogs$Loss", name := "keptBy", desc := "(I)I" } : Jvm.MethodName) ∈ gT := tin2 209 rfl rfl
theorem tw2_210 : Cond.code ({ cls := "OrphanLogs$Loss", name := "keptBy", desc := "(I)I" } : Jvm.MethodName) prog_3_method_4_code (2 : Nat) (Option.some Jvm.ClassFile.FieldType.int) ∈ gT := tin2 210 rfl rfl
theorem tw2_211 : Cond.methodLink "OrphanLogs$Office" (128 : Nat) ({ cls := "OrphanLogs$Clerk", name := "fallBack", desc := "(I)V" } : Jvm.MethodName) ∈ gT := tin2 211 rfl rfl
theorem tw2_212 : Cond.instanceMethod ({ cls := "OrphanLogs$Clerk", name := "fallBack", desc := "(I)V" } : Jvm.MethodName) ∈ gT := tin2 212 rfl rfl
theorem tw2_213 : Cond.selects "OrphanLogs$Clerk" ({ cls := "OrphanLogs$Clerk", name := "fallBack", desc := "(I)V" } : Jvm.MethodName) ({ cls := "OrphanLogs$Clerk", name := "fallBack", desc := "(I)V" } : Jvm.MethodName) ∈ gT := tin2 213 rfl rfl
theorem tw2_214 : Cond.code ({ cls := "OrphanLogs$Clerk", name := "fallBack", desc := "(I)V" } : Jvm.MethodName) prog_2_method_7_code (2 : Nat) (Option.none : Option Jvm.ClassFile.FieldType) ∈ gT := tin2 214 rfl rfl
theorem tw2_215 : Cond.methodLink "OrphanLogs$Office" (131 : Nat) ({ cls := "OrphanLogs$Sayings", name := "loseBehind", desc := "(II)V" } : Jvm.MethodName) ∈ gT := tin2 215 rfl rfl
theorem tw2_216 : Cond.instanceMethod ({ cls := "OrphanLogs$Sayings", name := "loseBehind", desc := "(II)V" } : Jvm.MethodName) ∈ gT := tin2 216 rfl rfl
theorem tw2_217 : Cond.selects "OrphanLogs$Sayings" ({ cls := "OrphanLogs$Sayings", name := "loseBehind", desc := "(II)V" } : Jvm.MethodName) ({ cls := "OrphanLogs$Sayings", name := "loseBehind", desc := "(II)V" } : Jvm.MethodName) ∈ gT := tin2 217 rfl rfl
theorem tw2_218 : Cond.code ({ cls := "OrphanLogs$Sayings", name := "loseBehind", desc := "(II)V" } : Jvm.MethodName) prog_8_method_8_code (4 : Nat) (Option.none : Option Jvm.ClassFile.FieldType) ∈ gT := tin2 218 rfl rfl
theorem tw2_219 : Cond.methodLink "OrphanLogs$Sayings" (43 : Nat) ({ cls := "OrphanLogs$Sayings", name := "isHeldBehind", desc := "(III)Z" } : Jvm.MethodName) ∈ gT := tin2 219 rfl rfl
theorem tw2_221 : Cond.instanceMethod ({ cls := "OrphanLogs$Sayings", name := "isHeldBehind", desc := "(III)Z" } : Jvm.MethodName) ∈ gT := tin2 221 rfl rfl
theorem tw2_222 : Cond.code ({ cls := "OrphanLogs$Sayings", name := "isHeldBehind", desc := "(III)Z" } : Jvm.MethodName) prog_8_method_9_code (4 : Nat) (Option.some Jvm.ClassFile.FieldType.boolean) ∈ gT := tin2 222 rfl rfl
theorem tw2_223 : Cond.methodLink "OrphanLogs$Sayings" (39 : Nat) ({ cls := "OrphanLogs$Sayings", name := "isHeld", desc := "(I)Z" } : Jvm.MethodName) ∈ gT := tin2 223 rfl rfl
theorem tw2_224 : Cond.instanceMethod ({ cls := "OrphanLogs$Sayings", name := "isHeld", desc := "(I)Z" } : Jvm.MethodName) ∈ gT := tin2 224 rfl rfl
theorem tw2_225 : Cond.selects "OrphanLogs$Sayings" ({ cls := "OrphanLogs$Sayings", name := "isHeld", desc := "(I)Z" } : Jvm.MethodName) ({ cls := "OrphanLogs$Sayings", name := "isHeld", desc := "(I)Z" } : Jvm.MethodName) ∈ gT := tin2 225 rfl rfl
theorem tw2_226 : Cond.code ({ cls := "OrphanLogs$Sayings", name := "isHeld", desc := "(I)Z" } : Jvm.MethodName) prog_8_method_4_code (2 : Nat) (Option.some Jvm.ClassFile.FieldType.boolean) ∈ gT := tin2 226 rfl rfl
theorem tw2_229 : Cond.methodLink "OrphanLogs$Office" (135 : Nat) ({ cls := "OrphanLogs$Loss", name := "pagesGone", desc := "()I" } : Jvm.MethodName) ∈ gT := tin2 229 rfl rfl
theorem tw2_230 : Cond.instanceMethod ({ cls := "OrphanLogs$Loss", name := "pagesGone", desc := "()I" } : Jvm.MethodName) ∈ gT := tin2 230 rfl rfl
theorem tw2_231 : Cond.selects "OrphanLogs$Loss" ({ cls := "OrphanLogs$Loss", name := "pagesGone", desc := "()I" } : Jvm.MethodName) ({ cls := "OrphanLogs$Loss", name := "pagesGone", desc := "()I" } : Jvm.MethodName) ∈ gT := tin2 231 rfl rfl
theorem tw2_232 : Cond.code ({ cls := "OrphanLogs$Loss", name := "pagesGone", desc := "()I" } : Jvm.MethodName) prog_3_method_6_code (3 : Nat) (Option.some Jvm.ClassFile.FieldType.int) ∈ gT := tin2 232 rfl rfl
theorem tw2_233 : Cond.methodLink "OrphanLogsLaw" (39 : Nat) ({ cls := "OrphanLogs", name := "draw", desc := "(II)I" } : Jvm.MethodName) ∈ gT := tin2 233 rfl rfl
theorem tw2_234 : Cond.instanceMethod ({ cls := "OrphanLogs", name := "draw", desc := "(II)I" } : Jvm.MethodName) ∈ gT := tin2 234 rfl rfl
theorem tw2_235 : Cond.selects "OrphanLogs" ({ cls := "OrphanLogs", name := "draw", desc := "(II)I" } : Jvm.MethodName) ({ cls := "OrphanLogs", name := "draw", desc := "(II)I" } : Jvm.MethodName) ∈ gT := tin2 235 rfl rfl
theorem tw2_236 : Cond.code ({ cls := "OrphanLogs", name := "draw", desc := "(II)I" } : Jvm.MethodName) prog_1_method_8_code (8 : Nat) (Option.some Jvm.ClassFile.FieldType.int) ∈ gT := tin2 236 rfl rfl
theorem tw2_237 : Cond.constant "OrphanLogs" (73 : Nat) (999999 : Int32) ∈ gT := tin2 237 rfl rfl
theorem tw2_238 : Cond.constantLong "OrphanLogs" (74 : Nat) (1103515245 : Int64) ∈ gT := tin2 238 rfl rfl
theorem tw2_239 : Cond.constantLong "OrphanLogs" (76 : Nat) (12345 : Int64) ∈ gT := tin2 239 rfl rfl
theorem tw3_0 : Cond.constantLong "OrphanLogs" (78 : Nat) (2147483648 : Int64) ∈ gT := tin3 0 rfl rfl
theorem tw3_1 : Cond.methodLink "OrphanLogs" (80 : Nat) ({ cls := "OrphanLogs$Office", name := "doDrawn", desc := "(J)I" } : Jvm.MethodName) ∈ gT := tin3 1 rfl rfl
theorem tw3_2 : Cond.instanceMethod ({ cls := "OrphanLogs$Office", name := "doDrawn", desc := "(J)I" } : Jvm.MethodName) ∈ gT := tin3 2 rfl rfl
theorem tw3_3 : Cond.selects "OrphanLogs$Office" ({ cls := "OrphanLogs$Office", name := "doDrawn", desc := "(J)I" } : Jvm.MethodName) ({ cls := "OrphanLogs$Office", name := "doDrawn", desc := "(J)I" } : Jvm.MethodName) ∈ gT := tin3 3 rfl rfl
theorem tw3_4 : Cond.code ({ cls := "OrphanLogs$Office", name := "doDrawn", desc := "(J)I" } : Jvm.MethodName) prog_4_method_26_code (4 : Nat) (Option.some Jvm.ClassFile.FieldType.int) ∈ gT := tin3 4 rfl rfl
theorem tw3_5 : Cond.constantLong "OrphanLogs$Office" (220 : Nat) (65536 : Int64) ∈ gT := tin3 5 rfl rfl
theorem tw3_7 : Cond.constantLong "OrphanLogs$Office" (226 : Nat) (1024 : Int64) ∈ gT := tin3 7 rfl rfl
theorem tw3_8 : Cond.constantLong "OrphanLogs$Office" (228 : Nat) (32768 : Int64) ∈ gT := tin3 8 rfl rfl
theorem tw3_9 : Cond.methodLink "OrphanLogs$Office" (230 : Nat) ({ cls := "OrphanLogs$Office", name := "addWork", desc := "(II)I" } : Jvm.MethodName) ∈ gT := tin3 9 rfl rfl
theorem tw3_10 : Cond.methodLink "OrphanLogs$Office" (233 : Nat) ({ cls := "OrphanLogs$Office", name := "sendLetter", desc := "(II)I" } : Jvm.MethodName) ∈ gT := tin3 10 rfl rfl
theorem tw3_11 : Cond.methodLink "OrphanLogs$Office" (236 : Nat) ({ cls := "OrphanLogs$Office", name := "takeLetter", desc := "(II)I" } : Jvm.MethodName) ∈ gT := tin3 11 rfl rfl
theorem tw3_12 : Cond.methodLink "OrphanLogs$Office" (239 : Nat) ({ cls := "OrphanLogs$Office", name := "writePages", desc := "(II)I" } : Jvm.MethodName) ∈ gT := tin3 12 rfl rfl
theorem tw3_13 : Cond.methodLink "OrphanLogs$Office" (242 : Nat) ({ cls := "OrphanLogs$Office", name := "addSaying", desc := "(I)I" } : Jvm.MethodName) ∈ gT := tin3 13 rfl rfl
theorem tw3_14 : Cond.instanceMethod ({ cls := "OrphanLogs$Office", name := "addSaying", desc := "(I)I" } : Jvm.MethodName) ∈ gT := tin3 14 rfl rfl
theorem tw3_15 : Cond.selects "OrphanLogs$Office" ({ cls := "OrphanLogs$Office", name := "addSaying", desc := "(I)I" } : Jvm.MethodName) ({ cls := "OrphanLogs$Office", name := "addSaying", desc := "(I)I" } : Jvm.MethodName) ∈ gT := tin3 15 rfl rfl
theorem tw3_16 : Cond.code ({ cls := "OrphanLogs$Office", name := "addSaying", desc := "(I)I" } : Jvm.MethodName) prog_4_method_18_code (2 : Nat) (Option.some Jvm.ClassFile.FieldType.int) ∈ gT := tin3 16 rfl rfl
theorem tw3_17 : Cond.methodLink "OrphanLogs$Office" (173 : Nat) ({ cls := "OrphanLogs$Sayings", name := "add", desc := "(II)V" } : Jvm.MethodName) ∈ gT := tin3 17 rfl rfl
theorem tw3_18 : Cond.instanceMethod ({ cls := "OrphanLogs$Sayings", name := "add", desc := "(II)V" } : Jvm.MethodName) ∈ gT := tin3 18 rfl rfl
theorem tw3_19 : Cond.selects "OrphanLogs$Sayings" ({ cls := "OrphanLogs$Sayings", name := "add", desc := "(II)V" } : Jvm.MethodName) ({ cls := "OrphanLogs$Sayings", name := "add", desc := "(II)V" } : Jvm.MethodName) ∈ gT := tin3 19 rfl rfl
theorem tw3_20 : Cond.code ({ cls := "OrphanLogs$Sayings", name := "add", desc := "(II)V" } : Jvm.MethodName) prog_8_method_3_code (3 : Nat) (Option.none : Option Jvm.ClassFile.FieldType) ∈ gT := tin3 20 rfl rfl
theorem tw3_21 : Cond.methodLink "OrphanLogs$Office" (175 : Nat) ({ cls := "OrphanLogs$Sayings", name := "countHeld", desc := "()I" } : Jvm.MethodName) ∈ gT := tin3 21 rfl rfl
theorem tw3_22 : Cond.instanceMethod ({ cls := "OrphanLogs$Sayings", name := "countHeld", desc := "()I" } : Jvm.MethodName) ∈ gT := tin3 22 rfl rfl
theorem tw3_23 : Cond.selects "OrphanLogs$Sayings" ({ cls := "OrphanLogs$Sayings", name := "countHeld", desc := "()I" } : Jvm.MethodName) ({ cls := "OrphanLogs$Sayings", name := "countHeld", desc := "()I" } : Jvm.MethodName) ∈ gT := tin3 23 rfl rfl
theorem tw3_24 : Cond.code ({ cls := "OrphanLogs$Sayings", name := "countHeld", desc := "()I" } : Jvm.MethodName) prog_8_method_5_code (3 : Nat) (Option.some Jvm.ClassFile.FieldType.int) ∈ gT := tin3 24 rfl rfl
theorem tw3_25 : Cond.methodLink "OrphanLogs" (84 : Nat) ({ cls := "OrphanLogs", name := "isDone", desc := "(I)Z" } : Jvm.MethodName) ∈ gT := tin3 25 rfl rfl
theorem tw3_26 : Cond.static ({ cls := "OrphanLogs", name := "isDone", desc := "(I)Z" } : Jvm.MethodName) ∈ gT := tin3 26 rfl rfl
theorem tw3_27 : Cond.code ({ cls := "OrphanLogs", name := "isDone", desc := "(I)Z" } : Jvm.MethodName) prog_1_method_29_code (1 : Nat) (Option.some Jvm.ClassFile.FieldType.boolean) ∈ gT := tin3 27 rfl rfl
theorem tw3_28 : Cond.methodLink "OrphanLogsLaw" (43 : Nat) ({ cls := "OrphanLogs", name := "of", desc := "(II)I" } : Jvm.MethodName) ∈ gT := tin3 28 rfl rfl
theorem tw3_29 : Cond.instanceMethod ({ cls := "OrphanLogs", name := "of", desc := "(II)I" } : Jvm.MethodName) ∈ gT := tin3 29 rfl rfl
theorem tw3_30 : Cond.selects "OrphanLogs" ({ cls := "OrphanLogs", name := "of", desc := "(II)I" } : Jvm.MethodName) ({ cls := "OrphanLogs", name := "of", desc := "(II)I" } : Jvm.MethodName) ∈ gT := tin3 30 rfl rfl
theorem tw3_31 : Cond.code ({ cls := "OrphanLogs", name := "of", desc := "(II)I" } : Jvm.MethodName) prog_1_method_9_code (4 : Nat) (Option.some Jvm.ClassFile.FieldType.int) ∈ gT := tin3 31 rfl rfl
theorem tw3_32 : Cond.methodLink "OrphanLogs" (87 : Nat) ({ cls := "OrphanLogs$Office", name := "tellClerk", desc := "(II)I" } : Jvm.MethodName) ∈ gT := tin3 32 rfl rfl
theorem tw3_33 : Cond.instanceMethod ({ cls := "OrphanLogs$Office", name := "tellClerk", desc := "(II)I" } : Jvm.MethodName) ∈ gT := tin3 33 rfl rfl
theorem tw3_34 : Cond.selects "OrphanLogs$Office" ({ cls := "OrphanLogs$Office", name := "tellClerk", desc := "(II)I" } : Jvm.MethodName) ({ cls := "OrphanLogs$Office", name := "tellClerk", desc := "(II)I" } : Jvm.MethodName) ∈ gT := tin3 34 rfl rfl
theorem tw3_35 : Cond.code ({ cls := "OrphanLogs$Office", name := "tellClerk", desc := "(II)I" } : Jvm.MethodName) prog_4_method_22_code (4 : Nat) (Option.some Jvm.ClassFile.FieldType.int) ∈ gT := tin3 35 rfl rfl
theorem tw3_36 : Cond.methodLink "OrphanLogs$Office" (161 : Nat) ({ cls := "OrphanLogs$Office", name := "firmPage", desc := "(I)I" } : Jvm.MethodName) ∈ gT := tin3 36 rfl rfl
theorem tw3_38 : Cond.instanceMethod ({ cls := "OrphanLogs$Office", name := "firmPage", desc := "(I)I" } : Jvm.MethodName) ∈ gT := tin3 38 rfl rfl
theorem tw3_39 : Cond.code ({ cls := "OrphanLogs$Office", name := "firmPage", desc := "(I)I" } : Jvm.MethodName) prog_4_method_15_code (3 : Nat) (Option.some Jvm.ClassFile.FieldType.int) ∈ gT := tin3 39 rfl rfl
theorem tw3_40 : Cond.methodLink "OrphanLogs$Office" (155 : Nat) ({ cls := "OrphanLogs$Office", name := "isWrittenBelow", desc := "(II)Z" } : Jvm.MethodName) ∈ gT := tin3 40 rfl rfl
theorem tw3_42 : Cond.instanceMethod ({ cls := "OrphanLogs$Office", name := "isWrittenBelow", desc := "(II)Z" } : Jvm.MethodName) ∈ gT := tin3 42 rfl rfl
theorem tw3_43 : Cond.code ({ cls := "OrphanLogs$Office", name := "isWrittenBelow", desc := "(II)Z" } : Jvm.MethodName) prog_4_method_14_code (4 : Nat) (Option.some Jvm.ClassFile.FieldType.boolean) ∈ gT := tin3 43 rfl rfl
theorem tw3_44 : Cond.methodLink "OrphanLogs$Office" (198 : Nat) ({ cls := "OrphanLogs$Clerk", name := "sumNow", desc := "()I" } : Jvm.MethodName) ∈ gT := tin3 44 rfl rfl
theorem tw3_45 : Cond.methodLink "OrphanLogs$Office" (201 : Nat) ({ cls := "OrphanLogs$Post", name := "countTo", desc := "(I)I" } : Jvm.MethodName) ∈ gT := tin3 45 rfl rfl
theorem tw3_46 : Cond.instanceMethod ({ cls := "OrphanLogs$Post", name := "countTo", desc := "(I)I" } : Jvm.MethodName) ∈ gT := tin3 46 rfl rfl
theorem tw3_47 : Cond.selects "OrphanLogs$Post" ({ cls := "OrphanLogs$Post", name := "countTo", desc := "(I)I" } : Jvm.MethodName) ({ cls := "OrphanLogs$Post", name := "countTo", desc := "(I)I" } : Jvm.MethodName) ∈ gT := tin3 47 rfl rfl
theorem tw3_48 : Cond.code ({ cls := "OrphanLogs$Post", name := "countTo", desc := "(I)I" } : Jvm.MethodName) prog_5_method_5_code (4 : Nat) (Option.some Jvm.ClassFile.FieldType.int) ∈ gT := tin3 48 rfl rfl
theorem tw3_49 : Cond.methodLink "OrphanLogs$Office" (204 : Nat) ({ cls := "OrphanLogs$Sayings", name := "countHeldBy", desc := "(I)I" } : Jvm.MethodName) ∈ gT := tin3 49 rfl rfl
theorem tw3_50 : Cond.instanceMethod ({ cls := "OrphanLogs$Sayings", name := "countHeldBy", desc := "(I)I" } : Jvm.MethodName) ∈ gT := tin3 50 rfl rfl
theorem tw3_51 : Cond.selects "OrphanLogs$Sayings" ({ cls := "OrphanLogs$Sayings", name := "countHeldBy", desc := "(I)I" } : Jvm.MethodName) ({ cls := "OrphanLogs$Sayings", name := "countHeldBy", desc := "(I)I" } : Jvm.MethodName) ∈ gT := tin3 51 rfl rfl
theorem tw3_52 : Cond.code ({ cls := "OrphanLogs$Sayings", name := "countHeldBy", desc := "(I)I" } : Jvm.MethodName) prog_8_method_6_code (4 : Nat) (Option.some Jvm.ClassFile.FieldType.int) ∈ gT := tin3 52 rfl rfl
theorem tw3_53 : Cond.methodLink "OrphanLogsLaw" (47 : Nat) ({ cls := "OrphanLogs", name := "page", desc := "(IIII)I" } : Jvm.MethodName) ∈ gT := tin3 53 rfl rfl
theorem tw3_54 : Cond.instanceMethod ({ cls := "OrphanLogs", name := "page", desc := "(IIII)I" } : Jvm.MethodName) ∈ gT := tin3 54 rfl rfl
theorem tw3_55 : Cond.selects "OrphanLogs" ({ cls := "OrphanLogs", name := "page", desc := "(IIII)I" } : Jvm.MethodName) ({ cls := "OrphanLogs", name := "page", desc := "(IIII)I" } : Jvm.MethodName) ∈ gT := tin3 55 rfl rfl
theorem tw3_56 : Cond.code ({ cls := "OrphanLogs", name := "page", desc := "(IIII)I" } : Jvm.MethodName) prog_1_method_10_code (6 : Nat) (Option.some Jvm.ClassFile.FieldType.int) ∈ gT := tin3 56 rfl rfl
theorem tw3_57 : Cond.methodLink "OrphanLogs" (90 : Nat) ({ cls := "OrphanLogs$Office", name := "tellPage", desc := "(IIII)I" } : Jvm.MethodName) ∈ gT := tin3 57 rfl rfl
theorem tw3_58 : Cond.instanceMethod ({ cls := "OrphanLogs$Office", name := "tellPage", desc := "(IIII)I" } : Jvm.MethodName) ∈ gT := tin3 58 rfl rfl
theorem tw3_59 : Cond.selects "OrphanLogs$Office" ({ cls := "OrphanLogs$Office", name := "tellPage", desc := "(IIII)I" } : Jvm.MethodName) ({ cls := "OrphanLogs$Office", name := "tellPage", desc := "(IIII)I" } : Jvm.MethodName) ∈ gT := tin3 59 rfl rfl
theorem tw3_60 : Cond.code ({ cls := "OrphanLogs$Office", name := "tellPage", desc := "(IIII)I" } : Jvm.MethodName) prog_4_method_23_code (6 : Nat) (Option.some Jvm.ClassFile.FieldType.int) ∈ gT := tin3 60 rfl rfl
theorem tw3_61 : Cond.methodLink "OrphanLogs$Office" (207 : Nat) ({ cls := "OrphanLogs$Clerk", name := "hasPage", desc := "(I)Z" } : Jvm.MethodName) ∈ gT := tin3 61 rfl rfl
theorem tw3_62 : Cond.instanceMethod ({ cls := "OrphanLogs$Clerk", name := "hasPage", desc := "(I)Z" } : Jvm.MethodName) ∈ gT := tin3 62 rfl rfl
theorem tw3_63 : Cond.selects "OrphanLogs$Clerk" ({ cls := "OrphanLogs$Clerk", name := "hasPage", desc := "(I)Z" } : Jvm.MethodName) ({ cls := "OrphanLogs$Clerk", name := "hasPage", desc := "(I)Z" } : Jvm.MethodName) ∈ gT := tin3 63 rfl rfl
theorem tw3_64 : Cond.code ({ cls := "OrphanLogs$Clerk", name := "hasPage", desc := "(I)Z" } : Jvm.MethodName) prog_2_method_10_code (2 : Nat) (Option.some Jvm.ClassFile.FieldType.boolean) ∈ gT := tin3 64 rfl rfl
theorem tw3_65 : Cond.methodLink "OrphanLogsLaw" (52 : Nat) ({ cls := "OrphanLogs", name := "dead", desc := "(III)I" } : Jvm.MethodName) ∈ gT := tin3 65 rfl rfl
theorem tw3_66 : Cond.instanceMethod ({ cls := "OrphanLogs", name := "dead", desc := "(III)I" } : Jvm.MethodName) ∈ gT := tin3 66 rfl rfl
theorem tw3_67 : Cond.selects "OrphanLogs" ({ cls := "OrphanLogs", name := "dead", desc := "(III)I" } : Jvm.MethodName) ({ cls := "OrphanLogs", name := "dead", desc := "(III)I" } : Jvm.MethodName) ∈ gT := tin3 67 rfl rfl
theorem tw3_68 : Cond.code ({ cls := "OrphanLogs", name := "dead", desc := "(III)I" } : Jvm.MethodName) prog_1_method_11_code (5 : Nat) (Option.some Jvm.ClassFile.FieldType.int) ∈ gT := tin3 68 rfl rfl
theorem tw3_69 : Cond.methodLink "OrphanLogs" (94 : Nat) ({ cls := "OrphanLogs$Office", name := "clerk", desc := "(I)LOrphanLogs$Clerk;" } : Jvm.MethodName) ∈ gT := tin3 69 rfl rfl
theorem tw3_70 : Cond.methodLink "OrphanLogs" (98 : Nat) ({ cls := "OrphanLogs$Clerk", name := "isDeadRest", desc := "(II)Z" } : Jvm.MethodName) ∈ gT := tin3 70 rfl rfl
theorem tw3_71 : Cond.methodLink "OrphanLogsLaw" (57 : Nat) ({ cls := "OrphanLogs", name := "end", desc := "(II)I" } : Jvm.MethodName) ∈ gT := tin3 71 rfl rfl
theorem tw3_72 : Cond.instanceMethod ({ cls := "OrphanLogs", name := "end", desc := "(II)I" } : Jvm.MethodName) ∈ gT := tin3 72 rfl rfl
theorem tw3_73 : Cond.selects "OrphanLogs" ({ cls := "OrphanLogs", name := "end", desc := "(II)I" } : Jvm.MethodName) ({ cls := "OrphanLogs", name := "end", desc := "(II)I" } : Jvm.MethodName) ∈ gT := tin3 73 rfl rfl
theorem tw3_74 : Cond.code ({ cls := "OrphanLogs", name := "end", desc := "(II)I" } : Jvm.MethodName) prog_1_method_12_code (4 : Nat) (Option.some Jvm.ClassFile.FieldType.int) ∈ gT := tin3 74 rfl rfl
theorem tw3_75 : Cond.methodLink "OrphanLogs" (104 : Nat) ({ cls := "OrphanLogs$Clerk", name := "endOf", desc := "(I)I" } : Jvm.MethodName) ∈ gT := tin3 75 rfl rfl
theorem tw3_76 : Cond.instanceMethod ({ cls := "OrphanLogs$Clerk", name := "endOf", desc := "(I)I" } : Jvm.MethodName) ∈ gT := tin3 76 rfl rfl
theorem tw3_77 : Cond.selects "OrphanLogs$Clerk" ({ cls := "OrphanLogs$Clerk", name := "endOf", desc := "(I)I" } : Jvm.MethodName) ({ cls := "OrphanLogs$Clerk", name := "endOf", desc := "(I)I" } : Jvm.MethodName) ∈ gT := tin3 77 rfl rfl
theorem tw3_78 : Cond.code ({ cls := "OrphanLogs$Clerk", name := "endOf", desc := "(I)I" } : Jvm.MethodName) prog_2_method_8_code (2 : Nat) (Option.some Jvm.ClassFile.FieldType.int) ∈ gT := tin3 78 rfl rfl
theorem tw3_79 : Cond.methodLink "OrphanLogsLaw" (61 : Nat) ({ cls := "OrphanLogs", name := "letter", desc := "(III)I" } : Jvm.MethodName) ∈ gT := tin3 79 rfl rfl
theorem tw3_80 : Cond.instanceMethod ({ cls := "OrphanLogs", name := "letter", desc := "(III)I" } : Jvm.MethodName) ∈ gT := tin3 80 rfl rfl
theorem tw3_81 : Cond.selects "OrphanLogs" ({ cls := "OrphanLogs", name := "letter", desc := "(III)I" } : Jvm.MethodName) ({ cls := "OrphanLogs", name := "letter", desc := "(III)I" } : Jvm.MethodName) ∈ gT := tin3 81 rfl rfl
theorem tw3_82 : Cond.code ({ cls := "OrphanLogs", name := "letter", desc := "(III)I" } : Jvm.MethodName) prog_1_method_13_code (5 : Nat) (Option.some Jvm.ClassFile.FieldType.int) ∈ gT := tin3 82 rfl rfl
theorem tw3_83 : Cond.methodLink "OrphanLogs" (107 : Nat) ({ cls := "OrphanLogs$Office", name := "tellLetter", desc := "(III)I" } : Jvm.MethodName) ∈ gT := tin3 83 rfl rfl
theorem tw3_84 : Cond.instanceMethod ({ cls := "OrphanLogs$Office", name := "tellLetter", desc := "(III)I" } : Jvm.MethodName) ∈ gT := tin3 84 rfl rfl
theorem tw3_85 : Cond.selects "OrphanLogs$Office" ({ cls := "OrphanLogs$Office", name := "tellLetter", desc := "(III)I" } : Jvm.MethodName) ({ cls := "OrphanLogs$Office", name := "tellLetter", desc := "(III)I" } : Jvm.MethodName) ∈ gT := tin3 85 rfl rfl
theorem tw3_86 : Cond.code ({ cls := "OrphanLogs$Office", name := "tellLetter", desc := "(III)I" } : Jvm.MethodName) prog_4_method_24_code (6 : Nat) (Option.some Jvm.ClassFile.FieldType.int) ∈ gT := tin3 86 rfl rfl
theorem tw3_87 : Cond.methodLink "OrphanLogsLaw" (65 : Nat) ({ cls := "OrphanLogs", name := "sweeps", desc := "()I" } : Jvm.MethodName) ∈ gT := tin3 87 rfl rfl
theorem tw3_88 : Cond.instanceMethod ({ cls := "OrphanLogs", name := "sweeps", desc := "()I" } : Jvm.MethodName) ∈ gT := tin3 88 rfl rfl
theorem tw3_89 : Cond.selects "OrphanLogs" ({ cls := "OrphanLogs", name := "sweeps", desc := "()I" } : Jvm.MethodName) ({ cls := "OrphanLogs", name := "sweeps", desc := "()I" } : Jvm.MethodName) ∈ gT := tin3 89 rfl rfl
theorem tw3_90 : Cond.code ({ cls := "OrphanLogs", name := "sweeps", desc := "()I" } : Jvm.MethodName) prog_1_method_14_code (1 : Nat) (Option.some Jvm.ClassFile.FieldType.int) ∈ gT := tin3 90 rfl rfl
theorem tw3_91 : Cond.methodLink "OrphanLogs" (111 : Nat) ({ cls := "OrphanLogs$Office", name := "sweepLetters", desc := "()I" } : Jvm.MethodName) ∈ gT := tin3 91 rfl rfl
theorem tw3_92 : Cond.instanceMethod ({ cls := "OrphanLogs$Office", name := "sweepLetters", desc := "()I" } : Jvm.MethodName) ∈ gT := tin3 92 rfl rfl
theorem tw3_93 : Cond.selects "OrphanLogs$Office" ({ cls := "OrphanLogs$Office", name := "sweepLetters", desc := "()I" } : Jvm.MethodName) ({ cls := "OrphanLogs$Office", name := "sweepLetters", desc := "()I" } : Jvm.MethodName) ∈ gT := tin3 93 rfl rfl
theorem tw3_94 : Cond.code ({ cls := "OrphanLogs$Office", name := "sweepLetters", desc := "()I" } : Jvm.MethodName) prog_4_method_9_code (3 : Nat) (Option.some Jvm.ClassFile.FieldType.int) ∈ gT := tin3 94 rfl rfl
theorem tw3_95 : Cond.methodLink "OrphanLogsLaw" (70 : Nat) ({ cls := "OrphanLogs", name := "says", desc := "(I)I" } : Jvm.MethodName) ∈ gT := tin3 95 rfl rfl
theorem tw3_96 : Cond.instanceMethod ({ cls := "OrphanLogs", name := "says", desc := "(I)I" } : Jvm.MethodName) ∈ gT := tin3 96 rfl rfl
theorem tw3_97 : Cond.selects "OrphanLogs" ({ cls := "OrphanLogs", name := "says", desc := "(I)I" } : Jvm.MethodName) ({ cls := "OrphanLogs", name := "says", desc := "(I)I" } : Jvm.MethodName) ∈ gT := tin3 97 rfl rfl
theorem tw3_98 : Cond.code ({ cls := "OrphanLogs", name := "says", desc := "(I)I" } : Jvm.MethodName) prog_1_method_15_code (2 : Nat) (Option.some Jvm.ClassFile.FieldType.int) ∈ gT := tin3 98 rfl rfl
theorem tw3_99 : Cond.methodLink "OrphanLogs" (115 : Nat) ({ cls := "OrphanLogs$Office", name := "addSaying", desc := "(I)I" } : Jvm.MethodName) ∈ gT := tin3 99 rfl rfl
theorem tw3_100 : Cond.methodLink "OrphanLogsLaw" (74 : Nat) ({ cls := "OrphanLogs", name := "release", desc := "()I" } : Jvm.MethodName) ∈ gT := tin3 100 rfl rfl
theorem tw3_101 : Cond.instanceMethod ({ cls := "OrphanLogs", name := "release", desc := "()I" } : Jvm.MethodName) ∈ gT := tin3 101 rfl rfl
theorem tw3_102 : Cond.selects "OrphanLogs" ({ cls := "OrphanLogs", name := "release", desc := "()I" } : Jvm.MethodName) ({ cls := "OrphanLogs", name := "release", desc := "()I" } : Jvm.MethodName) ∈ gT := tin3 102 rfl rfl
theorem tw3_103 : Cond.code ({ cls := "OrphanLogs", name := "release", desc := "()I" } : Jvm.MethodName) prog_1_method_16_code (1 : Nat) (Option.some Jvm.ClassFile.FieldType.int) ∈ gT := tin3 103 rfl rfl
theorem tw3_104 : Cond.methodLink "OrphanLogs" (118 : Nat) ({ cls := "OrphanLogs$Office", name := "releaseSafe", desc := "()I" } : Jvm.MethodName) ∈ gT := tin3 104 rfl rfl
theorem tw3_105 : Cond.instanceMethod ({ cls := "OrphanLogs$Office", name := "releaseSafe", desc := "()I" } : Jvm.MethodName) ∈ gT := tin3 105 rfl rfl
theorem tw3_106 : Cond.selects "OrphanLogs$Office" ({ cls := "OrphanLogs$Office", name := "releaseSafe", desc := "()I" } : Jvm.MethodName) ({ cls := "OrphanLogs$Office", name := "releaseSafe", desc := "()I" } : Jvm.MethodName) ∈ gT := tin3 106 rfl rfl
theorem tw3_107 : Cond.code ({ cls := "OrphanLogs$Office", name := "releaseSafe", desc := "()I" } : Jvm.MethodName) prog_4_method_20_code (4 : Nat) (Option.some Jvm.ClassFile.FieldType.int) ∈ gT := tin3 107 rfl rfl
theorem tw3_108 : Cond.methodLink "OrphanLogs$Office" (186 : Nat) ({ cls := "OrphanLogs$Office", name := "nextSafe", desc := "()I" } : Jvm.MethodName) ∈ gT := tin3 108 rfl rfl
theorem tw3_110 : Cond.instanceMethod ({ cls := "OrphanLogs$Office", name := "nextSafe", desc := "()I" } : Jvm.MethodName) ∈ gT := tin3 110 rfl rfl
theorem tw3_111 : Cond.code ({ cls := "OrphanLogs$Office", name := "nextSafe", desc := "()I" } : Jvm.MethodName) prog_4_method_21_code (3 : Nat) (Option.some Jvm.ClassFile.FieldType.int) ∈ gT := tin3 111 rfl rfl
theorem tw3_112 : Cond.methodLink "OrphanLogs$Office" (192 : Nat) ({ cls := "OrphanLogs$Office", name := "isSafe", desc := "(I)Z" } : Jvm.MethodName) ∈ gT := tin3 112 rfl rfl
theorem tw3_114 : Cond.instanceMethod ({ cls := "OrphanLogs$Office", name := "isSafe", desc := "(I)Z" } : Jvm.MethodName) ∈ gT := tin3 114 rfl rfl
theorem tw3_115 : Cond.code ({ cls := "OrphanLogs$Office", name := "isSafe", desc := "(I)Z" } : Jvm.MethodName) prog_4_method_19_code (2 : Nat) (Option.some Jvm.ClassFile.FieldType.boolean) ∈ gT := tin3 115 rfl rfl
theorem tw3_116 : Cond.methodLink "OrphanLogs$Office" (178 : Nat) ({ cls := "OrphanLogs$Sayings", name := "isHeld", desc := "(I)Z" } : Jvm.MethodName) ∈ gT := tin3 116 rfl rfl
theorem tw3_117 : Cond.methodLink "OrphanLogs$Office" (195 : Nat) ({ cls := "OrphanLogs$Sayings", name := "goesAhead", desc := "(II)Z" } : Jvm.MethodName) ∈ gT := tin3 117 rfl rfl
theorem tw3_118 : Cond.instanceMethod ({ cls := "OrphanLogs$Sayings", name := "goesAhead", desc := "(II)Z" } : Jvm.MethodName) ∈ gT := tin3 118 rfl rfl
theorem tw3_119 : Cond.selects "OrphanLogs$Sayings" ({ cls := "OrphanLogs$Sayings", name := "goesAhead", desc := "(II)Z" } : Jvm.MethodName) ({ cls := "OrphanLogs$Sayings", name := "goesAhead", desc := "(II)Z" } : Jvm.MethodName) ∈ gT := tin3 119 rfl rfl
theorem tw3_120 : Cond.code ({ cls := "OrphanLogs$Sayings", name := "goesAhead", desc := "(II)Z" } : Jvm.MethodName) prog_8_method_10_code (3 : Nat) (Option.some Jvm.ClassFile.FieldType.boolean) ∈ gT := tin3 120 rfl rfl
theorem tw3_121 : Cond.methodLink "OrphanLogs$Office" (189 : Nat) ({ cls := "OrphanLogs$Sayings", name := "markReleased", desc := "(I)V" } : Jvm.MethodName) ∈ gT := tin3 121 rfl rfl
theorem tw3_122 : Cond.instanceMethod ({ cls := "OrphanLogs$Sayings", name := "markReleased", desc := "(I)V" } : Jvm.MethodName) ∈ gT := tin3 122 rfl rfl
theorem tw3_123 : Cond.selects "OrphanLogs$Sayings" ({ cls := "OrphanLogs$Sayings", name := "markReleased", desc := "(I)V" } : Jvm.MethodName) ({ cls := "OrphanLogs$Sayings", name := "markReleased", desc := "(I)V" } : Jvm.MethodName) ∈ gT := tin3 123 rfl rfl
theorem tw3_124 : Cond.code ({ cls := "OrphanLogs$Sayings", name := "markReleased", desc := "(I)V" } : Jvm.MethodName) prog_8_method_11_code (2 : Nat) (Option.none : Option Jvm.ClassFile.FieldType) ∈ gT := tin3 124 rfl rfl
theorem tw3_125 : Cond.methodLink "OrphanLogsLaw" (78 : Nat) ({ cls := "OrphanLogs", name := "saying", desc := "(II)I" } : Jvm.MethodName) ∈ gT := tin3 125 rfl rfl
theorem tw3_126 : Cond.instanceMethod ({ cls := "OrphanLogs", name := "saying", desc := "(II)I" } : Jvm.MethodName) ∈ gT := tin3 126 rfl rfl
theorem tw3_127 : Cond.selects "OrphanLogs" ({ cls := "OrphanLogs", name := "saying", desc := "(II)I" } : Jvm.MethodName) ({ cls := "OrphanLogs", name := "saying", desc := "(II)I" } : Jvm.MethodName) ∈ gT := tin3 127 rfl rfl
theorem tw3_128 : Cond.code ({ cls := "OrphanLogs", name := "saying", desc := "(II)I" } : Jvm.MethodName) prog_1_method_17_code (4 : Nat) (Option.some Jvm.ClassFile.FieldType.int) ∈ gT := tin3 128 rfl rfl
theorem tw3_129 : Cond.methodLink "OrphanLogs" (121 : Nat) ({ cls := "OrphanLogs$Office", name := "tellSaying", desc := "(II)I" } : Jvm.MethodName) ∈ gT := tin3 129 rfl rfl
theorem tw3_130 : Cond.instanceMethod ({ cls := "OrphanLogs$Office", name := "tellSaying", desc := "(II)I" } : Jvm.MethodName) ∈ gT := tin3 130 rfl rfl
theorem tw3_131 : Cond.selects "OrphanLogs$Office" ({ cls := "OrphanLogs$Office", name := "tellSaying", desc := "(II)I" } : Jvm.MethodName) ({ cls := "OrphanLogs$Office", name := "tellSaying", desc := "(II)I" } : Jvm.MethodName) ∈ gT := tin3 131 rfl rfl
theorem tw3_132 : Cond.code ({ cls := "OrphanLogs$Office", name := "tellSaying", desc := "(II)I" } : Jvm.MethodName) prog_4_method_25_code (3 : Nat) (Option.some Jvm.ClassFile.FieldType.int) ∈ gT := tin3 132 rfl rfl
theorem tw3_133 : Cond.methodLink "OrphanLogsLaw" (82 : Nat) ({ cls := "OrphanLogs", name := "released", desc := "(I)I" } : Jvm.MethodName) ∈ gT := tin3 133 rfl rfl
theorem tw3_134 : Cond.instanceMethod ({ cls := "OrphanLogs", name := "released", desc := "(I)I" } : Jvm.MethodName) ∈ gT := tin3 134 rfl rfl
theorem tw3_135 : Cond.selects "OrphanLogs" ({ cls := "OrphanLogs", name := "released", desc := "(I)I" } : Jvm.MethodName) ({ cls := "OrphanLogs", name := "released", desc := "(I)I" } : Jvm.MethodName) ∈ gT := tin3 135 rfl rfl
theorem tw3_136 : Cond.code ({ cls := "OrphanLogs", name := "released", desc := "(I)I" } : Jvm.MethodName) prog_1_method_18_code (2 : Nat) (Option.some Jvm.ClassFile.FieldType.int) ∈ gT := tin3 136 rfl rfl
theorem tw3_137 : Cond.methodLink "OrphanLogs" (128 : Nat) ({ cls := "OrphanLogs$Sayings", name := "releasedAt", desc := "(I)I" } : Jvm.MethodName) ∈ gT := tin3 137 rfl rfl
theorem tw3_138 : Cond.instanceMethod ({ cls := "OrphanLogs$Sayings", name := "releasedAt", desc := "(I)I" } : Jvm.MethodName) ∈ gT := tin3 138 rfl rfl
theorem tw3_139 : Cond.selects "OrphanLogs$Sayings" ({ cls := "OrphanLogs$Sayings", name := "releasedAt", desc := "(I)I" } : Jvm.MethodName) ({ cls := "OrphanLogs$Sayings", name := "releasedAt", desc := "(I)I" } : Jvm.MethodName) ∈ gT := tin3 139 rfl rfl
theorem tw3_140 : Cond.code ({ cls := "OrphanLogs$Sayings", name := "releasedAt", desc := "(I)I" } : Jvm.MethodName) prog_8_method_12_code (2 : Nat) (Option.some Jvm.ClassFile.FieldType.int) ∈ gT := tin3 140 rfl rfl
theorem tw3_141 : Cond.methodLink "OrphanLogsLaw" (86 : Nat) ({ cls := "OrphanLogs", name := "cuts", desc := "(I)I" } : Jvm.MethodName) ∈ gT := tin3 141 rfl rfl
theorem tw3_142 : Cond.instanceMethod ({ cls := "OrphanLogs", name := "cuts", desc := "(I)I" } : Jvm.MethodName) ∈ gT := tin3 142 rfl rfl
theorem tw3_143 : Cond.selects "OrphanLogs" ({ cls := "OrphanLogs", name := "cuts", desc := "(I)I" } : Jvm.MethodName) ({ cls := "OrphanLogs", name := "cuts", desc := "(I)I" } : Jvm.MethodName) ∈ gT := tin3 143 rfl rfl
theorem tw3_144 : Cond.code ({ cls := "OrphanLogs", name := "cuts", desc := "(I)I" } : Jvm.MethodName) prog_1_method_19_code (2 : Nat) (Option.some Jvm.ClassFile.FieldType.int) ∈ gT := tin3 144 rfl rfl
theorem tw3_145 : Cond.methodLink "OrphanLogs" (133 : Nat) ({ cls := "OrphanLogs$Office", name := "cutPages", desc := "(I)I" } : Jvm.MethodName) ∈ gT := tin3 145 rfl rfl
theorem tw3_146 : Cond.instanceMethod ({ cls := "OrphanLogs$Office", name := "cutPages", desc := "(I)I" } : Jvm.MethodName) ∈ gT := tin3 146 rfl rfl
theorem tw3_147 : Cond.selects "OrphanLogs$Office" ({ cls := "OrphanLogs$Office", name := "cutPages", desc := "(I)I" } : Jvm.MethodName) ({ cls := "OrphanLogs$Office", name := "cutPages", desc := "(I)I" } : Jvm.MethodName) ∈ gT := tin3 147 rfl rfl
theorem tw3_148 : Cond.code ({ cls := "OrphanLogs$Office", name := "cutPages", desc := "(I)I" } : Jvm.MethodName) prog_4_method_16_code (3 : Nat) (Option.some Jvm.ClassFile.FieldType.int) ∈ gT := tin3 148 rfl rfl
theorem tw3_149 : Cond.methodLink "OrphanLogs$Office" (164 : Nat) ({ cls := "java/lang/Math", name := "max", desc := "(II)I" } : Jvm.MethodName) ∈ gT := tin3 149 rfl rfl
theorem tw3_150 : Cond.methodLink "OrphanLogsLaw" (90 : Nat) ({ cls := "OrphanLogs", name := "would", desc := "(II)I" } : Jvm.MethodName) ∈ gT := tin3 150 rfl rfl
theorem tw3_151 : Cond.instanceMethod ({ cls := "OrphanLogs", name := "would", desc := "(II)I" } : Jvm.MethodName) ∈ gT := tin3 151 rfl rfl
theorem tw3_152 : Cond.selects "OrphanLogs" ({ cls := "OrphanLogs", name := "would", desc := "(II)I" } : Jvm.MethodName) ({ cls := "OrphanLogs", name := "would", desc := "(II)I" } : Jvm.MethodName) ∈ gT := tin3 152 rfl rfl
theorem tw3_153 : Cond.code ({ cls := "OrphanLogs", name := "would", desc := "(II)I" } : Jvm.MethodName) prog_1_method_20_code (4 : Nat) (Option.some Jvm.ClassFile.FieldType.int) ∈ gT := tin3 153 rfl rfl
theorem tw3_154 : Cond.methodLink "OrphanLogs" (136 : Nat) ({ cls := "OrphanLogs$Office", name := "tellLoss", desc := "(II)I" } : Jvm.MethodName) ∈ gT := tin3 154 rfl rfl
theorem tw3_155 : Cond.instanceMethod ({ cls := "OrphanLogs$Office", name := "tellLoss", desc := "(II)I" } : Jvm.MethodName) ∈ gT := tin3 155 rfl rfl
theorem tw3_156 : Cond.selects "OrphanLogs$Office" ({ cls := "OrphanLogs$Office", name := "tellLoss", desc := "(II)I" } : Jvm.MethodName) ({ cls := "OrphanLogs$Office", name := "tellLoss", desc := "(II)I" } : Jvm.MethodName) ∈ gT := tin3 156 rfl rfl
theorem tw3_157 : Cond.code ({ cls := "OrphanLogs$Office", name := "tellLoss", desc := "(II)I" } : Jvm.MethodName) prog_4_method_12_code (5 : Nat) (Option.some Jvm.ClassFile.FieldType.int) ∈ gT := tin3 157 rfl rfl
theorem tw3_158 : Cond.methodLink "OrphanLogs$Office" (139 : Nat) ({ cls := "OrphanLogs$Loss", name := "clerksFelled", desc := "()I" } : Jvm.MethodName) ∈ gT := tin3 158 rfl rfl
theorem tw3_159 : Cond.instanceMethod ({ cls := "OrphanLogs$Loss", name := "clerksFelled", desc := "()I" } : Jvm.MethodName) ∈ gT := tin3 159 rfl rfl
theorem tw3_160 : Cond.selects "OrphanLogs$Loss" ({ cls := "OrphanLogs$Loss", name := "clerksFelled", desc := "()I" } : Jvm.MethodName) ({ cls := "OrphanLogs$Loss", name := "clerksFelled", desc := "()I" } : Jvm.MethodName) ∈ gT := tin3 160 rfl rfl
theorem tw3_161 : Cond.code ({ cls := "OrphanLogs$Loss", name := "clerksFelled", desc := "()I" } : Jvm.MethodName) prog_3_method_7_code (3 : Nat) (Option.some Jvm.ClassFile.FieldType.int) ∈ gT := tin3 161 rfl rfl
theorem tw3_162 : Cond.methodLink "OrphanLogs$Loss" (65 : Nat) ({ cls := "OrphanLogs$Loss", name := "fells", desc := "(I)Z" } : Jvm.MethodName) ∈ gT := tin3 162 rfl rfl
theorem tw3_163 : Cond.methodLink "OrphanLogs$Office" (142 : Nat) ({ cls := "OrphanLogs$Sayings", name := "countHeldBehind", desc := "(II)I" } : Jvm.MethodName) ∈ gT := tin3 163 rfl rfl
theorem tw3_164 : Cond.instanceMethod ({ cls := "OrphanLogs$Sayings", name := "countHeldBehind", desc := "(II)I" } : Jvm.MethodName) ∈ gT := tin3 164 rfl rfl
theorem tw3_165 : Cond.selects "OrphanLogs$Sayings" ({ cls := "OrphanLogs$Sayings", name := "countHeldBehind", desc := "(II)I" } : Jvm.MethodName) ({ cls := "OrphanLogs$Sayings", name := "countHeldBehind", desc := "(II)I" } : Jvm.MethodName) ∈ gT := tin3 165 rfl rfl
theorem tw3_166 : Cond.code ({ cls := "OrphanLogs$Sayings", name := "countHeldBehind", desc := "(II)I" } : Jvm.MethodName) prog_8_method_7_code (5 : Nat) (Option.some Jvm.ClassFile.FieldType.int) ∈ gT := tin3 166 rfl rfl
theorem tw3_167 : Cond.methodLink "OrphanLogsLaw" (94 : Nat) ({ cls := "OrphanLogs", name := "worst", desc := "(I)I" } : Jvm.MethodName) ∈ gT := tin3 167 rfl rfl
theorem tw3_168 : Cond.instanceMethod ({ cls := "OrphanLogs", name := "worst", desc := "(I)I" } : Jvm.MethodName) ∈ gT := tin3 168 rfl rfl
theorem tw3_169 : Cond.selects "OrphanLogs" ({ cls := "OrphanLogs", name := "worst", desc := "(I)I" } : Jvm.MethodName) ({ cls := "OrphanLogs", name := "worst", desc := "(I)I" } : Jvm.MethodName) ∈ gT := tin3 169 rfl rfl
theorem tw3_170 : Cond.code ({ cls := "OrphanLogs", name := "worst", desc := "(I)I" } : Jvm.MethodName) prog_1_method_21_code (3 : Nat) (Option.some Jvm.ClassFile.FieldType.int) ∈ gT := tin3 170 rfl rfl
theorem tw3_171 : Cond.methodLink "OrphanLogs" (139 : Nat) ({ cls := "OrphanLogs$Office", name := "worstClerk", desc := "()I" } : Jvm.MethodName) ∈ gT := tin3 171 rfl rfl
theorem tw3_172 : Cond.instanceMethod ({ cls := "OrphanLogs$Office", name := "worstClerk", desc := "()I" } : Jvm.MethodName) ∈ gT := tin3 172 rfl rfl
theorem tw3_173 : Cond.selects "OrphanLogs$Office" ({ cls := "OrphanLogs$Office", name := "worstClerk", desc := "()I" } : Jvm.MethodName) ({ cls := "OrphanLogs$Office", name := "worstClerk", desc := "()I" } : Jvm.MethodName) ∈ gT := tin3 173 rfl rfl
theorem tw3_174 : Cond.code ({ cls := "OrphanLogs$Office", name := "worstClerk", desc := "()I" } : Jvm.MethodName) prog_4_method_13_code (5 : Nat) (Option.some Jvm.ClassFile.FieldType.int) ∈ gT := tin3 174 rfl rfl
theorem tw3_175 : Cond.methodLink "OrphanLogs$Office" (145 : Nat) ({ cls := "OrphanLogs$Office", name := "tellLoss", desc := "(II)I" } : Jvm.MethodName) ∈ gT := tin3 175 rfl rfl
theorem tw3_176 : Cond.methodLink "OrphanLogsLaw" (98 : Nat) ({ cls := "OrphanLogs", name := "type", desc := "(I)I" } : Jvm.MethodName) ∈ gT := tin3 176 rfl rfl
theorem tw3_177 : Cond.instanceMethod ({ cls := "OrphanLogs", name := "type", desc := "(I)I" } : Jvm.MethodName) ∈ gT := tin3 177 rfl rfl
theorem tw3_178 : Cond.selects "OrphanLogs" ({ cls := "OrphanLogs", name := "type", desc := "(I)I" } : Jvm.MethodName) ({ cls := "OrphanLogs", name := "type", desc := "(I)I" } : Jvm.MethodName) ∈ gT := tin3 178 rfl rfl
theorem tw3_179 : Cond.code ({ cls := "OrphanLogs", name := "type", desc := "(I)I" } : Jvm.MethodName) prog_1_method_22_code (2 : Nat) (Option.some Jvm.ClassFile.FieldType.int) ∈ gT := tin3 179 rfl rfl
theorem tw3_180 : Cond.methodLink "OrphanLogs" (142 : Nat) ({ cls := "OrphanLogs$Text", name := "add", desc := "(I)I" } : Jvm.MethodName) ∈ gT := tin3 180 rfl rfl
theorem tw3_181 : Cond.instanceMethod ({ cls := "OrphanLogs$Text", name := "add", desc := "(I)I" } : Jvm.MethodName) ∈ gT := tin3 181 rfl rfl
theorem tw3_182 : Cond.selects "OrphanLogs$Text" ({ cls := "OrphanLogs$Text", name := "add", desc := "(I)I" } : Jvm.MethodName) ({ cls := "OrphanLogs$Text", name := "add", desc := "(I)I" } : Jvm.MethodName) ∈ gT := tin3 182 rfl rfl
theorem tw3_183 : Cond.code ({ cls := "OrphanLogs$Text", name := "add", desc := "(I)I" } : Jvm.MethodName) prog_10_method_2_code (2 : Nat) (Option.some Jvm.ClassFile.FieldType.int) ∈ gT := tin3 183 rfl rfl
theorem tw3_185 : Cond.methodLink "OrphanLogsLaw" (102 : Nat) ({ cls := "OrphanLogs", name := "clear", desc := "()I" } : Jvm.MethodName) ∈ gT := tin3 185 rfl rfl
theorem tw3_186 : Cond.instanceMethod ({ cls := "OrphanLogs", name := "clear", desc := "()I" } : Jvm.MethodName) ∈ gT := tin3 186 rfl rfl
theorem tw3_187 : Cond.selects "OrphanLogs" ({ cls := "OrphanLogs", name := "clear", desc := "()I" } : Jvm.MethodName) ({ cls := "OrphanLogs", name := "clear", desc := "()I" } : Jvm.MethodName) ∈ gT := tin3 187 rfl rfl
theorem tw3_188 : Cond.code ({ cls := "OrphanLogs", name := "clear", desc := "()I" } : Jvm.MethodName) prog_1_method_23_code (1 : Nat) (Option.some Jvm.ClassFile.FieldType.int) ∈ gT := tin3 188 rfl rfl
theorem tw3_189 : Cond.methodLink "OrphanLogs" (145 : Nat) ({ cls := "OrphanLogs$Text", name := "empty", desc := "()I" } : Jvm.MethodName) ∈ gT := tin3 189 rfl rfl
theorem tw3_190 : Cond.instanceMethod ({ cls := "OrphanLogs$Text", name := "empty", desc := "()I" } : Jvm.MethodName) ∈ gT := tin3 190 rfl rfl
theorem tw3_191 : Cond.selects "OrphanLogs$Text" ({ cls := "OrphanLogs$Text", name := "empty", desc := "()I" } : Jvm.MethodName) ({ cls := "OrphanLogs$Text", name := "empty", desc := "()I" } : Jvm.MethodName) ∈ gT := tin3 191 rfl rfl
theorem tw3_192 : Cond.code ({ cls := "OrphanLogs$Text", name := "empty", desc := "()I" } : Jvm.MethodName) prog_10_method_3_code (2 : Nat) (Option.some Jvm.ClassFile.FieldType.int) ∈ gT := tin3 192 rfl rfl
theorem tw3_193 : Cond.methodLink "OrphanLogsLaw" (106 : Nat) ({ cls := "OrphanLogs", name := "does", desc := "()I" } : Jvm.MethodName) ∈ gT := tin3 193 rfl rfl
theorem tw3_194 : Cond.instanceMethod ({ cls := "OrphanLogs", name := "does", desc := "()I" } : Jvm.MethodName) ∈ gT := tin3 194 rfl rfl
theorem tw3_195 : Cond.selects "OrphanLogs" ({ cls := "OrphanLogs", name := "does", desc := "()I" } : Jvm.MethodName) ({ cls := "OrphanLogs", name := "does", desc := "()I" } : Jvm.MethodName) ∈ gT := tin3 195 rfl rfl
theorem tw3_196 : Cond.code ({ cls := "OrphanLogs", name := "does", desc := "()I" } : Jvm.MethodName) prog_1_method_24_code (5 : Nat) (Option.some Jvm.ClassFile.FieldType.int) ∈ gT := tin3 196 rfl rfl
theorem tw3_197 : Cond.methodLink "OrphanLogs" (148 : Nat) ({ cls := "OrphanLogs$Reader", name := "readAll", desc := "(LOrphanLogs$Text;I)I" } : Jvm.MethodName) ∈ gT := tin3 197 rfl rfl
theorem tw3_198 : Cond.instanceMethod ({ cls := "OrphanLogs$Reader", name := "readAll", desc := "(LOrphanLogs$Text;I)I" } : Jvm.MethodName) ∈ gT := tin3 198 rfl rfl
theorem tw3_199 : Cond.selects "OrphanLogs$Reader" ({ cls := "OrphanLogs$Reader", name := "readAll", desc := "(LOrphanLogs$Text;I)I" } : Jvm.MethodName) ({ cls := "OrphanLogs$Reader", name := "readAll", desc := "(LOrphanLogs$Text;I)I" } : Jvm.MethodName) ∈ gT := tin3 199 rfl rfl
theorem tw3_200 : Cond.code ({ cls := "OrphanLogs$Reader", name := "readAll", desc := "(LOrphanLogs$Text;I)I" } : Jvm.MethodName) prog_6_method_2_code (4 : Nat) (Option.some Jvm.ClassFile.FieldType.int) ∈ gT := tin3 200 rfl rfl
theorem tw3_201 : Cond.methodLink "OrphanLogs$Reader" (31 : Nat) ({ cls := "OrphanLogs$Reader", name := "readOrder", desc := "(LOrphanLogs$Text;I)V" } : Jvm.MethodName) ∈ gT := tin3 201 rfl rfl
theorem tw3_203 : Cond.instanceMethod ({ cls := "OrphanLogs$Reader", name := "readOrder", desc := "(LOrphanLogs$Text;I)V" } : Jvm.MethodName) ∈ gT := tin3 203 rfl rfl
theorem tw3_204 : Cond.code ({ cls := "OrphanLogs$Reader", name := "readOrder", desc := "(LOrphanLogs$Text;I)V" } : Jvm.MethodName) prog_6_method_3_code (7 : Nat) (Option.none : Option Jvm.ClassFile.FieldType) ∈ gT := tin3 204 rfl rfl
theorem tw3_205 : Cond.methodLink "OrphanLogs$Reader" (35 : Nat) ({ cls := "OrphanLogs$Reader", name := "skipBlanks", desc := "(LOrphanLogs$Text;)V" } : Jvm.MethodName) ∈ gT := tin3 205 rfl rfl
theorem tw3_207 : Cond.instanceMethod ({ cls := "OrphanLogs$Reader", name := "skipBlanks", desc := "(LOrphanLogs$Text;)V" } : Jvm.MethodName) ∈ gT := tin3 207 rfl rfl
theorem tw3_208 : Cond.code ({ cls := "OrphanLogs$Reader", name := "skipBlanks", desc := "(LOrphanLogs$Text;)V" } : Jvm.MethodName) prog_6_method_8_code (3 : Nat) (Option.none : Option Jvm.ClassFile.FieldType) ∈ gT := tin3 208 rfl rfl
theorem tw3_209 : Cond.methodLink "OrphanLogs$Reader" (44 : Nat) ({ cls := "OrphanLogs$Text", name := "byteAt", desc := "(I)I" } : Jvm.MethodName) ∈ gT := tin3 209 rfl rfl
theorem tw3_210 : Cond.instanceMethod ({ cls := "OrphanLogs$Text", name := "byteAt", desc := "(I)I" } : Jvm.MethodName) ∈ gT := tin3 210 rfl rfl
theorem tw3_211 : Cond.selects "OrphanLogs$Text" ({ cls := "OrphanLogs$Text", name := "byteAt", desc := "(I)I" } : Jvm.MethodName) ({ cls := "OrphanLogs$Text", name := "byteAt", desc := "(I)I" } : Jvm.MethodName) ∈ gT := tin3 211 rfl rfl
theorem tw3_212 : Cond.code ({ cls := "OrphanLogs$Text", name := "byteAt", desc := "(I)I" } : Jvm.MethodName) prog_10_method_4_code (2 : Nat) (Option.some Jvm.ClassFile.FieldType.int) ∈ gT := tin3 212 rfl rfl
theorem tw3_214 : Cond.methodLink "OrphanLogs$Reader" (48 : Nat) ({ cls := "OrphanLogs$Reader", name := "numbersOf", desc := "(I)I" } : Jvm.MethodName) ∈ gT := tin3 214 rfl rfl
theorem tw3_215 : Cond.static ({ cls := "OrphanLogs$Reader", name := "numbersOf", desc := "(I)I" } : Jvm.MethodName) ∈ gT := tin3 215 rfl rfl
theorem tw3_216 : Cond.code ({ cls := "OrphanLogs$Reader", name := "numbersOf", desc := "(I)I" } : Jvm.MethodName) prog_6_method_4_code (1 : Nat) (Option.some Jvm.ClassFile.FieldType.int) ∈ gT := tin3 216 rfl rfl
theorem tw3_217 : Cond.methodLink "OrphanLogs$Reader" (51 : Nat) ({ cls := "OrphanLogs$Reader", name := "readNumber", desc := "(LOrphanLogs$Text;II)I" } : Jvm.MethodName) ∈ gT := tin3 217 rfl rfl
theorem tw3_219 : Cond.instanceMethod ({ cls := "OrphanLogs$Reader", name := "readNumber", desc := "(LOrphanLogs$Text;II)I" } : Jvm.MethodName) ∈ gT := tin3 219 rfl rfl
theorem tw3_220 : Cond.code ({ cls := "OrphanLogs$Reader", name := "readNumber", desc := "(LOrphanLogs$Text;II)I" } : Jvm.MethodName) prog_6_method_6_code (8 : Nat) (Option.some Jvm.ClassFile.FieldType.int) ∈ gT := tin3 220 rfl rfl
theorem tw3_221 : Cond.methodLink "OrphanLogs$Reader" (66 : Nat) ({ cls := "OrphanLogs$Reader", name := "isFigure", desc := "(I)Z" } : Jvm.MethodName) ∈ gT := tin3 221 rfl rfl
theorem tw3_222 : Cond.static ({ cls := "OrphanLogs$Reader", name := "isFigure", desc := "(I)Z" } : Jvm.MethodName) ∈ gT := tin3 222 rfl rfl
theorem tw3_223 : Cond.code ({ cls := "OrphanLogs$Reader", name := "isFigure", desc := "(I)Z" } : Jvm.MethodName) prog_6_method_9_code (1 : Nat) (Option.some Jvm.ClassFile.FieldType.boolean) ∈ gT := tin3 223 rfl rfl
theorem tw3_225 : Cond.methodLink "OrphanLogs$Reader" (55 : Nat) ({ cls := "OrphanLogs$Reader", name := "mostSecond", desc := "(II)I" } : Jvm.MethodName) ∈ gT := tin3 225 rfl rfl
theorem tw3_226 : Cond.static ({ cls := "OrphanLogs$Reader", name := "mostSecond", desc := "(II)I" } : Jvm.MethodName) ∈ gT := tin3 226 rfl rfl
theorem tw3_227 : Cond.code ({ cls := "OrphanLogs$Reader", name := "mostSecond", desc := "(II)I" } : Jvm.MethodName) prog_6_method_5_code (2 : Nat) (Option.some Jvm.ClassFile.FieldType.int) ∈ gT := tin3 227 rfl rfl
theorem tw3_228 : Cond.methodLink "OrphanLogs$Reader" (59 : Nat) ({ cls := "OrphanLogs$Reader", name := "readSemicolon", desc := "(LOrphanLogs$Text;)V" } : Jvm.MethodName) ∈ gT := tin3 228 rfl rfl
theorem tw3_230 : Cond.instanceMethod ({ cls := "OrphanLogs$Reader", name := "readSemicolon", desc := "(LOrphanLogs$Text;)V" } : Jvm.MethodName) ∈ gT := tin3 230 rfl rfl
theorem tw3_231 : Cond.code ({ cls := "OrphanLogs$Reader", name := "readSemicolon", desc := "(LOrphanLogs$Text;)V" } : Jvm.MethodName) prog_6_method_7_code (2 : Nat) (Option.none : Option Jvm.ClassFile.FieldType) ∈ gT := tin3 231 rfl rfl
theorem tw3_233 : Cond.methodLink "OrphanLogs" (159 : Nat) ({ cls := "OrphanLogs", name := "at", desc := "([II)I" } : Jvm.MethodName) ∈ gT := tin3 233 rfl rfl
theorem tw3_234 : Cond.methodLink "OrphanLogs" (169 : Nat) ({ cls := "OrphanLogs$Office", name := "follow", desc := "(III)I" } : Jvm.MethodName) ∈ gT := tin3 234 rfl rfl
theorem tw3_235 : Cond.instanceMethod ({ cls := "OrphanLogs$Office", name := "follow", desc := "(III)I" } : Jvm.MethodName) ∈ gT := tin3 235 rfl rfl
theorem tw3_236 : Cond.selects "OrphanLogs$Office" ({ cls := "OrphanLogs$Office", name := "follow", desc := "(III)I" } : Jvm.MethodName) ({ cls := "OrphanLogs$Office", name := "follow", desc := "(III)I" } : Jvm.MethodName) ∈ gT := tin3 236 rfl rfl
theorem tw3_237 : Cond.code ({ cls := "OrphanLogs$Office", name := "follow", desc := "(III)I" } : Jvm.MethodName) prog_4_method_27_code (4 : Nat) (Option.some Jvm.ClassFile.FieldType.int) ∈ gT := tin3 237 rfl rfl
theorem tw3_238 : Cond.methodLink "OrphanLogs$Office" (245 : Nat) ({ cls := "OrphanLogs$Office", name := "lose", desc := "(I)I" } : Jvm.MethodName) ∈ gT := tin3 238 rfl rfl
theorem tw3_239 : Cond.methodLink "OrphanLogs$Office" (248 : Nat) ({ cls := "OrphanLogs$Office", name := "releaseSafe", desc := "()I" } : Jvm.MethodName) ∈ gT := tin3 239 rfl rfl
theorem tw4_0 : Cond.methodLink "OrphanLogs$Office" (251 : Nat) ({ cls := "OrphanLogs$Office", name := "cutAll", desc := "()I" } : Jvm.MethodName) ∈ gT := tin4 0 rfl rfl
theorem tw4_2 : Cond.instanceMethod ({ cls := "OrphanLogs$Office", name := "cutAll", desc := "()I" } : Jvm.MethodName) ∈ gT := tin4 2 rfl rfl
theorem tw4_3 : Cond.code ({ cls := "OrphanLogs$Office", name := "cutAll", desc := "()I" } : Jvm.MethodName) prog_4_method_17_code (3 : Nat) (Option.some Jvm.ClassFile.FieldType.int) ∈ gT := tin4 3 rfl rfl
theorem tw4_4 : Cond.methodLink "OrphanLogs$Office" (169 : Nat) ({ cls := "OrphanLogs$Office", name := "cutPages", desc := "(I)I" } : Jvm.MethodName) ∈ gT := tin4 4 rfl rfl
theorem tw4_5 : Cond.methodLink "OrphanLogsLaw" (110 : Nat) ({ cls := "OrphanLogs", name := "told", desc := "(I)I" } : Jvm.MethodName) ∈ gT := tin4 5 rfl rfl
theorem tw4_6 : Cond.instanceMethod ({ cls := "OrphanLogs", name := "told", desc := "(I)I" } : Jvm.MethodName) ∈ gT := tin4 6 rfl rfl
theorem tw4_7 : Cond.selects "OrphanLogs" ({ cls := "OrphanLogs", name := "told", desc := "(I)I" } : Jvm.MethodName) ({ cls := "OrphanLogs", name := "told", desc := "(I)I" } : Jvm.MethodName) ∈ gT := tin4 7 rfl rfl
theorem tw4_8 : Cond.code ({ cls := "OrphanLogs", name := "told", desc := "(I)I" } : Jvm.MethodName) prog_1_method_25_code (2 : Nat) (Option.some Jvm.ClassFile.FieldType.int) ∈ gT := tin4 8 rfl rfl
theorem tw4_9 : Cond.methodLink "OrphanLogs" (172 : Nat) ({ cls := "OrphanLogs", name := "tell", desc := "(I)I" } : Jvm.MethodName) ∈ gT := tin4 9 rfl rfl
theorem tw4_11 : Cond.instanceMethod ({ cls := "OrphanLogs", name := "tell", desc := "(I)I" } : Jvm.MethodName) ∈ gT := tin4 11 rfl rfl
theorem tw4_12 : Cond.code ({ cls := "OrphanLogs", name := "tell", desc := "(I)I" } : Jvm.MethodName) prog_1_method_27_code (2 : Nat) (Option.some Jvm.ClassFile.FieldType.int) ∈ gT := tin4 12 rfl rfl
theorem tw4_13 : Cond.methodLink "OrphanLogs" (199 : Nat) ({ cls := "OrphanLogs$Sayings", name := "countHeld", desc := "()I" } : Jvm.MethodName) ∈ gT := tin4 13 rfl rfl
theorem tw4_14 : Cond.methodLink "OrphanLogsLaw" (114 : Nat) ({ cls := "OrphanLogs", name := "digest", desc := "()J" } : Jvm.MethodName) ∈ gT := tin4 14 rfl rfl
theorem tw4_15 : Cond.instanceMethod ({ cls := "OrphanLogs", name := "digest", desc := "()J" } : Jvm.MethodName) ∈ gT := tin4 15 rfl rfl
theorem tw4_16 : Cond.selects "OrphanLogs" ({ cls := "OrphanLogs", name := "digest", desc := "()J" } : Jvm.MethodName) ({ cls := "OrphanLogs", name := "digest", desc := "()J" } : Jvm.MethodName) ∈ gT := tin4 16 rfl rfl
theorem tw4_17 : Cond.code ({ cls := "OrphanLogs", name := "digest", desc := "()J" } : Jvm.MethodName) prog_1_method_26_code (5 : Nat) (Option.some Jvm.ClassFile.FieldType.long) ∈ gT := tin4 17 rfl rfl
theorem tw4_18 : Cond.constantLong "OrphanLogs" (175 : Nat) (2099 : Int64) ∈ gT := tin4 18 rfl rfl
theorem tw4_19 : Cond.constantLong "OrphanLogs" (177 : Nat) (31 : Int64) ∈ gT := tin4 19 rfl rfl
theorem tw4_20 : Cond.classLink "OrphanLogsLaw" (10 : Nat) "OrphanLogsModel" ∈ gT := tin4 20 rfl rfl
theorem tw4_21 : Cond.instantiable "OrphanLogsModel" (26 : Nat) ∈ gT := tin4 21 rfl rfl
theorem tw4_22 : Cond.methodLink "OrphanLogsLaw" (12 : Nat) ({ cls := "OrphanLogsModel", name := "<init>", desc := "()V" } : Jvm.MethodName) ∈ gT := tin4 22 rfl rfl
theorem tw4_23 : Cond.instanceMethod ({ cls := "OrphanLogsModel", name := "<init>", desc := "()V" } : Jvm.MethodName) ∈ gT := tin4 23 rfl rfl
theorem tw4_24 : Cond.code ({ cls := "OrphanLogsModel", name := "<init>", desc := "()V" } : Jvm.MethodName) prog_12_method_1_code (1 : Nat) (Option.none : Option Jvm.ClassFile.FieldType) ∈ gT := tin4 24 rfl rfl
theorem tw4_25 : Cond.methodLink "OrphanLogsModel" (1 : Nat) ({ cls := "java/lang/Object", name := "<init>", desc := "()V" } : Jvm.MethodName) ∈ gT := tin4 25 rfl rfl
theorem tw4_26 : Cond.fieldLink "OrphanLogsModel" (7 : Nat) "OrphanLogsModel" "clerksNow" "I" ∈ gT := tin4 26 rfl rfl
theorem tw4_27 : Cond.fieldLink "OrphanLogsModel" (13 : Nat) "OrphanLogsModel" "life" "[I" ∈ gT := tin4 27 rfl rfl
theorem tw4_28 : Cond.fieldLink "OrphanLogsModel" (17 : Nat) "OrphanLogsModel" "last" "[I" ∈ gT := tin4 28 rfl rfl
theorem tw4_29 : Cond.fieldLink "OrphanLogsModel" (20 : Nat) "OrphanLogsModel" "written" "[I" ∈ gT := tin4 29 rfl rfl
theorem tw4_30 : Cond.fieldLink "OrphanLogsModel" (23 : Nat) "OrphanLogsModel" "from" "[I" ∈ gT := tin4 30 rfl rfl
theorem tw4_31 : Cond.fieldLink "OrphanLogsModel" (26 : Nat) "OrphanLogsModel" "ends" "[I" ∈ gT := tin4 31 rfl rfl
theorem tw4_32 : Cond.fieldLink "OrphanLogsModel" (29 : Nat) "OrphanLogsModel" "pageLife" "[I" ∈ gT := tin4 32 rfl rfl
theorem tw4_33 : Cond.fieldLink "OrphanLogsModel" (32 : Nat) "OrphanLogsModel" "pageSum" "[I" ∈ gT := tin4 33 rfl rfl
theorem tw4_34 : Cond.fieldLink "OrphanLogsModel" (35 : Nat) "OrphanLogsModel" "restLife" "[I" ∈ gT := tin4 34 rfl rfl
theorem tw4_35 : Cond.fieldLink "OrphanLogsModel" (38 : Nat) "OrphanLogsModel" "restPage" "[I" ∈ gT := tin4 35 rfl rfl
theorem tw4_36 : Cond.fieldLink "OrphanLogsModel" (41 : Nat) "OrphanLogsModel" "letters" "[I" ∈ gT := tin4 36 rfl rfl
theorem tw4_37 : Cond.fieldLink "OrphanLogsModel" (71 : Nat) "OrphanLogsModel" "lettersMany" "I" ∈ gT := tin4 37 rfl rfl
theorem tw4_38 : Cond.fieldLink "OrphanLogsModel" (44 : Nat) "OrphanLogsModel" "sayings" "[I" ∈ gT := tin4 38 rfl rfl
theorem tw4_39 : Cond.fieldLink "OrphanLogsModel" (74 : Nat) "OrphanLogsModel" "sayingsMany" "I" ∈ gT := tin4 39 rfl rfl
theorem tw4_40 : Cond.fieldLink "OrphanLogsModel" (47 : Nat) "OrphanLogsModel" "freed" "[I" ∈ gT := tin4 40 rfl rfl
theorem tw4_41 : Cond.fieldLink "OrphanLogsModel" (77 : Nat) "OrphanLogsModel" "releasedMany" "I" ∈ gT := tin4 41 rfl rfl
theorem tw4_42 : Cond.fieldLink "OrphanLogsModel" (80 : Nat) "OrphanLogsModel" "gone" "I" ∈ gT := tin4 42 rfl rfl
theorem tw4_43 : Cond.fieldLink "OrphanLogsModel" (50 : Nat) "OrphanLogsModel" "refused" "[I" ∈ gT := tin4 43 rfl rfl
theorem tw4_44 : Cond.fieldLink "OrphanLogsModel" (53 : Nat) "OrphanLogsModel" "aside" "[I" ∈ gT := tin4 44 rfl rfl
theorem tw4_45 : Cond.fieldLink "OrphanLogsModel" (156 : Nat) "OrphanLogsModel" "triedClerks" "I" ∈ gT := tin4 45 rfl rfl
theorem tw4_46 : Cond.fieldLink "OrphanLogsModel" (159 : Nat) "OrphanLogsModel" "triedLost" "I" ∈ gT := tin4 46 rfl rfl
theorem tw4_47 : Cond.fieldLink "OrphanLogsModel" (56 : Nat) "OrphanLogsModel" "text" "[I" ∈ gT := tin4 47 rfl rfl
theorem tw4_48 : Cond.fieldLink "OrphanLogsModel" (230 : Nat) "OrphanLogsModel" "textLong" "I" ∈ gT := tin4 48 rfl rfl
theorem tw4_49 : Cond.fieldLink "OrphanLogsModel" (236 : Nat) "OrphanLogsModel" "place" "I" ∈ gT := tin4 49 rfl rfl
theorem tw4_50 : Cond.fieldLink "OrphanLogsModel" (255 : Nat) "OrphanLogsModel" "first" "I" ∈ gT := tin4 50 rfl rfl
theorem tw4_51 : Cond.fieldLink "OrphanLogsModel" (258 : Nat) "OrphanLogsModel" "second" "I" ∈ gT := tin4 51 rfl rfl
theorem tw4_52 : Cond.lays "OrphanLogsModel" "OrphanLogsModel" "clerksNow" "I" ∈ gT := tin4 52 rfl rfl
theorem tw4_54 : Cond.laysFinal "OrphanLogsModel" "OrphanLogsModel" "life" "[I" ∈ gT := tin4 54 rfl rfl
theorem tw4_56 : Cond.laysFinal "OrphanLogsModel" "OrphanLogsModel" "last" "[I" ∈ gT := tin4 56 rfl rfl
theorem tw4_58 : Cond.laysFinal "OrphanLogsModel" "OrphanLogsModel" "written" "[I" ∈ gT := tin4 58 rfl rfl
theorem tw4_60 : Cond.laysFinal "OrphanLogsModel" "OrphanLogsModel" "from" "[I" ∈ gT := tin4 60 rfl rfl
theorem tw4_62 : Cond.laysFinal "OrphanLogsModel" "OrphanLogsModel" "ends" "[I" ∈ gT := tin4 62 rfl rfl
theorem tw4_64 : Cond.laysFinal "OrphanLogsModel" "OrphanLogsModel" "pageLife" "[I" ∈ gT := tin4 64 rfl rfl
theorem tw4_66 : Cond.laysFinal "OrphanLogsModel" "OrphanLogsModel" "pageSum" "[I" ∈ gT := tin4 66 rfl rfl
theorem tw4_68 : Cond.laysFinal "OrphanLogsModel" "OrphanLogsModel" "restLife" "[I" ∈ gT := tin4 68 rfl rfl
theorem tw4_70 : Cond.laysFinal "OrphanLogsModel" "OrphanLogsModel" "restPage" "[I" ∈ gT := tin4 70 rfl rfl
theorem tw4_72 : Cond.laysFinal "OrphanLogsModel" "OrphanLogsModel" "letters" "[I" ∈ gT := tin4 72 rfl rfl
theorem tw4_74 : Cond.lays "OrphanLogsModel" "OrphanLogsModel" "lettersMany" "I" ∈ gT := tin4 74 rfl rfl
theorem tw4_76 : Cond.laysFinal "OrphanLogsModel" "OrphanLogsModel" "sayings" "[I" ∈ gT := tin4 76 rfl rfl
theorem tw4_78 : Cond.lays "OrphanLogsModel" "OrphanLogsModel" "sayingsMany" "I" ∈ gT := tin4 78 rfl rfl
theorem tw4_80 : Cond.laysFinal "OrphanLogsModel" "OrphanLogsModel" "freed" "[I" ∈ gT := tin4 80 rfl rfl
theorem tw4_82 : Cond.lays "OrphanLogsModel" "OrphanLogsModel" "releasedMany" "I" ∈ gT := tin4 82 rfl rfl
theorem tw4_84 : Cond.lays "OrphanLogsModel" "OrphanLogsModel" "gone" "I" ∈ gT := tin4 84 rfl rfl
theorem tw4_86 : Cond.laysFinal "OrphanLogsModel" "OrphanLogsModel" "refused" "[I" ∈ gT := tin4 86 rfl rfl
theorem tw4_88 : Cond.laysFinal "OrphanLogsModel" "OrphanLogsModel" "aside" "[I" ∈ gT := tin4 88 rfl rfl
theorem tw4_90 : Cond.lays "OrphanLogsModel" "OrphanLogsModel" "triedClerks" "I" ∈ gT := tin4 90 rfl rfl
theorem tw4_92 : Cond.lays "OrphanLogsModel" "OrphanLogsModel" "triedLost" "I" ∈ gT := tin4 92 rfl rfl
theorem tw4_94 : Cond.laysFinal "OrphanLogsModel" "OrphanLogsModel" "text" "[I" ∈ gT := tin4 94 rfl rfl
theorem tw4_96 : Cond.lays "OrphanLogsModel" "OrphanLogsModel" "textLong" "I" ∈ gT := tin4 96 rfl rfl
theorem tw4_98 : Cond.lays "OrphanLogsModel" "OrphanLogsModel" "place" "I" ∈ gT := tin4 98 rfl rfl
theorem tw4_100 : Cond.lays "OrphanLogsModel" "OrphanLogsModel" "first" "I" ∈ gT := tin4 100 rfl rfl
theorem tw4_102 : Cond.lays "OrphanLogsModel" "OrphanLogsModel" "second" "I" ∈ gT := tin4 102 rfl rfl
theorem tw4_105 : Cond.methodLink "OrphanLogsLaw" (17 : Nat) ({ cls := "OrphanLogsModel", name := "clerks", desc := "(I)I" } : Jvm.MethodName) ∈ gT := tin4 105 rfl rfl
theorem tw4_106 : Cond.instanceMethod ({ cls := "OrphanLogsModel", name := "clerks", desc := "(I)I" } : Jvm.MethodName) ∈ gT := tin4 106 rfl rfl
theorem tw4_107 : Cond.selects "OrphanLogsModel" ({ cls := "OrphanLogsModel", name := "clerks", desc := "(I)I" } : Jvm.MethodName) ({ cls := "OrphanLogsModel", name := "clerks", desc := "(I)I" } : Jvm.MethodName) ∈ gT := tin4 107 rfl rfl
theorem tw4_108 : Cond.code ({ cls := "OrphanLogsModel", name := "clerks", desc := "(I)I" } : Jvm.MethodName) prog_12_method_12_code (3 : Nat) (Option.some Jvm.ClassFile.FieldType.int) ∈ gT := tin4 108 rfl rfl
theorem tw4_109 : Cond.constantLong "OrphanLogsModel" (83 : Nat) (2 : Int64) ∈ gT := tin4 109 rfl rfl
theorem tw4_110 : Cond.constantLong "OrphanLogsModel" (85 : Nat) (5 : Int64) ∈ gT := tin4 110 rfl rfl
theorem tw4_111 : Cond.methodLink "OrphanLogsModel" (59 : Nat) ({ cls := "OrphanLogsModel", name := "in", desc := "(JJJ)Z" } : Jvm.MethodName) ∈ gT := tin4 111 rfl rfl
theorem tw4_112 : Cond.static ({ cls := "OrphanLogsModel", name := "in", desc := "(JJJ)Z" } : Jvm.MethodName) ∈ gT := tin4 112 rfl rfl
theorem tw4_113 : Cond.code ({ cls := "OrphanLogsModel", name := "in", desc := "(JJJ)Z" } : Jvm.MethodName) prog_12_method_3_code (6 : Nat) (Option.some Jvm.ClassFile.FieldType.boolean) ∈ gT := tin4 113 rfl rfl
theorem tw4_114 : Cond.methodLink "OrphanLogsModel" (87 : Nat) ({ cls := "OrphanLogsModel", name := "bad", desc := "()I" } : Jvm.MethodName) ∈ gT := tin4 114 rfl rfl
theorem tw4_116 : Cond.instanceMethod ({ cls := "OrphanLogsModel", name := "bad", desc := "()I" } : Jvm.MethodName) ∈ gT := tin4 116 rfl rfl
theorem tw4_117 : Cond.code ({ cls := "OrphanLogsModel", name := "bad", desc := "()I" } : Jvm.MethodName) prog_12_method_4_code (1 : Nat) (Option.some Jvm.ClassFile.FieldType.int) ∈ gT := tin4 117 rfl rfl
theorem tw4_118 : Cond.methodLink "OrphanLogsModel" (91 : Nat) ({ cls := "OrphanLogsModel", name := "begins", desc := "()V" } : Jvm.MethodName) ∈ gT := tin4 118 rfl rfl
theorem tw4_120 : Cond.instanceMethod ({ cls := "OrphanLogsModel", name := "begins", desc := "()V" } : Jvm.MethodName) ∈ gT := tin4 120 rfl rfl
theorem tw4_121 : Cond.code ({ cls := "OrphanLogsModel", name := "begins", desc := "()V" } : Jvm.MethodName) prog_12_method_11_code (3 : Nat) (Option.none : Option Jvm.ClassFile.FieldType) ∈ gT := tin4 121 rfl rfl
theorem tw4_122 : Cond.methodLink "OrphanLogsModel" (63 : Nat) ({ cls := "OrphanLogsModel", name := "pageOf", desc := "(II)I" } : Jvm.MethodName) ∈ gT := tin4 122 rfl rfl
theorem tw4_123 : Cond.static ({ cls := "OrphanLogsModel", name := "pageOf", desc := "(II)I" } : Jvm.MethodName) ∈ gT := tin4 123 rfl rfl
theorem tw4_124 : Cond.code ({ cls := "OrphanLogsModel", name := "pageOf", desc := "(II)I" } : Jvm.MethodName) prog_12_method_9_code (2 : Nat) (Option.some Jvm.ClassFile.FieldType.int) ∈ gT := tin4 124 rfl rfl
theorem tw4_125 : Cond.methodLink "OrphanLogsModel" (67 : Nat) ({ cls := "OrphanLogsModel", name := "restOf", desc := "(III)I" } : Jvm.MethodName) ∈ gT := tin4 125 rfl rfl
theorem tw4_126 : Cond.static ({ cls := "OrphanLogsModel", name := "restOf", desc := "(III)I" } : Jvm.MethodName) ∈ gT := tin4 126 rfl rfl
theorem tw4_127 : Cond.code ({ cls := "OrphanLogsModel", name := "restOf", desc := "(III)I" } : Jvm.MethodName) prog_12_method_10_code (3 : Nat) (Option.some Jvm.ClassFile.FieldType.int) ∈ gT := tin4 127 rfl rfl
theorem tw4_128 : Cond.methodLink "OrphanLogsLaw" (22 : Nat) ({ cls := "OrphanLogsModel", name := "work", desc := "(II)I" } : Jvm.MethodName) ∈ gT := tin4 128 rfl rfl
theorem tw4_129 : Cond.instanceMethod ({ cls := "OrphanLogsModel", name := "work", desc := "(II)I" } : Jvm.MethodName) ∈ gT := tin4 129 rfl rfl
theorem tw4_130 : Cond.selects "OrphanLogsModel" ({ cls := "OrphanLogsModel", name := "work", desc := "(II)I" } : Jvm.MethodName) ({ cls := "OrphanLogsModel", name := "work", desc := "(II)I" } : Jvm.MethodName) ∈ gT := tin4 130 rfl rfl
theorem tw4_131 : Cond.code ({ cls := "OrphanLogsModel", name := "work", desc := "(II)I" } : Jvm.MethodName) prog_12_method_14_code (3 : Nat) (Option.some Jvm.ClassFile.FieldType.int) ∈ gT := tin4 131 rfl rfl
theorem tw4_132 : Cond.methodLink "OrphanLogsModel" (98 : Nat) ({ cls := "OrphanLogsModel", name := "isClerk", desc := "(I)Z" } : Jvm.MethodName) ∈ gT := tin4 132 rfl rfl
theorem tw4_134 : Cond.instanceMethod ({ cls := "OrphanLogsModel", name := "isClerk", desc := "(I)Z" } : Jvm.MethodName) ∈ gT := tin4 134 rfl rfl
theorem tw4_135 : Cond.code ({ cls := "OrphanLogsModel", name := "isClerk", desc := "(I)Z" } : Jvm.MethodName) prog_12_method_8_code (2 : Nat) (Option.some Jvm.ClassFile.FieldType.boolean) ∈ gT := tin4 135 rfl rfl
theorem tw4_136 : Cond.constantLong "OrphanLogsModel" (102 : Nat) (999 : Int64) ∈ gT := tin4 136 rfl rfl
theorem tw4_137 : Cond.methodLink "OrphanLogsModel" (104 : Nat) ({ cls := "OrphanLogsModel", name := "writesPage", desc := "(II)I" } : Jvm.MethodName) ∈ gT := tin4 137 rfl rfl
theorem tw4_139 : Cond.instanceMethod ({ cls := "OrphanLogsModel", name := "writesPage", desc := "(II)I" } : Jvm.MethodName) ∈ gT := tin4 139 rfl rfl
theorem tw4_140 : Cond.code ({ cls := "OrphanLogsModel", name := "writesPage", desc := "(II)I" } : Jvm.MethodName) prog_12_method_13_code (5 : Nat) (Option.some Jvm.ClassFile.FieldType.int) ∈ gT := tin4 140 rfl rfl
theorem tw4_141 : Cond.constantLong "OrphanLogsModel" (94 : Nat) (3 : Int64) ∈ gT := tin4 141 rfl rfl
theorem tw4_142 : Cond.constantLong "OrphanLogsModel" (96 : Nat) (1000003 : Int64) ∈ gT := tin4 142 rfl rfl
theorem tw4_143 : Cond.methodLink "OrphanLogsModel" (107 : Nat) ({ cls := "OrphanLogsModel", name := "tells", desc := "(I)I" } : Jvm.MethodName) ∈ gT := tin4 143 rfl rfl
theorem tw4_145 : Cond.instanceMethod ({ cls := "OrphanLogsModel", name := "tells", desc := "(I)I" } : Jvm.MethodName) ∈ gT := tin4 145 rfl rfl
theorem tw4_146 : Cond.code ({ cls := "OrphanLogsModel", name := "tells", desc := "(I)I" } : Jvm.MethodName) prog_12_method_7_code (2 : Nat) (Option.some Jvm.ClassFile.FieldType.int) ∈ gT := tin4 146 rfl rfl
theorem tw4_147 : Cond.methodLink "OrphanLogsLaw" (26 : Nat) ({ cls := "OrphanLogsModel", name := "send", desc := "(II)I" } : Jvm.MethodName) ∈ gT := tin4 147 rfl rfl
theorem tw4_148 : Cond.instanceMethod ({ cls := "OrphanLogsModel", name := "send", desc := "(II)I" } : Jvm.MethodName) ∈ gT := tin4 148 rfl rfl
theorem tw4_149 : Cond.selects "OrphanLogsModel" ({ cls := "OrphanLogsModel", name := "send", desc := "(II)I" } : Jvm.MethodName) ({ cls := "OrphanLogsModel", name := "send", desc := "(II)I" } : Jvm.MethodName) ∈ gT := tin4 149 rfl rfl
theorem tw4_150 : Cond.code ({ cls := "OrphanLogsModel", name := "send", desc := "(II)I" } : Jvm.MethodName) prog_12_method_16_code (3 : Nat) (Option.some Jvm.ClassFile.FieldType.int) ∈ gT := tin4 150 rfl rfl
theorem tw4_151 : Cond.methodLink "OrphanLogsModel" (111 : Nat) ({ cls := "OrphanLogsModel", name := "sends", desc := "(II)I" } : Jvm.MethodName) ∈ gT := tin4 151 rfl rfl
theorem tw4_153 : Cond.instanceMethod ({ cls := "OrphanLogsModel", name := "sends", desc := "(II)I" } : Jvm.MethodName) ∈ gT := tin4 153 rfl rfl
theorem tw4_154 : Cond.code ({ cls := "OrphanLogsModel", name := "sends", desc := "(II)I" } : Jvm.MethodName) prog_12_method_15_code (5 : Nat) (Option.some Jvm.ClassFile.FieldType.int) ∈ gT := tin4 154 rfl rfl
theorem tw4_155 : Cond.methodLink "OrphanLogsLaw" (30 : Nat) ({ cls := "OrphanLogsModel", name := "get", desc := "(II)I" } : Jvm.MethodName) ∈ gT := tin4 155 rfl rfl
theorem tw4_156 : Cond.instanceMethod ({ cls := "OrphanLogsModel", name := "get", desc := "(II)I" } : Jvm.MethodName) ∈ gT := tin4 156 rfl rfl
theorem tw4_157 : Cond.selects "OrphanLogsModel" ({ cls := "OrphanLogsModel", name := "get", desc := "(II)I" } : Jvm.MethodName) ({ cls := "OrphanLogsModel", name := "get", desc := "(II)I" } : Jvm.MethodName) ∈ gT := tin4 157 rfl rfl
theorem tw4_158 : Cond.code ({ cls := "OrphanLogsModel", name := "get", desc := "(II)I" } : Jvm.MethodName) prog_12_method_22_code (4 : Nat) (Option.some Jvm.ClassFile.FieldType.int) ∈ gT := tin4 158 rfl rfl
theorem tw4_159 : Cond.methodLink "OrphanLogsModel" (128 : Nat) ({ cls := "OrphanLogsModel", name := "gets", desc := "(II)I" } : Jvm.MethodName) ∈ gT := tin4 159 rfl rfl
theorem tw4_161 : Cond.instanceMethod ({ cls := "OrphanLogsModel", name := "gets", desc := "(II)I" } : Jvm.MethodName) ∈ gT := tin4 161 rfl rfl
theorem tw4_162 : Cond.code ({ cls := "OrphanLogsModel", name := "gets", desc := "(II)I" } : Jvm.MethodName) prog_12_method_21_code (10 : Nat) (Option.some Jvm.ClassFile.FieldType.int) ∈ gT := tin4 162 rfl rfl
theorem tw4_163 : Cond.methodLink "OrphanLogsModel" (118 : Nat) ({ cls := "OrphanLogsModel", name := "letterAt", desc := "(II)I" } : Jvm.MethodName) ∈ gT := tin4 163 rfl rfl
theorem tw4_165 : Cond.instanceMethod ({ cls := "OrphanLogsModel", name := "letterAt", desc := "(II)I" } : Jvm.MethodName) ∈ gT := tin4 165 rfl rfl
theorem tw4_166 : Cond.code ({ cls := "OrphanLogsModel", name := "letterAt", desc := "(II)I" } : Jvm.MethodName) prog_12_method_19_code (5 : Nat) (Option.some Jvm.ClassFile.FieldType.int) ∈ gT := tin4 166 rfl rfl
theorem tw4_167 : Cond.methodLink "OrphanLogsModel" (121 : Nat) ({ cls := "OrphanLogsModel", name := "isDeadLetter", desc := "(I)Z" } : Jvm.MethodName) ∈ gT := tin4 167 rfl rfl
theorem tw4_169 : Cond.instanceMethod ({ cls := "OrphanLogsModel", name := "isDeadLetter", desc := "(I)Z" } : Jvm.MethodName) ∈ gT := tin4 169 rfl rfl
theorem tw4_170 : Cond.code ({ cls := "OrphanLogsModel", name := "isDeadLetter", desc := "(I)Z" } : Jvm.MethodName) prog_12_method_18_code (4 : Nat) (Option.some Jvm.ClassFile.FieldType.boolean) ∈ gT := tin4 170 rfl rfl
theorem tw4_171 : Cond.methodLink "OrphanLogsModel" (114 : Nat) ({ cls := "OrphanLogsModel", name := "isDead", desc := "(III)Z" } : Jvm.MethodName) ∈ gT := tin4 171 rfl rfl
theorem tw4_173 : Cond.instanceMethod ({ cls := "OrphanLogsModel", name := "isDead", desc := "(III)Z" } : Jvm.MethodName) ∈ gT := tin4 173 rfl rfl
theorem tw4_174 : Cond.code ({ cls := "OrphanLogsModel", name := "isDead", desc := "(III)Z" } : Jvm.MethodName) prog_12_method_17_code (6 : Nat) (Option.some Jvm.ClassFile.FieldType.boolean) ∈ gT := tin4 174 rfl rfl
theorem tw4_175 : Cond.methodLink "OrphanLogsModel" (124 : Nat) ({ cls := "OrphanLogsModel", name := "takeLetter", desc := "(I)V" } : Jvm.MethodName) ∈ gT := tin4 175 rfl rfl
theorem tw4_177 : Cond.instanceMethod ({ cls := "OrphanLogsModel", name := "takeLetter", desc := "(I)V" } : Jvm.MethodName) ∈ gT := tin4 177 rfl rfl
theorem tw4_178 : Cond.code ({ cls := "OrphanLogsModel", name := "takeLetter", desc := "(I)V" } : Jvm.MethodName) prog_12_method_20_code (3 : Nat) (Option.none : Option Jvm.ClassFile.FieldType) ∈ gT := tin4 178 rfl rfl
theorem tw4_179 : Cond.methodLink "OrphanLogsLaw" (34 : Nat) ({ cls := "OrphanLogsModel", name := "writes", desc := "(II)I" } : Jvm.MethodName) ∈ gT := tin4 179 rfl rfl
theorem tw4_180 : Cond.instanceMethod ({ cls := "OrphanLogsModel", name := "writes", desc := "(II)I" } : Jvm.MethodName) ∈ gT := tin4 180 rfl rfl
theorem tw4_181 : Cond.selects "OrphanLogsModel" ({ cls := "OrphanLogsModel", name := "writes", desc := "(II)I" } : Jvm.MethodName) ({ cls := "OrphanLogsModel", name := "writes", desc := "(II)I" } : Jvm.MethodName) ∈ gT := tin4 181 rfl rfl
theorem tw4_182 : Cond.code ({ cls := "OrphanLogsModel", name := "writes", desc := "(II)I" } : Jvm.MethodName) prog_12_method_24_code (3 : Nat) (Option.some Jvm.ClassFile.FieldType.int) ∈ gT := tin4 182 rfl rfl
theorem tw4_183 : Cond.constantLong "OrphanLogsModel" (131 : Nat) (24 : Int64) ∈ gT := tin4 183 rfl rfl
theorem tw4_184 : Cond.methodLink "OrphanLogsModel" (133 : Nat) ({ cls := "OrphanLogsModel", name := "becomesWritten", desc := "(II)I" } : Jvm.MethodName) ∈ gT := tin4 184 rfl rfl
theorem tw4_186 : Cond.instanceMethod ({ cls := "OrphanLogsModel", name := "becomesWritten", desc := "(II)I" } : Jvm.MethodName) ∈ gT := tin4 186 rfl rfl
theorem tw4_187 : Cond.code ({ cls := "OrphanLogsModel", name := "becomesWritten", desc := "(II)I" } : Jvm.MethodName) prog_12_method_23_code (4 : Nat) (Option.some Jvm.ClassFile.FieldType.int) ∈ gT := tin4 187 rfl rfl
theorem tw4_188 : Cond.methodLink "OrphanLogsLaw" (38 : Nat) ({ cls := "OrphanLogsModel", name := "loses", desc := "(I)I" } : Jvm.MethodName) ∈ gT := tin4 188 rfl rfl
theorem tw4_189 : Cond.instanceMethod ({ cls := "OrphanLogsModel", name := "loses", desc := "(I)I" } : Jvm.MethodName) ∈ gT := tin4 189 rfl rfl
theorem tw4_190 : Cond.selects "OrphanLogsModel" ({ cls := "OrphanLogsModel", name := "loses", desc := "(I)I" } : Jvm.MethodName) ({ cls := "OrphanLogsModel", name := "loses", desc := "(I)I" } : Jvm.MethodName) ∈ gT := tin4 190 rfl rfl
theorem tw4_191 : Cond.code ({ cls := "OrphanLogsModel", name := "loses", desc := "(I)I" } : Jvm.MethodName) prog_12_method_31_code (2 : Nat) (Option.some Jvm.ClassFile.FieldType.int) ∈ gT := tin4 191 rfl rfl
theorem tw4_192 : Cond.methodLink "OrphanLogsModel" (153 : Nat) ({ cls := "OrphanLogsModel", name := "losesNow", desc := "(I)I" } : Jvm.MethodName) ∈ gT := tin4 192 rfl rfl
theorem tw4_194 : Cond.instanceMethod ({ cls := "OrphanLogsModel", name := "losesNow", desc := "(I)I" } : Jvm.MethodName) ∈ gT := tin4 194 rfl rfl
theorem tw4_195 : Cond.code ({ cls := "OrphanLogsModel", name := "losesNow", desc := "(I)I" } : Jvm.MethodName) prog_12_method_30_code (5 : Nat) (Option.some Jvm.ClassFile.FieldType.int) ∈ gT := tin4 195 rfl rfl
theorem tw4_196 : Cond.methodLink "OrphanLogsModel" (146 : Nat) ({ cls := "OrphanLogsModel", name := "isTooOld", desc := "()Z" } : Jvm.MethodName) ∈ gT := tin4 196 rfl rfl
theorem tw4_198 : Cond.instanceMethod ({ cls := "OrphanLogsModel", name := "isTooOld", desc := "()Z" } : Jvm.MethodName) ∈ gT := tin4 198 rfl rfl
theorem tw4_199 : Cond.code ({ cls := "OrphanLogsModel", name := "isTooOld", desc := "()Z" } : Jvm.MethodName) prog_12_method_29_code (3 : Nat) (Option.some Jvm.ClassFile.FieldType.boolean) ∈ gT := tin4 199 rfl rfl
theorem tw4_200 : Cond.methodLink "OrphanLogsModel" (150 : Nat) ({ cls := "OrphanLogsModel", name := "lossOf", desc := "(I)I" } : Jvm.MethodName) ∈ gT := tin4 200 rfl rfl
theorem tw4_202 : Cond.instanceMethod ({ cls := "OrphanLogsModel", name := "lossOf", desc := "(I)I" } : Jvm.MethodName) ∈ gT := tin4 202 rfl rfl
theorem tw4_203 : Cond.code ({ cls := "OrphanLogsModel", name := "lossOf", desc := "(I)I" } : Jvm.MethodName) prog_12_method_28_code (5 : Nat) (Option.some Jvm.ClassFile.FieldType.int) ∈ gT := tin4 203 rfl rfl
theorem tw4_204 : Cond.methodLink "OrphanLogsModel" (140 : Nat) ({ cls := "OrphanLogsModel", name := "falls", desc := "(II)I" } : Jvm.MethodName) ∈ gT := tin4 204 rfl rfl
theorem tw4_206 : Cond.instanceMethod ({ cls := "OrphanLogsModel", name := "falls", desc := "(II)I" } : Jvm.MethodName) ∈ gT := tin4 206 rfl rfl
theorem tw4_207 : Cond.code ({ cls := "OrphanLogsModel", name := "falls", desc := "(II)I" } : Jvm.MethodName) prog_12_method_27_code (4 : Nat) (Option.some Jvm.ClassFile.FieldType.int) ∈ gT := tin4 207 rfl rfl
theorem tw4_208 : Cond.methodLink "OrphanLogsModel" (143 : Nat) ({ cls := "OrphanLogsModel", name := "firstDead", desc := "(I)I" } : Jvm.MethodName) ∈ gT := tin4 208 rfl rfl
theorem tw4_210 : Cond.instanceMethod ({ cls := "OrphanLogsModel", name := "firstDead", desc := "(I)I" } : Jvm.MethodName) ∈ gT := tin4 210 rfl rfl
theorem tw4_211 : Cond.code ({ cls := "OrphanLogsModel", name := "firstDead", desc := "(I)I" } : Jvm.MethodName) prog_12_method_26_code (3 : Nat) (Option.some Jvm.ClassFile.FieldType.int) ∈ gT := tin4 211 rfl rfl
theorem tw4_212 : Cond.methodLink "OrphanLogsModel" (136 : Nat) ({ cls := "OrphanLogsModel", name := "isDeadPage", desc := "(II)Z" } : Jvm.MethodName) ∈ gT := tin4 212 rfl rfl
theorem tw4_214 : Cond.instanceMethod ({ cls := "OrphanLogsModel", name := "isDeadPage", desc := "(II)Z" } : Jvm.MethodName) ∈ gT := tin4 214 rfl rfl
theorem tw4_215 : Cond.code ({ cls := "OrphanLogsModel", name := "isDeadPage", desc := "(II)Z" } : Jvm.MethodName) prog_12_method_25_code (5 : Nat) (Option.some Jvm.ClassFile.FieldType.boolean) ∈ gT := tin4 215 rfl rfl
theorem tw4_216 : Cond.methodLink "OrphanLogsLaw" (93 : Nat) ({ cls := "OrphanLogsModel", name := "would", desc := "(II)I" } : Jvm.MethodName) ∈ gT := tin4 216 rfl rfl
theorem tw4_217 : Cond.instanceMethod ({ cls := "OrphanLogsModel", name := "would", desc := "(II)I" } : Jvm.MethodName) ∈ gT := tin4 217 rfl rfl
theorem tw4_218 : Cond.selects "OrphanLogsModel" ({ cls := "OrphanLogsModel", name := "would", desc := "(II)I" } : Jvm.MethodName) ({ cls := "OrphanLogsModel", name := "would", desc := "(II)I" } : Jvm.MethodName) ∈ gT := tin4 218 rfl rfl
theorem tw4_219 : Cond.code ({ cls := "OrphanLogsModel", name := "would", desc := "(II)I" } : Jvm.MethodName) prog_12_method_33_code (4 : Nat) (Option.some Jvm.ClassFile.FieldType.int) ∈ gT := tin4 219 rfl rfl
theorem tw4_220 : Cond.methodLink "OrphanLogsModel" (162 : Nat) ({ cls := "OrphanLogsModel", name := "tries", desc := "(I)I" } : Jvm.MethodName) ∈ gT := tin4 220 rfl rfl
theorem tw4_222 : Cond.instanceMethod ({ cls := "OrphanLogsModel", name := "tries", desc := "(I)I" } : Jvm.MethodName) ∈ gT := tin4 222 rfl rfl
theorem tw4_223 : Cond.code ({ cls := "OrphanLogsModel", name := "tries", desc := "(I)I" } : Jvm.MethodName) prog_12_method_32_code (4 : Nat) (Option.some Jvm.ClassFile.FieldType.int) ∈ gT := tin4 223 rfl rfl
theorem tw4_224 : Cond.methodLink "OrphanLogsLaw" (97 : Nat) ({ cls := "OrphanLogsModel", name := "worst", desc := "(I)I" } : Jvm.MethodName) ∈ gT := tin4 224 rfl rfl
theorem tw4_225 : Cond.instanceMethod ({ cls := "OrphanLogsModel", name := "worst", desc := "(I)I" } : Jvm.MethodName) ∈ gT := tin4 225 rfl rfl
theorem tw4_226 : Cond.selects "OrphanLogsModel" ({ cls := "OrphanLogsModel", name := "worst", desc := "(I)I" } : Jvm.MethodName) ({ cls := "OrphanLogsModel", name := "worst", desc := "(I)I" } : Jvm.MethodName) ∈ gT := tin4 226 rfl rfl
theorem tw4_227 : Cond.code ({ cls := "OrphanLogsModel", name := "worst", desc := "(I)I" } : Jvm.MethodName) prog_12_method_34_code (6 : Nat) (Option.some Jvm.ClassFile.FieldType.int) ∈ gT := tin4 227 rfl rfl
theorem tw4_228 : Cond.methodLink "OrphanLogsLaw" (42 : Nat) ({ cls := "OrphanLogsModel", name := "draw", desc := "(II)I" } : Jvm.MethodName) ∈ gT := tin4 228 rfl rfl
theorem tw4_229 : Cond.instanceMethod ({ cls := "OrphanLogsModel", name := "draw", desc := "(II)I" } : Jvm.MethodName) ∈ gT := tin4 229 rfl rfl
theorem tw4_230 : Cond.selects "OrphanLogsModel" ({ cls := "OrphanLogsModel", name := "draw", desc := "(II)I" } : Jvm.MethodName) ({ cls := "OrphanLogsModel", name := "draw", desc := "(II)I" } : Jvm.MethodName) ∈ gT := tin4 230 rfl rfl
theorem tw4_231 : Cond.code ({ cls := "OrphanLogsModel", name := "draw", desc := "(II)I" } : Jvm.MethodName) prog_12_method_35_code (7 : Nat) (Option.some Jvm.ClassFile.FieldType.int) ∈ gT := tin4 231 rfl rfl
theorem tw4_232 : Cond.constantLong "OrphanLogsModel" (165 : Nat) (999999 : Int64) ∈ gT := tin4 232 rfl rfl
theorem tw4_233 : Cond.constantLong "OrphanLogsModel" (167 : Nat) (60 : Int64) ∈ gT := tin4 233 rfl rfl
theorem tw4_234 : Cond.constantLong "OrphanLogsModel" (169 : Nat) (1103515245 : Int64) ∈ gT := tin4 234 rfl rfl
theorem tw4_235 : Cond.constantLong "OrphanLogsModel" (171 : Nat) (12345 : Int64) ∈ gT := tin4 235 rfl rfl
theorem tw4_236 : Cond.constantLong "OrphanLogsModel" (173 : Nat) (2147483648 : Int64) ∈ gT := tin4 236 rfl rfl
theorem tw4_237 : Cond.constantLong "OrphanLogsModel" (175 : Nat) (65536 : Int64) ∈ gT := tin4 237 rfl rfl
theorem tw4_238 : Cond.constantLong "OrphanLogsModel" (177 : Nat) (1024 : Int64) ∈ gT := tin4 238 rfl rfl
theorem tw4_239 : Cond.constantLong "OrphanLogsModel" (179 : Nat) (9 : Int64) ∈ gT := tin4 239 rfl rfl
theorem tw5_0 : Cond.constantLong "OrphanLogsModel" (181 : Nat) (32768 : Int64) ∈ gT := tin5 0 rfl rfl
theorem tw5_1 : Cond.constantLong "OrphanLogsModel" (183 : Nat) (1000 : Int64) ∈ gT := tin5 1 rfl rfl
theorem tw5_2 : Cond.methodLink "OrphanLogsModel" (185 : Nat) ({ cls := "OrphanLogsModel", name := "draws", desc := "(III)Z" } : Jvm.MethodName) ∈ gT := tin5 2 rfl rfl
theorem tw5_4 : Cond.instanceMethod ({ cls := "OrphanLogsModel", name := "draws", desc := "(III)Z" } : Jvm.MethodName) ∈ gT := tin5 4 rfl rfl
theorem tw5_5 : Cond.code ({ cls := "OrphanLogsModel", name := "draws", desc := "(III)Z" } : Jvm.MethodName) prog_12_method_36_code (4 : Nat) (Option.some Jvm.ClassFile.FieldType.boolean) ∈ gT := tin5 5 rfl rfl
theorem tw5_6 : Cond.methodLink "OrphanLogsModel" (188 : Nat) ({ cls := "OrphanLogsModel", name := "saysNow", desc := "(I)I" } : Jvm.MethodName) ∈ gT := tin5 6 rfl rfl
theorem tw5_8 : Cond.instanceMethod ({ cls := "OrphanLogsModel", name := "saysNow", desc := "(I)I" } : Jvm.MethodName) ∈ gT := tin5 8 rfl rfl
theorem tw5_9 : Cond.code ({ cls := "OrphanLogsModel", name := "saysNow", desc := "(I)I" } : Jvm.MethodName) prog_12_method_48_code (2 : Nat) (Option.some Jvm.ClassFile.FieldType.int) ∈ gT := tin5 9 rfl rfl
theorem tw5_10 : Cond.methodLink "OrphanLogsModel" (200 : Nat) ({ cls := "OrphanLogsModel", name := "heldOf", desc := "(I)I" } : Jvm.MethodName) ∈ gT := tin5 10 rfl rfl
theorem tw5_12 : Cond.instanceMethod ({ cls := "OrphanLogsModel", name := "heldOf", desc := "(I)I" } : Jvm.MethodName) ∈ gT := tin5 12 rfl rfl
theorem tw5_13 : Cond.code ({ cls := "OrphanLogsModel", name := "heldOf", desc := "(I)I" } : Jvm.MethodName) prog_12_method_40_code (4 : Nat) (Option.some Jvm.ClassFile.FieldType.int) ∈ gT := tin5 13 rfl rfl
theorem tw5_14 : Cond.methodLink "OrphanLogsLaw" (46 : Nat) ({ cls := "OrphanLogsModel", name := "of", desc := "(II)I" } : Jvm.MethodName) ∈ gT := tin5 14 rfl rfl
theorem tw5_15 : Cond.instanceMethod ({ cls := "OrphanLogsModel", name := "of", desc := "(II)I" } : Jvm.MethodName) ∈ gT := tin5 15 rfl rfl
theorem tw5_16 : Cond.selects "OrphanLogsModel" ({ cls := "OrphanLogsModel", name := "of", desc := "(II)I" } : Jvm.MethodName) ({ cls := "OrphanLogsModel", name := "of", desc := "(II)I" } : Jvm.MethodName) ∈ gT := tin5 16 rfl rfl
theorem tw5_17 : Cond.code ({ cls := "OrphanLogsModel", name := "of", desc := "(II)I" } : Jvm.MethodName) prog_12_method_42_code (3 : Nat) (Option.some Jvm.ClassFile.FieldType.int) ∈ gT := tin5 17 rfl rfl
theorem tw5_18 : Cond.constantLong "OrphanLogsModel" (203 : Nat) (7 : Int64) ∈ gT := tin5 18 rfl rfl
theorem tw5_19 : Cond.methodLink "OrphanLogsModel" (205 : Nat) ({ cls := "OrphanLogsModel", name := "clerkOf", desc := "(II)I" } : Jvm.MethodName) ∈ gT := tin5 19 rfl rfl
theorem tw5_21 : Cond.instanceMethod ({ cls := "OrphanLogsModel", name := "clerkOf", desc := "(II)I" } : Jvm.MethodName) ∈ gT := tin5 21 rfl rfl
theorem tw5_22 : Cond.code ({ cls := "OrphanLogsModel", name := "clerkOf", desc := "(II)I" } : Jvm.MethodName) prog_12_method_41_code (3 : Nat) (Option.some Jvm.ClassFile.FieldType.int) ∈ gT := tin5 22 rfl rfl
theorem tw5_23 : Cond.methodLink "OrphanLogsModel" (194 : Nat) ({ cls := "OrphanLogsModel", name := "firmOf", desc := "(I)I" } : Jvm.MethodName) ∈ gT := tin5 23 rfl rfl
theorem tw5_25 : Cond.instanceMethod ({ cls := "OrphanLogsModel", name := "firmOf", desc := "(I)I" } : Jvm.MethodName) ∈ gT := tin5 25 rfl rfl
theorem tw5_26 : Cond.code ({ cls := "OrphanLogsModel", name := "firmOf", desc := "(I)I" } : Jvm.MethodName) prog_12_method_38_code (3 : Nat) (Option.some Jvm.ClassFile.FieldType.int) ∈ gT := tin5 26 rfl rfl
theorem tw5_27 : Cond.methodLink "OrphanLogsModel" (191 : Nat) ({ cls := "OrphanLogsModel", name := "isFirm", desc := "(II)Z" } : Jvm.MethodName) ∈ gT := tin5 27 rfl rfl
theorem tw5_29 : Cond.instanceMethod ({ cls := "OrphanLogsModel", name := "isFirm", desc := "(II)Z" } : Jvm.MethodName) ∈ gT := tin5 29 rfl rfl
theorem tw5_30 : Cond.code ({ cls := "OrphanLogsModel", name := "isFirm", desc := "(II)Z" } : Jvm.MethodName) prog_12_method_37_code (5 : Nat) (Option.some Jvm.ClassFile.FieldType.boolean) ∈ gT := tin5 30 rfl rfl
theorem tw5_31 : Cond.methodLink "OrphanLogsModel" (197 : Nat) ({ cls := "OrphanLogsModel", name := "lettersTo", desc := "(I)I" } : Jvm.MethodName) ∈ gT := tin5 31 rfl rfl
theorem tw5_33 : Cond.instanceMethod ({ cls := "OrphanLogsModel", name := "lettersTo", desc := "(I)I" } : Jvm.MethodName) ∈ gT := tin5 33 rfl rfl
theorem tw5_34 : Cond.code ({ cls := "OrphanLogsModel", name := "lettersTo", desc := "(I)I" } : Jvm.MethodName) prog_12_method_39_code (4 : Nat) (Option.some Jvm.ClassFile.FieldType.int) ∈ gT := tin5 34 rfl rfl
theorem tw5_35 : Cond.methodLink "OrphanLogsLaw" (51 : Nat) ({ cls := "OrphanLogsModel", name := "page", desc := "(IIII)I" } : Jvm.MethodName) ∈ gT := tin5 35 rfl rfl
theorem tw5_36 : Cond.instanceMethod ({ cls := "OrphanLogsModel", name := "page", desc := "(IIII)I" } : Jvm.MethodName) ∈ gT := tin5 36 rfl rfl
theorem tw5_37 : Cond.selects "OrphanLogsModel" ({ cls := "OrphanLogsModel", name := "page", desc := "(IIII)I" } : Jvm.MethodName) ({ cls := "OrphanLogsModel", name := "page", desc := "(IIII)I" } : Jvm.MethodName) ∈ gT := tin5 37 rfl rfl
theorem tw5_38 : Cond.code ({ cls := "OrphanLogsModel", name := "page", desc := "(IIII)I" } : Jvm.MethodName) prog_12_method_43_code (5 : Nat) (Option.some Jvm.ClassFile.FieldType.int) ∈ gT := tin5 38 rfl rfl
theorem tw5_39 : Cond.methodLink "OrphanLogsModel" (208 : Nat) ({ cls := "OrphanLogsModel", name := "no", desc := "()I" } : Jvm.MethodName) ∈ gT := tin5 39 rfl rfl
theorem tw5_41 : Cond.instanceMethod ({ cls := "OrphanLogsModel", name := "no", desc := "()I" } : Jvm.MethodName) ∈ gT := tin5 41 rfl rfl
theorem tw5_42 : Cond.code ({ cls := "OrphanLogsModel", name := "no", desc := "()I" } : Jvm.MethodName) prog_12_method_5_code (1 : Nat) (Option.some Jvm.ClassFile.FieldType.int) ∈ gT := tin5 42 rfl rfl
theorem tw5_43 : Cond.methodLink "OrphanLogsLaw" (56 : Nat) ({ cls := "OrphanLogsModel", name := "dead", desc := "(III)I" } : Jvm.MethodName) ∈ gT := tin5 43 rfl rfl
theorem tw5_44 : Cond.instanceMethod ({ cls := "OrphanLogsModel", name := "dead", desc := "(III)I" } : Jvm.MethodName) ∈ gT := tin5 44 rfl rfl
theorem tw5_45 : Cond.selects "OrphanLogsModel" ({ cls := "OrphanLogsModel", name := "dead", desc := "(III)I" } : Jvm.MethodName) ({ cls := "OrphanLogsModel", name := "dead", desc := "(III)I" } : Jvm.MethodName) ∈ gT := tin5 45 rfl rfl
theorem tw5_46 : Cond.code ({ cls := "OrphanLogsModel", name := "dead", desc := "(III)I" } : Jvm.MethodName) prog_12_method_44_code (4 : Nat) (Option.some Jvm.ClassFile.FieldType.int) ∈ gT := tin5 46 rfl rfl
theorem tw5_47 : Cond.constantLong "OrphanLogsModel" (211 : Nat) (99 : Int64) ∈ gT := tin5 47 rfl rfl
theorem tw5_48 : Cond.methodLink "OrphanLogsLaw" (60 : Nat) ({ cls := "OrphanLogsModel", name := "end", desc := "(II)I" } : Jvm.MethodName) ∈ gT := tin5 48 rfl rfl
theorem tw5_49 : Cond.instanceMethod ({ cls := "OrphanLogsModel", name := "end", desc := "(II)I" } : Jvm.MethodName) ∈ gT := tin5 49 rfl rfl
theorem tw5_50 : Cond.selects "OrphanLogsModel" ({ cls := "OrphanLogsModel", name := "end", desc := "(II)I" } : Jvm.MethodName) ({ cls := "OrphanLogsModel", name := "end", desc := "(II)I" } : Jvm.MethodName) ∈ gT := tin5 50 rfl rfl
theorem tw5_51 : Cond.code ({ cls := "OrphanLogsModel", name := "end", desc := "(II)I" } : Jvm.MethodName) prog_12_method_45_code (3 : Nat) (Option.some Jvm.ClassFile.FieldType.int) ∈ gT := tin5 51 rfl rfl
theorem tw5_52 : Cond.methodLink "OrphanLogsLaw" (64 : Nat) ({ cls := "OrphanLogsModel", name := "letter", desc := "(III)I" } : Jvm.MethodName) ∈ gT := tin5 52 rfl rfl
theorem tw5_53 : Cond.instanceMethod ({ cls := "OrphanLogsModel", name := "letter", desc := "(III)I" } : Jvm.MethodName) ∈ gT := tin5 53 rfl rfl
theorem tw5_54 : Cond.selects "OrphanLogsModel" ({ cls := "OrphanLogsModel", name := "letter", desc := "(III)I" } : Jvm.MethodName) ({ cls := "OrphanLogsModel", name := "letter", desc := "(III)I" } : Jvm.MethodName) ∈ gT := tin5 54 rfl rfl
theorem tw5_55 : Cond.code ({ cls := "OrphanLogsModel", name := "letter", desc := "(III)I" } : Jvm.MethodName) prog_12_method_46_code (6 : Nat) (Option.some Jvm.ClassFile.FieldType.int) ∈ gT := tin5 55 rfl rfl
theorem tw5_56 : Cond.methodLink "OrphanLogsLaw" (69 : Nat) ({ cls := "OrphanLogsModel", name := "sweeps", desc := "()I" } : Jvm.MethodName) ∈ gT := tin5 56 rfl rfl
theorem tw5_57 : Cond.instanceMethod ({ cls := "OrphanLogsModel", name := "sweeps", desc := "()I" } : Jvm.MethodName) ∈ gT := tin5 57 rfl rfl
theorem tw5_58 : Cond.selects "OrphanLogsModel" ({ cls := "OrphanLogsModel", name := "sweeps", desc := "()I" } : Jvm.MethodName) ({ cls := "OrphanLogsModel", name := "sweeps", desc := "()I" } : Jvm.MethodName) ∈ gT := tin5 58 rfl rfl
theorem tw5_59 : Cond.code ({ cls := "OrphanLogsModel", name := "sweeps", desc := "()I" } : Jvm.MethodName) prog_12_method_47_code (3 : Nat) (Option.some Jvm.ClassFile.FieldType.int) ∈ gT := tin5 59 rfl rfl
theorem tw5_60 : Cond.methodLink "OrphanLogsLaw" (73 : Nat) ({ cls := "OrphanLogsModel", name := "says", desc := "(I)I" } : Jvm.MethodName) ∈ gT := tin5 60 rfl rfl
theorem tw5_61 : Cond.instanceMethod ({ cls := "OrphanLogsModel", name := "says", desc := "(I)I" } : Jvm.MethodName) ∈ gT := tin5 61 rfl rfl
theorem tw5_62 : Cond.selects "OrphanLogsModel" ({ cls := "OrphanLogsModel", name := "says", desc := "(I)I" } : Jvm.MethodName) ({ cls := "OrphanLogsModel", name := "says", desc := "(I)I" } : Jvm.MethodName) ∈ gT := tin5 62 rfl rfl
theorem tw5_63 : Cond.code ({ cls := "OrphanLogsModel", name := "says", desc := "(I)I" } : Jvm.MethodName) prog_12_method_49_code (2 : Nat) (Option.some Jvm.ClassFile.FieldType.int) ∈ gT := tin5 63 rfl rfl
theorem tw5_64 : Cond.methodLink "OrphanLogsLaw" (77 : Nat) ({ cls := "OrphanLogsModel", name := "release", desc := "()I" } : Jvm.MethodName) ∈ gT := tin5 64 rfl rfl
theorem tw5_65 : Cond.instanceMethod ({ cls := "OrphanLogsModel", name := "release", desc := "()I" } : Jvm.MethodName) ∈ gT := tin5 65 rfl rfl
theorem tw5_66 : Cond.selects "OrphanLogsModel" ({ cls := "OrphanLogsModel", name := "release", desc := "()I" } : Jvm.MethodName) ({ cls := "OrphanLogsModel", name := "release", desc := "()I" } : Jvm.MethodName) ∈ gT := tin5 66 rfl rfl
theorem tw5_67 : Cond.code ({ cls := "OrphanLogsModel", name := "release", desc := "()I" } : Jvm.MethodName) prog_12_method_53_code (1 : Nat) (Option.some Jvm.ClassFile.FieldType.int) ∈ gT := tin5 67 rfl rfl
theorem tw5_68 : Cond.methodLink "OrphanLogsModel" (219 : Nat) ({ cls := "OrphanLogsModel", name := "releases", desc := "()I" } : Jvm.MethodName) ∈ gT := tin5 68 rfl rfl
theorem tw5_70 : Cond.instanceMethod ({ cls := "OrphanLogsModel", name := "releases", desc := "()I" } : Jvm.MethodName) ∈ gT := tin5 70 rfl rfl
theorem tw5_71 : Cond.code ({ cls := "OrphanLogsModel", name := "releases", desc := "()I" } : Jvm.MethodName) prog_12_method_52_code (3 : Nat) (Option.some Jvm.ClassFile.FieldType.int) ∈ gT := tin5 71 rfl rfl
theorem tw5_72 : Cond.methodLink "OrphanLogsModel" (216 : Nat) ({ cls := "OrphanLogsModel", name := "firstSafe", desc := "()I" } : Jvm.MethodName) ∈ gT := tin5 72 rfl rfl
theorem tw5_74 : Cond.instanceMethod ({ cls := "OrphanLogsModel", name := "firstSafe", desc := "()I" } : Jvm.MethodName) ∈ gT := tin5 74 rfl rfl
theorem tw5_75 : Cond.code ({ cls := "OrphanLogsModel", name := "firstSafe", desc := "()I" } : Jvm.MethodName) prog_12_method_51_code (5 : Nat) (Option.some Jvm.ClassFile.FieldType.int) ∈ gT := tin5 75 rfl rfl
theorem tw5_76 : Cond.methodLink "OrphanLogsModel" (213 : Nat) ({ cls := "OrphanLogsModel", name := "isSafe", desc := "(I)Z" } : Jvm.MethodName) ∈ gT := tin5 76 rfl rfl
theorem tw5_78 : Cond.instanceMethod ({ cls := "OrphanLogsModel", name := "isSafe", desc := "(I)Z" } : Jvm.MethodName) ∈ gT := tin5 78 rfl rfl
theorem tw5_79 : Cond.code ({ cls := "OrphanLogsModel", name := "isSafe", desc := "(I)Z" } : Jvm.MethodName) prog_12_method_50_code (2 : Nat) (Option.some Jvm.ClassFile.FieldType.boolean) ∈ gT := tin5 79 rfl rfl
theorem tw5_80 : Cond.methodLink "OrphanLogsLaw" (81 : Nat) ({ cls := "OrphanLogsModel", name := "saying", desc := "(II)I" } : Jvm.MethodName) ∈ gT := tin5 80 rfl rfl
theorem tw5_81 : Cond.instanceMethod ({ cls := "OrphanLogsModel", name := "saying", desc := "(II)I" } : Jvm.MethodName) ∈ gT := tin5 81 rfl rfl
theorem tw5_82 : Cond.selects "OrphanLogsModel" ({ cls := "OrphanLogsModel", name := "saying", desc := "(II)I" } : Jvm.MethodName) ({ cls := "OrphanLogsModel", name := "saying", desc := "(II)I" } : Jvm.MethodName) ∈ gT := tin5 82 rfl rfl
theorem tw5_83 : Cond.code ({ cls := "OrphanLogsModel", name := "saying", desc := "(II)I" } : Jvm.MethodName) prog_12_method_55_code (3 : Nat) (Option.some Jvm.ClassFile.FieldType.int) ∈ gT := tin5 83 rfl rfl
theorem tw5_84 : Cond.methodLink "OrphanLogsModel" (222 : Nat) ({ cls := "OrphanLogsModel", name := "sayingOf", desc := "(II)I" } : Jvm.MethodName) ∈ gT := tin5 84 rfl rfl
theorem tw5_86 : Cond.instanceMethod ({ cls := "OrphanLogsModel", name := "sayingOf", desc := "(II)I" } : Jvm.MethodName) ∈ gT := tin5 86 rfl rfl
theorem tw5_87 : Cond.code ({ cls := "OrphanLogsModel", name := "sayingOf", desc := "(II)I" } : Jvm.MethodName) prog_12_method_54_code (3 : Nat) (Option.some Jvm.ClassFile.FieldType.int) ∈ gT := tin5 87 rfl rfl
theorem tw5_88 : Cond.methodLink "OrphanLogsLaw" (85 : Nat) ({ cls := "OrphanLogsModel", name := "released", desc := "(I)I" } : Jvm.MethodName) ∈ gT := tin5 88 rfl rfl
theorem tw5_89 : Cond.instanceMethod ({ cls := "OrphanLogsModel", name := "released", desc := "(I)I" } : Jvm.MethodName) ∈ gT := tin5 89 rfl rfl
theorem tw5_90 : Cond.selects "OrphanLogsModel" ({ cls := "OrphanLogsModel", name := "released", desc := "(I)I" } : Jvm.MethodName) ({ cls := "OrphanLogsModel", name := "released", desc := "(I)I" } : Jvm.MethodName) ∈ gT := tin5 90 rfl rfl
theorem tw5_91 : Cond.code ({ cls := "OrphanLogsModel", name := "released", desc := "(I)I" } : Jvm.MethodName) prog_12_method_56_code (2 : Nat) (Option.some Jvm.ClassFile.FieldType.int) ∈ gT := tin5 91 rfl rfl
theorem tw5_92 : Cond.methodLink "OrphanLogsLaw" (89 : Nat) ({ cls := "OrphanLogsModel", name := "cuts", desc := "(I)I" } : Jvm.MethodName) ∈ gT := tin5 92 rfl rfl
theorem tw5_93 : Cond.instanceMethod ({ cls := "OrphanLogsModel", name := "cuts", desc := "(I)I" } : Jvm.MethodName) ∈ gT := tin5 93 rfl rfl
theorem tw5_94 : Cond.selects "OrphanLogsModel" ({ cls := "OrphanLogsModel", name := "cuts", desc := "(I)I" } : Jvm.MethodName) ({ cls := "OrphanLogsModel", name := "cuts", desc := "(I)I" } : Jvm.MethodName) ∈ gT := tin5 94 rfl rfl
theorem tw5_95 : Cond.code ({ cls := "OrphanLogsModel", name := "cuts", desc := "(I)I" } : Jvm.MethodName) prog_12_method_58_code (2 : Nat) (Option.some Jvm.ClassFile.FieldType.int) ∈ gT := tin5 95 rfl rfl
theorem tw5_96 : Cond.methodLink "OrphanLogsModel" (225 : Nat) ({ cls := "OrphanLogsModel", name := "cutsNow", desc := "(I)I" } : Jvm.MethodName) ∈ gT := tin5 96 rfl rfl
theorem tw5_98 : Cond.instanceMethod ({ cls := "OrphanLogsModel", name := "cutsNow", desc := "(I)I" } : Jvm.MethodName) ∈ gT := tin5 98 rfl rfl
theorem tw5_99 : Cond.code ({ cls := "OrphanLogsModel", name := "cutsNow", desc := "(I)I" } : Jvm.MethodName) prog_12_method_57_code (4 : Nat) (Option.some Jvm.ClassFile.FieldType.int) ∈ gT := tin5 99 rfl rfl
theorem tw5_100 : Cond.methodLink "OrphanLogsLaw" (101 : Nat) ({ cls := "OrphanLogsModel", name := "type", desc := "(I)I" } : Jvm.MethodName) ∈ gT := tin5 100 rfl rfl
theorem tw5_101 : Cond.instanceMethod ({ cls := "OrphanLogsModel", name := "type", desc := "(I)I" } : Jvm.MethodName) ∈ gT := tin5 101 rfl rfl
theorem tw5_102 : Cond.selects "OrphanLogsModel" ({ cls := "OrphanLogsModel", name := "type", desc := "(I)I" } : Jvm.MethodName) ({ cls := "OrphanLogsModel", name := "type", desc := "(I)I" } : Jvm.MethodName) ∈ gT := tin5 102 rfl rfl
theorem tw5_103 : Cond.code ({ cls := "OrphanLogsModel", name := "type", desc := "(I)I" } : Jvm.MethodName) prog_12_method_59_code (2 : Nat) (Option.some Jvm.ClassFile.FieldType.int) ∈ gT := tin5 103 rfl rfl
theorem tw5_104 : Cond.constantLong "OrphanLogsModel" (228 : Nat) (127 : Int64) ∈ gT := tin5 104 rfl rfl
theorem tw5_105 : Cond.methodLink "OrphanLogsModel" (233 : Nat) ({ cls := "OrphanLogsModel", name := "full", desc := "()I" } : Jvm.MethodName) ∈ gT := tin5 105 rfl rfl
theorem tw5_107 : Cond.instanceMethod ({ cls := "OrphanLogsModel", name := "full", desc := "()I" } : Jvm.MethodName) ∈ gT := tin5 107 rfl rfl
theorem tw5_108 : Cond.code ({ cls := "OrphanLogsModel", name := "full", desc := "()I" } : Jvm.MethodName) prog_12_method_6_code (1 : Nat) (Option.some Jvm.ClassFile.FieldType.int) ∈ gT := tin5 108 rfl rfl
theorem tw5_109 : Cond.methodLink "OrphanLogsLaw" (105 : Nat) ({ cls := "OrphanLogsModel", name := "clear", desc := "()I" } : Jvm.MethodName) ∈ gT := tin5 109 rfl rfl
theorem tw5_110 : Cond.instanceMethod ({ cls := "OrphanLogsModel", name := "clear", desc := "()I" } : Jvm.MethodName) ∈ gT := tin5 110 rfl rfl
theorem tw5_111 : Cond.selects "OrphanLogsModel" ({ cls := "OrphanLogsModel", name := "clear", desc := "()I" } : Jvm.MethodName) ({ cls := "OrphanLogsModel", name := "clear", desc := "()I" } : Jvm.MethodName) ∈ gT := tin5 111 rfl rfl
theorem tw5_112 : Cond.code ({ cls := "OrphanLogsModel", name := "clear", desc := "()I" } : Jvm.MethodName) prog_12_method_60_code (2 : Nat) (Option.some Jvm.ClassFile.FieldType.int) ∈ gT := tin5 112 rfl rfl
theorem tw5_113 : Cond.methodLink "OrphanLogsLaw" (109 : Nat) ({ cls := "OrphanLogsModel", name := "does", desc := "()I" } : Jvm.MethodName) ∈ gT := tin5 113 rfl rfl
theorem tw5_114 : Cond.instanceMethod ({ cls := "OrphanLogsModel", name := "does", desc := "()I" } : Jvm.MethodName) ∈ gT := tin5 114 rfl rfl
theorem tw5_115 : Cond.selects "OrphanLogsModel" ({ cls := "OrphanLogsModel", name := "does", desc := "()I" } : Jvm.MethodName) ({ cls := "OrphanLogsModel", name := "does", desc := "()I" } : Jvm.MethodName) ∈ gT := tin5 115 rfl rfl
theorem tw5_116 : Cond.code ({ cls := "OrphanLogsModel", name := "does", desc := "()I" } : Jvm.MethodName) prog_12_method_69_code (1 : Nat) (Option.some Jvm.ClassFile.FieldType.int) ∈ gT := tin5 116 rfl rfl
theorem tw5_117 : Cond.methodLink "OrphanLogsModel" (270 : Nat) ({ cls := "OrphanLogsModel", name := "goesThrough", desc := "(Z)I" } : Jvm.MethodName) ∈ gT := tin5 117 rfl rfl
theorem tw5_119 : Cond.instanceMethod ({ cls := "OrphanLogsModel", name := "goesThrough", desc := "(Z)I" } : Jvm.MethodName) ∈ gT := tin5 119 rfl rfl
theorem tw5_120 : Cond.code ({ cls := "OrphanLogsModel", name := "goesThrough", desc := "(Z)I" } : Jvm.MethodName) prog_12_method_68_code (5 : Nat) (Option.some Jvm.ClassFile.FieldType.int) ∈ gT := tin5 120 rfl rfl
theorem tw5_121 : Cond.methodLink "OrphanLogsModel" (264 : Nat) ({ cls := "OrphanLogsModel", name := "reads", desc := "()I" } : Jvm.MethodName) ∈ gT := tin5 121 rfl rfl
theorem tw5_123 : Cond.instanceMethod ({ cls := "OrphanLogsModel", name := "reads", desc := "()I" } : Jvm.MethodName) ∈ gT := tin5 123 rfl rfl
theorem tw5_124 : Cond.code ({ cls := "OrphanLogsModel", name := "reads", desc := "()I" } : Jvm.MethodName) prog_12_method_65_code (4 : Nat) (Option.some Jvm.ClassFile.FieldType.int) ∈ gT := tin5 124 rfl rfl
theorem tw5_125 : Cond.methodLink "OrphanLogsModel" (243 : Nat) ({ cls := "OrphanLogsModel", name := "skip", desc := "()V" } : Jvm.MethodName) ∈ gT := tin5 125 rfl rfl
theorem tw5_127 : Cond.instanceMethod ({ cls := "OrphanLogsModel", name := "skip", desc := "()V" } : Jvm.MethodName) ∈ gT := tin5 127 rfl rfl
theorem tw5_128 : Cond.code ({ cls := "OrphanLogsModel", name := "skip", desc := "()V" } : Jvm.MethodName) prog_12_method_61_code (1 : Nat) (Option.none : Option Jvm.ClassFile.FieldType) ∈ gT := tin5 128 rfl rfl
theorem tw5_129 : Cond.methodLink "OrphanLogsModel" (249 : Nat) ({ cls := "OrphanLogsModel", name := "manyOf", desc := "(I)I" } : Jvm.MethodName) ∈ gT := tin5 129 rfl rfl
theorem tw5_130 : Cond.static ({ cls := "OrphanLogsModel", name := "manyOf", desc := "(I)I" } : Jvm.MethodName) ∈ gT := tin5 130 rfl rfl
theorem tw5_131 : Cond.code ({ cls := "OrphanLogsModel", name := "manyOf", desc := "(I)I" } : Jvm.MethodName) prog_12_method_64_code (1 : Nat) (Option.some Jvm.ClassFile.FieldType.int) ∈ gT := tin5 131 rfl rfl
theorem tw5_132 : Cond.methodLink "OrphanLogsModel" (252 : Nat) ({ cls := "OrphanLogsModel", name := "takes", desc := "(I)I" } : Jvm.MethodName) ∈ gT := tin5 132 rfl rfl
theorem tw5_134 : Cond.instanceMethod ({ cls := "OrphanLogsModel", name := "takes", desc := "(I)I" } : Jvm.MethodName) ∈ gT := tin5 134 rfl rfl
theorem tw5_135 : Cond.code ({ cls := "OrphanLogsModel", name := "takes", desc := "(I)I" } : Jvm.MethodName) prog_12_method_63_code (5 : Nat) (Option.some Jvm.ClassFile.FieldType.int) ∈ gT := tin5 135 rfl rfl
theorem tw5_136 : Cond.methodLink "OrphanLogsModel" (246 : Nat) ({ cls := "OrphanLogsModel", name := "isFigure", desc := "(I)Z" } : Jvm.MethodName) ∈ gT := tin5 136 rfl rfl
theorem tw5_138 : Cond.instanceMethod ({ cls := "OrphanLogsModel", name := "isFigure", desc := "(I)Z" } : Jvm.MethodName) ∈ gT := tin5 138 rfl rfl
theorem tw5_139 : Cond.code ({ cls := "OrphanLogsModel", name := "isFigure", desc := "(I)Z" } : Jvm.MethodName) prog_12_method_62_code (2 : Nat) (Option.some Jvm.ClassFile.FieldType.boolean) ∈ gT := tin5 139 rfl rfl
theorem tw5_140 : Cond.constantLong "OrphanLogsModel" (239 : Nat) (48 : Int64) ∈ gT := tin5 140 rfl rfl
theorem tw5_141 : Cond.constantLong "OrphanLogsModel" (241 : Nat) (57 : Int64) ∈ gT := tin5 141 rfl rfl
theorem tw5_142 : Cond.methodLink "OrphanLogsModel" (267 : Nat) ({ cls := "OrphanLogsModel", name := "doesOne", desc := "(I)Z" } : Jvm.MethodName) ∈ gT := tin5 142 rfl rfl
theorem tw5_144 : Cond.instanceMethod ({ cls := "OrphanLogsModel", name := "doesOne", desc := "(I)Z" } : Jvm.MethodName) ∈ gT := tin5 144 rfl rfl
theorem tw5_145 : Cond.code ({ cls := "OrphanLogsModel", name := "doesOne", desc := "(I)Z" } : Jvm.MethodName) prog_12_method_67_code (2 : Nat) (Option.some Jvm.ClassFile.FieldType.boolean) ∈ gT := tin5 145 rfl rfl
theorem tw5_146 : Cond.methodLink "OrphanLogsModel" (261 : Nat) ({ cls := "OrphanLogsModel", name := "cutsAll", desc := "()I" } : Jvm.MethodName) ∈ gT := tin5 146 rfl rfl
theorem tw5_148 : Cond.instanceMethod ({ cls := "OrphanLogsModel", name := "cutsAll", desc := "()I" } : Jvm.MethodName) ∈ gT := tin5 148 rfl rfl
theorem tw5_149 : Cond.code ({ cls := "OrphanLogsModel", name := "cutsAll", desc := "()I" } : Jvm.MethodName) prog_12_method_66_code (3 : Nat) (Option.some Jvm.ClassFile.FieldType.int) ∈ gT := tin5 149 rfl rfl
theorem tw5_150 : Cond.methodLink "OrphanLogsLaw" (113 : Nat) ({ cls := "OrphanLogsModel", name := "told", desc := "(I)I" } : Jvm.MethodName) ∈ gT := tin5 150 rfl rfl
theorem tw5_151 : Cond.instanceMethod ({ cls := "OrphanLogsModel", name := "told", desc := "(I)I" } : Jvm.MethodName) ∈ gT := tin5 151 rfl rfl
theorem tw5_152 : Cond.selects "OrphanLogsModel" ({ cls := "OrphanLogsModel", name := "told", desc := "(I)I" } : Jvm.MethodName) ({ cls := "OrphanLogsModel", name := "told", desc := "(I)I" } : Jvm.MethodName) ∈ gT := tin5 152 rfl rfl
theorem tw5_153 : Cond.code ({ cls := "OrphanLogsModel", name := "told", desc := "(I)I" } : Jvm.MethodName) prog_12_method_71_code (2 : Nat) (Option.some Jvm.ClassFile.FieldType.int) ∈ gT := tin5 153 rfl rfl
theorem tw5_154 : Cond.methodLink "OrphanLogsModel" (274 : Nat) ({ cls := "OrphanLogsModel", name := "toldOf", desc := "(I)I" } : Jvm.MethodName) ∈ gT := tin5 154 rfl rfl
theorem tw5_156 : Cond.instanceMethod ({ cls := "OrphanLogsModel", name := "toldOf", desc := "(I)I" } : Jvm.MethodName) ∈ gT := tin5 156 rfl rfl
theorem tw5_157 : Cond.code ({ cls := "OrphanLogsModel", name := "toldOf", desc := "(I)I" } : Jvm.MethodName) prog_12_method_70_code (2 : Nat) (Option.some Jvm.ClassFile.FieldType.int) ∈ gT := tin5 157 rfl rfl
theorem tw5_158 : Cond.methodLink "OrphanLogsLaw" (118 : Nat) ({ cls := "OrphanLogsModel", name := "digest", desc := "()J" } : Jvm.MethodName) ∈ gT := tin5 158 rfl rfl
theorem tw5_159 : Cond.instanceMethod ({ cls := "OrphanLogsModel", name := "digest", desc := "()J" } : Jvm.MethodName) ∈ gT := tin5 159 rfl rfl
theorem tw5_160 : Cond.selects "OrphanLogsModel" ({ cls := "OrphanLogsModel", name := "digest", desc := "()J" } : Jvm.MethodName) ({ cls := "OrphanLogsModel", name := "digest", desc := "()J" } : Jvm.MethodName) ∈ gT := tin5 160 rfl rfl
theorem tw5_161 : Cond.code ({ cls := "OrphanLogsModel", name := "digest", desc := "()J" } : Jvm.MethodName) prog_12_method_72_code (5 : Nat) (Option.some Jvm.ClassFile.FieldType.long) ∈ gT := tin5 161 rfl rfl
theorem tw5_162 : Cond.constantLong "OrphanLogsModel" (277 : Nat) (2099 : Int64) ∈ gT := tin5 162 rfl rfl
theorem tw5_163 : Cond.constantLong "OrphanLogsModel" (279 : Nat) (31 : Int64) ∈ gT := tin5 163 rfl rfl
theorem tws_0 : Cond.selects "OrphanLogs$Office" ⟨"OrphanLogs$Office", "isDeadLetter", "(I)Z"⟩ ⟨"OrphanLogs$Office", "isDeadLetter", "(I)Z"⟩ ∈ gT := tins 0 rfl rfl
theorem tws_1 : Cond.selects "OrphanLogs$Loss" ⟨"OrphanLogs$Loss", "firstDead", "(LOrphanLogs$Clerk;I)I"⟩ ⟨"OrphanLogs$Loss", "firstDead", "(LOrphanLogs$Clerk;I)I"⟩ ∈ gT := tins 1 rfl rfl
theorem tws_2 : Cond.selects "OrphanLogs$Sayings" ⟨"OrphanLogs$Sayings", "isHeldBehind", "(III)Z"⟩ ⟨"OrphanLogs$Sayings", "isHeldBehind", "(III)Z"⟩ ∈ gT := tins 2 rfl rfl
theorem tws_3 : Cond.selects "OrphanLogs$Office" ⟨"OrphanLogs$Office", "firmPage", "(I)I"⟩ ⟨"OrphanLogs$Office", "firmPage", "(I)I"⟩ ∈ gT := tins 3 rfl rfl
theorem tws_4 : Cond.selects "OrphanLogs$Office" ⟨"OrphanLogs$Office", "isWrittenBelow", "(II)Z"⟩ ⟨"OrphanLogs$Office", "isWrittenBelow", "(II)Z"⟩ ∈ gT := tins 4 rfl rfl
theorem tws_5 : Cond.selects "OrphanLogs$Office" ⟨"OrphanLogs$Office", "nextSafe", "()I"⟩ ⟨"OrphanLogs$Office", "nextSafe", "()I"⟩ ∈ gT := tins 5 rfl rfl
theorem tws_6 : Cond.selects "OrphanLogs$Office" ⟨"OrphanLogs$Office", "isSafe", "(I)Z"⟩ ⟨"OrphanLogs$Office", "isSafe", "(I)Z"⟩ ∈ gT := tins 6 rfl rfl
theorem tws_7 : Cond.selects "OrphanLogs$Reader" ⟨"OrphanLogs$Reader", "readOrder", "(LOrphanLogs$Text;I)V"⟩ ⟨"OrphanLogs$Reader", "readOrder", "(LOrphanLogs$Text;I)V"⟩ ∈ gT := tins 7 rfl rfl
theorem tws_8 : Cond.selects "OrphanLogs$Reader" ⟨"OrphanLogs$Reader", "skipBlanks", "(LOrphanLogs$Text;)V"⟩ ⟨"OrphanLogs$Reader", "skipBlanks", "(LOrphanLogs$Text;)V"⟩ ∈ gT := tins 8 rfl rfl
theorem tws_9 : Cond.selects "OrphanLogs$Reader" ⟨"OrphanLogs$Reader", "readNumber", "(LOrphanLogs$Text;II)I"⟩ ⟨"OrphanLogs$Reader", "readNumber", "(LOrphanLogs$Text;II)I"⟩ ∈ gT := tins 9 rfl rfl
theorem tws_10 : Cond.selects "OrphanLogs$Reader" ⟨"OrphanLogs$Reader", "readSemicolon", "(LOrphanLogs$Text;)V"⟩ ⟨"OrphanLogs$Reader", "readSemicolon", "(LOrphanLogs$Text;)V"⟩ ∈ gT := tins 10 rfl rfl
theorem tws_11 : Cond.selects "OrphanLogs$Office" ⟨"OrphanLogs$Office", "cutAll", "()I"⟩ ⟨"OrphanLogs$Office", "cutAll", "()I"⟩ ∈ gT := tins 11 rfl rfl
theorem tws_12 : Cond.selects "OrphanLogs" ⟨"OrphanLogs", "tell", "(I)I"⟩ ⟨"OrphanLogs", "tell", "(I)I"⟩ ∈ gT := tins 12 rfl rfl
theorem tws_13 : Cond.selects "OrphanLogsModel" ⟨"OrphanLogsModel", "bad", "()I"⟩ ⟨"OrphanLogsModel", "bad", "()I"⟩ ∈ gT := tins 13 rfl rfl
theorem tws_14 : Cond.selects "OrphanLogsModel" ⟨"OrphanLogsModel", "begins", "()V"⟩ ⟨"OrphanLogsModel", "begins", "()V"⟩ ∈ gT := tins 14 rfl rfl
theorem tws_15 : Cond.selects "OrphanLogsModel" ⟨"OrphanLogsModel", "isClerk", "(I)Z"⟩ ⟨"OrphanLogsModel", "isClerk", "(I)Z"⟩ ∈ gT := tins 15 rfl rfl
theorem tws_16 : Cond.selects "OrphanLogsModel" ⟨"OrphanLogsModel", "writesPage", "(II)I"⟩ ⟨"OrphanLogsModel", "writesPage", "(II)I"⟩ ∈ gT := tins 16 rfl rfl
theorem tws_17 : Cond.selects "OrphanLogsModel" ⟨"OrphanLogsModel", "tells", "(I)I"⟩ ⟨"OrphanLogsModel", "tells", "(I)I"⟩ ∈ gT := tins 17 rfl rfl
theorem tws_18 : Cond.selects "OrphanLogsModel" ⟨"OrphanLogsModel", "sends", "(II)I"⟩ ⟨"OrphanLogsModel", "sends", "(II)I"⟩ ∈ gT := tins 18 rfl rfl
theorem tws_19 : Cond.selects "OrphanLogsModel" ⟨"OrphanLogsModel", "gets", "(II)I"⟩ ⟨"OrphanLogsModel", "gets", "(II)I"⟩ ∈ gT := tins 19 rfl rfl
theorem tws_20 : Cond.selects "OrphanLogsModel" ⟨"OrphanLogsModel", "letterAt", "(II)I"⟩ ⟨"OrphanLogsModel", "letterAt", "(II)I"⟩ ∈ gT := tins 20 rfl rfl
theorem tws_21 : Cond.selects "OrphanLogsModel" ⟨"OrphanLogsModel", "isDeadLetter", "(I)Z"⟩ ⟨"OrphanLogsModel", "isDeadLetter", "(I)Z"⟩ ∈ gT := tins 21 rfl rfl
theorem tws_22 : Cond.selects "OrphanLogsModel" ⟨"OrphanLogsModel", "isDead", "(III)Z"⟩ ⟨"OrphanLogsModel", "isDead", "(III)Z"⟩ ∈ gT := tins 22 rfl rfl
theorem tws_23 : Cond.selects "OrphanLogsModel" ⟨"OrphanLogsModel", "takeLetter", "(I)V"⟩ ⟨"OrphanLogsModel", "takeLetter", "(I)V"⟩ ∈ gT := tins 23 rfl rfl
theorem tws_24 : Cond.selects "OrphanLogsModel" ⟨"OrphanLogsModel", "becomesWritten", "(II)I"⟩ ⟨"OrphanLogsModel", "becomesWritten", "(II)I"⟩ ∈ gT := tins 24 rfl rfl
theorem tws_25 : Cond.selects "OrphanLogsModel" ⟨"OrphanLogsModel", "losesNow", "(I)I"⟩ ⟨"OrphanLogsModel", "losesNow", "(I)I"⟩ ∈ gT := tins 25 rfl rfl
theorem tws_26 : Cond.selects "OrphanLogsModel" ⟨"OrphanLogsModel", "isTooOld", "()Z"⟩ ⟨"OrphanLogsModel", "isTooOld", "()Z"⟩ ∈ gT := tins 26 rfl rfl
theorem tws_27 : Cond.selects "OrphanLogsModel" ⟨"OrphanLogsModel", "lossOf", "(I)I"⟩ ⟨"OrphanLogsModel", "lossOf", "(I)I"⟩ ∈ gT := tins 27 rfl rfl
theorem tws_28 : Cond.selects "OrphanLogsModel" ⟨"OrphanLogsModel", "falls", "(II)I"⟩ ⟨"OrphanLogsModel", "falls", "(II)I"⟩ ∈ gT := tins 28 rfl rfl
theorem tws_29 : Cond.selects "OrphanLogsModel" ⟨"OrphanLogsModel", "firstDead", "(I)I"⟩ ⟨"OrphanLogsModel", "firstDead", "(I)I"⟩ ∈ gT := tins 29 rfl rfl
theorem tws_30 : Cond.selects "OrphanLogsModel" ⟨"OrphanLogsModel", "isDeadPage", "(II)Z"⟩ ⟨"OrphanLogsModel", "isDeadPage", "(II)Z"⟩ ∈ gT := tins 30 rfl rfl
theorem tws_31 : Cond.selects "OrphanLogsModel" ⟨"OrphanLogsModel", "tries", "(I)I"⟩ ⟨"OrphanLogsModel", "tries", "(I)I"⟩ ∈ gT := tins 31 rfl rfl
theorem tws_32 : Cond.selects "OrphanLogsModel" ⟨"OrphanLogsModel", "draws", "(III)Z"⟩ ⟨"OrphanLogsModel", "draws", "(III)Z"⟩ ∈ gT := tins 32 rfl rfl
theorem tws_33 : Cond.selects "OrphanLogsModel" ⟨"OrphanLogsModel", "saysNow", "(I)I"⟩ ⟨"OrphanLogsModel", "saysNow", "(I)I"⟩ ∈ gT := tins 33 rfl rfl
theorem tws_34 : Cond.selects "OrphanLogsModel" ⟨"OrphanLogsModel", "heldOf", "(I)I"⟩ ⟨"OrphanLogsModel", "heldOf", "(I)I"⟩ ∈ gT := tins 34 rfl rfl
theorem tws_35 : Cond.selects "OrphanLogsModel" ⟨"OrphanLogsModel", "clerkOf", "(II)I"⟩ ⟨"OrphanLogsModel", "clerkOf", "(II)I"⟩ ∈ gT := tins 35 rfl rfl
theorem tws_36 : Cond.selects "OrphanLogsModel" ⟨"OrphanLogsModel", "firmOf", "(I)I"⟩ ⟨"OrphanLogsModel", "firmOf", "(I)I"⟩ ∈ gT := tins 36 rfl rfl
theorem tws_37 : Cond.selects "OrphanLogsModel" ⟨"OrphanLogsModel", "isFirm", "(II)Z"⟩ ⟨"OrphanLogsModel", "isFirm", "(II)Z"⟩ ∈ gT := tins 37 rfl rfl
theorem tws_38 : Cond.selects "OrphanLogsModel" ⟨"OrphanLogsModel", "lettersTo", "(I)I"⟩ ⟨"OrphanLogsModel", "lettersTo", "(I)I"⟩ ∈ gT := tins 38 rfl rfl
theorem tws_39 : Cond.selects "OrphanLogsModel" ⟨"OrphanLogsModel", "no", "()I"⟩ ⟨"OrphanLogsModel", "no", "()I"⟩ ∈ gT := tins 39 rfl rfl
theorem tws_40 : Cond.selects "OrphanLogsModel" ⟨"OrphanLogsModel", "releases", "()I"⟩ ⟨"OrphanLogsModel", "releases", "()I"⟩ ∈ gT := tins 40 rfl rfl
theorem tws_41 : Cond.selects "OrphanLogsModel" ⟨"OrphanLogsModel", "firstSafe", "()I"⟩ ⟨"OrphanLogsModel", "firstSafe", "()I"⟩ ∈ gT := tins 41 rfl rfl
theorem tws_42 : Cond.selects "OrphanLogsModel" ⟨"OrphanLogsModel", "isSafe", "(I)Z"⟩ ⟨"OrphanLogsModel", "isSafe", "(I)Z"⟩ ∈ gT := tins 42 rfl rfl
theorem tws_43 : Cond.selects "OrphanLogsModel" ⟨"OrphanLogsModel", "sayingOf", "(II)I"⟩ ⟨"OrphanLogsModel", "sayingOf", "(II)I"⟩ ∈ gT := tins 43 rfl rfl
theorem tws_44 : Cond.selects "OrphanLogsModel" ⟨"OrphanLogsModel", "cutsNow", "(I)I"⟩ ⟨"OrphanLogsModel", "cutsNow", "(I)I"⟩ ∈ gT := tins 44 rfl rfl
theorem tws_45 : Cond.selects "OrphanLogsModel" ⟨"OrphanLogsModel", "full", "()I"⟩ ⟨"OrphanLogsModel", "full", "()I"⟩ ∈ gT := tins 45 rfl rfl
theorem tws_46 : Cond.selects "OrphanLogsModel" ⟨"OrphanLogsModel", "goesThrough", "(Z)I"⟩ ⟨"OrphanLogsModel", "goesThrough", "(Z)I"⟩ ∈ gT := tins 46 rfl rfl
theorem tws_47 : Cond.selects "OrphanLogsModel" ⟨"OrphanLogsModel", "reads", "()I"⟩ ⟨"OrphanLogsModel", "reads", "()I"⟩ ∈ gT := tins 47 rfl rfl
theorem tws_48 : Cond.selects "OrphanLogsModel" ⟨"OrphanLogsModel", "skip", "()V"⟩ ⟨"OrphanLogsModel", "skip", "()V"⟩ ∈ gT := tins 48 rfl rfl
theorem tws_49 : Cond.selects "OrphanLogsModel" ⟨"OrphanLogsModel", "takes", "(I)I"⟩ ⟨"OrphanLogsModel", "takes", "(I)I"⟩ ∈ gT := tins 49 rfl rfl
theorem tws_50 : Cond.selects "OrphanLogsModel" ⟨"OrphanLogsModel", "isFigure", "(I)Z"⟩ ⟨"OrphanLogsModel", "isFigure", "(I)Z"⟩ ∈ gT := tins 50 rfl rfl
theorem tws_51 : Cond.selects "OrphanLogsModel" ⟨"OrphanLogsModel", "doesOne", "(I)Z"⟩ ⟨"OrphanLogsModel", "doesOne", "(I)Z"⟩ ∈ gT := tins 51 rfl rfl
theorem tws_52 : Cond.selects "OrphanLogsModel" ⟨"OrphanLogsModel", "cutsAll", "()I"⟩ ⟨"OrphanLogsModel", "cutsAll", "()I"⟩ ∈ gT := tins 52 rfl rfl
theorem tws_53 : Cond.selects "OrphanLogsModel" ⟨"OrphanLogsModel", "toldOf", "(I)I"⟩ ⟨"OrphanLogsModel", "toldOf", "(I)I"⟩ ∈ gT := tins 53 rfl rfl
def nsT : List Cond := [Cond.methodLinkNest "OrphanLogs$Office" (19 : Nat) ({ cls := "OrphanLogs$Post", name := "<init>", desc := "()V" } : Jvm.MethodName) "OrphanLogs", Cond.fieldLinkNest "OrphanLogs$Office" (51 : Nat) "OrphanLogs$Post" "count" "I" "OrphanLogs", Cond.fieldLinkNest "OrphanLogs" (196 : Nat) "OrphanLogs$Post" "count" "I" "OrphanLogs", Cond.fieldLinkNest "OrphanLogs$Office" (214 : Nat) "OrphanLogs$Post" "senders" "[I" "OrphanLogs", Cond.fieldLinkNest "OrphanLogs$Office" (81 : Nat) "OrphanLogs$Post" "sums" "[I" "OrphanLogs", Cond.fieldLinkNest "OrphanLogs$Office" (89 : Nat) "OrphanLogs$Post" "rests" "LOrphanLogs$Rests;" "OrphanLogs", Cond.methodLinkNest "OrphanLogs$Office" (26 : Nat) ({ cls := "OrphanLogs$Sayings", name := "<init>", desc := "()V" } : Jvm.MethodName) "OrphanLogs", Cond.fieldLinkNest "OrphanLogs$Office" (172 : Nat) "OrphanLogs$Sayings" "count" "I" "OrphanLogs", Cond.fieldLinkNest "OrphanLogs" (179 : Nat) "OrphanLogs$Sayings" "count" "I" "OrphanLogs", Cond.fieldLinkNest "OrphanLogs" (202 : Nat) "OrphanLogs$Sayings" "releasedCount" "I" "OrphanLogs", Cond.fieldLinkNest "OrphanLogs$Office" (181 : Nat) "OrphanLogs$Sayings" "clerks" "[I" "OrphanLogs", Cond.fieldLinkNest "OrphanLogs$Office" (183 : Nat) "OrphanLogs$Sayings" "pages" "[I" "OrphanLogs", Cond.fieldLinkNest "OrphanLogs$Office" (217 : Nat) "OrphanLogs$Sayings" "states" "[I" "OrphanLogs", Cond.methodLinkNest "OrphanLogs$Office" (33 : Nat) ({ cls := "OrphanLogs$Loss", name := "<init>", desc := "()V" } : Jvm.MethodName) "OrphanLogs", Cond.fieldLinkNest "OrphanLogs$Post" (34 : Nat) "OrphanLogs$Clerk" "number" "I" "OrphanLogs", Cond.fieldLinkNest "OrphanLogs$Office" (115 : Nat) "OrphanLogs$Clerk" "life" "I" "OrphanLogs", Cond.fieldLinkNest "OrphanLogs$Loss" (32 : Nat) "OrphanLogs$Clerk" "now" "I" "OrphanLogs", Cond.fieldLinkNest "OrphanLogs$Post" (48 : Nat) "OrphanLogs$Clerk" "now" "I" "OrphanLogs", Cond.fieldLinkNest "OrphanLogs$Office" (152 : Nat) "OrphanLogs$Clerk" "now" "I" "OrphanLogs", Cond.fieldLinkNest "OrphanLogs$Loss" (41 : Nat) "OrphanLogs$Clerk" "written" "I" "OrphanLogs", Cond.fieldLinkNest "OrphanLogs$Office" (149 : Nat) "OrphanLogs$Clerk" "written" "I" "OrphanLogs", Cond.fieldLinkNest "OrphanLogs$Loss" (52 : Nat) "OrphanLogs$Clerk" "leastKept" "I" "OrphanLogs", Cond.fieldLinkNest "OrphanLogs$Office" (158 : Nat) "OrphanLogs$Clerk" "leastKept" "I" "OrphanLogs", Cond.fieldLinkNest "OrphanLogs$Office" (210 : Nat) "OrphanLogs$Clerk" "lives" "[I" "OrphanLogs", Cond.fieldLinkNest "OrphanLogs$Office" (213 : Nat) "OrphanLogs$Clerk" "sums" "[I" "OrphanLogs", Cond.fieldLinkNest "OrphanLogs$Post" (47 : Nat) "OrphanLogs$Clerk" "rests" "LOrphanLogs$Rests;" "OrphanLogs", Cond.fieldLinkNest "OrphanLogs$Loss" (55 : Nat) "OrphanLogs$Clerk" "rests" "LOrphanLogs$Rests;" "OrphanLogs", Cond.fieldLinkNest "OrphanLogs$Office" (148 : Nat) "OrphanLogs$Clerk" "rests" "LOrphanLogs$Rests;" "OrphanLogs", Cond.methodLinkNest "OrphanLogs$Clerk" (46 : Nat) ({ cls := "OrphanLogs", name := "put", desc := "([III)V" } : Jvm.MethodName) "OrphanLogs", Cond.methodLinkNest "OrphanLogs$Rests" (31 : Nat) ({ cls := "OrphanLogs", name := "put", desc := "([III)V" } : Jvm.MethodName) "OrphanLogs", Cond.fieldLinkNest "OrphanLogs$Loss" (22 : Nat) "OrphanLogs$Office" "n" "I" "OrphanLogs", Cond.fieldLinkNest "OrphanLogs" (45 : Nat) "OrphanLogs$Office" "n" "I" "OrphanLogs", Cond.fieldLinkNest "OrphanLogs" (205 : Nat) "OrphanLogs$Office" "gone" "I" "OrphanLogs", Cond.fieldLinkNest "OrphanLogs" (192 : Nat) "OrphanLogs$Office" "post" "LOrphanLogs$Post;" "OrphanLogs", Cond.fieldLinkNest "OrphanLogs" (124 : Nat) "OrphanLogs$Office" "sayings" "LOrphanLogs$Sayings;" "OrphanLogs", Cond.methodLinkNest "OrphanLogs" (18 : Nat) ({ cls := "OrphanLogs$Text", name := "<init>", desc := "()V" } : Jvm.MethodName) "OrphanLogs", Cond.fieldLinkNest "OrphanLogs$Reader" (39 : Nat) "OrphanLogs$Text" "length" "I" "OrphanLogs", Cond.fieldLinkNest "OrphanLogs" (189 : Nat) "OrphanLogs$Text" "length" "I" "OrphanLogs", Cond.methodLinkNest "OrphanLogs" (25 : Nat) ({ cls := "OrphanLogs$Reader", name := "<init>", desc := "()V" } : Jvm.MethodName) "OrphanLogs", Cond.fieldLinkNest "OrphanLogs" (152 : Nat) "OrphanLogs$Reader" "count" "I" "OrphanLogs", Cond.fieldLinkNest "OrphanLogs" (155 : Nat) "OrphanLogs$Reader" "kinds" "[I" "OrphanLogs", Cond.fieldLinkNest "OrphanLogs" (163 : Nat) "OrphanLogs$Reader" "firsts" "[I" "OrphanLogs", Cond.fieldLinkNest "OrphanLogs" (166 : Nat) "OrphanLogs$Reader" "seconds" "[I" "OrphanLogs", Cond.methodLinkNest "OrphanLogs" (32 : Nat) ({ cls := "OrphanLogs$Tally", name := "<init>", desc := "()V" } : Jvm.MethodName) "OrphanLogs", Cond.fieldLinkNest "OrphanLogs" (180 : Nat) "OrphanLogs$Tally" "bad" "I" "OrphanLogs", Cond.fieldLinkNest "OrphanLogs" (183 : Nat) "OrphanLogs$Tally" "no" "I" "OrphanLogs", Cond.fieldLinkNest "OrphanLogs" (186 : Nat) "OrphanLogs$Tally" "full" "I" "OrphanLogs", Cond.methodLinkNest "OrphanLogs$Clerk" (54 : Nat) ({ cls := "OrphanLogs", name := "at", desc := "([II)I" } : Jvm.MethodName) "OrphanLogs", Cond.methodLinkNest "OrphanLogs$Clerk" (61 : Nat) ({ cls := "OrphanLogs", name := "leftOver", desc := "(JI)I" } : Jvm.MethodName) "OrphanLogs", Cond.methodLinkNest "OrphanLogs$Rests" (27 : Nat) ({ cls := "OrphanLogs", name := "at", desc := "([II)I" } : Jvm.MethodName) "OrphanLogs", Cond.methodLinkNest "OrphanLogs$Post" (39 : Nat) ({ cls := "OrphanLogs", name := "put", desc := "([III)V" } : Jvm.MethodName) "OrphanLogs", Cond.methodLinkNest "OrphanLogs$Post" (55 : Nat) ({ cls := "OrphanLogs", name := "at", desc := "([II)I" } : Jvm.MethodName) "OrphanLogs", Cond.methodLinkNest "OrphanLogs$Office" (85 : Nat) ({ cls := "OrphanLogs", name := "at", desc := "([II)I" } : Jvm.MethodName) "OrphanLogs", Cond.methodLinkNest "OrphanLogs$Loss" (37 : Nat) ({ cls := "OrphanLogs", name := "put", desc := "([III)V" } : Jvm.MethodName) "OrphanLogs", Cond.methodLinkNest "OrphanLogs$Loss" (44 : Nat) ({ cls := "OrphanLogs", name := "at", desc := "([II)I" } : Jvm.MethodName) "OrphanLogs", Cond.methodLinkNest "OrphanLogs$Sayings" (35 : Nat) ({ cls := "OrphanLogs", name := "at", desc := "([II)I" } : Jvm.MethodName) "OrphanLogs", Cond.methodLinkNest "OrphanLogs$Sayings" (31 : Nat) ({ cls := "OrphanLogs", name := "put", desc := "([III)V" } : Jvm.MethodName) "OrphanLogs", Cond.methodLinkNest "OrphanLogs$Office" (222 : Nat) ({ cls := "OrphanLogs", name := "leftOver", desc := "(JI)I" } : Jvm.MethodName) "OrphanLogs", Cond.methodLinkNest "OrphanLogs$Text" (19 : Nat) ({ cls := "OrphanLogs", name := "put", desc := "([III)V" } : Jvm.MethodName) "OrphanLogs", Cond.methodLinkNest "OrphanLogs$Text" (23 : Nat) ({ cls := "OrphanLogs", name := "at", desc := "([II)I" } : Jvm.MethodName) "OrphanLogs", Cond.methodLinkNest "OrphanLogs$Reader" (70 : Nat) ({ cls := "OrphanLogs", name := "within", desc := "(III)Z" } : Jvm.MethodName) "OrphanLogs", Cond.methodLinkNest "OrphanLogs$Reader" (62 : Nat) ({ cls := "OrphanLogs", name := "put", desc := "([III)V" } : Jvm.MethodName) "OrphanLogs"]
theorem nsT_in : ∀ w ∈ nsT, w ∈ lw_tbl := by
  intro w hw
  simp only [nsT, List.mem_cons, List.mem_nil_iff, or_false] at hw
  rcases hw with rfl | rfl | rfl | rfl | rfl | rfl | rfl | rfl | rfl | rfl | rfl | rfl | rfl | rfl | rfl | rfl | rfl | rfl | rfl | rfl | rfl | rfl | rfl | rfl | rfl | rfl | rfl | rfl | rfl | rfl | rfl | rfl | rfl | rfl | rfl | rfl | rfl | rfl | rfl | rfl | rfl | rfl | rfl | rfl | rfl | rfl | rfl | rfl | rfl | rfl | rfl | rfl | rfl | rfl | rfl | rfl | rfl | rfl | rfl | rfl | rfl | rfl
  · exact tnn1 31 rfl
  · exact tnn1 56 rfl
  · exact tnn1 57 rfl
  · exact tnn1 59 rfl
  · exact tnn1 62 rfl
  · exact tnn1 64 rfl
  · exact tnn1 78 rfl
  · exact tnn1 83 rfl
  · exact tnn1 84 rfl
  · exact tnn1 86 rfl
  · exact tnn1 88 rfl
  · exact tnn1 90 rfl
  · exact tnn1 92 rfl
  · exact tnn1 109 rfl
  · exact tnn1 134 rfl
  · exact tnn1 136 rfl
  · exact tnn1 138 rfl
  · exact tnn1 139 rfl
  · exact tnn1 140 rfl
  · exact tnn1 142 rfl
  · exact tnn1 143 rfl
  · exact tnn1 145 rfl
  · exact tnn1 146 rfl
  · exact tnn1 148 rfl
  · exact tnn1 150 rfl
  · exact tnn1 152 rfl
  · exact tnn1 153 rfl
  · exact tnn1 154 rfl
  · exact tnn1 187 rfl
  · exact tnn1 194 rfl
  · exact tnn1 196 rfl
  · exact tnn1 197 rfl
  · exact tnn1 199 rfl
  · exact tnn1 202 rfl
  · exact tnn1 204 rfl
  · exact tnn1 221 rfl
  · exact tnn1 226 rfl
  · exact tnn1 227 rfl
  · exact tnn1 236 rfl
  · exact tnn2 1 rfl
  · exact tnn2 5 rfl
  · exact tnn2 7 rfl
  · exact tnn2 9 rfl
  · exact tnn2 25 rfl
  · exact tnn2 30 rfl
  · exact tnn2 32 rfl
  · exact tnn2 34 rfl
  · exact tnn2 91 rfl
  · exact tnn2 96 rfl
  · exact tnn2 107 rfl
  · exact tnn2 125 rfl
  · exact tnn2 143 rfl
  · exact tnn2 155 rfl
  · exact tnn2 196 rfl
  · exact tnn2 197 rfl
  · exact tnn2 227 rfl
  · exact tnn2 228 rfl
  · exact tnn3 6 rfl
  · exact tnn3 184 rfl
  · exact tnn3 213 rfl
  · exact tnn3 224 rfl
  · exact tnn3 232 rfl
