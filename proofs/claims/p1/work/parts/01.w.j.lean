/-! The words of the tables that a method may ask for, by their places. -/
def gaSel : List Cond := [Cond.selects "java/lang/StringBuilder" ⟨"java/lang/AbstractStringBuilder", "ensureCapacityInternal", "(I)V"⟩ ⟨"java/lang/AbstractStringBuilder", "ensureCapacityInternal", "(I)V"⟩, Cond.selects "java/lang/StringBuilder" ⟨"java/lang/AbstractStringBuilder", "newCapacity", "(I)I"⟩ ⟨"java/lang/AbstractStringBuilder", "newCapacity", "(I)I"⟩]
def gaW : List Cond := (gaSel ++ lw_tbl).filter goodWord
theorem gaW_of {w : Cond} (h : w ∈ lw_tbl) (g : goodWord w = true) : w ∈ gaW := List.mem_filter.mpr ⟨List.mem_append_right _ h, g⟩
theorem gaW_in {w : Cond} (h : w ∈ tables_1) (g : goodWord w = true) : w ∈ gaW := gaW_of (List.mem_append_right _ h) g
theorem gaW_good {w : Cond} (h : w ∈ gaW) : (w.onTables && w.keeps) = true ∨ ∃ ty, w = .arrayClass ty := good_of_word (List.mem_filter.mp h).2
theorem gaW_hts {args : Array Value} {s : State} (h0 : ∀ w ∈ gaSel, w.before args s = true) (h : ∀ w ∈ lw_tbl, w.before args s = true) : ∀ w ∈ gaW, w.before args s = true := fun w hw => (List.mem_append.mp (List.mem_filter.mp hw).1).elim (h0 w) (h w)
theorem gaW_sel {q : MethodName × Nat} (h : q ∈ lw_privs) : Cond.selects q.1.cls q.1 q.1 ∈ gaW := gaW_of (List.mem_append_left _ (List.mem_map.mpr ⟨q, h, rfl⟩)) rfl
theorem gaW_t1 {w : Cond} (h : w ∈ tables_1_1) (g : goodWord w = true) : w ∈ gaW := gaW_in (List.mem_append_left _ h) g
theorem gaW_t2 {w : Cond} (h : w ∈ tables_1_2) (g : goodWord w = true) : w ∈ gaW := gaW_in (List.mem_append_right _ (List.mem_append_left _ h)) g
theorem gaW_t3 {w : Cond} (h : w ∈ tables_1_3) (g : goodWord w = true) : w ∈ gaW := gaW_in (List.mem_append_right _ (List.mem_append_right _ (List.mem_append_left _ h))) g
theorem gaW_t4 {w : Cond} (h : w ∈ tables_1_4) (g : goodWord w = true) : w ∈ gaW := gaW_in (List.mem_append_right _ (List.mem_append_right _ (List.mem_append_right _ (List.mem_append_left _ h)))) g
theorem gaW_t5 {w : Cond} (h : w ∈ tables_1_5) (g : goodWord w = true) : w ∈ gaW := gaW_in (List.mem_append_right _ (List.mem_append_right _ (List.mem_append_right _ (List.mem_append_right _ (List.mem_append_left _ h))))) g
theorem gaW_t6 {w : Cond} (h : w ∈ tables_1_6) (g : goodWord w = true) : w ∈ gaW := gaW_in (List.mem_append_right _ (List.mem_append_right _ (List.mem_append_right _ (List.mem_append_right _ (List.mem_append_right _ (List.mem_append_left _ h)))))) g
theorem gaW_t7 {w : Cond} (h : w ∈ tables_1_7) (g : goodWord w = true) : w ∈ gaW := gaW_in (List.mem_append_right _ (List.mem_append_right _ (List.mem_append_right _ (List.mem_append_right _ (List.mem_append_right _ (List.mem_append_right _ (h))))))) g
theorem gaW_p1 {q : MethodName × Nat} (h : q ∈ lw_privs_1) : Cond.selects q.1.cls q.1 q.1 ∈ gaW := gaW_sel (List.mem_append_left _ h)
theorem gaW_p2 {q : MethodName × Nat} (h : q ∈ lw_privs_2) : Cond.selects q.1.cls q.1 q.1 ∈ gaW := gaW_sel (List.mem_append_right _ (List.mem_append_left _ h))
theorem gaW_p3 {q : MethodName × Nat} (h : q ∈ lw_privs_3) : Cond.selects q.1.cls q.1 q.1 ∈ gaW := gaW_sel (List.mem_append_right _ (List.mem_append_right _ (h)))
theorem wq_0 : Cond.selects "java/lang/StringBuilder" ⟨"java/lang/AbstractStringBuilder", "ensureCapacityInternal", "(I)V"⟩ ⟨"java/lang/AbstractStringBuilder", "ensureCapacityInternal", "(I)V"⟩ ∈ gaW := List.mem_filter.mpr ⟨List.mem_append_left _ (List.mem_of_getElem? (i := 0) rfl), rfl⟩
theorem wq_1 : Cond.selects "java/lang/StringBuilder" ⟨"java/lang/AbstractStringBuilder", "newCapacity", "(I)I"⟩ ⟨"java/lang/AbstractStringBuilder", "newCapacity", "(I)I"⟩ ∈ gaW := List.mem_filter.mpr ⟨List.mem_append_left _ (List.mem_of_getElem? (i := 1) rfl), rfl⟩
theorem ww_1_0 : Cond.initialized "WordgardenLaw" ∈ gaW := gaW_t1 (List.mem_of_getElem? (i := 0) rfl) rfl
theorem ww_1_1 : Cond.initialized "Wordgarden" ∈ gaW := gaW_t1 (List.mem_of_getElem? (i := 1) rfl) rfl
theorem ww_1_2 : Cond.initialized "Wordgarden$Rule" ∈ gaW := gaW_t1 (List.mem_of_getElem? (i := 2) rfl) rfl
theorem ww_1_3 : Cond.initialized "Wordgarden$Word" ∈ gaW := gaW_t1 (List.mem_of_getElem? (i := 3) rfl) rfl
theorem ww_1_4 : Cond.initialized "Wordgarden$Growth" ∈ gaW := gaW_t1 (List.mem_of_getElem? (i := 4) rfl) rfl
theorem ww_1_5 : Cond.initialized "WordgardenModel" ∈ gaW := gaW_t1 (List.mem_of_getElem? (i := 5) rfl) rfl
theorem ww_1_6 : Cond.initialized "WordgardenLaw$Out" ∈ gaW := gaW_t1 (List.mem_of_getElem? (i := 6) rfl) rfl
theorem ww_1_10 : Cond.initialized "java/lang/IndexOutOfBoundsException" ∈ gaW := gaW_t1 (List.mem_of_getElem? (i := 10) rfl) rfl
theorem ww_1_11 : Cond.initialized "java/lang/IllegalArgumentException" ∈ gaW := gaW_t1 (List.mem_of_getElem? (i := 11) rfl) rfl
theorem ww_1_12 : Cond.initialized "Wordgarden$Reading" ∈ gaW := gaW_t1 (List.mem_of_getElem? (i := 12) rfl) rfl
theorem ww_1_13 : Cond.initialized "java/lang/Math" ∈ gaW := gaW_t1 (List.mem_of_getElem? (i := 13) rfl) rfl
theorem ww_1_14 : Cond.initialized "java/lang/Integer" ∈ gaW := gaW_t1 (List.mem_of_getElem? (i := 14) rfl) rfl
theorem ww_1_15 : Cond.initialized "java/lang/IllegalStateException" ∈ gaW := gaW_t1 (List.mem_of_getElem? (i := 15) rfl) rfl
theorem ww_1_16 : Cond.initialized "Wordgarden$Twos" ∈ gaW := gaW_t1 (List.mem_of_getElem? (i := 16) rfl) rfl
theorem ww_1_17 : Cond.initialized "java/lang/AbstractStringBuilder" ∈ gaW := gaW_t1 (List.mem_of_getElem? (i := 17) rfl) rfl
theorem ww_1_18 : Cond.initialized "java/lang/StringBuilder" ∈ gaW := gaW_t1 (List.mem_of_getElem? (i := 18) rfl) rfl
theorem ww_1_19 : Cond.initialized "java/lang/String" ∈ gaW := gaW_t1 (List.mem_of_getElem? (i := 19) rfl) rfl
theorem ww_1_21 : Cond.initialized "jdk/internal/util/ArraysSupport" ∈ gaW := gaW_t1 (List.mem_of_getElem? (i := 21) rfl) rfl
theorem ww_1_22 : Cond.initialized "java/util/Arrays" ∈ gaW := gaW_t1 (List.mem_of_getElem? (i := 22) rfl) rfl
theorem ww_1_23 : Cond.initialized "java/lang/System" ∈ gaW := gaW_t1 (List.mem_of_getElem? (i := 23) rfl) rfl
theorem ww_1_24 : Cond.initialized "java/lang/StringLatin1" ∈ gaW := gaW_t1 (List.mem_of_getElem? (i := 24) rfl) rfl
theorem ww_1_26 : Cond.classLink "WordgardenLaw" 8 "Wordgarden" ∈ gaW := gaW_t1 (List.mem_of_getElem? (i := 26) rfl) rfl
theorem ww_1_27 : Cond.instantiable "Wordgarden" 9 ∈ gaW := gaW_t1 (List.mem_of_getElem? (i := 27) rfl) rfl
theorem ww_1_28 : Cond.methodLink "WordgardenLaw" 167 ⟨"Wordgarden", "<init>", "()V"⟩ ∈ gaW := gaW_t1 (List.mem_of_getElem? (i := 28) rfl) rfl
theorem ww_1_29 : Cond.instanceMethod ⟨"Wordgarden", "<init>", "()V"⟩ ∈ gaW := gaW_t1 (List.mem_of_getElem? (i := 29) rfl) rfl
theorem ww_1_30 : Cond.code ⟨"Wordgarden", "<init>", "()V"⟩ prog_1_method_1_code 2 (none : Option Jvm.ClassFile.FieldType) ∈ gaW := gaW_t1 (List.mem_of_getElem? (i := 30) rfl) rfl
theorem ww_1_31 : Cond.methodLink "Wordgarden" 1 ⟨"java/lang/Object", "<init>", "()V"⟩ ∈ gaW := gaW_t1 (List.mem_of_getElem? (i := 31) rfl) rfl
theorem ww_1_32 : Cond.instanceMethod ⟨"java/lang/Object", "<init>", "()V"⟩ ∈ gaW := gaW_t1 (List.mem_of_getElem? (i := 32) rfl) rfl
theorem ww_1_33 : Cond.code ⟨"java/lang/Object", "<init>", "()V"⟩ object_method_1_code 1 (none : Option Jvm.ClassFile.FieldType) ∈ gaW := gaW_t1 (List.mem_of_getElem? (i := 33) rfl) rfl
theorem ww_1_34 : Cond.classLink "Wordgarden" 9 "Wordgarden$Word" ∈ gaW := gaW_t1 (List.mem_of_getElem? (i := 34) rfl) rfl
theorem ww_1_36 : Cond.classLink "Wordgarden" 15 "Wordgarden$Growth" ∈ gaW := gaW_t1 (List.mem_of_getElem? (i := 36) rfl) rfl
theorem ww_1_38 : Cond.classLink "Wordgarden" 21 "Wordgarden$Rule" ∈ gaW := gaW_t1 (List.mem_of_getElem? (i := 38) rfl) rfl
theorem ww_1_39 : Cond.instantiable "Wordgarden$Rule" 3 ∈ gaW := gaW_t1 (List.mem_of_getElem? (i := 39) rfl) rfl
theorem ww_1_41 : Cond.instanceMethod ⟨"Wordgarden$Rule", "<init>", "()V"⟩ ∈ gaW := gaW_t1 (List.mem_of_getElem? (i := 41) rfl) rfl
theorem ww_1_42 : Cond.code ⟨"Wordgarden$Rule", "<init>", "()V"⟩ prog_4_method_1_code 1 (none : Option Jvm.ClassFile.FieldType) ∈ gaW := gaW_t1 (List.mem_of_getElem? (i := 42) rfl) rfl
theorem ww_1_43 : Cond.methodLink "Wordgarden$Rule" 3 ⟨"java/lang/Object", "<init>", "()V"⟩ ∈ gaW := gaW_t1 (List.mem_of_getElem? (i := 43) rfl) rfl
theorem ww_1_44 : Cond.classLink "Wordgarden$Rule" 9 "Wordgarden$Word" ∈ gaW := gaW_t1 (List.mem_of_getElem? (i := 44) rfl) rfl
theorem ww_1_45 : Cond.instantiable "Wordgarden$Word" 2 ∈ gaW := gaW_t1 (List.mem_of_getElem? (i := 45) rfl) rfl
theorem ww_1_47 : Cond.instanceMethod ⟨"Wordgarden$Word", "<init>", "()V"⟩ ∈ gaW := gaW_t1 (List.mem_of_getElem? (i := 47) rfl) rfl
theorem ww_1_48 : Cond.code ⟨"Wordgarden$Word", "<init>", "()V"⟩ prog_6_method_1_code 1 (none : Option Jvm.ClassFile.FieldType) ∈ gaW := gaW_t1 (List.mem_of_getElem? (i := 48) rfl) rfl
theorem ww_1_49 : Cond.methodLink "Wordgarden$Word" 3 ⟨"java/lang/Object", "<init>", "()V"⟩ ∈ gaW := gaW_t1 (List.mem_of_getElem? (i := 49) rfl) rfl
theorem ww_1_50 : Cond.fieldLink "Wordgarden$Word" 9 "Wordgarden$Word" "signs" "[Z" ∈ gaW := gaW_t1 (List.mem_of_getElem? (i := 50) rfl) rfl
theorem ww_1_54 : Cond.fieldLink "Wordgarden$Word" 15 "Wordgarden$Word" "many" "I" ∈ gaW := gaW_t1 (List.mem_of_getElem? (i := 54) rfl) rfl
theorem ww_1_57 : Cond.laysFinal "Wordgarden$Word" "Wordgarden$Word" "signs" "[Z" ∈ gaW := gaW_t1 (List.mem_of_getElem? (i := 57) rfl) rfl
theorem ww_1_59 : Cond.lays "Wordgarden$Word" "Wordgarden$Word" "many" "I" ∈ gaW := gaW_t1 (List.mem_of_getElem? (i := 59) rfl) rfl
theorem ww_1_62 : Cond.arrayClass .boolean ∈ gaW := gaW_t1 (List.mem_of_getElem? (i := 62) rfl) rfl
theorem ww_1_63 : Cond.fieldLink "Wordgarden$Rule" 12 "Wordgarden$Rule" "forA" "LWordgarden$Word;" ∈ gaW := gaW_t1 (List.mem_of_getElem? (i := 63) rfl) rfl
theorem ww_1_64 : Cond.fieldLink "Wordgarden$Rule" 18 "Wordgarden$Rule" "forB" "LWordgarden$Word;" ∈ gaW := gaW_t1 (List.mem_of_getElem? (i := 64) rfl) rfl
theorem ww_1_65 : Cond.fieldLink "Wordgarden$Rule" 21 "Wordgarden$Rule" "isImageFrom" "[Z" ∈ gaW := gaW_t1 (List.mem_of_getElem? (i := 65) rfl) rfl
theorem ww_1_66 : Cond.laysFinal "Wordgarden$Rule" "Wordgarden$Rule" "forA" "LWordgarden$Word;" ∈ gaW := gaW_t1 (List.mem_of_getElem? (i := 66) rfl) rfl
theorem ww_1_68 : Cond.laysFinal "Wordgarden$Rule" "Wordgarden$Rule" "forB" "LWordgarden$Word;" ∈ gaW := gaW_t1 (List.mem_of_getElem? (i := 68) rfl) rfl
theorem ww_1_70 : Cond.laysFinal "Wordgarden$Rule" "Wordgarden$Rule" "isImageFrom" "[Z" ∈ gaW := gaW_t1 (List.mem_of_getElem? (i := 70) rfl) rfl
theorem ww_1_74 : Cond.instantiable "Wordgarden$Growth" 4 ∈ gaW := gaW_t1 (List.mem_of_getElem? (i := 74) rfl) rfl
theorem ww_1_75 : Cond.methodLink "Wordgarden" 36 ⟨"Wordgarden$Growth", "<init>", "()V"⟩ ∈ gaW := gaW_t1 (List.mem_of_getElem? (i := 75) rfl) rfl
theorem ww_1_76 : Cond.instanceMethod ⟨"Wordgarden$Growth", "<init>", "()V"⟩ ∈ gaW := gaW_t1 (List.mem_of_getElem? (i := 76) rfl) rfl
theorem ww_1_77 : Cond.code ⟨"Wordgarden$Growth", "<init>", "()V"⟩ prog_2_method_1_code 1 (none : Option Jvm.ClassFile.FieldType) ∈ gaW := gaW_t1 (List.mem_of_getElem? (i := 77) rfl) rfl
theorem ww_1_78 : Cond.methodLink "Wordgarden$Growth" 3 ⟨"java/lang/Object", "<init>", "()V"⟩ ∈ gaW := gaW_t1 (List.mem_of_getElem? (i := 78) rfl) rfl
theorem ww_1_79 : Cond.classLink "Wordgarden$Growth" 15 "Wordgarden$Word" ∈ gaW := gaW_t1 (List.mem_of_getElem? (i := 79) rfl) rfl
theorem ww_1_81 : Cond.methodLink "Wordgarden$Growth" 25 ⟨"Wordgarden$Growth", "begin", "()V"⟩ ∈ gaW := gaW_t1 (List.mem_of_getElem? (i := 81) rfl) rfl
theorem ww_1_82 : Cond.instanceMethod ⟨"Wordgarden$Growth", "begin", "()V"⟩ ∈ gaW := gaW_t1 (List.mem_of_getElem? (i := 82) rfl) rfl
theorem ww_1_83 : Cond.selects "Wordgarden$Growth" ⟨"Wordgarden$Growth", "begin", "()V"⟩ ⟨"Wordgarden$Growth", "begin", "()V"⟩ ∈ gaW := gaW_t1 (List.mem_of_getElem? (i := 83) rfl) rfl
theorem ww_1_84 : Cond.code ⟨"Wordgarden$Growth", "begin", "()V"⟩ prog_2_method_2_code 1 (none : Option Jvm.ClassFile.FieldType) ∈ gaW := gaW_t1 (List.mem_of_getElem? (i := 84) rfl) rfl
theorem ww_1_85 : Cond.methodLink "Wordgarden$Growth" 32 ⟨"Wordgarden$Word", "clear", "()V"⟩ ∈ gaW := gaW_t1 (List.mem_of_getElem? (i := 85) rfl) rfl
theorem ww_1_86 : Cond.instanceMethod ⟨"Wordgarden$Word", "clear", "()V"⟩ ∈ gaW := gaW_t1 (List.mem_of_getElem? (i := 86) rfl) rfl
theorem ww_1_87 : Cond.selects "Wordgarden$Word" ⟨"Wordgarden$Word", "clear", "()V"⟩ ⟨"Wordgarden$Word", "clear", "()V"⟩ ∈ gaW := gaW_t1 (List.mem_of_getElem? (i := 87) rfl) rfl
theorem ww_1_88 : Cond.code ⟨"Wordgarden$Word", "clear", "()V"⟩ prog_6_method_4_code 1 (none : Option Jvm.ClassFile.FieldType) ∈ gaW := gaW_t1 (List.mem_of_getElem? (i := 88) rfl) rfl
theorem ww_1_89 : Cond.methodLink "Wordgarden$Growth" 35 ⟨"Wordgarden$Word", "add", "(Z)V"⟩ ∈ gaW := gaW_t1 (List.mem_of_getElem? (i := 89) rfl) rfl
theorem ww_1_90 : Cond.instanceMethod ⟨"Wordgarden$Word", "add", "(Z)V"⟩ ∈ gaW := gaW_t1 (List.mem_of_getElem? (i := 90) rfl) rfl
theorem ww_1_91 : Cond.selects "Wordgarden$Word" ⟨"Wordgarden$Word", "add", "(Z)V"⟩ ⟨"Wordgarden$Word", "add", "(Z)V"⟩ ∈ gaW := gaW_t1 (List.mem_of_getElem? (i := 91) rfl) rfl
theorem ww_1_92 : Cond.code ⟨"Wordgarden$Word", "add", "(Z)V"⟩ prog_6_method_5_code 2 (none : Option Jvm.ClassFile.FieldType) ∈ gaW := gaW_t1 (List.mem_of_getElem? (i := 92) rfl) rfl
theorem ww_1_93 : Cond.fieldLink "Wordgarden$Growth" 9 "Wordgarden$Growth" "turnRow" "[I" ∈ gaW := gaW_t1 (List.mem_of_getElem? (i := 93) rfl) rfl
theorem ww_1_94 : Cond.fieldLink "Wordgarden$Growth" 28 "Wordgarden$Growth" "turnCount" "I" ∈ gaW := gaW_t1 (List.mem_of_getElem? (i := 94) rfl) rfl
theorem ww_1_96 : Cond.fieldLink "Wordgarden$Growth" 18 "Wordgarden$Growth" "elder" "LWordgarden$Word;" ∈ gaW := gaW_t1 (List.mem_of_getElem? (i := 96) rfl) rfl
theorem ww_1_98 : Cond.fieldLink "Wordgarden$Growth" 22 "Wordgarden$Growth" "younger" "LWordgarden$Word;" ∈ gaW := gaW_t1 (List.mem_of_getElem? (i := 98) rfl) rfl
theorem ww_1_100 : Cond.laysFinal "Wordgarden$Growth" "Wordgarden$Growth" "turnRow" "[I" ∈ gaW := gaW_t1 (List.mem_of_getElem? (i := 100) rfl) rfl
theorem ww_1_102 : Cond.lays "Wordgarden$Growth" "Wordgarden$Growth" "turnCount" "I" ∈ gaW := gaW_t1 (List.mem_of_getElem? (i := 102) rfl) rfl
theorem ww_1_104 : Cond.laysFinal "Wordgarden$Growth" "Wordgarden$Growth" "elder" "LWordgarden$Word;" ∈ gaW := gaW_t1 (List.mem_of_getElem? (i := 104) rfl) rfl
theorem ww_1_106 : Cond.laysFinal "Wordgarden$Growth" "Wordgarden$Growth" "younger" "LWordgarden$Word;" ∈ gaW := gaW_t1 (List.mem_of_getElem? (i := 106) rfl) rfl
theorem ww_1_109 : Cond.arrayClass .int ∈ gaW := gaW_t1 (List.mem_of_getElem? (i := 109) rfl) rfl
theorem ww_1_110 : Cond.fieldLink "Wordgarden" 11 "Wordgarden" "sheets" "[LWordgarden$Word;" ∈ gaW := gaW_t1 (List.mem_of_getElem? (i := 110) rfl) rfl
theorem ww_1_111 : Cond.fieldLink "Wordgarden" 17 "Wordgarden" "growths" "[LWordgarden$Growth;" ∈ gaW := gaW_t1 (List.mem_of_getElem? (i := 111) rfl) rfl
theorem ww_1_112 : Cond.fieldLink "Wordgarden" 24 "Wordgarden" "rule" "LWordgarden$Rule;" ∈ gaW := gaW_t1 (List.mem_of_getElem? (i := 112) rfl) rfl
theorem ww_1_113 : Cond.fieldLink "Wordgarden" 29 "Wordgarden" "bench" "LWordgarden$Word;" ∈ gaW := gaW_t1 (List.mem_of_getElem? (i := 113) rfl) rfl
theorem ww_1_114 : Cond.fieldLink "Wordgarden" 33 "Wordgarden" "secondBench" "LWordgarden$Word;" ∈ gaW := gaW_t1 (List.mem_of_getElem? (i := 114) rfl) rfl
theorem ww_1_115 : Cond.fieldLink "Wordgarden" 248 "Wordgarden" "sheetActs" "I" ∈ gaW := gaW_t1 (List.mem_of_getElem? (i := 115) rfl) rfl
theorem ww_1_116 : Cond.fieldLink "Wordgarden" 251 "Wordgarden" "growthActs" "I" ∈ gaW := gaW_t1 (List.mem_of_getElem? (i := 116) rfl) rfl
theorem ww_1_117 : Cond.fieldLink "Wordgarden" 254 "Wordgarden" "refusals" "I" ∈ gaW := gaW_t1 (List.mem_of_getElem? (i := 117) rfl) rfl
theorem ww_1_118 : Cond.fieldLink "Wordgarden" 257 "Wordgarden" "knocks" "I" ∈ gaW := gaW_t1 (List.mem_of_getElem? (i := 118) rfl) rfl
theorem ww_1_119 : Cond.laysFinal "Wordgarden" "Wordgarden" "sheets" "[LWordgarden$Word;" ∈ gaW := gaW_t1 (List.mem_of_getElem? (i := 119) rfl) rfl
theorem ww_1_121 : Cond.laysFinal "Wordgarden" "Wordgarden" "growths" "[LWordgarden$Growth;" ∈ gaW := gaW_t1 (List.mem_of_getElem? (i := 121) rfl) rfl
theorem ww_1_123 : Cond.laysFinal "Wordgarden" "Wordgarden" "rule" "LWordgarden$Rule;" ∈ gaW := gaW_t1 (List.mem_of_getElem? (i := 123) rfl) rfl
theorem ww_1_125 : Cond.laysFinal "Wordgarden" "Wordgarden" "bench" "LWordgarden$Word;" ∈ gaW := gaW_t1 (List.mem_of_getElem? (i := 125) rfl) rfl
theorem ww_1_127 : Cond.laysFinal "Wordgarden" "Wordgarden" "secondBench" "LWordgarden$Word;" ∈ gaW := gaW_t1 (List.mem_of_getElem? (i := 127) rfl) rfl
theorem ww_1_129 : Cond.lays "Wordgarden" "Wordgarden" "sheetActs" "I" ∈ gaW := gaW_t1 (List.mem_of_getElem? (i := 129) rfl) rfl
theorem ww_1_131 : Cond.lays "Wordgarden" "Wordgarden" "growthActs" "I" ∈ gaW := gaW_t1 (List.mem_of_getElem? (i := 131) rfl) rfl
theorem ww_1_133 : Cond.lays "Wordgarden" "Wordgarden" "refusals" "I" ∈ gaW := gaW_t1 (List.mem_of_getElem? (i := 133) rfl) rfl
theorem ww_1_135 : Cond.lays "Wordgarden" "Wordgarden" "knocks" "I" ∈ gaW := gaW_t1 (List.mem_of_getElem? (i := 135) rfl) rfl
theorem ww_1_138 : Cond.methodLink "WordgardenLaw" 322 ⟨"Wordgarden", "knock", "()I"⟩ ∈ gaW := gaW_t1 (List.mem_of_getElem? (i := 138) rfl) rfl
theorem ww_1_139 : Cond.instanceMethod ⟨"Wordgarden", "knock", "()I"⟩ ∈ gaW := gaW_t1 (List.mem_of_getElem? (i := 139) rfl) rfl
theorem ww_1_140 : Cond.selects "Wordgarden" ⟨"Wordgarden", "knock", "()I"⟩ ⟨"Wordgarden", "knock", "()I"⟩ ∈ gaW := gaW_t1 (List.mem_of_getElem? (i := 140) rfl) rfl
theorem ww_1_141 : Cond.code ⟨"Wordgarden", "knock", "()I"⟩ prog_1_method_46_code 1 (some .int) ∈ gaW := gaW_t1 (List.mem_of_getElem? (i := 141) rfl) rfl
theorem ww_1_142 : Cond.methodLink "WordgardenLaw" 326 ⟨"Wordgarden", "isSound", "()Z"⟩ ∈ gaW := gaW_t1 (List.mem_of_getElem? (i := 142) rfl) rfl
theorem ww_1_143 : Cond.instanceMethod ⟨"Wordgarden", "isSound", "()Z"⟩ ∈ gaW := gaW_t1 (List.mem_of_getElem? (i := 143) rfl) rfl
theorem ww_1_144 : Cond.selects "Wordgarden" ⟨"Wordgarden", "isSound", "()Z"⟩ ⟨"Wordgarden", "isSound", "()Z"⟩ ∈ gaW := gaW_t1 (List.mem_of_getElem? (i := 144) rfl) rfl
theorem ww_1_145 : Cond.code ⟨"Wordgarden", "isSound", "()Z"⟩ prog_1_method_47_code 2 (some .boolean) ∈ gaW := gaW_t1 (List.mem_of_getElem? (i := 145) rfl) rfl
theorem ww_1_146 : Cond.methodLink "Wordgarden" 260 ⟨"Wordgarden", "isSheetSound", "(I)Z"⟩ ∈ gaW := gaW_t1 (List.mem_of_getElem? (i := 146) rfl) rfl
theorem ww_1_148 : Cond.instanceMethod ⟨"Wordgarden", "isSheetSound", "(I)Z"⟩ ∈ gaW := gaW_t1 (List.mem_of_getElem? (i := 148) rfl) rfl
theorem ww_1_149 : Cond.code ⟨"Wordgarden", "isSheetSound", "(I)Z"⟩ prog_1_method_63_code 3 (some .boolean) ∈ gaW := gaW_t1 (List.mem_of_getElem? (i := 149) rfl) rfl
theorem ww_1_150 : Cond.methodLink "Wordgarden" 37 ⟨"Wordgarden", "wordOf", "(I)LWordgarden$Word;"⟩ ∈ gaW := gaW_t1 (List.mem_of_getElem? (i := 150) rfl) rfl
theorem ww_1_152 : Cond.instanceMethod ⟨"Wordgarden", "wordOf", "(I)LWordgarden$Word;"⟩ ∈ gaW := gaW_t1 (List.mem_of_getElem? (i := 152) rfl) rfl
theorem ww_1_153 : Cond.code ⟨"Wordgarden", "wordOf", "(I)LWordgarden$Word;"⟩ prog_1_method_49_code 2 (some (.object "Wordgarden$Word")) ∈ gaW := gaW_t1 (List.mem_of_getElem? (i := 153) rfl) rfl
theorem ww_1_154 : Cond.classLink "Wordgarden" 285 "java/lang/IndexOutOfBoundsException" ∈ gaW := gaW_t1 (List.mem_of_getElem? (i := 154) rfl) rfl
theorem ww_1_221 : Cond.arrayClass .byte ∈ gaW := gaW_t1 (List.mem_of_getElem? (i := 221) rfl) rfl
theorem ww_1_222 : Cond.methodLink "Wordgarden" 101 ⟨"Wordgarden$Word", "takeTurned", "(LWordgarden$Word;)V"⟩ ∈ gaW := gaW_t1 (List.mem_of_getElem? (i := 222) rfl) rfl
theorem ww_1_223 : Cond.instanceMethod ⟨"Wordgarden$Word", "takeTurned", "(LWordgarden$Word;)V"⟩ ∈ gaW := gaW_t1 (List.mem_of_getElem? (i := 223) rfl) rfl
theorem ww_1_224 : Cond.selects "Wordgarden$Word" ⟨"Wordgarden$Word", "takeTurned", "(LWordgarden$Word;)V"⟩ ⟨"Wordgarden$Word", "takeTurned", "(LWordgarden$Word;)V"⟩ ∈ gaW := gaW_t1 (List.mem_of_getElem? (i := 224) rfl) rfl
theorem ww_1_225 : Cond.code ⟨"Wordgarden$Word", "takeTurned", "(LWordgarden$Word;)V"⟩ prog_6_method_8_code 3 (none : Option Jvm.ClassFile.FieldType) ∈ gaW := gaW_t1 (List.mem_of_getElem? (i := 225) rfl) rfl
theorem ww_1_226 : Cond.methodLink "Wordgarden$Word" 31 ⟨"Wordgarden$Word", "clear", "()V"⟩ ∈ gaW := gaW_t1 (List.mem_of_getElem? (i := 226) rfl) rfl
theorem ww_1_227 : Cond.methodLink "Wordgarden$Word" 19 ⟨"Wordgarden$Word", "isUp", "(I)Z"⟩ ∈ gaW := gaW_t1 (List.mem_of_getElem? (i := 227) rfl) rfl
theorem ww_1_228 : Cond.instanceMethod ⟨"Wordgarden$Word", "isUp", "(I)Z"⟩ ∈ gaW := gaW_t1 (List.mem_of_getElem? (i := 228) rfl) rfl
theorem ww_1_229 : Cond.selects "Wordgarden$Word" ⟨"Wordgarden$Word", "isUp", "(I)Z"⟩ ⟨"Wordgarden$Word", "isUp", "(I)Z"⟩ ∈ gaW := gaW_t1 (List.mem_of_getElem? (i := 229) rfl) rfl
theorem ww_1_230 : Cond.code ⟨"Wordgarden$Word", "isUp", "(I)Z"⟩ prog_6_method_2_code 2 (some .boolean) ∈ gaW := gaW_t1 (List.mem_of_getElem? (i := 230) rfl) rfl
theorem ww_1_231 : Cond.methodLink "Wordgarden$Word" 23 ⟨"Wordgarden$Word", "add", "(Z)V"⟩ ∈ gaW := gaW_t1 (List.mem_of_getElem? (i := 231) rfl) rfl
theorem ww_1_232 : Cond.methodLink "Wordgarden" 311 ⟨"Wordgarden", "count", "(IZ)I"⟩ ∈ gaW := gaW_t1 (List.mem_of_getElem? (i := 232) rfl) rfl
theorem ww_1_233 : Cond.instanceMethod ⟨"Wordgarden", "count", "(IZ)I"⟩ ∈ gaW := gaW_t1 (List.mem_of_getElem? (i := 233) rfl) rfl
theorem ww_1_234 : Cond.selects "Wordgarden" ⟨"Wordgarden", "count", "(IZ)I"⟩ ⟨"Wordgarden", "count", "(IZ)I"⟩ ∈ gaW := gaW_t1 (List.mem_of_getElem? (i := 234) rfl) rfl
theorem ww_1_235 : Cond.code ⟨"Wordgarden", "count", "(IZ)I"⟩ prog_1_method_26_code 5 (some .int) ∈ gaW := gaW_t1 (List.mem_of_getElem? (i := 235) rfl) rfl
theorem ww_1_236 : Cond.methodLink "Wordgarden" 108 ⟨"Wordgarden$Reading", "upsOf", "(LWordgarden$Word;)I"⟩ ∈ gaW := gaW_t1 (List.mem_of_getElem? (i := 236) rfl) rfl
theorem ww_1_237 : Cond.static ⟨"Wordgarden$Reading", "upsOf", "(LWordgarden$Word;)I"⟩ ∈ gaW := gaW_t1 (List.mem_of_getElem? (i := 237) rfl) rfl
theorem ww_1_238 : Cond.code ⟨"Wordgarden$Reading", "upsOf", "(LWordgarden$Word;)I"⟩ prog_3_method_5_code 3 (some .int) ∈ gaW := gaW_t1 (List.mem_of_getElem? (i := 238) rfl) rfl
theorem ww_1_239 : Cond.methodLink "Wordgarden$Reading" 18 ⟨"Wordgarden$Word", "isUp", "(I)Z"⟩ ∈ gaW := gaW_t1 (List.mem_of_getElem? (i := 239) rfl) rfl
theorem ww_2_0 : Cond.methodLink "Wordgarden" 195 ⟨"Wordgarden$Reading", "orderOf", "(LWordgarden$Word;LWordgarden$Word;)I"⟩ ∈ gaW := gaW_t2 (List.mem_of_getElem? (i := 0) rfl) rfl
theorem ww_2_1 : Cond.static ⟨"Wordgarden$Reading", "orderOf", "(LWordgarden$Word;LWordgarden$Word;)I"⟩ ∈ gaW := gaW_t2 (List.mem_of_getElem? (i := 1) rfl) rfl
theorem ww_2_2 : Cond.code ⟨"Wordgarden$Reading", "orderOf", "(LWordgarden$Word;LWordgarden$Word;)I"⟩ prog_3_method_7_code 4 (some .int) ∈ gaW := gaW_t2 (List.mem_of_getElem? (i := 2) rfl) rfl
theorem ww_2_3 : Cond.methodLink "Wordgarden$Reading" 36 ⟨"java/lang/Math", "min", "(II)I"⟩ ∈ gaW := gaW_t2 (List.mem_of_getElem? (i := 3) rfl) rfl
theorem ww_2_4 : Cond.static ⟨"java/lang/Math", "min", "(II)I"⟩ ∈ gaW := gaW_t2 (List.mem_of_getElem? (i := 4) rfl) rfl
theorem ww_2_5 : Cond.code ⟨"java/lang/Math", "min", "(II)I"⟩ prog_17_method_69_code 2 (some .int) ∈ gaW := gaW_t2 (List.mem_of_getElem? (i := 5) rfl) rfl
theorem ww_2_6 : Cond.methodLink "Wordgarden$Reading" 42 ⟨"java/lang/Integer", "compare", "(II)I"⟩ ∈ gaW := gaW_t2 (List.mem_of_getElem? (i := 6) rfl) rfl
theorem ww_2_7 : Cond.static ⟨"java/lang/Integer", "compare", "(II)I"⟩ ∈ gaW := gaW_t2 (List.mem_of_getElem? (i := 7) rfl) rfl
theorem ww_2_8 : Cond.code ⟨"java/lang/Integer", "compare", "(II)I"⟩ prog_16_method_40_code 2 (some .int) ∈ gaW := gaW_t2 (List.mem_of_getElem? (i := 8) rfl) rfl
theorem ww_2_9 : Cond.methodLink "Wordgarden" 263 ⟨"Wordgarden", "isGrowthSound", "(I)Z"⟩ ∈ gaW := gaW_t2 (List.mem_of_getElem? (i := 9) rfl) rfl
theorem ww_2_11 : Cond.instanceMethod ⟨"Wordgarden", "isGrowthSound", "(I)Z"⟩ ∈ gaW := gaW_t2 (List.mem_of_getElem? (i := 11) rfl) rfl
theorem ww_2_12 : Cond.code ⟨"Wordgarden", "isGrowthSound", "(I)Z"⟩ prog_1_method_64_code 7 (some .boolean) ∈ gaW := gaW_t2 (List.mem_of_getElem? (i := 12) rfl) rfl
theorem ww_2_13 : Cond.methodLink "Wordgarden" 140 ⟨"Wordgarden", "growthOf", "(I)LWordgarden$Growth;"⟩ ∈ gaW := gaW_t2 (List.mem_of_getElem? (i := 13) rfl) rfl
theorem ww_2_15 : Cond.instanceMethod ⟨"Wordgarden", "growthOf", "(I)LWordgarden$Growth;"⟩ ∈ gaW := gaW_t2 (List.mem_of_getElem? (i := 15) rfl) rfl
theorem ww_2_16 : Cond.code ⟨"Wordgarden", "growthOf", "(I)LWordgarden$Growth;"⟩ prog_1_method_50_code 2 (some (.object "Wordgarden$Growth")) ∈ gaW := gaW_t2 (List.mem_of_getElem? (i := 16) rfl) rfl
theorem ww_2_18 : Cond.methodLink "Wordgarden" 147 ⟨"Wordgarden$Growth", "layByRules", "(LWordgarden$Word;LWordgarden$Word;LWordgarden$Rule;)V"⟩ ∈ gaW := gaW_t2 (List.mem_of_getElem? (i := 18) rfl) rfl
theorem ww_2_19 : Cond.instanceMethod ⟨"Wordgarden$Growth", "layByRules", "(LWordgarden$Word;LWordgarden$Word;LWordgarden$Rule;)V"⟩ ∈ gaW := gaW_t2 (List.mem_of_getElem? (i := 19) rfl) rfl
theorem ww_2_20 : Cond.selects "Wordgarden$Growth" ⟨"Wordgarden$Growth", "layByRules", "(LWordgarden$Word;LWordgarden$Word;LWordgarden$Rule;)V"⟩ ⟨"Wordgarden$Growth", "layByRules", "(LWordgarden$Word;LWordgarden$Word;LWordgarden$Rule;)V"⟩ ∈ gaW := gaW_t2 (List.mem_of_getElem? (i := 20) rfl) rfl
theorem ww_2_21 : Cond.code ⟨"Wordgarden$Growth", "layByRules", "(LWordgarden$Word;LWordgarden$Word;LWordgarden$Rule;)V"⟩ prog_2_method_7_code 5 (none : Option Jvm.ClassFile.FieldType) ∈ gaW := gaW_t2 (List.mem_of_getElem? (i := 21) rfl) rfl
theorem ww_2_22 : Cond.methodLink "Wordgarden$Growth" 50 ⟨"Wordgarden$Growth", "turnAt", "(I)I"⟩ ∈ gaW := gaW_t2 (List.mem_of_getElem? (i := 22) rfl) rfl
theorem ww_2_23 : Cond.instanceMethod ⟨"Wordgarden$Growth", "turnAt", "(I)I"⟩ ∈ gaW := gaW_t2 (List.mem_of_getElem? (i := 23) rfl) rfl
theorem ww_2_24 : Cond.selects "Wordgarden$Growth" ⟨"Wordgarden$Growth", "turnAt", "(I)I"⟩ ⟨"Wordgarden$Growth", "turnAt", "(I)I"⟩ ∈ gaW := gaW_t2 (List.mem_of_getElem? (i := 24) rfl) rfl
theorem ww_2_25 : Cond.code ⟨"Wordgarden$Growth", "turnAt", "(I)I"⟩ prog_2_method_4_code 2 (some .int) ∈ gaW := gaW_t2 (List.mem_of_getElem? (i := 25) rfl) rfl
theorem ww_2_26 : Cond.methodLink "Wordgarden$Growth" 54 ⟨"Wordgarden$Growth", "codeForA", "(I)I"⟩ ∈ gaW := gaW_t2 (List.mem_of_getElem? (i := 26) rfl) rfl
theorem ww_2_27 : Cond.static ⟨"Wordgarden$Growth", "codeForA", "(I)I"⟩ ∈ gaW := gaW_t2 (List.mem_of_getElem? (i := 27) rfl) rfl
theorem ww_2_28 : Cond.code ⟨"Wordgarden$Growth", "codeForA", "(I)I"⟩ prog_2_method_8_code 1 (some .int) ∈ gaW := gaW_t2 (List.mem_of_getElem? (i := 28) rfl) rfl
theorem ww_2_29 : Cond.fieldLink "Wordgarden$Growth" 66 "Wordgarden$Growth" "CODES_FOR_A" "[I" ∈ gaW := gaW_t2 (List.mem_of_getElem? (i := 29) rfl) rfl
theorem ww_2_31 : Cond.methodLink "Wordgarden$Growth" 57 ⟨"Wordgarden$Rule", "take", "(II)V"⟩ ∈ gaW := gaW_t2 (List.mem_of_getElem? (i := 31) rfl) rfl
theorem ww_2_32 : Cond.instanceMethod ⟨"Wordgarden$Rule", "take", "(II)V"⟩ ∈ gaW := gaW_t2 (List.mem_of_getElem? (i := 32) rfl) rfl
theorem ww_2_33 : Cond.selects "Wordgarden$Rule" ⟨"Wordgarden$Rule", "take", "(II)V"⟩ ⟨"Wordgarden$Rule", "take", "(II)V"⟩ ∈ gaW := gaW_t2 (List.mem_of_getElem? (i := 33) rfl) rfl
theorem ww_2_34 : Cond.code ⟨"Wordgarden$Rule", "take", "(II)V"⟩ prog_4_method_2_code 3 (none : Option Jvm.ClassFile.FieldType) ∈ gaW := gaW_t2 (List.mem_of_getElem? (i := 34) rfl) rfl
theorem ww_2_35 : Cond.methodLink "Wordgarden$Rule" 25 ⟨"Wordgarden$Word", "takeCode", "(I)V"⟩ ∈ gaW := gaW_t2 (List.mem_of_getElem? (i := 35) rfl) rfl
theorem ww_2_36 : Cond.instanceMethod ⟨"Wordgarden$Word", "takeCode", "(I)V"⟩ ∈ gaW := gaW_t2 (List.mem_of_getElem? (i := 36) rfl) rfl
theorem ww_2_37 : Cond.selects "Wordgarden$Word" ⟨"Wordgarden$Word", "takeCode", "(I)V"⟩ ⟨"Wordgarden$Word", "takeCode", "(I)V"⟩ ∈ gaW := gaW_t2 (List.mem_of_getElem? (i := 37) rfl) rfl
theorem ww_2_38 : Cond.code ⟨"Wordgarden$Word", "takeCode", "(I)V"⟩ prog_6_method_9_code 5 (none : Option Jvm.ClassFile.FieldType) ∈ gaW := gaW_t2 (List.mem_of_getElem? (i := 38) rfl) rfl
theorem ww_2_39 : Cond.methodLink "Wordgarden$Growth" 62 ⟨"Wordgarden$Rule", "layImage", "(LWordgarden$Word;LWordgarden$Word;)V"⟩ ∈ gaW := gaW_t2 (List.mem_of_getElem? (i := 39) rfl) rfl
theorem ww_2_40 : Cond.instanceMethod ⟨"Wordgarden$Rule", "layImage", "(LWordgarden$Word;LWordgarden$Word;)V"⟩ ∈ gaW := gaW_t2 (List.mem_of_getElem? (i := 40) rfl) rfl
theorem ww_2_41 : Cond.selects "Wordgarden$Rule" ⟨"Wordgarden$Rule", "layImage", "(LWordgarden$Word;LWordgarden$Word;)V"⟩ ⟨"Wordgarden$Rule", "layImage", "(LWordgarden$Word;LWordgarden$Word;)V"⟩ ∈ gaW := gaW_t2 (List.mem_of_getElem? (i := 41) rfl) rfl
theorem ww_2_42 : Cond.code ⟨"Wordgarden$Rule", "layImage", "(LWordgarden$Word;LWordgarden$Word;)V"⟩ prog_4_method_5_code 5 (none : Option Jvm.ClassFile.FieldType) ∈ gaW := gaW_t2 (List.mem_of_getElem? (i := 42) rfl) rfl
theorem ww_2_43 : Cond.methodLink "Wordgarden$Rule" 43 ⟨"Wordgarden$Word", "clear", "()V"⟩ ∈ gaW := gaW_t2 (List.mem_of_getElem? (i := 43) rfl) rfl
theorem ww_2_44 : Cond.methodLink "Wordgarden$Rule" 46 ⟨"Wordgarden$Word", "isUp", "(I)Z"⟩ ∈ gaW := gaW_t2 (List.mem_of_getElem? (i := 44) rfl) rfl
theorem ww_2_45 : Cond.methodLink "Wordgarden$Rule" 50 ⟨"Wordgarden$Word", "addPart", "(LWordgarden$Word;II)V"⟩ ∈ gaW := gaW_t2 (List.mem_of_getElem? (i := 45) rfl) rfl
theorem ww_2_46 : Cond.instanceMethod ⟨"Wordgarden$Word", "addPart", "(LWordgarden$Word;II)V"⟩ ∈ gaW := gaW_t2 (List.mem_of_getElem? (i := 46) rfl) rfl
theorem ww_2_47 : Cond.selects "Wordgarden$Word" ⟨"Wordgarden$Word", "addPart", "(LWordgarden$Word;II)V"⟩ ⟨"Wordgarden$Word", "addPart", "(LWordgarden$Word;II)V"⟩ ∈ gaW := gaW_t2 (List.mem_of_getElem? (i := 47) rfl) rfl
theorem ww_2_48 : Cond.code ⟨"Wordgarden$Word", "addPart", "(LWordgarden$Word;II)V"⟩ prog_6_method_6_code 5 (none : Option Jvm.ClassFile.FieldType) ∈ gaW := gaW_t2 (List.mem_of_getElem? (i := 48) rfl) rfl
theorem ww_2_49 : Cond.methodLink "Wordgarden$Growth" 46 ⟨"Wordgarden$Word", "take", "(LWordgarden$Word;)V"⟩ ∈ gaW := gaW_t2 (List.mem_of_getElem? (i := 49) rfl) rfl
theorem ww_2_50 : Cond.instanceMethod ⟨"Wordgarden$Word", "take", "(LWordgarden$Word;)V"⟩ ∈ gaW := gaW_t2 (List.mem_of_getElem? (i := 50) rfl) rfl
theorem ww_2_51 : Cond.selects "Wordgarden$Word" ⟨"Wordgarden$Word", "take", "(LWordgarden$Word;)V"⟩ ⟨"Wordgarden$Word", "take", "(LWordgarden$Word;)V"⟩ ∈ gaW := gaW_t2 (List.mem_of_getElem? (i := 51) rfl) rfl
theorem ww_2_52 : Cond.code ⟨"Wordgarden$Word", "take", "(LWordgarden$Word;)V"⟩ prog_6_method_7_code 3 (none : Option Jvm.ClassFile.FieldType) ∈ gaW := gaW_t2 (List.mem_of_getElem? (i := 52) rfl) rfl
theorem ww_2_53 : Cond.methodLink "Wordgarden$Word" 27 ⟨"Wordgarden$Word", "put", "(IZ)V"⟩ ∈ gaW := gaW_t2 (List.mem_of_getElem? (i := 53) rfl) rfl
theorem ww_2_54 : Cond.instanceMethod ⟨"Wordgarden$Word", "put", "(IZ)V"⟩ ∈ gaW := gaW_t2 (List.mem_of_getElem? (i := 54) rfl) rfl
theorem ww_2_55 : Cond.selects "Wordgarden$Word" ⟨"Wordgarden$Word", "put", "(IZ)V"⟩ ⟨"Wordgarden$Word", "put", "(IZ)V"⟩ ∈ gaW := gaW_t2 (List.mem_of_getElem? (i := 55) rfl) rfl
theorem ww_2_56 : Cond.code ⟨"Wordgarden$Word", "put", "(IZ)V"⟩ prog_6_method_3_code 3 (none : Option Jvm.ClassFile.FieldType) ∈ gaW := gaW_t2 (List.mem_of_getElem? (i := 56) rfl) rfl
theorem ww_2_57 : Cond.methodLink "Wordgarden" 151 ⟨"Wordgarden$Growth", "layByLine", "(LWordgarden$Word;)V"⟩ ∈ gaW := gaW_t2 (List.mem_of_getElem? (i := 57) rfl) rfl
theorem ww_2_58 : Cond.instanceMethod ⟨"Wordgarden$Growth", "layByLine", "(LWordgarden$Word;)V"⟩ ∈ gaW := gaW_t2 (List.mem_of_getElem? (i := 58) rfl) rfl
theorem ww_2_59 : Cond.selects "Wordgarden$Growth" ⟨"Wordgarden$Growth", "layByLine", "(LWordgarden$Word;)V"⟩ ⟨"Wordgarden$Growth", "layByLine", "(LWordgarden$Word;)V"⟩ ∈ gaW := gaW_t2 (List.mem_of_getElem? (i := 59) rfl) rfl
theorem ww_2_60 : Cond.code ⟨"Wordgarden$Growth", "layByLine", "(LWordgarden$Word;)V"⟩ prog_2_method_9_code 10 (none : Option Jvm.ClassFile.FieldType) ∈ gaW := gaW_t2 (List.mem_of_getElem? (i := 60) rfl) rfl
theorem ww_2_62 : Cond.static ⟨"Wordgarden", "isUpOnLine", "(IIII)Z"⟩ ∈ gaW := gaW_t2 (List.mem_of_getElem? (i := 62) rfl) rfl
theorem ww_2_63 : Cond.code ⟨"Wordgarden", "isUpOnLine", "(IIII)Z"⟩ prog_1_method_62_code 4 (some .boolean) ∈ gaW := gaW_t2 (List.mem_of_getElem? (i := 63) rfl) rfl
theorem ww_2_64 : Cond.methodLink "Wordgarden$Growth" 73 ⟨"Wordgarden$Growth", "addLineEnd", "(LWordgarden$Word;)V"⟩ ∈ gaW := gaW_t2 (List.mem_of_getElem? (i := 64) rfl) rfl
theorem ww_2_66 : Cond.instanceMethod ⟨"Wordgarden$Growth", "addLineEnd", "(LWordgarden$Word;)V"⟩ ∈ gaW := gaW_t2 (List.mem_of_getElem? (i := 66) rfl) rfl
theorem ww_2_67 : Cond.code ⟨"Wordgarden$Growth", "addLineEnd", "(LWordgarden$Word;)V"⟩ prog_2_method_10_code 3 (none : Option Jvm.ClassFile.FieldType) ∈ gaW := gaW_t2 (List.mem_of_getElem? (i := 67) rfl) rfl
theorem ww_2_68 : Cond.methodLink "Wordgarden" 315 ⟨"Wordgarden", "cross", "(I)I"⟩ ∈ gaW := gaW_t2 (List.mem_of_getElem? (i := 68) rfl) rfl
theorem ww_2_69 : Cond.instanceMethod ⟨"Wordgarden", "cross", "(I)I"⟩ ∈ gaW := gaW_t2 (List.mem_of_getElem? (i := 69) rfl) rfl
theorem ww_2_70 : Cond.selects "Wordgarden" ⟨"Wordgarden", "cross", "(I)I"⟩ ⟨"Wordgarden", "cross", "(I)I"⟩ ∈ gaW := gaW_t2 (List.mem_of_getElem? (i := 70) rfl) rfl
theorem ww_2_71 : Cond.code ⟨"Wordgarden", "cross", "(I)I"⟩ prog_1_method_43_code 3 (some .int) ∈ gaW := gaW_t2 (List.mem_of_getElem? (i := 71) rfl) rfl
theorem ww_2_72 : Cond.methodLink "Wordgarden" 318 ⟨"Wordgarden", "alike", "(I)I"⟩ ∈ gaW := gaW_t2 (List.mem_of_getElem? (i := 72) rfl) rfl
theorem ww_2_73 : Cond.instanceMethod ⟨"Wordgarden", "alike", "(I)I"⟩ ∈ gaW := gaW_t2 (List.mem_of_getElem? (i := 73) rfl) rfl
theorem ww_2_74 : Cond.selects "Wordgarden" ⟨"Wordgarden", "alike", "(I)I"⟩ ⟨"Wordgarden", "alike", "(I)I"⟩ ∈ gaW := gaW_t2 (List.mem_of_getElem? (i := 74) rfl) rfl
theorem ww_2_75 : Cond.code ⟨"Wordgarden", "alike", "(I)I"⟩ prog_1_method_44_code 3 (some .int) ∈ gaW := gaW_t2 (List.mem_of_getElem? (i := 75) rfl) rfl
theorem ww_2_76 : Cond.methodLink "Wordgarden" 245 ⟨"Wordgarden$Reading", "firstUnlikeJoined", "(LWordgarden$Word;LWordgarden$Word;)I"⟩ ∈ gaW := gaW_t2 (List.mem_of_getElem? (i := 76) rfl) rfl
theorem ww_2_77 : Cond.static ⟨"Wordgarden$Reading", "firstUnlikeJoined", "(LWordgarden$Word;LWordgarden$Word;)I"⟩ ∈ gaW := gaW_t2 (List.mem_of_getElem? (i := 77) rfl) rfl
theorem ww_2_78 : Cond.code ⟨"Wordgarden$Reading", "firstUnlikeJoined", "(LWordgarden$Word;LWordgarden$Word;)I"⟩ prog_3_method_21_code 3 (some .int) ∈ gaW := gaW_t2 (List.mem_of_getElem? (i := 78) rfl) rfl
theorem ww_2_79 : Cond.methodLink "Wordgarden$Reading" 76 ⟨"Wordgarden$Reading", "isUpJoined", "(LWordgarden$Word;LWordgarden$Word;I)Z"⟩ ∈ gaW := gaW_t2 (List.mem_of_getElem? (i := 79) rfl) rfl
theorem ww_2_80 : Cond.static ⟨"Wordgarden$Reading", "isUpJoined", "(LWordgarden$Word;LWordgarden$Word;I)Z"⟩ ∈ gaW := gaW_t2 (List.mem_of_getElem? (i := 80) rfl) rfl
theorem ww_2_81 : Cond.code ⟨"Wordgarden$Reading", "isUpJoined", "(LWordgarden$Word;LWordgarden$Word;I)Z"⟩ prog_3_method_22_code 3 (some .boolean) ∈ gaW := gaW_t2 (List.mem_of_getElem? (i := 81) rfl) rfl
theorem ww_2_82 : Cond.methodLink "WordgardenLaw" 331 ⟨"Wordgarden", "digest", "()J"⟩ ∈ gaW := gaW_t2 (List.mem_of_getElem? (i := 82) rfl) rfl
theorem ww_2_83 : Cond.instanceMethod ⟨"Wordgarden", "digest", "()J"⟩ ∈ gaW := gaW_t2 (List.mem_of_getElem? (i := 83) rfl) rfl
theorem ww_2_84 : Cond.selects "Wordgarden" ⟨"Wordgarden", "digest", "()J"⟩ ⟨"Wordgarden", "digest", "()J"⟩ ∈ gaW := gaW_t2 (List.mem_of_getElem? (i := 84) rfl) rfl
theorem ww_2_85 : Cond.code ⟨"Wordgarden", "digest", "()J"⟩ prog_1_method_48_code 4 (some .long) ∈ gaW := gaW_t2 (List.mem_of_getElem? (i := 85) rfl) rfl
theorem ww_2_86 : Cond.constantLong "Wordgarden" 266 (7979 : Int64) ∈ gaW := gaW_t2 (List.mem_of_getElem? (i := 86) rfl) rfl
theorem ww_2_87 : Cond.methodLink "Wordgarden" 268 ⟨"Wordgarden", "digestSheet", "(JI)J"⟩ ∈ gaW := gaW_t2 (List.mem_of_getElem? (i := 87) rfl) rfl
theorem ww_2_89 : Cond.instanceMethod ⟨"Wordgarden", "digestSheet", "(JI)J"⟩ ∈ gaW := gaW_t2 (List.mem_of_getElem? (i := 89) rfl) rfl
theorem ww_2_90 : Cond.code ⟨"Wordgarden", "digestSheet", "(JI)J"⟩ prog_1_method_66_code 8 (some .long) ∈ gaW := gaW_t2 (List.mem_of_getElem? (i := 90) rfl) rfl
theorem ww_2_91 : Cond.methodLink "Wordgarden" 278 ⟨"Wordgarden", "digestWith", "(JJ)J"⟩ ∈ gaW := gaW_t2 (List.mem_of_getElem? (i := 91) rfl) rfl
theorem ww_2_92 : Cond.static ⟨"Wordgarden", "digestWith", "(JJ)J"⟩ ∈ gaW := gaW_t2 (List.mem_of_getElem? (i := 92) rfl) rfl
theorem ww_2_93 : Cond.code ⟨"Wordgarden", "digestWith", "(JJ)J"⟩ prog_1_method_65_code 4 (some .long) ∈ gaW := gaW_t2 (List.mem_of_getElem? (i := 93) rfl) rfl
theorem ww_2_94 : Cond.constantLong "Wordgarden" 321 (31 : Int64) ∈ gaW := gaW_t2 (List.mem_of_getElem? (i := 94) rfl) rfl
theorem ww_2_95 : Cond.methodLink "Wordgarden" 71 ⟨"Wordgarden$Word", "isUp", "(I)Z"⟩ ∈ gaW := gaW_t2 (List.mem_of_getElem? (i := 95) rfl) rfl
theorem ww_2_96 : Cond.constantLong "Wordgarden" 323 (2 : Int64) ∈ gaW := gaW_t2 (List.mem_of_getElem? (i := 96) rfl) rfl
theorem ww_2_97 : Cond.methodLink "Wordgarden" 325 ⟨"Wordgarden", "isMirrored", "(I)Z"⟩ ∈ gaW := gaW_t2 (List.mem_of_getElem? (i := 97) rfl) rfl
theorem ww_2_98 : Cond.instanceMethod ⟨"Wordgarden", "isMirrored", "(I)Z"⟩ ∈ gaW := gaW_t2 (List.mem_of_getElem? (i := 98) rfl) rfl
theorem ww_2_99 : Cond.selects "Wordgarden" ⟨"Wordgarden", "isMirrored", "(I)Z"⟩ ⟨"Wordgarden", "isMirrored", "(I)Z"⟩ ∈ gaW := gaW_t2 (List.mem_of_getElem? (i := 99) rfl) rfl
theorem ww_2_100 : Cond.code ⟨"Wordgarden", "isMirrored", "(I)Z"⟩ prog_1_method_30_code 3 (some .boolean) ∈ gaW := gaW_t2 (List.mem_of_getElem? (i := 100) rfl) rfl
theorem ww_2_101 : Cond.methodLink "Wordgarden" 198 ⟨"Wordgarden$Reading", "isMirroredPart", "(LWordgarden$Word;II)Z"⟩ ∈ gaW := gaW_t2 (List.mem_of_getElem? (i := 101) rfl) rfl
theorem ww_2_102 : Cond.static ⟨"Wordgarden$Reading", "isMirroredPart", "(LWordgarden$Word;II)Z"⟩ ∈ gaW := gaW_t2 (List.mem_of_getElem? (i := 102) rfl) rfl
theorem ww_2_103 : Cond.code ⟨"Wordgarden$Reading", "isMirroredPart", "(LWordgarden$Word;II)Z"⟩ prog_3_method_9_code 4 (some .boolean) ∈ gaW := gaW_t2 (List.mem_of_getElem? (i := 103) rfl) rfl
theorem ww_2_104 : Cond.methodLink "Wordgarden" 79 ⟨"Wordgarden", "oneIf", "(Z)I"⟩ ∈ gaW := gaW_t2 (List.mem_of_getElem? (i := 104) rfl) rfl
theorem ww_2_105 : Cond.static ⟨"Wordgarden", "oneIf", "(Z)I"⟩ ∈ gaW := gaW_t2 (List.mem_of_getElem? (i := 105) rfl) rfl
theorem ww_2_106 : Cond.code ⟨"Wordgarden", "oneIf", "(Z)I"⟩ prog_1_method_54_code 1 (some .int) ∈ gaW := gaW_t2 (List.mem_of_getElem? (i := 106) rfl) rfl
theorem ww_2_107 : Cond.methodLink "Wordgarden" 328 ⟨"Wordgarden", "times", "(I)I"⟩ ∈ gaW := gaW_t2 (List.mem_of_getElem? (i := 107) rfl) rfl
theorem ww_2_108 : Cond.instanceMethod ⟨"Wordgarden", "times", "(I)I"⟩ ∈ gaW := gaW_t2 (List.mem_of_getElem? (i := 108) rfl) rfl
theorem ww_2_109 : Cond.selects "Wordgarden" ⟨"Wordgarden", "times", "(I)I"⟩ ⟨"Wordgarden", "times", "(I)I"⟩ ∈ gaW := gaW_t2 (List.mem_of_getElem? (i := 109) rfl) rfl
theorem ww_2_110 : Cond.code ⟨"Wordgarden", "times", "(I)I"⟩ prog_1_method_33_code 2 (some .int) ∈ gaW := gaW_t2 (List.mem_of_getElem? (i := 110) rfl) rfl
theorem ww_2_111 : Cond.methodLink "Wordgarden" 209 ⟨"Wordgarden$Reading", "timesOf", "(LWordgarden$Word;)I"⟩ ∈ gaW := gaW_t2 (List.mem_of_getElem? (i := 111) rfl) rfl
theorem ww_2_112 : Cond.static ⟨"Wordgarden$Reading", "timesOf", "(LWordgarden$Word;)I"⟩ ∈ gaW := gaW_t2 (List.mem_of_getElem? (i := 112) rfl) rfl
theorem ww_2_113 : Cond.code ⟨"Wordgarden$Reading", "timesOf", "(LWordgarden$Word;)I"⟩ prog_3_method_14_code 3 (some .int) ∈ gaW := gaW_t2 (List.mem_of_getElem? (i := 113) rfl) rfl
theorem ww_2_114 : Cond.methodLink "Wordgarden$Reading" 66 ⟨"Wordgarden$Reading", "timesWith", "(LWordgarden$Word;I)I"⟩ ∈ gaW := gaW_t2 (List.mem_of_getElem? (i := 114) rfl) rfl
theorem ww_2_115 : Cond.static ⟨"Wordgarden$Reading", "timesWith", "(LWordgarden$Word;I)I"⟩ ∈ gaW := gaW_t2 (List.mem_of_getElem? (i := 115) rfl) rfl
theorem ww_2_116 : Cond.code ⟨"Wordgarden$Reading", "timesWith", "(LWordgarden$Word;I)I"⟩ prog_3_method_15_code 5 (some .int) ∈ gaW := gaW_t2 (List.mem_of_getElem? (i := 116) rfl) rfl
theorem ww_2_117 : Cond.methodLink "Wordgarden$Reading" 47 ⟨"java/lang/Math", "max", "(II)I"⟩ ∈ gaW := gaW_t2 (List.mem_of_getElem? (i := 117) rfl) rfl
theorem ww_2_118 : Cond.static ⟨"java/lang/Math", "max", "(II)I"⟩ ∈ gaW := gaW_t2 (List.mem_of_getElem? (i := 118) rfl) rfl
theorem ww_2_119 : Cond.code ⟨"java/lang/Math", "max", "(II)I"⟩ prog_17_method_65_code 2 (some .int) ∈ gaW := gaW_t2 (List.mem_of_getElem? (i := 119) rfl) rfl
theorem ww_2_120 : Cond.methodLink "Wordgarden" 331 ⟨"Wordgarden", "overlaps", "(I)I"⟩ ∈ gaW := gaW_t2 (List.mem_of_getElem? (i := 120) rfl) rfl
theorem ww_2_121 : Cond.instanceMethod ⟨"Wordgarden", "overlaps", "(I)I"⟩ ∈ gaW := gaW_t2 (List.mem_of_getElem? (i := 121) rfl) rfl
theorem ww_2_122 : Cond.selects "Wordgarden" ⟨"Wordgarden", "overlaps", "(I)I"⟩ ⟨"Wordgarden", "overlaps", "(I)I"⟩ ∈ gaW := gaW_t2 (List.mem_of_getElem? (i := 122) rfl) rfl
theorem ww_2_123 : Cond.code ⟨"Wordgarden", "overlaps", "(I)I"⟩ prog_1_method_34_code 2 (some .int) ∈ gaW := gaW_t2 (List.mem_of_getElem? (i := 123) rfl) rfl
theorem ww_2_124 : Cond.methodLink "Wordgarden" 212 ⟨"Wordgarden$Reading", "overlapsOf", "(LWordgarden$Word;)I"⟩ ∈ gaW := gaW_t2 (List.mem_of_getElem? (i := 124) rfl) rfl
theorem ww_2_125 : Cond.static ⟨"Wordgarden$Reading", "overlapsOf", "(LWordgarden$Word;)I"⟩ ∈ gaW := gaW_t2 (List.mem_of_getElem? (i := 125) rfl) rfl
theorem ww_2_126 : Cond.code ⟨"Wordgarden$Reading", "overlapsOf", "(LWordgarden$Word;)I"⟩ prog_3_method_16_code 4 (some .int) ∈ gaW := gaW_t2 (List.mem_of_getElem? (i := 126) rfl) rfl
theorem ww_2_127 : Cond.methodLink "Wordgarden$Reading" 70 ⟨"Wordgarden$Reading", "isOverlap", "(LWordgarden$Word;II)Z"⟩ ∈ gaW := gaW_t2 (List.mem_of_getElem? (i := 127) rfl) rfl
theorem ww_2_128 : Cond.static ⟨"Wordgarden$Reading", "isOverlap", "(LWordgarden$Word;II)Z"⟩ ∈ gaW := gaW_t2 (List.mem_of_getElem? (i := 128) rfl) rfl
theorem ww_2_129 : Cond.code ⟨"Wordgarden$Reading", "isOverlap", "(LWordgarden$Word;II)Z"⟩ prog_3_method_17_code 4 (some .boolean) ∈ gaW := gaW_t2 (List.mem_of_getElem? (i := 129) rfl) rfl
theorem ww_2_130 : Cond.methodLink "Wordgarden" 334 ⟨"Wordgarden", "folds", "(I)I"⟩ ∈ gaW := gaW_t2 (List.mem_of_getElem? (i := 130) rfl) rfl
theorem ww_2_131 : Cond.instanceMethod ⟨"Wordgarden", "folds", "(I)I"⟩ ∈ gaW := gaW_t2 (List.mem_of_getElem? (i := 131) rfl) rfl
theorem ww_2_132 : Cond.selects "Wordgarden" ⟨"Wordgarden", "folds", "(I)I"⟩ ⟨"Wordgarden", "folds", "(I)I"⟩ ∈ gaW := gaW_t2 (List.mem_of_getElem? (i := 132) rfl) rfl
theorem ww_2_133 : Cond.code ⟨"Wordgarden", "folds", "(I)I"⟩ prog_1_method_36_code 2 (some .int) ∈ gaW := gaW_t2 (List.mem_of_getElem? (i := 133) rfl) rfl
theorem ww_2_134 : Cond.methodLink "Wordgarden" 218 ⟨"Wordgarden$Reading", "foldsOf", "(LWordgarden$Word;)I"⟩ ∈ gaW := gaW_t2 (List.mem_of_getElem? (i := 134) rfl) rfl
theorem ww_2_135 : Cond.static ⟨"Wordgarden$Reading", "foldsOf", "(LWordgarden$Word;)I"⟩ ∈ gaW := gaW_t2 (List.mem_of_getElem? (i := 135) rfl) rfl
theorem ww_2_136 : Cond.code ⟨"Wordgarden$Reading", "foldsOf", "(LWordgarden$Word;)I"⟩ prog_3_method_19_code 3 (some .int) ∈ gaW := gaW_t2 (List.mem_of_getElem? (i := 136) rfl) rfl
theorem ww_2_137 : Cond.methodLink "Wordgarden$Reading" 73 ⟨"Wordgarden$Reading", "isMirroredPart", "(LWordgarden$Word;II)Z"⟩ ∈ gaW := gaW_t2 (List.mem_of_getElem? (i := 137) rfl) rfl
theorem ww_2_138 : Cond.methodLink "Wordgarden" 337 ⟨"Wordgarden", "least", "(I)I"⟩ ∈ gaW := gaW_t2 (List.mem_of_getElem? (i := 138) rfl) rfl
theorem ww_2_139 : Cond.instanceMethod ⟨"Wordgarden", "least", "(I)I"⟩ ∈ gaW := gaW_t2 (List.mem_of_getElem? (i := 139) rfl) rfl
theorem ww_2_140 : Cond.selects "Wordgarden" ⟨"Wordgarden", "least", "(I)I"⟩ ⟨"Wordgarden", "least", "(I)I"⟩ ∈ gaW := gaW_t2 (List.mem_of_getElem? (i := 140) rfl) rfl
theorem ww_2_141 : Cond.code ⟨"Wordgarden", "least", "(I)I"⟩ prog_1_method_37_code 2 (some .int) ∈ gaW := gaW_t2 (List.mem_of_getElem? (i := 141) rfl) rfl
theorem ww_2_142 : Cond.methodLink "Wordgarden" 221 ⟨"Wordgarden$Reading", "leastOf", "(LWordgarden$Word;)I"⟩ ∈ gaW := gaW_t2 (List.mem_of_getElem? (i := 142) rfl) rfl
theorem ww_2_143 : Cond.static ⟨"Wordgarden$Reading", "leastOf", "(LWordgarden$Word;)I"⟩ ∈ gaW := gaW_t2 (List.mem_of_getElem? (i := 143) rfl) rfl
theorem ww_2_144 : Cond.code ⟨"Wordgarden$Reading", "leastOf", "(LWordgarden$Word;)I"⟩ prog_3_method_20_code 3 (some .int) ∈ gaW := gaW_t2 (List.mem_of_getElem? (i := 144) rfl) rfl
theorem ww_2_145 : Cond.methodLink "Wordgarden$Reading" 58 ⟨"Wordgarden$Reading", "ringOrder", "(LWordgarden$Word;III)I"⟩ ∈ gaW := gaW_t2 (List.mem_of_getElem? (i := 145) rfl) rfl
theorem ww_2_146 : Cond.static ⟨"Wordgarden$Reading", "ringOrder", "(LWordgarden$Word;III)I"⟩ ∈ gaW := gaW_t2 (List.mem_of_getElem? (i := 146) rfl) rfl
theorem ww_2_147 : Cond.code ⟨"Wordgarden$Reading", "ringOrder", "(LWordgarden$Word;III)I"⟩ prog_3_method_8_code 6 (some .int) ∈ gaW := gaW_t2 (List.mem_of_getElem? (i := 147) rfl) rfl
theorem ww_2_148 : Cond.methodLink "Wordgarden$Reading" 30 ⟨"Wordgarden$Reading", "isUpOnRing", "(LWordgarden$Word;I)Z"⟩ ∈ gaW := gaW_t2 (List.mem_of_getElem? (i := 148) rfl) rfl
theorem ww_2_149 : Cond.static ⟨"Wordgarden$Reading", "isUpOnRing", "(LWordgarden$Word;I)Z"⟩ ∈ gaW := gaW_t2 (List.mem_of_getElem? (i := 149) rfl) rfl
theorem ww_2_150 : Cond.code ⟨"Wordgarden$Reading", "isUpOnRing", "(LWordgarden$Word;I)Z"⟩ prog_3_method_3_code 2 (some .boolean) ∈ gaW := gaW_t2 (List.mem_of_getElem? (i := 150) rfl) rfl
theorem ww_2_151 : Cond.methodLink "Wordgarden" 272 ⟨"Wordgarden", "digestGrowth", "(JI)J"⟩ ∈ gaW := gaW_t2 (List.mem_of_getElem? (i := 151) rfl) rfl
theorem ww_2_153 : Cond.instanceMethod ⟨"Wordgarden", "digestGrowth", "(JI)J"⟩ ∈ gaW := gaW_t2 (List.mem_of_getElem? (i := 153) rfl) rfl
theorem ww_2_154 : Cond.code ⟨"Wordgarden", "digestGrowth", "(JI)J"⟩ prog_1_method_67_code 8 (some .long) ∈ gaW := gaW_t2 (List.mem_of_getElem? (i := 154) rfl) rfl
theorem ww_2_155 : Cond.methodLink "Wordgarden" 227 ⟨"Wordgarden$Growth", "turnAt", "(I)I"⟩ ∈ gaW := gaW_t2 (List.mem_of_getElem? (i := 155) rfl) rfl
theorem ww_2_156 : Cond.methodLink "Wordgarden" 340 ⟨"Wordgarden", "size", "(IZ)I"⟩ ∈ gaW := gaW_t2 (List.mem_of_getElem? (i := 156) rfl) rfl
theorem ww_2_157 : Cond.instanceMethod ⟨"Wordgarden", "size", "(IZ)I"⟩ ∈ gaW := gaW_t2 (List.mem_of_getElem? (i := 157) rfl) rfl
theorem ww_2_158 : Cond.selects "Wordgarden" ⟨"Wordgarden", "size", "(IZ)I"⟩ ⟨"Wordgarden", "size", "(IZ)I"⟩ ∈ gaW := gaW_t2 (List.mem_of_getElem? (i := 158) rfl) rfl
theorem ww_2_159 : Cond.code ⟨"Wordgarden", "size", "(IZ)I"⟩ prog_1_method_41_code 3 (some .int) ∈ gaW := gaW_t2 (List.mem_of_getElem? (i := 159) rfl) rfl
theorem ww_2_160 : Cond.methodLink "Wordgarden" 238 ⟨"Wordgarden$Growth", "wordBy", "(Z)LWordgarden$Word;"⟩ ∈ gaW := gaW_t2 (List.mem_of_getElem? (i := 160) rfl) rfl
theorem ww_2_161 : Cond.instanceMethod ⟨"Wordgarden$Growth", "wordBy", "(Z)LWordgarden$Word;"⟩ ∈ gaW := gaW_t2 (List.mem_of_getElem? (i := 161) rfl) rfl
theorem ww_2_162 : Cond.selects "Wordgarden$Growth" ⟨"Wordgarden$Growth", "wordBy", "(Z)LWordgarden$Word;"⟩ ⟨"Wordgarden$Growth", "wordBy", "(Z)LWordgarden$Word;"⟩ ∈ gaW := gaW_t2 (List.mem_of_getElem? (i := 162) rfl) rfl
theorem ww_2_163 : Cond.code ⟨"Wordgarden$Growth", "wordBy", "(Z)LWordgarden$Word;"⟩ prog_2_method_3_code 2 (some (.object "Wordgarden$Word")) ∈ gaW := gaW_t2 (List.mem_of_getElem? (i := 163) rfl) rfl
theorem ww_2_164 : Cond.methodLink "Wordgarden" 343 ⟨"Wordgarden", "ups", "(IZ)I"⟩ ∈ gaW := gaW_t2 (List.mem_of_getElem? (i := 164) rfl) rfl
theorem ww_2_165 : Cond.instanceMethod ⟨"Wordgarden", "ups", "(IZ)I"⟩ ∈ gaW := gaW_t2 (List.mem_of_getElem? (i := 165) rfl) rfl
theorem ww_2_166 : Cond.selects "Wordgarden" ⟨"Wordgarden", "ups", "(IZ)I"⟩ ⟨"Wordgarden", "ups", "(IZ)I"⟩ ∈ gaW := gaW_t2 (List.mem_of_getElem? (i := 166) rfl) rfl
theorem ww_2_167 : Cond.code ⟨"Wordgarden", "ups", "(IZ)I"⟩ prog_1_method_42_code 3 (some .int) ∈ gaW := gaW_t2 (List.mem_of_getElem? (i := 167) rfl) rfl
theorem ww_2_168 : Cond.methodLink "Wordgarden" 275 ⟨"Wordgarden", "house", "(I)I"⟩ ∈ gaW := gaW_t2 (List.mem_of_getElem? (i := 168) rfl) rfl
theorem ww_2_169 : Cond.instanceMethod ⟨"Wordgarden", "house", "(I)I"⟩ ∈ gaW := gaW_t2 (List.mem_of_getElem? (i := 169) rfl) rfl
theorem ww_2_170 : Cond.selects "Wordgarden" ⟨"Wordgarden", "house", "(I)I"⟩ ⟨"Wordgarden", "house", "(I)I"⟩ ∈ gaW := gaW_t2 (List.mem_of_getElem? (i := 170) rfl) rfl
theorem ww_2_171 : Cond.code ⟨"Wordgarden", "house", "(I)I"⟩ prog_1_method_45_code 2 (some .int) ∈ gaW := gaW_t2 (List.mem_of_getElem? (i := 171) rfl) rfl
theorem ww_2_172 : Cond.methodLink "Wordgarden" 42 ⟨"Wordgarden", "needArgument", "(Z)V"⟩ ∈ gaW := gaW_t2 (List.mem_of_getElem? (i := 172) rfl) rfl
theorem ww_2_173 : Cond.static ⟨"Wordgarden", "needArgument", "(Z)V"⟩ ∈ gaW := gaW_t2 (List.mem_of_getElem? (i := 173) rfl) rfl
theorem ww_2_174 : Cond.code ⟨"Wordgarden", "needArgument", "(Z)V"⟩ prog_1_method_52_code 1 (none : Option Jvm.ClassFile.FieldType) ∈ gaW := gaW_t2 (List.mem_of_getElem? (i := 174) rfl) rfl
theorem ww_2_175 : Cond.classLink "Wordgarden" 296 "java/lang/IllegalArgumentException" ∈ gaW := gaW_t2 (List.mem_of_getElem? (i := 175) rfl) rfl
theorem ww_2_191 : Cond.methodLink "Wordgarden" 282 ⟨"Wordgarden", "isSound", "()Z"⟩ ∈ gaW := gaW_t2 (List.mem_of_getElem? (i := 191) rfl) rfl
theorem ww_2_192 : Cond.classLink "WordgardenLaw" 14 "WordgardenLaw$Out" ∈ gaW := gaW_t2 (List.mem_of_getElem? (i := 192) rfl) rfl
theorem ww_2_193 : Cond.instantiable "WordgardenLaw$Out" 2 ∈ gaW := gaW_t2 (List.mem_of_getElem? (i := 193) rfl) rfl
theorem ww_2_195 : Cond.instanceMethod ⟨"WordgardenLaw$Out", "<init>", "()V"⟩ ∈ gaW := gaW_t2 (List.mem_of_getElem? (i := 195) rfl) rfl
theorem ww_2_196 : Cond.code ⟨"WordgardenLaw$Out", "<init>", "()V"⟩ prog_8_method_1_code 1 (none : Option Jvm.ClassFile.FieldType) ∈ gaW := gaW_t2 (List.mem_of_getElem? (i := 196) rfl) rfl
theorem ww_2_197 : Cond.methodLink "WordgardenLaw$Out" 1 ⟨"java/lang/Object", "<init>", "()V"⟩ ∈ gaW := gaW_t2 (List.mem_of_getElem? (i := 197) rfl) rfl
theorem ww_2_200 : Cond.lays "WordgardenLaw$Out" "WordgardenLaw$Out" "n" "J" ∈ gaW := gaW_t2 (List.mem_of_getElem? (i := 200) rfl) rfl
theorem ww_2_202 : Cond.lays "WordgardenLaw$Out" "WordgardenLaw$Out" "s" "Ljava/lang/String;" ∈ gaW := gaW_t2 (List.mem_of_getElem? (i := 202) rfl) rfl
theorem ww_2_205 : Cond.methodLink "WordgardenLaw" 172 ⟨"WordgardenLaw", "write", "(LWordgarden;IILWordgardenLaw$Out;)I"⟩ ∈ gaW := gaW_t2 (List.mem_of_getElem? (i := 205) rfl) rfl
theorem ww_2_206 : Cond.static ⟨"WordgardenLaw", "write", "(LWordgarden;IILWordgardenLaw$Out;)I"⟩ ∈ gaW := gaW_t2 (List.mem_of_getElem? (i := 206) rfl) rfl
theorem ww_2_207 : Cond.codeWith ⟨"WordgardenLaw", "write", "(LWordgarden;IILWordgardenLaw$Out;)I"⟩ method_2_code 5 (some .int) [(0, 11, 14, 19), (0, 11, 18, 21)] ∈ gaW := gaW_t2 (List.mem_of_getElem? (i := 207) rfl) rfl
theorem ww_2_208 : Cond.classLink "WordgardenLaw" 19 "java/lang/IndexOutOfBoundsException" ∈ gaW := gaW_t2 (List.mem_of_getElem? (i := 208) rfl) rfl
theorem ww_2_209 : Cond.classLink "WordgardenLaw" 21 "java/lang/IllegalArgumentException" ∈ gaW := gaW_t2 (List.mem_of_getElem? (i := 209) rfl) rfl
theorem ww_2_210 : Cond.methodLink "WordgardenLaw" 7 ⟨"Wordgarden", "write", "(II)I"⟩ ∈ gaW := gaW_t2 (List.mem_of_getElem? (i := 210) rfl) rfl
theorem ww_2_211 : Cond.instanceMethod ⟨"Wordgarden", "write", "(II)I"⟩ ∈ gaW := gaW_t2 (List.mem_of_getElem? (i := 211) rfl) rfl
theorem ww_2_212 : Cond.selects "Wordgarden" ⟨"Wordgarden", "write", "(II)I"⟩ ⟨"Wordgarden", "write", "(II)I"⟩ ∈ gaW := gaW_t2 (List.mem_of_getElem? (i := 212) rfl) rfl
theorem ww_2_213 : Cond.code ⟨"Wordgarden", "write", "(II)I"⟩ prog_1_method_2_code 4 (some .int) ∈ gaW := gaW_t2 (List.mem_of_getElem? (i := 213) rfl) rfl
theorem ww_2_214 : Cond.constant "Wordgarden" 41 (65535) ∈ gaW := gaW_t2 (List.mem_of_getElem? (i := 214) rfl) rfl
theorem ww_2_215 : Cond.methodLink "Wordgarden" 46 ⟨"Wordgarden$Word", "takeCode", "(I)V"⟩ ∈ gaW := gaW_t2 (List.mem_of_getElem? (i := 215) rfl) rfl
theorem ww_2_216 : Cond.methodLink "Wordgarden" 54 ⟨"Wordgarden", "sheetActDone", "(I)I"⟩ ∈ gaW := gaW_t2 (List.mem_of_getElem? (i := 216) rfl) rfl
theorem ww_2_218 : Cond.instanceMethod ⟨"Wordgarden", "sheetActDone", "(I)I"⟩ ∈ gaW := gaW_t2 (List.mem_of_getElem? (i := 218) rfl) rfl
theorem ww_2_219 : Cond.code ⟨"Wordgarden", "sheetActDone", "(I)I"⟩ prog_1_method_55_code 2 (some .int) ∈ gaW := gaW_t2 (List.mem_of_getElem? (i := 219) rfl) rfl
theorem ww_2_220 : Cond.methodLink "WordgardenLaw" 182 ⟨"WordgardenLaw", "append", "(LWordgarden;IILWordgardenLaw$Out;)I"⟩ ∈ gaW := gaW_t2 (List.mem_of_getElem? (i := 220) rfl) rfl
theorem ww_2_221 : Cond.static ⟨"WordgardenLaw", "append", "(LWordgarden;IILWordgardenLaw$Out;)I"⟩ ∈ gaW := gaW_t2 (List.mem_of_getElem? (i := 221) rfl) rfl
theorem ww_2_222 : Cond.codeWith ⟨"WordgardenLaw", "append", "(LWordgarden;IILWordgardenLaw$Out;)I"⟩ method_3_code 5 (some .int) [(0, 11, 14, 19)] ∈ gaW := gaW_t2 (List.mem_of_getElem? (i := 222) rfl) rfl
theorem ww_2_223 : Cond.methodLink "WordgardenLaw" 23 ⟨"Wordgarden", "append", "(II)I"⟩ ∈ gaW := gaW_t2 (List.mem_of_getElem? (i := 223) rfl) rfl
theorem ww_2_224 : Cond.instanceMethod ⟨"Wordgarden", "append", "(II)I"⟩ ∈ gaW := gaW_t2 (List.mem_of_getElem? (i := 224) rfl) rfl
theorem ww_2_225 : Cond.selects "Wordgarden" ⟨"Wordgarden", "append", "(II)I"⟩ ⟨"Wordgarden", "append", "(II)I"⟩ ∈ gaW := gaW_t2 (List.mem_of_getElem? (i := 225) rfl) rfl
theorem ww_2_226 : Cond.code ⟨"Wordgarden", "append", "(II)I"⟩ prog_1_method_3_code 4 (some .int) ∈ gaW := gaW_t2 (List.mem_of_getElem? (i := 226) rfl) rfl
theorem ww_2_227 : Cond.methodLink "Wordgarden" 58 ⟨"Wordgarden", "exchangePart", "(LWordgarden$Word;IILWordgarden$Word;)I"⟩ ∈ gaW := gaW_t2 (List.mem_of_getElem? (i := 227) rfl) rfl
theorem ww_2_229 : Cond.instanceMethod ⟨"Wordgarden", "exchangePart", "(LWordgarden$Word;IILWordgarden$Word;)I"⟩ ∈ gaW := gaW_t2 (List.mem_of_getElem? (i := 229) rfl) rfl
theorem ww_2_230 : Cond.code ⟨"Wordgarden", "exchangePart", "(LWordgarden$Word;IILWordgarden$Word;)I"⟩ prog_1_method_58_code 5 (some .int) ∈ gaW := gaW_t2 (List.mem_of_getElem? (i := 230) rfl) rfl
theorem ww_2_231 : Cond.methodLink "Wordgarden" 121 ⟨"Wordgarden", "refuse", "()I"⟩ ∈ gaW := gaW_t2 (List.mem_of_getElem? (i := 231) rfl) rfl
theorem ww_2_233 : Cond.instanceMethod ⟨"Wordgarden", "refuse", "()I"⟩ ∈ gaW := gaW_t2 (List.mem_of_getElem? (i := 233) rfl) rfl
theorem ww_2_234 : Cond.code ⟨"Wordgarden", "refuse", "()I"⟩ prog_1_method_57_code 1 (some .int) ∈ gaW := gaW_t2 (List.mem_of_getElem? (i := 234) rfl) rfl
theorem ww_2_235 : Cond.methodLink "Wordgarden" 65 ⟨"Wordgarden$Word", "clear", "()V"⟩ ∈ gaW := gaW_t2 (List.mem_of_getElem? (i := 235) rfl) rfl
theorem ww_2_236 : Cond.methodLink "Wordgarden" 93 ⟨"Wordgarden$Word", "addPart", "(LWordgarden$Word;II)V"⟩ ∈ gaW := gaW_t2 (List.mem_of_getElem? (i := 236) rfl) rfl
theorem ww_2_237 : Cond.methodLink "Wordgarden" 97 ⟨"Wordgarden$Word", "take", "(LWordgarden$Word;)V"⟩ ∈ gaW := gaW_t2 (List.mem_of_getElem? (i := 237) rfl) rfl
theorem ww_2_238 : Cond.methodLink "WordgardenLaw" 185 ⟨"WordgardenLaw", "insertSign", "(LWordgarden;IIZLWordgardenLaw$Out;)I"⟩ ∈ gaW := gaW_t2 (List.mem_of_getElem? (i := 238) rfl) rfl
theorem ww_2_239 : Cond.static ⟨"WordgardenLaw", "insertSign", "(LWordgarden;IIZLWordgardenLaw$Out;)I"⟩ ∈ gaW := gaW_t2 (List.mem_of_getElem? (i := 239) rfl) rfl
theorem ww_3_0 : Cond.codeWith ⟨"WordgardenLaw", "insertSign", "(LWordgarden;IIZLWordgardenLaw$Out;)I"⟩ method_4_code 6 (some .int) [(0, 13, 16, 19)] ∈ gaW := gaW_t3 (List.mem_of_getElem? (i := 0) rfl) rfl
theorem ww_3_1 : Cond.methodLink "WordgardenLaw" 26 ⟨"Wordgarden", "insertSign", "(IIZ)I"⟩ ∈ gaW := gaW_t3 (List.mem_of_getElem? (i := 1) rfl) rfl
theorem ww_3_2 : Cond.instanceMethod ⟨"Wordgarden", "insertSign", "(IIZ)I"⟩ ∈ gaW := gaW_t3 (List.mem_of_getElem? (i := 2) rfl) rfl
theorem ww_3_3 : Cond.selects "Wordgarden" ⟨"Wordgarden", "insertSign", "(IIZ)I"⟩ ⟨"Wordgarden", "insertSign", "(IIZ)I"⟩ ∈ gaW := gaW_t3 (List.mem_of_getElem? (i := 3) rfl) rfl
theorem ww_3_4 : Cond.code ⟨"Wordgarden", "insertSign", "(IIZ)I"⟩ prog_1_method_4_code 5 (some .int) ∈ gaW := gaW_t3 (List.mem_of_getElem? (i := 4) rfl) rfl
theorem ww_3_5 : Cond.methodLink "Wordgarden" 62 ⟨"Wordgarden", "needIndex", "(Z)V"⟩ ∈ gaW := gaW_t3 (List.mem_of_getElem? (i := 5) rfl) rfl
theorem ww_3_6 : Cond.static ⟨"Wordgarden", "needIndex", "(Z)V"⟩ ∈ gaW := gaW_t3 (List.mem_of_getElem? (i := 6) rfl) rfl
theorem ww_3_7 : Cond.code ⟨"Wordgarden", "needIndex", "(Z)V"⟩ prog_1_method_51_code 1 (none : Option Jvm.ClassFile.FieldType) ∈ gaW := gaW_t3 (List.mem_of_getElem? (i := 7) rfl) rfl
theorem ww_3_9 : Cond.methodLink "Wordgarden" 68 ⟨"Wordgarden$Word", "add", "(Z)V"⟩ ∈ gaW := gaW_t3 (List.mem_of_getElem? (i := 9) rfl) rfl
theorem ww_3_10 : Cond.methodLink "WordgardenLaw" 189 ⟨"WordgardenLaw", "insertSheet", "(LWordgarden;IIILWordgardenLaw$Out;)I"⟩ ∈ gaW := gaW_t3 (List.mem_of_getElem? (i := 10) rfl) rfl
theorem ww_3_11 : Cond.static ⟨"WordgardenLaw", "insertSheet", "(LWordgarden;IIILWordgardenLaw$Out;)I"⟩ ∈ gaW := gaW_t3 (List.mem_of_getElem? (i := 11) rfl) rfl
theorem ww_3_12 : Cond.codeWith ⟨"WordgardenLaw", "insertSheet", "(LWordgarden;IIILWordgardenLaw$Out;)I"⟩ method_5_code 6 (some .int) [(0, 13, 16, 19)] ∈ gaW := gaW_t3 (List.mem_of_getElem? (i := 12) rfl) rfl
theorem ww_3_13 : Cond.methodLink "WordgardenLaw" 30 ⟨"Wordgarden", "insertSheet", "(III)I"⟩ ∈ gaW := gaW_t3 (List.mem_of_getElem? (i := 13) rfl) rfl
theorem ww_3_14 : Cond.instanceMethod ⟨"Wordgarden", "insertSheet", "(III)I"⟩ ∈ gaW := gaW_t3 (List.mem_of_getElem? (i := 14) rfl) rfl
theorem ww_3_15 : Cond.selects "Wordgarden" ⟨"Wordgarden", "insertSheet", "(III)I"⟩ ⟨"Wordgarden", "insertSheet", "(III)I"⟩ ∈ gaW := gaW_t3 (List.mem_of_getElem? (i := 15) rfl) rfl
theorem ww_3_16 : Cond.code ⟨"Wordgarden", "insertSheet", "(III)I"⟩ prog_1_method_5_code 6 (some .int) ∈ gaW := gaW_t3 (List.mem_of_getElem? (i := 16) rfl) rfl
theorem ww_3_17 : Cond.methodLink "WordgardenLaw" 193 ⟨"WordgardenLaw", "setSign", "(LWordgarden;IIZLWordgardenLaw$Out;)I"⟩ ∈ gaW := gaW_t3 (List.mem_of_getElem? (i := 17) rfl) rfl
theorem ww_3_18 : Cond.static ⟨"WordgardenLaw", "setSign", "(LWordgarden;IIZLWordgardenLaw$Out;)I"⟩ ∈ gaW := gaW_t3 (List.mem_of_getElem? (i := 18) rfl) rfl
theorem ww_3_19 : Cond.codeWith ⟨"WordgardenLaw", "setSign", "(LWordgarden;IIZLWordgardenLaw$Out;)I"⟩ method_6_code 6 (some .int) [(0, 13, 16, 19)] ∈ gaW := gaW_t3 (List.mem_of_getElem? (i := 19) rfl) rfl
theorem ww_3_20 : Cond.methodLink "WordgardenLaw" 34 ⟨"Wordgarden", "setSign", "(IIZ)I"⟩ ∈ gaW := gaW_t3 (List.mem_of_getElem? (i := 20) rfl) rfl
theorem ww_3_21 : Cond.instanceMethod ⟨"Wordgarden", "setSign", "(IIZ)I"⟩ ∈ gaW := gaW_t3 (List.mem_of_getElem? (i := 21) rfl) rfl
theorem ww_3_22 : Cond.selects "Wordgarden" ⟨"Wordgarden", "setSign", "(IIZ)I"⟩ ⟨"Wordgarden", "setSign", "(IIZ)I"⟩ ∈ gaW := gaW_t3 (List.mem_of_getElem? (i := 22) rfl) rfl
theorem ww_3_23 : Cond.code ⟨"Wordgarden", "setSign", "(IIZ)I"⟩ prog_1_method_6_code 6 (some .int) ∈ gaW := gaW_t3 (List.mem_of_getElem? (i := 23) rfl) rfl
theorem ww_3_24 : Cond.methodLink "Wordgarden" 75 ⟨"Wordgarden$Word", "put", "(IZ)V"⟩ ∈ gaW := gaW_t3 (List.mem_of_getElem? (i := 24) rfl) rfl
theorem ww_3_25 : Cond.methodLink "WordgardenLaw" 196 ⟨"WordgardenLaw", "removeSign", "(LWordgarden;IILWordgardenLaw$Out;)I"⟩ ∈ gaW := gaW_t3 (List.mem_of_getElem? (i := 25) rfl) rfl
theorem ww_3_26 : Cond.static ⟨"WordgardenLaw", "removeSign", "(LWordgarden;IILWordgardenLaw$Out;)I"⟩ ∈ gaW := gaW_t3 (List.mem_of_getElem? (i := 26) rfl) rfl
theorem ww_3_27 : Cond.codeWith ⟨"WordgardenLaw", "removeSign", "(LWordgarden;IILWordgardenLaw$Out;)I"⟩ method_7_code 5 (some .int) [(0, 11, 14, 19)] ∈ gaW := gaW_t3 (List.mem_of_getElem? (i := 27) rfl) rfl
theorem ww_3_28 : Cond.methodLink "WordgardenLaw" 37 ⟨"Wordgarden", "removeSign", "(II)I"⟩ ∈ gaW := gaW_t3 (List.mem_of_getElem? (i := 28) rfl) rfl
theorem ww_3_29 : Cond.instanceMethod ⟨"Wordgarden", "removeSign", "(II)I"⟩ ∈ gaW := gaW_t3 (List.mem_of_getElem? (i := 29) rfl) rfl
theorem ww_3_30 : Cond.selects "Wordgarden" ⟨"Wordgarden", "removeSign", "(II)I"⟩ ⟨"Wordgarden", "removeSign", "(II)I"⟩ ∈ gaW := gaW_t3 (List.mem_of_getElem? (i := 30) rfl) rfl
theorem ww_3_31 : Cond.code ⟨"Wordgarden", "removeSign", "(II)I"⟩ prog_1_method_7_code 4 (some .int) ∈ gaW := gaW_t3 (List.mem_of_getElem? (i := 31) rfl) rfl
theorem ww_3_32 : Cond.methodLink "Wordgarden" 83 ⟨"Wordgarden", "takeOut", "(LWordgarden$Word;II)I"⟩ ∈ gaW := gaW_t3 (List.mem_of_getElem? (i := 32) rfl) rfl
theorem ww_3_34 : Cond.instanceMethod ⟨"Wordgarden", "takeOut", "(LWordgarden$Word;II)I"⟩ ∈ gaW := gaW_t3 (List.mem_of_getElem? (i := 34) rfl) rfl
theorem ww_3_35 : Cond.code ⟨"Wordgarden", "takeOut", "(LWordgarden$Word;II)I"⟩ prog_1_method_59_code 5 (some .int) ∈ gaW := gaW_t3 (List.mem_of_getElem? (i := 35) rfl) rfl
theorem ww_3_36 : Cond.methodLink "Wordgarden" 306 ⟨"Wordgarden$Reading", "upsInPart", "(LWordgarden$Word;II)I"⟩ ∈ gaW := gaW_t3 (List.mem_of_getElem? (i := 36) rfl) rfl
theorem ww_3_37 : Cond.static ⟨"Wordgarden$Reading", "upsInPart", "(LWordgarden$Word;II)I"⟩ ∈ gaW := gaW_t3 (List.mem_of_getElem? (i := 37) rfl) rfl
theorem ww_3_38 : Cond.code ⟨"Wordgarden$Reading", "upsInPart", "(LWordgarden$Word;II)I"⟩ prog_3_method_4_code 5 (some .int) ∈ gaW := gaW_t3 (List.mem_of_getElem? (i := 38) rfl) rfl
theorem ww_3_39 : Cond.methodLink "WordgardenLaw" 199 ⟨"WordgardenLaw", "remove", "(LWordgarden;IIILWordgardenLaw$Out;)I"⟩ ∈ gaW := gaW_t3 (List.mem_of_getElem? (i := 39) rfl) rfl
theorem ww_3_40 : Cond.static ⟨"WordgardenLaw", "remove", "(LWordgarden;IIILWordgardenLaw$Out;)I"⟩ ∈ gaW := gaW_t3 (List.mem_of_getElem? (i := 40) rfl) rfl
theorem ww_3_41 : Cond.codeWith ⟨"WordgardenLaw", "remove", "(LWordgarden;IIILWordgardenLaw$Out;)I"⟩ method_8_code 6 (some .int) [(0, 13, 16, 19)] ∈ gaW := gaW_t3 (List.mem_of_getElem? (i := 41) rfl) rfl
theorem ww_3_42 : Cond.methodLink "WordgardenLaw" 40 ⟨"Wordgarden", "remove", "(III)I"⟩ ∈ gaW := gaW_t3 (List.mem_of_getElem? (i := 42) rfl) rfl
theorem ww_3_43 : Cond.instanceMethod ⟨"Wordgarden", "remove", "(III)I"⟩ ∈ gaW := gaW_t3 (List.mem_of_getElem? (i := 43) rfl) rfl
theorem ww_3_44 : Cond.selects "Wordgarden" ⟨"Wordgarden", "remove", "(III)I"⟩ ⟨"Wordgarden", "remove", "(III)I"⟩ ∈ gaW := gaW_t3 (List.mem_of_getElem? (i := 44) rfl) rfl
theorem ww_3_45 : Cond.code ⟨"Wordgarden", "remove", "(III)I"⟩ prog_1_method_8_code 5 (some .int) ∈ gaW := gaW_t3 (List.mem_of_getElem? (i := 45) rfl) rfl
theorem ww_3_46 : Cond.methodLink "WordgardenLaw" 202 ⟨"WordgardenLaw", "replace", "(LWordgarden;IIIILWordgardenLaw$Out;)I"⟩ ∈ gaW := gaW_t3 (List.mem_of_getElem? (i := 46) rfl) rfl
theorem ww_3_47 : Cond.static ⟨"WordgardenLaw", "replace", "(LWordgarden;IIIILWordgardenLaw$Out;)I"⟩ ∈ gaW := gaW_t3 (List.mem_of_getElem? (i := 47) rfl) rfl
theorem ww_3_48 : Cond.codeWith ⟨"WordgardenLaw", "replace", "(LWordgarden;IIIILWordgardenLaw$Out;)I"⟩ method_9_code 7 (some .int) [(0, 15, 18, 19)] ∈ gaW := gaW_t3 (List.mem_of_getElem? (i := 48) rfl) rfl
theorem ww_3_49 : Cond.methodLink "WordgardenLaw" 43 ⟨"Wordgarden", "replace", "(IIII)I"⟩ ∈ gaW := gaW_t3 (List.mem_of_getElem? (i := 49) rfl) rfl
theorem ww_3_50 : Cond.instanceMethod ⟨"Wordgarden", "replace", "(IIII)I"⟩ ∈ gaW := gaW_t3 (List.mem_of_getElem? (i := 50) rfl) rfl
theorem ww_3_51 : Cond.selects "Wordgarden" ⟨"Wordgarden", "replace", "(IIII)I"⟩ ⟨"Wordgarden", "replace", "(IIII)I"⟩ ∈ gaW := gaW_t3 (List.mem_of_getElem? (i := 51) rfl) rfl
theorem ww_3_52 : Cond.code ⟨"Wordgarden", "replace", "(IIII)I"⟩ prog_1_method_9_code 7 (some .int) ∈ gaW := gaW_t3 (List.mem_of_getElem? (i := 52) rfl) rfl
theorem ww_3_53 : Cond.methodLink "WordgardenLaw" 206 ⟨"WordgardenLaw", "cutTo", "(LWordgarden;IILWordgardenLaw$Out;)I"⟩ ∈ gaW := gaW_t3 (List.mem_of_getElem? (i := 53) rfl) rfl
theorem ww_3_54 : Cond.static ⟨"WordgardenLaw", "cutTo", "(LWordgarden;IILWordgardenLaw$Out;)I"⟩ ∈ gaW := gaW_t3 (List.mem_of_getElem? (i := 54) rfl) rfl
theorem ww_3_55 : Cond.codeWith ⟨"WordgardenLaw", "cutTo", "(LWordgarden;IILWordgardenLaw$Out;)I"⟩ method_10_code 5 (some .int) [(0, 11, 14, 19), (0, 11, 18, 21)] ∈ gaW := gaW_t3 (List.mem_of_getElem? (i := 55) rfl) rfl
theorem ww_3_56 : Cond.methodLink "WordgardenLaw" 47 ⟨"Wordgarden", "cutTo", "(II)I"⟩ ∈ gaW := gaW_t3 (List.mem_of_getElem? (i := 56) rfl) rfl
theorem ww_3_57 : Cond.instanceMethod ⟨"Wordgarden", "cutTo", "(II)I"⟩ ∈ gaW := gaW_t3 (List.mem_of_getElem? (i := 57) rfl) rfl
theorem ww_3_58 : Cond.selects "Wordgarden" ⟨"Wordgarden", "cutTo", "(II)I"⟩ ⟨"Wordgarden", "cutTo", "(II)I"⟩ ∈ gaW := gaW_t3 (List.mem_of_getElem? (i := 58) rfl) rfl
theorem ww_3_59 : Cond.code ⟨"Wordgarden", "cutTo", "(II)I"⟩ prog_1_method_10_code 6 (some .int) ∈ gaW := gaW_t3 (List.mem_of_getElem? (i := 59) rfl) rfl
theorem ww_3_60 : Cond.methodLink "Wordgarden" 87 ⟨"java/lang/Math", "min", "(II)I"⟩ ∈ gaW := gaW_t3 (List.mem_of_getElem? (i := 60) rfl) rfl
theorem ww_3_61 : Cond.methodLink "WordgardenLaw" 209 ⟨"WordgardenLaw", "turn", "(LWordgarden;ILWordgardenLaw$Out;)I"⟩ ∈ gaW := gaW_t3 (List.mem_of_getElem? (i := 61) rfl) rfl
theorem ww_3_62 : Cond.static ⟨"WordgardenLaw", "turn", "(LWordgarden;ILWordgardenLaw$Out;)I"⟩ ∈ gaW := gaW_t3 (List.mem_of_getElem? (i := 62) rfl) rfl
theorem ww_3_63 : Cond.codeWith ⟨"WordgardenLaw", "turn", "(LWordgarden;ILWordgardenLaw$Out;)I"⟩ method_11_code 4 (some .int) [(0, 10, 13, 19)] ∈ gaW := gaW_t3 (List.mem_of_getElem? (i := 63) rfl) rfl
theorem ww_3_64 : Cond.methodLink "WordgardenLaw" 50 ⟨"Wordgarden", "turn", "(I)I"⟩ ∈ gaW := gaW_t3 (List.mem_of_getElem? (i := 64) rfl) rfl
theorem ww_3_65 : Cond.instanceMethod ⟨"Wordgarden", "turn", "(I)I"⟩ ∈ gaW := gaW_t3 (List.mem_of_getElem? (i := 65) rfl) rfl
theorem ww_3_66 : Cond.selects "Wordgarden" ⟨"Wordgarden", "turn", "(I)I"⟩ ⟨"Wordgarden", "turn", "(I)I"⟩ ∈ gaW := gaW_t3 (List.mem_of_getElem? (i := 66) rfl) rfl
theorem ww_3_67 : Cond.code ⟨"Wordgarden", "turn", "(I)I"⟩ prog_1_method_11_code 3 (some .int) ∈ gaW := gaW_t3 (List.mem_of_getElem? (i := 67) rfl) rfl
theorem ww_3_68 : Cond.methodLink "Wordgarden" 104 ⟨"Wordgarden", "settle", "(LWordgarden$Word;LWordgarden$Word;)I"⟩ ∈ gaW := gaW_t3 (List.mem_of_getElem? (i := 68) rfl) rfl
theorem ww_3_70 : Cond.instanceMethod ⟨"Wordgarden", "settle", "(LWordgarden$Word;LWordgarden$Word;)I"⟩ ∈ gaW := gaW_t3 (List.mem_of_getElem? (i := 70) rfl) rfl
theorem ww_3_71 : Cond.code ⟨"Wordgarden", "settle", "(LWordgarden$Word;LWordgarden$Word;)I"⟩ prog_1_method_60_code 4 (some .int) ∈ gaW := gaW_t3 (List.mem_of_getElem? (i := 71) rfl) rfl
theorem ww_3_72 : Cond.methodLink "WordgardenLaw" 213 ⟨"WordgardenLaw", "exchange", "(LWordgarden;ILWordgardenLaw$Out;)I"⟩ ∈ gaW := gaW_t3 (List.mem_of_getElem? (i := 72) rfl) rfl
theorem ww_3_73 : Cond.static ⟨"WordgardenLaw", "exchange", "(LWordgarden;ILWordgardenLaw$Out;)I"⟩ ∈ gaW := gaW_t3 (List.mem_of_getElem? (i := 73) rfl) rfl
theorem ww_3_74 : Cond.codeWith ⟨"WordgardenLaw", "exchange", "(LWordgarden;ILWordgardenLaw$Out;)I"⟩ method_12_code 4 (some .int) [(0, 10, 13, 19)] ∈ gaW := gaW_t3 (List.mem_of_getElem? (i := 74) rfl) rfl
theorem ww_3_75 : Cond.methodLink "WordgardenLaw" 54 ⟨"Wordgarden", "exchange", "(I)I"⟩ ∈ gaW := gaW_t3 (List.mem_of_getElem? (i := 75) rfl) rfl
theorem ww_3_76 : Cond.instanceMethod ⟨"Wordgarden", "exchange", "(I)I"⟩ ∈ gaW := gaW_t3 (List.mem_of_getElem? (i := 76) rfl) rfl
theorem ww_3_77 : Cond.selects "Wordgarden" ⟨"Wordgarden", "exchange", "(I)I"⟩ ⟨"Wordgarden", "exchange", "(I)I"⟩ ∈ gaW := gaW_t3 (List.mem_of_getElem? (i := 77) rfl) rfl
theorem ww_3_78 : Cond.code ⟨"Wordgarden", "exchange", "(I)I"⟩ prog_1_method_12_code 4 (some .int) ∈ gaW := gaW_t3 (List.mem_of_getElem? (i := 78) rfl) rfl
theorem ww_3_79 : Cond.methodLink "WordgardenLaw" 216 ⟨"WordgardenLaw", "rotate", "(LWordgarden;IILWordgardenLaw$Out;)I"⟩ ∈ gaW := gaW_t3 (List.mem_of_getElem? (i := 79) rfl) rfl
theorem ww_3_80 : Cond.static ⟨"WordgardenLaw", "rotate", "(LWordgarden;IILWordgardenLaw$Out;)I"⟩ ∈ gaW := gaW_t3 (List.mem_of_getElem? (i := 80) rfl) rfl
theorem ww_3_81 : Cond.codeWith ⟨"WordgardenLaw", "rotate", "(LWordgarden;IILWordgardenLaw$Out;)I"⟩ method_13_code 5 (some .int) [(0, 11, 14, 19), (0, 11, 18, 21)] ∈ gaW := gaW_t3 (List.mem_of_getElem? (i := 81) rfl) rfl
theorem ww_3_82 : Cond.methodLink "WordgardenLaw" 57 ⟨"Wordgarden", "rotate", "(II)I"⟩ ∈ gaW := gaW_t3 (List.mem_of_getElem? (i := 82) rfl) rfl
theorem ww_3_83 : Cond.instanceMethod ⟨"Wordgarden", "rotate", "(II)I"⟩ ∈ gaW := gaW_t3 (List.mem_of_getElem? (i := 83) rfl) rfl
theorem ww_3_84 : Cond.selects "Wordgarden" ⟨"Wordgarden", "rotate", "(II)I"⟩ ⟨"Wordgarden", "rotate", "(II)I"⟩ ∈ gaW := gaW_t3 (List.mem_of_getElem? (i := 84) rfl) rfl
theorem ww_3_85 : Cond.code ⟨"Wordgarden", "rotate", "(II)I"⟩ prog_1_method_13_code 4 (some .int) ∈ gaW := gaW_t3 (List.mem_of_getElem? (i := 85) rfl) rfl
theorem ww_3_86 : Cond.methodLink "WordgardenLaw" 219 ⟨"WordgardenLaw", "copy", "(LWordgarden;IILWordgardenLaw$Out;)I"⟩ ∈ gaW := gaW_t3 (List.mem_of_getElem? (i := 86) rfl) rfl
theorem ww_3_87 : Cond.static ⟨"WordgardenLaw", "copy", "(LWordgarden;IILWordgardenLaw$Out;)I"⟩ ∈ gaW := gaW_t3 (List.mem_of_getElem? (i := 87) rfl) rfl
theorem ww_3_88 : Cond.codeWith ⟨"WordgardenLaw", "copy", "(LWordgarden;IILWordgardenLaw$Out;)I"⟩ method_14_code 5 (some .int) [(0, 11, 14, 19)] ∈ gaW := gaW_t3 (List.mem_of_getElem? (i := 88) rfl) rfl
theorem ww_3_89 : Cond.methodLink "WordgardenLaw" 60 ⟨"Wordgarden", "copy", "(II)I"⟩ ∈ gaW := gaW_t3 (List.mem_of_getElem? (i := 89) rfl) rfl
theorem ww_3_90 : Cond.instanceMethod ⟨"Wordgarden", "copy", "(II)I"⟩ ∈ gaW := gaW_t3 (List.mem_of_getElem? (i := 90) rfl) rfl
theorem ww_3_91 : Cond.selects "Wordgarden" ⟨"Wordgarden", "copy", "(II)I"⟩ ⟨"Wordgarden", "copy", "(II)I"⟩ ∈ gaW := gaW_t3 (List.mem_of_getElem? (i := 91) rfl) rfl
theorem ww_3_92 : Cond.code ⟨"Wordgarden", "copy", "(II)I"⟩ prog_1_method_14_code 4 (some .int) ∈ gaW := gaW_t3 (List.mem_of_getElem? (i := 92) rfl) rfl
theorem ww_3_93 : Cond.methodLink "WordgardenLaw" 222 ⟨"WordgardenLaw", "apply", "(LWordgarden;IIILWordgardenLaw$Out;)I"⟩ ∈ gaW := gaW_t3 (List.mem_of_getElem? (i := 93) rfl) rfl
theorem ww_3_94 : Cond.static ⟨"WordgardenLaw", "apply", "(LWordgarden;IIILWordgardenLaw$Out;)I"⟩ ∈ gaW := gaW_t3 (List.mem_of_getElem? (i := 94) rfl) rfl
theorem ww_3_95 : Cond.codeWith ⟨"WordgardenLaw", "apply", "(LWordgarden;IIILWordgardenLaw$Out;)I"⟩ method_15_code 6 (some .int) [(0, 13, 16, 19), (0, 13, 20, 21)] ∈ gaW := gaW_t3 (List.mem_of_getElem? (i := 95) rfl) rfl
theorem ww_3_96 : Cond.methodLink "WordgardenLaw" 63 ⟨"Wordgarden", "apply", "(III)I"⟩ ∈ gaW := gaW_t3 (List.mem_of_getElem? (i := 96) rfl) rfl
theorem ww_3_97 : Cond.instanceMethod ⟨"Wordgarden", "apply", "(III)I"⟩ ∈ gaW := gaW_t3 (List.mem_of_getElem? (i := 97) rfl) rfl
theorem ww_3_98 : Cond.selects "Wordgarden" ⟨"Wordgarden", "apply", "(III)I"⟩ ⟨"Wordgarden", "apply", "(III)I"⟩ ∈ gaW := gaW_t3 (List.mem_of_getElem? (i := 98) rfl) rfl
theorem ww_3_99 : Cond.code ⟨"Wordgarden", "apply", "(III)I"⟩ prog_1_method_15_code 5 (some .int) ∈ gaW := gaW_t3 (List.mem_of_getElem? (i := 99) rfl) rfl
theorem ww_3_100 : Cond.methodLink "Wordgarden" 114 ⟨"Wordgarden", "takeRule", "(II)V"⟩ ∈ gaW := gaW_t3 (List.mem_of_getElem? (i := 100) rfl) rfl
theorem ww_3_102 : Cond.instanceMethod ⟨"Wordgarden", "takeRule", "(II)V"⟩ ∈ gaW := gaW_t3 (List.mem_of_getElem? (i := 102) rfl) rfl
theorem ww_3_103 : Cond.code ⟨"Wordgarden", "takeRule", "(II)V"⟩ prog_1_method_61_code 3 (none : Option Jvm.ClassFile.FieldType) ∈ gaW := gaW_t3 (List.mem_of_getElem? (i := 103) rfl) rfl
theorem ww_3_104 : Cond.methodLink "Wordgarden" 309 ⟨"Wordgarden$Rule", "take", "(II)V"⟩ ∈ gaW := gaW_t3 (List.mem_of_getElem? (i := 104) rfl) rfl
theorem ww_3_105 : Cond.methodLink "Wordgarden" 118 ⟨"Wordgarden$Rule", "imageLength", "(LWordgarden$Word;)I"⟩ ∈ gaW := gaW_t3 (List.mem_of_getElem? (i := 105) rfl) rfl
theorem ww_3_106 : Cond.instanceMethod ⟨"Wordgarden$Rule", "imageLength", "(LWordgarden$Word;)I"⟩ ∈ gaW := gaW_t3 (List.mem_of_getElem? (i := 106) rfl) rfl
theorem ww_3_107 : Cond.selects "Wordgarden$Rule" ⟨"Wordgarden$Rule", "imageLength", "(LWordgarden$Word;)I"⟩ ⟨"Wordgarden$Rule", "imageLength", "(LWordgarden$Word;)I"⟩ ∈ gaW := gaW_t3 (List.mem_of_getElem? (i := 107) rfl) rfl
theorem ww_3_108 : Cond.code ⟨"Wordgarden$Rule", "imageLength", "(LWordgarden$Word;)I"⟩ prog_4_method_4_code 3 (some .int) ∈ gaW := gaW_t3 (List.mem_of_getElem? (i := 108) rfl) rfl
theorem ww_3_109 : Cond.methodLink "Wordgarden$Rule" 35 ⟨"Wordgarden$Reading", "upsOf", "(LWordgarden$Word;)I"⟩ ∈ gaW := gaW_t3 (List.mem_of_getElem? (i := 109) rfl) rfl
theorem ww_3_110 : Cond.methodLink "Wordgarden" 125 ⟨"Wordgarden$Rule", "layImage", "(LWordgarden$Word;LWordgarden$Word;)V"⟩ ∈ gaW := gaW_t3 (List.mem_of_getElem? (i := 110) rfl) rfl
theorem ww_3_111 : Cond.methodLink "WordgardenLaw" 225 ⟨"WordgardenLaw", "undo", "(LWordgarden;IIILWordgardenLaw$Out;)I"⟩ ∈ gaW := gaW_t3 (List.mem_of_getElem? (i := 111) rfl) rfl
theorem ww_3_112 : Cond.static ⟨"WordgardenLaw", "undo", "(LWordgarden;IIILWordgardenLaw$Out;)I"⟩ ∈ gaW := gaW_t3 (List.mem_of_getElem? (i := 112) rfl) rfl
theorem ww_3_113 : Cond.codeWith ⟨"WordgardenLaw", "undo", "(LWordgarden;IIILWordgardenLaw$Out;)I"⟩ method_16_code 6 (some .int) [(0, 13, 16, 19), (0, 13, 20, 21), (0, 13, 24, 69)] ∈ gaW := gaW_t3 (List.mem_of_getElem? (i := 113) rfl) rfl
theorem ww_3_114 : Cond.classLink "WordgardenLaw" 69 "java/lang/IllegalStateException" ∈ gaW := gaW_t3 (List.mem_of_getElem? (i := 114) rfl) rfl
theorem ww_3_115 : Cond.methodLink "WordgardenLaw" 66 ⟨"Wordgarden", "undo", "(III)I"⟩ ∈ gaW := gaW_t3 (List.mem_of_getElem? (i := 115) rfl) rfl
theorem ww_3_116 : Cond.instanceMethod ⟨"Wordgarden", "undo", "(III)I"⟩ ∈ gaW := gaW_t3 (List.mem_of_getElem? (i := 116) rfl) rfl
theorem ww_3_117 : Cond.selects "Wordgarden" ⟨"Wordgarden", "undo", "(III)I"⟩ ⟨"Wordgarden", "undo", "(III)I"⟩ ∈ gaW := gaW_t3 (List.mem_of_getElem? (i := 117) rfl) rfl
theorem ww_3_118 : Cond.code ⟨"Wordgarden", "undo", "(III)I"⟩ prog_1_method_16_code 5 (some .int) ∈ gaW := gaW_t3 (List.mem_of_getElem? (i := 118) rfl) rfl
theorem ww_3_119 : Cond.methodLink "Wordgarden" 129 ⟨"Wordgarden$Rule", "keepsApart", "()Z"⟩ ∈ gaW := gaW_t3 (List.mem_of_getElem? (i := 119) rfl) rfl
theorem ww_3_120 : Cond.instanceMethod ⟨"Wordgarden$Rule", "keepsApart", "()Z"⟩ ∈ gaW := gaW_t3 (List.mem_of_getElem? (i := 120) rfl) rfl
theorem ww_3_121 : Cond.selects "Wordgarden$Rule" ⟨"Wordgarden$Rule", "keepsApart", "()Z"⟩ ⟨"Wordgarden$Rule", "keepsApart", "()Z"⟩ ∈ gaW := gaW_t3 (List.mem_of_getElem? (i := 121) rfl) rfl
theorem ww_3_122 : Cond.code ⟨"Wordgarden$Rule", "keepsApart", "()Z"⟩ prog_4_method_3_code 1 (some .boolean) ∈ gaW := gaW_t3 (List.mem_of_getElem? (i := 122) rfl) rfl
theorem ww_3_123 : Cond.methodLink "Wordgarden$Rule" 29 ⟨"Wordgarden$Reading", "firstUnlikeJoined", "(LWordgarden$Word;LWordgarden$Word;)I"⟩ ∈ gaW := gaW_t3 (List.mem_of_getElem? (i := 123) rfl) rfl
theorem ww_3_124 : Cond.methodLink "Wordgarden" 133 ⟨"Wordgarden", "needState", "(Z)V"⟩ ∈ gaW := gaW_t3 (List.mem_of_getElem? (i := 124) rfl) rfl
theorem ww_3_125 : Cond.static ⟨"Wordgarden", "needState", "(Z)V"⟩ ∈ gaW := gaW_t3 (List.mem_of_getElem? (i := 125) rfl) rfl
theorem ww_3_126 : Cond.code ⟨"Wordgarden", "needState", "(Z)V"⟩ prog_1_method_53_code 1 (none : Option Jvm.ClassFile.FieldType) ∈ gaW := gaW_t3 (List.mem_of_getElem? (i := 126) rfl) rfl
theorem ww_3_127 : Cond.classLink "Wordgarden" 301 "java/lang/IllegalStateException" ∈ gaW := gaW_t3 (List.mem_of_getElem? (i := 127) rfl) rfl
theorem ww_3_143 : Cond.methodLink "Wordgarden" 136 ⟨"Wordgarden$Rule", "layOrigin", "(LWordgarden$Word;LWordgarden$Word;)Z"⟩ ∈ gaW := gaW_t3 (List.mem_of_getElem? (i := 143) rfl) rfl
theorem ww_3_144 : Cond.instanceMethod ⟨"Wordgarden$Rule", "layOrigin", "(LWordgarden$Word;LWordgarden$Word;)Z"⟩ ∈ gaW := gaW_t3 (List.mem_of_getElem? (i := 144) rfl) rfl
theorem ww_3_145 : Cond.selects "Wordgarden$Rule" ⟨"Wordgarden$Rule", "layOrigin", "(LWordgarden$Word;LWordgarden$Word;)Z"⟩ ⟨"Wordgarden$Rule", "layOrigin", "(LWordgarden$Word;LWordgarden$Word;)Z"⟩ ∈ gaW := gaW_t3 (List.mem_of_getElem? (i := 145) rfl) rfl
theorem ww_3_146 : Cond.code ⟨"Wordgarden$Rule", "layOrigin", "(LWordgarden$Word;LWordgarden$Word;)Z"⟩ prog_4_method_6_code 6 (some .boolean) ∈ gaW := gaW_t3 (List.mem_of_getElem? (i := 146) rfl) rfl
theorem ww_3_147 : Cond.methodLink "Wordgarden$Rule" 54 ⟨"Wordgarden$Rule", "markImages", "(LWordgarden$Word;)V"⟩ ∈ gaW := gaW_t3 (List.mem_of_getElem? (i := 147) rfl) rfl
theorem ww_3_149 : Cond.instanceMethod ⟨"Wordgarden$Rule", "markImages", "(LWordgarden$Word;)V"⟩ ∈ gaW := gaW_t3 (List.mem_of_getElem? (i := 149) rfl) rfl
theorem ww_3_150 : Cond.code ⟨"Wordgarden$Rule", "markImages", "(LWordgarden$Word;)V"⟩ prog_4_method_7_code 3 (none : Option Jvm.ClassFile.FieldType) ∈ gaW := gaW_t3 (List.mem_of_getElem? (i := 150) rfl) rfl
theorem ww_3_151 : Cond.methodLink "Wordgarden$Rule" 61 ⟨"Wordgarden$Rule", "goesOn", "(LWordgarden$Word;ILWordgarden$Word;)Z"⟩ ∈ gaW := gaW_t3 (List.mem_of_getElem? (i := 151) rfl) rfl
theorem ww_3_153 : Cond.instanceMethod ⟨"Wordgarden$Rule", "goesOn", "(LWordgarden$Word;ILWordgarden$Word;)Z"⟩ ∈ gaW := gaW_t3 (List.mem_of_getElem? (i := 153) rfl) rfl
theorem ww_3_154 : Cond.code ⟨"Wordgarden$Rule", "goesOn", "(LWordgarden$Word;ILWordgarden$Word;)Z"⟩ prog_4_method_9_code 4 (some .boolean) ∈ gaW := gaW_t3 (List.mem_of_getElem? (i := 154) rfl) rfl
theorem ww_3_155 : Cond.methodLink "Wordgarden$Rule" 69 ⟨"Wordgarden$Reading", "standsAt", "(LWordgarden$Word;ILWordgarden$Word;)Z"⟩ ∈ gaW := gaW_t3 (List.mem_of_getElem? (i := 155) rfl) rfl
theorem ww_3_156 : Cond.static ⟨"Wordgarden$Reading", "standsAt", "(LWordgarden$Word;ILWordgarden$Word;)Z"⟩ ∈ gaW := gaW_t3 (List.mem_of_getElem? (i := 156) rfl) rfl
theorem ww_3_157 : Cond.code ⟨"Wordgarden$Reading", "standsAt", "(LWordgarden$Word;ILWordgarden$Word;)Z"⟩ prog_3_method_6_code 4 (some .boolean) ∈ gaW := gaW_t3 (List.mem_of_getElem? (i := 157) rfl) rfl
theorem ww_3_158 : Cond.methodLink "Wordgarden$Rule" 58 ⟨"Wordgarden$Rule", "isMarked", "(I)Z"⟩ ∈ gaW := gaW_t3 (List.mem_of_getElem? (i := 158) rfl) rfl
theorem ww_3_160 : Cond.instanceMethod ⟨"Wordgarden$Rule", "isMarked", "(I)Z"⟩ ∈ gaW := gaW_t3 (List.mem_of_getElem? (i := 160) rfl) rfl
theorem ww_3_161 : Cond.code ⟨"Wordgarden$Rule", "isMarked", "(I)Z"⟩ prog_4_method_8_code 2 (some .boolean) ∈ gaW := gaW_t3 (List.mem_of_getElem? (i := 161) rfl) rfl
theorem ww_3_162 : Cond.methodLink "Wordgarden$Rule" 65 ⟨"Wordgarden$Word", "add", "(Z)V"⟩ ∈ gaW := gaW_t3 (List.mem_of_getElem? (i := 162) rfl) rfl
theorem ww_3_163 : Cond.methodLink "WordgardenLaw" 228 ⟨"WordgardenLaw", "lay", "(LWordgarden;IIILWordgardenLaw$Out;)I"⟩ ∈ gaW := gaW_t3 (List.mem_of_getElem? (i := 163) rfl) rfl
theorem ww_3_164 : Cond.static ⟨"WordgardenLaw", "lay", "(LWordgarden;IIILWordgardenLaw$Out;)I"⟩ ∈ gaW := gaW_t3 (List.mem_of_getElem? (i := 164) rfl) rfl
theorem ww_3_165 : Cond.codeWith ⟨"WordgardenLaw", "lay", "(LWordgarden;IIILWordgardenLaw$Out;)I"⟩ method_17_code 6 (some .int) [(0, 13, 16, 19), (0, 13, 20, 21)] ∈ gaW := gaW_t3 (List.mem_of_getElem? (i := 165) rfl) rfl
theorem ww_3_166 : Cond.methodLink "WordgardenLaw" 71 ⟨"Wordgarden", "lay", "(III)I"⟩ ∈ gaW := gaW_t3 (List.mem_of_getElem? (i := 166) rfl) rfl
theorem ww_3_167 : Cond.instanceMethod ⟨"Wordgarden", "lay", "(III)I"⟩ ∈ gaW := gaW_t3 (List.mem_of_getElem? (i := 167) rfl) rfl
theorem ww_3_168 : Cond.selects "Wordgarden" ⟨"Wordgarden", "lay", "(III)I"⟩ ⟨"Wordgarden", "lay", "(III)I"⟩ ∈ gaW := gaW_t3 (List.mem_of_getElem? (i := 168) rfl) rfl
theorem ww_3_169 : Cond.code ⟨"Wordgarden", "lay", "(III)I"⟩ prog_1_method_17_code 6 (some .int) ∈ gaW := gaW_t3 (List.mem_of_getElem? (i := 169) rfl) rfl
theorem ww_3_170 : Cond.methodLink "WordgardenLaw" 231 ⟨"WordgardenLaw", "twos", "(LWordgarden;IIILWordgardenLaw$Out;)I"⟩ ∈ gaW := gaW_t3 (List.mem_of_getElem? (i := 170) rfl) rfl
theorem ww_3_171 : Cond.static ⟨"WordgardenLaw", "twos", "(LWordgarden;IIILWordgardenLaw$Out;)I"⟩ ∈ gaW := gaW_t3 (List.mem_of_getElem? (i := 171) rfl) rfl
theorem ww_3_172 : Cond.codeWith ⟨"WordgardenLaw", "twos", "(LWordgarden;IIILWordgardenLaw$Out;)I"⟩ method_18_code 6 (some .int) [(0, 13, 16, 19), (0, 13, 20, 21)] ∈ gaW := gaW_t3 (List.mem_of_getElem? (i := 172) rfl) rfl
theorem ww_3_173 : Cond.methodLink "WordgardenLaw" 74 ⟨"Wordgarden", "twos", "(III)I"⟩ ∈ gaW := gaW_t3 (List.mem_of_getElem? (i := 173) rfl) rfl
theorem ww_3_174 : Cond.instanceMethod ⟨"Wordgarden", "twos", "(III)I"⟩ ∈ gaW := gaW_t3 (List.mem_of_getElem? (i := 174) rfl) rfl
theorem ww_3_175 : Cond.selects "Wordgarden" ⟨"Wordgarden", "twos", "(III)I"⟩ ⟨"Wordgarden", "twos", "(III)I"⟩ ∈ gaW := gaW_t3 (List.mem_of_getElem? (i := 175) rfl) rfl
theorem ww_3_176 : Cond.code ⟨"Wordgarden", "twos", "(III)I"⟩ prog_1_method_18_code 5 (some .int) ∈ gaW := gaW_t3 (List.mem_of_getElem? (i := 176) rfl) rfl
theorem ww_3_177 : Cond.methodLink "Wordgarden" 154 ⟨"Wordgarden$Twos", "layByRule", "(ILWordgarden$Word;LWordgarden$Word;LWordgarden$Rule;)V"⟩ ∈ gaW := gaW_t3 (List.mem_of_getElem? (i := 177) rfl) rfl
theorem ww_3_178 : Cond.static ⟨"Wordgarden$Twos", "layByRule", "(ILWordgarden$Word;LWordgarden$Word;LWordgarden$Rule;)V"⟩ ∈ gaW := gaW_t3 (List.mem_of_getElem? (i := 178) rfl) rfl
theorem ww_3_179 : Cond.code ⟨"Wordgarden$Twos", "layByRule", "(ILWordgarden$Word;LWordgarden$Word;LWordgarden$Rule;)V"⟩ prog_5_method_2_code 5 (none : Option Jvm.ClassFile.FieldType) ∈ gaW := gaW_t3 (List.mem_of_getElem? (i := 179) rfl) rfl
theorem ww_3_180 : Cond.methodLink "Wordgarden$Twos" 9 ⟨"Wordgarden$Rule", "take", "(II)V"⟩ ∈ gaW := gaW_t3 (List.mem_of_getElem? (i := 180) rfl) rfl
theorem ww_3_181 : Cond.methodLink "Wordgarden$Twos" 15 ⟨"Wordgarden$Word", "clear", "()V"⟩ ∈ gaW := gaW_t3 (List.mem_of_getElem? (i := 181) rfl) rfl
theorem ww_3_182 : Cond.methodLink "Wordgarden$Twos" 20 ⟨"Wordgarden$Word", "add", "(Z)V"⟩ ∈ gaW := gaW_t3 (List.mem_of_getElem? (i := 182) rfl) rfl
theorem ww_3_183 : Cond.methodLink "Wordgarden$Twos" 24 ⟨"Wordgarden$Rule", "layImage", "(LWordgarden$Word;LWordgarden$Word;)V"⟩ ∈ gaW := gaW_t3 (List.mem_of_getElem? (i := 183) rfl) rfl
theorem ww_3_184 : Cond.methodLink "Wordgarden$Twos" 28 ⟨"Wordgarden$Word", "take", "(LWordgarden$Word;)V"⟩ ∈ gaW := gaW_t3 (List.mem_of_getElem? (i := 184) rfl) rfl
theorem ww_3_185 : Cond.methodLink "Wordgarden" 160 ⟨"Wordgarden$Twos", "layByCopies", "(ILWordgarden$Word;)V"⟩ ∈ gaW := gaW_t3 (List.mem_of_getElem? (i := 185) rfl) rfl
theorem ww_3_186 : Cond.static ⟨"Wordgarden$Twos", "layByCopies", "(ILWordgarden$Word;)V"⟩ ∈ gaW := gaW_t3 (List.mem_of_getElem? (i := 186) rfl) rfl
theorem ww_3_187 : Cond.code ⟨"Wordgarden$Twos", "layByCopies", "(ILWordgarden$Word;)V"⟩ prog_5_method_3_code 5 (none : Option Jvm.ClassFile.FieldType) ∈ gaW := gaW_t3 (List.mem_of_getElem? (i := 187) rfl) rfl
theorem ww_3_188 : Cond.methodLink "Wordgarden$Twos" 35 ⟨"Wordgarden$Word", "isUp", "(I)Z"⟩ ∈ gaW := gaW_t3 (List.mem_of_getElem? (i := 188) rfl) rfl
theorem ww_3_189 : Cond.methodLink "Wordgarden" 164 ⟨"Wordgarden$Twos", "laySignBySign", "(ILWordgarden$Word;)V"⟩ ∈ gaW := gaW_t3 (List.mem_of_getElem? (i := 189) rfl) rfl
theorem ww_3_190 : Cond.static ⟨"Wordgarden$Twos", "laySignBySign", "(ILWordgarden$Word;)V"⟩ ∈ gaW := gaW_t3 (List.mem_of_getElem? (i := 190) rfl) rfl
theorem ww_3_191 : Cond.code ⟨"Wordgarden$Twos", "laySignBySign", "(ILWordgarden$Word;)V"⟩ prog_5_method_4_code 3 (none : Option Jvm.ClassFile.FieldType) ∈ gaW := gaW_t3 (List.mem_of_getElem? (i := 191) rfl) rfl
theorem ww_3_192 : Cond.methodLink "Wordgarden$Twos" 39 ⟨"java/lang/Integer", "bitCount", "(I)I"⟩ ∈ gaW := gaW_t3 (List.mem_of_getElem? (i := 192) rfl) rfl
theorem ww_3_193 : Cond.static ⟨"java/lang/Integer", "bitCount", "(I)I"⟩ ∈ gaW := gaW_t3 (List.mem_of_getElem? (i := 193) rfl) rfl
theorem ww_3_194 : Cond.code ⟨"java/lang/Integer", "bitCount", "(I)I"⟩ prog_16_method_49_code 1 (some .int) ∈ gaW := gaW_t3 (List.mem_of_getElem? (i := 194) rfl) rfl
theorem ww_3_195 : Cond.constant "java/lang/Integer" 265 (1431655765) ∈ gaW := gaW_t3 (List.mem_of_getElem? (i := 195) rfl) rfl
theorem ww_3_196 : Cond.constant "java/lang/Integer" 266 (858993459) ∈ gaW := gaW_t3 (List.mem_of_getElem? (i := 196) rfl) rfl
theorem ww_3_197 : Cond.constant "java/lang/Integer" 267 (252645135) ∈ gaW := gaW_t3 (List.mem_of_getElem? (i := 197) rfl) rfl
theorem ww_3_198 : Cond.methodLink "WordgardenLaw" 234 ⟨"WordgardenLaw", "line", "(LWordgarden;IIIILWordgardenLaw$Out;)I"⟩ ∈ gaW := gaW_t3 (List.mem_of_getElem? (i := 198) rfl) rfl
theorem ww_3_199 : Cond.static ⟨"WordgardenLaw", "line", "(LWordgarden;IIIILWordgardenLaw$Out;)I"⟩ ∈ gaW := gaW_t3 (List.mem_of_getElem? (i := 199) rfl) rfl
theorem ww_3_200 : Cond.codeWith ⟨"WordgardenLaw", "line", "(LWordgarden;IIIILWordgardenLaw$Out;)I"⟩ method_19_code 7 (some .int) [(0, 15, 18, 19), (0, 15, 22, 21)] ∈ gaW := gaW_t3 (List.mem_of_getElem? (i := 200) rfl) rfl
theorem ww_3_201 : Cond.methodLink "WordgardenLaw" 77 ⟨"Wordgarden", "line", "(IIII)I"⟩ ∈ gaW := gaW_t3 (List.mem_of_getElem? (i := 201) rfl) rfl
theorem ww_3_202 : Cond.instanceMethod ⟨"Wordgarden", "line", "(IIII)I"⟩ ∈ gaW := gaW_t3 (List.mem_of_getElem? (i := 202) rfl) rfl
theorem ww_3_203 : Cond.selects "Wordgarden" ⟨"Wordgarden", "line", "(IIII)I"⟩ ⟨"Wordgarden", "line", "(IIII)I"⟩ ∈ gaW := gaW_t3 (List.mem_of_getElem? (i := 203) rfl) rfl
theorem ww_3_204 : Cond.code ⟨"Wordgarden", "line", "(IIII)I"⟩ prog_1_method_19_code 7 (some .int) ∈ gaW := gaW_t3 (List.mem_of_getElem? (i := 204) rfl) rfl
theorem ww_3_205 : Cond.methodLink "Wordgarden" 167 ⟨"Wordgarden", "isUpOnLine", "(IIII)Z"⟩ ∈ gaW := gaW_t3 (List.mem_of_getElem? (i := 205) rfl) rfl
theorem ww_3_206 : Cond.methodLink "WordgardenLaw" 237 ⟨"WordgardenLaw", "grow", "(LWordgarden;IILWordgardenLaw$Out;)I"⟩ ∈ gaW := gaW_t3 (List.mem_of_getElem? (i := 206) rfl) rfl
theorem ww_3_207 : Cond.static ⟨"WordgardenLaw", "grow", "(LWordgarden;IILWordgardenLaw$Out;)I"⟩ ∈ gaW := gaW_t3 (List.mem_of_getElem? (i := 207) rfl) rfl
theorem ww_3_208 : Cond.codeWith ⟨"WordgardenLaw", "grow", "(LWordgarden;IILWordgardenLaw$Out;)I"⟩ method_20_code 5 (some .int) [(0, 11, 14, 19), (0, 11, 18, 21)] ∈ gaW := gaW_t3 (List.mem_of_getElem? (i := 208) rfl) rfl
theorem ww_3_209 : Cond.methodLink "WordgardenLaw" 80 ⟨"Wordgarden", "grow", "(II)I"⟩ ∈ gaW := gaW_t3 (List.mem_of_getElem? (i := 209) rfl) rfl
theorem ww_3_210 : Cond.instanceMethod ⟨"Wordgarden", "grow", "(II)I"⟩ ∈ gaW := gaW_t3 (List.mem_of_getElem? (i := 210) rfl) rfl
theorem ww_3_211 : Cond.selects "Wordgarden" ⟨"Wordgarden", "grow", "(II)I"⟩ ⟨"Wordgarden", "grow", "(II)I"⟩ ∈ gaW := gaW_t3 (List.mem_of_getElem? (i := 211) rfl) rfl
theorem ww_3_212 : Cond.code ⟨"Wordgarden", "grow", "(II)I"⟩ prog_1_method_20_code 4 (some .int) ∈ gaW := gaW_t3 (List.mem_of_getElem? (i := 212) rfl) rfl
theorem ww_3_213 : Cond.methodLink "Wordgarden" 171 ⟨"Wordgarden$Growth", "goOn", "(ILWordgarden$Word;)Z"⟩ ∈ gaW := gaW_t3 (List.mem_of_getElem? (i := 213) rfl) rfl
theorem ww_3_214 : Cond.instanceMethod ⟨"Wordgarden$Growth", "goOn", "(ILWordgarden$Word;)Z"⟩ ∈ gaW := gaW_t3 (List.mem_of_getElem? (i := 214) rfl) rfl
theorem ww_3_215 : Cond.selects "Wordgarden$Growth" ⟨"Wordgarden$Growth", "goOn", "(ILWordgarden$Word;)Z"⟩ ⟨"Wordgarden$Growth", "goOn", "(ILWordgarden$Word;)Z"⟩ ∈ gaW := gaW_t3 (List.mem_of_getElem? (i := 215) rfl) rfl
theorem ww_3_216 : Cond.code ⟨"Wordgarden$Growth", "goOn", "(ILWordgarden$Word;)Z"⟩ prog_2_method_5_code 5 (some .boolean) ∈ gaW := gaW_t3 (List.mem_of_getElem? (i := 216) rfl) rfl
theorem ww_3_217 : Cond.methodLink "Wordgarden$Growth" 42 ⟨"Wordgarden$Word", "addPart", "(LWordgarden$Word;II)V"⟩ ∈ gaW := gaW_t3 (List.mem_of_getElem? (i := 217) rfl) rfl
theorem ww_3_218 : Cond.methodLink "Wordgarden" 175 ⟨"Wordgarden", "growthActDone", "(I)I"⟩ ∈ gaW := gaW_t3 (List.mem_of_getElem? (i := 218) rfl) rfl
theorem ww_3_220 : Cond.instanceMethod ⟨"Wordgarden", "growthActDone", "(I)I"⟩ ∈ gaW := gaW_t3 (List.mem_of_getElem? (i := 220) rfl) rfl
theorem ww_3_221 : Cond.code ⟨"Wordgarden", "growthActDone", "(I)I"⟩ prog_1_method_56_code 2 (some .int) ∈ gaW := gaW_t3 (List.mem_of_getElem? (i := 221) rfl) rfl
theorem ww_3_222 : Cond.methodLink "WordgardenLaw" 240 ⟨"WordgardenLaw", "shrink", "(LWordgarden;ILWordgardenLaw$Out;)I"⟩ ∈ gaW := gaW_t3 (List.mem_of_getElem? (i := 222) rfl) rfl
theorem ww_3_223 : Cond.static ⟨"WordgardenLaw", "shrink", "(LWordgarden;ILWordgardenLaw$Out;)I"⟩ ∈ gaW := gaW_t3 (List.mem_of_getElem? (i := 223) rfl) rfl
theorem ww_3_224 : Cond.codeWith ⟨"WordgardenLaw", "shrink", "(LWordgarden;ILWordgardenLaw$Out;)I"⟩ method_21_code 4 (some .int) [(0, 10, 13, 19), (0, 10, 16, 69)] ∈ gaW := gaW_t3 (List.mem_of_getElem? (i := 224) rfl) rfl
theorem ww_3_225 : Cond.methodLink "WordgardenLaw" 83 ⟨"Wordgarden", "shrink", "(I)I"⟩ ∈ gaW := gaW_t3 (List.mem_of_getElem? (i := 225) rfl) rfl
theorem ww_3_226 : Cond.instanceMethod ⟨"Wordgarden", "shrink", "(I)I"⟩ ∈ gaW := gaW_t3 (List.mem_of_getElem? (i := 226) rfl) rfl
theorem ww_3_227 : Cond.selects "Wordgarden" ⟨"Wordgarden", "shrink", "(I)I"⟩ ⟨"Wordgarden", "shrink", "(I)I"⟩ ∈ gaW := gaW_t3 (List.mem_of_getElem? (i := 227) rfl) rfl
theorem ww_3_228 : Cond.code ⟨"Wordgarden", "shrink", "(I)I"⟩ prog_1_method_21_code 3 (some .int) ∈ gaW := gaW_t3 (List.mem_of_getElem? (i := 228) rfl) rfl
theorem ww_3_229 : Cond.methodLink "Wordgarden" 181 ⟨"Wordgarden$Growth", "goBack", "(LWordgarden$Word;)I"⟩ ∈ gaW := gaW_t3 (List.mem_of_getElem? (i := 229) rfl) rfl
theorem ww_3_230 : Cond.instanceMethod ⟨"Wordgarden$Growth", "goBack", "(LWordgarden$Word;)I"⟩ ∈ gaW := gaW_t3 (List.mem_of_getElem? (i := 230) rfl) rfl
theorem ww_3_231 : Cond.selects "Wordgarden$Growth" ⟨"Wordgarden$Growth", "goBack", "(LWordgarden$Word;)I"⟩ ⟨"Wordgarden$Growth", "goBack", "(LWordgarden$Word;)I"⟩ ∈ gaW := gaW_t3 (List.mem_of_getElem? (i := 231) rfl) rfl
theorem ww_3_232 : Cond.code ⟨"Wordgarden$Growth", "goBack", "(LWordgarden$Word;)I"⟩ prog_2_method_6_code 3 (some .int) ∈ gaW := gaW_t3 (List.mem_of_getElem? (i := 232) rfl) rfl
theorem ww_3_233 : Cond.methodLink "WordgardenLaw" 243 ⟨"WordgardenLaw", "fresh", "(LWordgarden;ILWordgardenLaw$Out;)I"⟩ ∈ gaW := gaW_t3 (List.mem_of_getElem? (i := 233) rfl) rfl
theorem ww_3_234 : Cond.static ⟨"WordgardenLaw", "fresh", "(LWordgarden;ILWordgardenLaw$Out;)I"⟩ ∈ gaW := gaW_t3 (List.mem_of_getElem? (i := 234) rfl) rfl
theorem ww_3_235 : Cond.codeWith ⟨"WordgardenLaw", "fresh", "(LWordgarden;ILWordgardenLaw$Out;)I"⟩ method_22_code 4 (some .int) [(0, 10, 13, 19)] ∈ gaW := gaW_t3 (List.mem_of_getElem? (i := 235) rfl) rfl
theorem ww_3_236 : Cond.methodLink "WordgardenLaw" 86 ⟨"Wordgarden", "fresh", "(I)I"⟩ ∈ gaW := gaW_t3 (List.mem_of_getElem? (i := 236) rfl) rfl
theorem ww_3_237 : Cond.instanceMethod ⟨"Wordgarden", "fresh", "(I)I"⟩ ∈ gaW := gaW_t3 (List.mem_of_getElem? (i := 237) rfl) rfl
theorem ww_3_238 : Cond.selects "Wordgarden" ⟨"Wordgarden", "fresh", "(I)I"⟩ ⟨"Wordgarden", "fresh", "(I)I"⟩ ∈ gaW := gaW_t3 (List.mem_of_getElem? (i := 238) rfl) rfl
theorem ww_3_239 : Cond.code ⟨"Wordgarden", "fresh", "(I)I"⟩ prog_1_method_22_code 4 (some .int) ∈ gaW := gaW_t3 (List.mem_of_getElem? (i := 239) rfl) rfl
theorem ww_4_0 : Cond.methodLink "Wordgarden" 184 ⟨"Wordgarden$Growth", "begin", "()V"⟩ ∈ gaW := gaW_t4 (List.mem_of_getElem? (i := 0) rfl) rfl
theorem ww_4_1 : Cond.methodLink "WordgardenLaw" 246 ⟨"WordgardenLaw", "length", "(LWordgarden;ILWordgardenLaw$Out;)I"⟩ ∈ gaW := gaW_t4 (List.mem_of_getElem? (i := 1) rfl) rfl
theorem ww_4_2 : Cond.static ⟨"WordgardenLaw", "length", "(LWordgarden;ILWordgardenLaw$Out;)I"⟩ ∈ gaW := gaW_t4 (List.mem_of_getElem? (i := 2) rfl) rfl
theorem ww_4_3 : Cond.codeWith ⟨"WordgardenLaw", "length", "(LWordgarden;ILWordgardenLaw$Out;)I"⟩ method_23_code 4 (some .int) [(0, 10, 13, 19)] ∈ gaW := gaW_t4 (List.mem_of_getElem? (i := 3) rfl) rfl
theorem ww_4_4 : Cond.methodLink "WordgardenLaw" 89 ⟨"Wordgarden", "length", "(I)I"⟩ ∈ gaW := gaW_t4 (List.mem_of_getElem? (i := 4) rfl) rfl
theorem ww_4_5 : Cond.instanceMethod ⟨"Wordgarden", "length", "(I)I"⟩ ∈ gaW := gaW_t4 (List.mem_of_getElem? (i := 5) rfl) rfl
theorem ww_4_6 : Cond.selects "Wordgarden" ⟨"Wordgarden", "length", "(I)I"⟩ ⟨"Wordgarden", "length", "(I)I"⟩ ∈ gaW := gaW_t4 (List.mem_of_getElem? (i := 6) rfl) rfl
theorem ww_4_7 : Cond.code ⟨"Wordgarden", "length", "(I)I"⟩ prog_1_method_23_code 2 (some .int) ∈ gaW := gaW_t4 (List.mem_of_getElem? (i := 7) rfl) rfl
theorem ww_4_8 : Cond.methodLink "WordgardenLaw" 249 ⟨"WordgardenLaw", "isB", "(LWordgarden;IILWordgardenLaw$Out;)I"⟩ ∈ gaW := gaW_t4 (List.mem_of_getElem? (i := 8) rfl) rfl
theorem ww_4_9 : Cond.static ⟨"WordgardenLaw", "isB", "(LWordgarden;IILWordgardenLaw$Out;)I"⟩ ∈ gaW := gaW_t4 (List.mem_of_getElem? (i := 9) rfl) rfl
theorem ww_4_10 : Cond.codeWith ⟨"WordgardenLaw", "isB", "(LWordgarden;IILWordgardenLaw$Out;)I"⟩ method_24_code 5 (some .int) [(0, 18, 21, 19)] ∈ gaW := gaW_t4 (List.mem_of_getElem? (i := 10) rfl) rfl
theorem ww_4_11 : Cond.methodLink "WordgardenLaw" 92 ⟨"Wordgarden", "isB", "(II)Z"⟩ ∈ gaW := gaW_t4 (List.mem_of_getElem? (i := 11) rfl) rfl
theorem ww_4_12 : Cond.instanceMethod ⟨"Wordgarden", "isB", "(II)Z"⟩ ∈ gaW := gaW_t4 (List.mem_of_getElem? (i := 12) rfl) rfl
theorem ww_4_13 : Cond.selects "Wordgarden" ⟨"Wordgarden", "isB", "(II)Z"⟩ ⟨"Wordgarden", "isB", "(II)Z"⟩ ∈ gaW := gaW_t4 (List.mem_of_getElem? (i := 13) rfl) rfl
theorem ww_4_14 : Cond.code ⟨"Wordgarden", "isB", "(II)Z"⟩ prog_1_method_24_code 4 (some .boolean) ∈ gaW := gaW_t4 (List.mem_of_getElem? (i := 14) rfl) rfl
theorem ww_4_15 : Cond.methodLink "WordgardenLaw" 252 ⟨"WordgardenLaw", "text", "(LWordgarden;ILWordgardenLaw$Out;)I"⟩ ∈ gaW := gaW_t4 (List.mem_of_getElem? (i := 15) rfl) rfl
theorem ww_4_16 : Cond.static ⟨"WordgardenLaw", "text", "(LWordgarden;ILWordgardenLaw$Out;)I"⟩ ∈ gaW := gaW_t4 (List.mem_of_getElem? (i := 16) rfl) rfl
theorem ww_4_17 : Cond.codeWith ⟨"WordgardenLaw", "text", "(LWordgarden;ILWordgardenLaw$Out;)I"⟩ method_25_code 4 (some .int) [(0, 9, 12, 19)] ∈ gaW := gaW_t4 (List.mem_of_getElem? (i := 17) rfl) rfl
theorem ww_4_18 : Cond.methodLink "WordgardenLaw" 96 ⟨"Wordgarden", "text", "(I)Ljava/lang/String;"⟩ ∈ gaW := gaW_t4 (List.mem_of_getElem? (i := 18) rfl) rfl
theorem ww_4_19 : Cond.instanceMethod ⟨"Wordgarden", "text", "(I)Ljava/lang/String;"⟩ ∈ gaW := gaW_t4 (List.mem_of_getElem? (i := 19) rfl) rfl
theorem ww_4_20 : Cond.selects "Wordgarden" ⟨"Wordgarden", "text", "(I)Ljava/lang/String;"⟩ ⟨"Wordgarden", "text", "(I)Ljava/lang/String;"⟩ ∈ gaW := gaW_t4 (List.mem_of_getElem? (i := 20) rfl) rfl
theorem ww_4_21 : Cond.code ⟨"Wordgarden", "text", "(I)Ljava/lang/String;"⟩ prog_1_method_25_code 2 (some (.object "java/lang/String")) ∈ gaW := gaW_t4 (List.mem_of_getElem? (i := 21) rfl) rfl
theorem ww_4_22 : Cond.methodLink "Wordgarden" 187 ⟨"Wordgarden$Reading", "textOf", "(LWordgarden$Word;)Ljava/lang/String;"⟩ ∈ gaW := gaW_t4 (List.mem_of_getElem? (i := 22) rfl) rfl
theorem ww_4_23 : Cond.static ⟨"Wordgarden$Reading", "textOf", "(LWordgarden$Word;)Ljava/lang/String;"⟩ ∈ gaW := gaW_t4 (List.mem_of_getElem? (i := 23) rfl) rfl
theorem ww_4_24 : Cond.code ⟨"Wordgarden$Reading", "textOf", "(LWordgarden$Word;)Ljava/lang/String;"⟩ prog_3_method_2_code 3 (some (.object "java/lang/String")) ∈ gaW := gaW_t4 (List.mem_of_getElem? (i := 24) rfl) rfl
theorem ww_4_25 : Cond.classLink "Wordgarden$Reading" 9 "java/lang/StringBuilder" ∈ gaW := gaW_t4 (List.mem_of_getElem? (i := 25) rfl) rfl
theorem ww_4_26 : Cond.instantiable "java/lang/StringBuilder" 4 ∈ gaW := gaW_t4 (List.mem_of_getElem? (i := 26) rfl) rfl
theorem ww_4_27 : Cond.methodLink "Wordgarden$Reading" 11 ⟨"java/lang/StringBuilder", "<init>", "()V"⟩ ∈ gaW := gaW_t4 (List.mem_of_getElem? (i := 27) rfl) rfl
theorem ww_4_28 : Cond.instanceMethod ⟨"java/lang/StringBuilder", "<init>", "()V"⟩ ∈ gaW := gaW_t4 (List.mem_of_getElem? (i := 28) rfl) rfl
theorem ww_4_29 : Cond.code ⟨"java/lang/StringBuilder", "<init>", "()V"⟩ prog_20_method_1_code 1 (none : Option Jvm.ClassFile.FieldType) ∈ gaW := gaW_t4 (List.mem_of_getElem? (i := 29) rfl) rfl
theorem ww_4_30 : Cond.methodLink "java/lang/StringBuilder" 1 ⟨"java/lang/AbstractStringBuilder", "<init>", "(I)V"⟩ ∈ gaW := gaW_t4 (List.mem_of_getElem? (i := 30) rfl) rfl
theorem ww_4_31 : Cond.instanceMethod ⟨"java/lang/AbstractStringBuilder", "<init>", "(I)V"⟩ ∈ gaW := gaW_t4 (List.mem_of_getElem? (i := 31) rfl) rfl
theorem ww_4_32 : Cond.code ⟨"java/lang/AbstractStringBuilder", "<init>", "(I)V"⟩ prog_10_method_2_code 2 (none : Option Jvm.ClassFile.FieldType) ∈ gaW := gaW_t4 (List.mem_of_getElem? (i := 32) rfl) rfl
theorem ww_4_33 : Cond.methodLink "java/lang/AbstractStringBuilder" 3 ⟨"java/lang/Object", "<init>", "()V"⟩ ∈ gaW := gaW_t4 (List.mem_of_getElem? (i := 33) rfl) rfl
theorem ww_4_34 : Cond.fieldLink "java/lang/AbstractStringBuilder" 18 "java/lang/String" "COMPACT_STRINGS" "Z" ∈ gaW := gaW_t4 (List.mem_of_getElem? (i := 34) rfl) rfl
theorem ww_4_43 : Cond.fieldLink "java/lang/AbstractStringBuilder" 15 "java/lang/AbstractStringBuilder" "value" "[B" ∈ gaW := gaW_t4 (List.mem_of_getElem? (i := 43) rfl) rfl
theorem ww_4_44 : Cond.fieldLink "java/lang/AbstractStringBuilder" 22 "java/lang/AbstractStringBuilder" "coder" "B" ∈ gaW := gaW_t4 (List.mem_of_getElem? (i := 44) rfl) rfl
theorem ww_4_45 : Cond.fieldLink "java/lang/String" 1048 "java/lang/AbstractStringBuilder" "maybeLatin1" "Z" ∈ gaW := gaW_t4 (List.mem_of_getElem? (i := 45) rfl) rfl
theorem ww_4_46 : Cond.fieldLink "java/lang/AbstractStringBuilder" 79 "java/lang/AbstractStringBuilder" "count" "I" ∈ gaW := gaW_t4 (List.mem_of_getElem? (i := 46) rfl) rfl
theorem ww_4_47 : Cond.lays "java/lang/StringBuilder" "java/lang/AbstractStringBuilder" "value" "[B" ∈ gaW := gaW_t4 (List.mem_of_getElem? (i := 47) rfl) rfl
theorem ww_4_49 : Cond.lays "java/lang/StringBuilder" "java/lang/AbstractStringBuilder" "coder" "B" ∈ gaW := gaW_t4 (List.mem_of_getElem? (i := 49) rfl) rfl
theorem ww_4_51 : Cond.lays "java/lang/StringBuilder" "java/lang/AbstractStringBuilder" "maybeLatin1" "Z" ∈ gaW := gaW_t4 (List.mem_of_getElem? (i := 51) rfl) rfl
theorem ww_4_53 : Cond.lays "java/lang/StringBuilder" "java/lang/AbstractStringBuilder" "count" "I" ∈ gaW := gaW_t4 (List.mem_of_getElem? (i := 53) rfl) rfl
theorem ww_4_55 : Cond.superclass "java/lang/StringBuilder" "java/lang/AbstractStringBuilder" ∈ gaW := gaW_t4 (List.mem_of_getElem? (i := 55) rfl) rfl
theorem ww_4_56 : Cond.methodLink "Wordgarden$Reading" 22 ⟨"java/lang/StringBuilder", "append", "(C)Ljava/lang/StringBuilder;"⟩ ∈ gaW := gaW_t4 (List.mem_of_getElem? (i := 56) rfl) rfl
theorem ww_4_57 : Cond.instanceMethod ⟨"java/lang/StringBuilder", "append", "(C)Ljava/lang/StringBuilder;"⟩ ∈ gaW := gaW_t4 (List.mem_of_getElem? (i := 57) rfl) rfl
theorem ww_4_58 : Cond.selects "java/lang/StringBuilder" ⟨"java/lang/StringBuilder", "append", "(C)Ljava/lang/StringBuilder;"⟩ ⟨"java/lang/StringBuilder", "append", "(C)Ljava/lang/StringBuilder;"⟩ ∈ gaW := gaW_t4 (List.mem_of_getElem? (i := 58) rfl) rfl
theorem ww_4_59 : Cond.code ⟨"java/lang/StringBuilder", "append", "(C)Ljava/lang/StringBuilder;"⟩ prog_20_method_14_code 2 (some (.object "java/lang/StringBuilder")) ∈ gaW := gaW_t4 (List.mem_of_getElem? (i := 59) rfl) rfl
theorem ww_4_60 : Cond.methodLink "java/lang/StringBuilder" 50 ⟨"java/lang/AbstractStringBuilder", "append", "(C)Ljava/lang/AbstractStringBuilder;"⟩ ∈ gaW := gaW_t4 (List.mem_of_getElem? (i := 60) rfl) rfl
theorem ww_4_61 : Cond.instanceMethod ⟨"java/lang/AbstractStringBuilder", "append", "(C)Ljava/lang/AbstractStringBuilder;"⟩ ∈ gaW := gaW_t4 (List.mem_of_getElem? (i := 61) rfl) rfl
theorem ww_4_62 : Cond.code ⟨"java/lang/AbstractStringBuilder", "append", "(C)Ljava/lang/AbstractStringBuilder;"⟩ prog_10_method_31_code 2 (some (.object "java/lang/AbstractStringBuilder")) ∈ gaW := gaW_t4 (List.mem_of_getElem? (i := 62) rfl) rfl
theorem ww_4_63 : Cond.methodLink "java/lang/AbstractStringBuilder" 100 ⟨"java/lang/AbstractStringBuilder", "ensureCapacityInternal", "(I)V"⟩ ∈ gaW := gaW_t4 (List.mem_of_getElem? (i := 63) rfl) rfl
theorem ww_4_65 : Cond.instanceMethod ⟨"java/lang/AbstractStringBuilder", "ensureCapacityInternal", "(I)V"⟩ ∈ gaW := gaW_t4 (List.mem_of_getElem? (i := 65) rfl) rfl
theorem ww_4_66 : Cond.code ⟨"java/lang/AbstractStringBuilder", "ensureCapacityInternal", "(I)V"⟩ prog_10_method_9_code 3 (none : Option Jvm.ClassFile.FieldType) ∈ gaW := gaW_t4 (List.mem_of_getElem? (i := 66) rfl) rfl
theorem ww_4_67 : Cond.methodLink "java/lang/AbstractStringBuilder" 104 ⟨"java/lang/AbstractStringBuilder", "newCapacity", "(I)I"⟩ ∈ gaW := gaW_t4 (List.mem_of_getElem? (i := 67) rfl) rfl
theorem ww_4_69 : Cond.instanceMethod ⟨"java/lang/AbstractStringBuilder", "newCapacity", "(I)I"⟩ ∈ gaW := gaW_t4 (List.mem_of_getElem? (i := 69) rfl) rfl
theorem ww_4_70 : Cond.code ⟨"java/lang/AbstractStringBuilder", "newCapacity", "(I)I"⟩ prog_10_method_10_code 6 (some .int) ∈ gaW := gaW_t4 (List.mem_of_getElem? (i := 70) rfl) rfl
theorem ww_4_71 : Cond.methodLink "java/lang/AbstractStringBuilder" 114 ⟨"jdk/internal/util/ArraysSupport", "newLength", "(III)I"⟩ ∈ gaW := gaW_t4 (List.mem_of_getElem? (i := 71) rfl) rfl
theorem ww_4_72 : Cond.static ⟨"jdk/internal/util/ArraysSupport", "newLength", "(III)I"⟩ ∈ gaW := gaW_t4 (List.mem_of_getElem? (i := 72) rfl) rfl
theorem ww_4_73 : Cond.code ⟨"jdk/internal/util/ArraysSupport", "newLength", "(III)I"⟩ prog_26_method_27_code 4 (some .int) ∈ gaW := gaW_t4 (List.mem_of_getElem? (i := 73) rfl) rfl
theorem ww_4_74 : Cond.methodLink "jdk/internal/util/ArraysSupport" 194 ⟨"java/lang/Math", "max", "(II)I"⟩ ∈ gaW := gaW_t4 (List.mem_of_getElem? (i := 74) rfl) rfl
theorem ww_4_75 : Cond.constant "jdk/internal/util/ArraysSupport" 200 (2147483639) ∈ gaW := gaW_t4 (List.mem_of_getElem? (i := 75) rfl) rfl
theorem ww_4_79 : Cond.constant "java/lang/AbstractStringBuilder" 39 (2147483647) ∈ gaW := gaW_t4 (List.mem_of_getElem? (i := 79) rfl) rfl
theorem ww_4_80 : Cond.methodLink "java/lang/AbstractStringBuilder" 108 ⟨"java/util/Arrays", "copyOf", "([BI)[B"⟩ ∈ gaW := gaW_t4 (List.mem_of_getElem? (i := 80) rfl) rfl
theorem ww_4_81 : Cond.static ⟨"java/util/Arrays", "copyOf", "([BI)[B"⟩ ∈ gaW := gaW_t4 (List.mem_of_getElem? (i := 81) rfl) rfl
theorem ww_4_82 : Cond.code ⟨"java/util/Arrays", "copyOf", "([BI)[B"⟩ prog_25_method_121_code 3 (some (.array .byte)) ∈ gaW := gaW_t4 (List.mem_of_getElem? (i := 82) rfl) rfl
theorem ww_4_83 : Cond.methodLink "java/util/Arrays" 310 ⟨"[B", "clone", "()Ljava/lang/Object;"⟩ ∈ gaW := gaW_t4 (List.mem_of_getElem? (i := 83) rfl) rfl
theorem ww_4_84 : Cond.sameMethod "[B" "java/lang/Object" "clone" "()Ljava/lang/Object;" ∈ gaW := gaW_t4 (List.mem_of_getElem? (i := 84) rfl) rfl
theorem ww_4_85 : Cond.native ⟨"java/lang/Object", "clone", "()Ljava/lang/Object;"⟩ ∈ gaW := gaW_t4 (List.mem_of_getElem? (i := 85) rfl) rfl
theorem ww_4_86 : Cond.instanceMethod ⟨"java/lang/Object", "clone", "()Ljava/lang/Object;"⟩ ∈ gaW := gaW_t4 (List.mem_of_getElem? (i := 86) rfl) rfl
theorem ww_4_87 : Cond.selects "[B" ⟨"[B", "clone", "()Ljava/lang/Object;"⟩ ⟨"java/lang/Object", "clone", "()Ljava/lang/Object;"⟩ ∈ gaW := gaW_t4 (List.mem_of_getElem? (i := 87) rfl) rfl
theorem ww_4_89 : Cond.classLink "java/util/Arrays" 311 "[B" ∈ gaW := gaW_t4 (List.mem_of_getElem? (i := 89) rfl) rfl
theorem ww_4_90 : Cond.methodLink "java/util/Arrays" 304 ⟨"java/lang/Math", "min", "(II)I"⟩ ∈ gaW := gaW_t4 (List.mem_of_getElem? (i := 90) rfl) rfl
theorem ww_4_91 : Cond.methodLink "java/util/Arrays" 150 ⟨"java/lang/System", "arraycopy", "(Ljava/lang/Object;ILjava/lang/Object;II)V"⟩ ∈ gaW := gaW_t4 (List.mem_of_getElem? (i := 91) rfl) rfl
theorem ww_4_92 : Cond.static ⟨"java/lang/System", "arraycopy", "(Ljava/lang/Object;ILjava/lang/Object;II)V"⟩ ∈ gaW := gaW_t4 (List.mem_of_getElem? (i := 92) rfl) rfl
theorem ww_4_93 : Cond.native ⟨"java/lang/System", "arraycopy", "(Ljava/lang/Object;ILjava/lang/Object;II)V"⟩ ∈ gaW := gaW_t4 (List.mem_of_getElem? (i := 93) rfl) rfl
theorem ww_4_94 : Cond.methodLink "java/lang/AbstractStringBuilder" 83 ⟨"java/lang/AbstractStringBuilder", "isLatin1", "()Z"⟩ ∈ gaW := gaW_t4 (List.mem_of_getElem? (i := 94) rfl) rfl
theorem ww_4_95 : Cond.instanceMethod ⟨"java/lang/AbstractStringBuilder", "isLatin1", "()Z"⟩ ∈ gaW := gaW_t4 (List.mem_of_getElem? (i := 95) rfl) rfl
theorem ww_4_96 : Cond.sameMethod "java/lang/AbstractStringBuilder" "java/lang/AbstractStringBuilder" "isLatin1" "()Z" ∈ gaW := gaW_t4 (List.mem_of_getElem? (i := 96) rfl) rfl
theorem ww_4_97 : Cond.selects "java/lang/StringBuilder" ⟨"java/lang/AbstractStringBuilder", "isLatin1", "()Z"⟩ ⟨"java/lang/AbstractStringBuilder", "isLatin1", "()Z"⟩ ∈ gaW := gaW_t4 (List.mem_of_getElem? (i := 97) rfl) rfl
theorem ww_4_98 : Cond.code ⟨"java/lang/AbstractStringBuilder", "isLatin1", "()Z"⟩ prog_10_method_68_code 1 (some .boolean) ∈ gaW := gaW_t4 (List.mem_of_getElem? (i := 98) rfl) rfl
theorem ww_4_99 : Cond.methodLink "java/lang/AbstractStringBuilder" 191 ⟨"java/lang/StringLatin1", "canEncode", "(C)Z"⟩ ∈ gaW := gaW_t4 (List.mem_of_getElem? (i := 99) rfl) rfl
theorem ww_4_100 : Cond.static ⟨"java/lang/StringLatin1", "canEncode", "(C)Z"⟩ ∈ gaW := gaW_t4 (List.mem_of_getElem? (i := 100) rfl) rfl
theorem ww_4_101 : Cond.code ⟨"java/lang/StringLatin1", "canEncode", "(C)Z"⟩ prog_21_method_3_code 1 (some .boolean) ∈ gaW := gaW_t4 (List.mem_of_getElem? (i := 101) rfl) rfl
theorem ww_4_147 : Cond.methodLink "Wordgarden$Reading" 26 ⟨"java/lang/StringBuilder", "toString", "()Ljava/lang/String;"⟩ ∈ gaW := gaW_t4 (List.mem_of_getElem? (i := 147) rfl) rfl
theorem ww_4_148 : Cond.instanceMethod ⟨"java/lang/StringBuilder", "toString", "()Ljava/lang/String;"⟩ ∈ gaW := gaW_t4 (List.mem_of_getElem? (i := 148) rfl) rfl
theorem ww_4_149 : Cond.selects "java/lang/StringBuilder" ⟨"java/lang/StringBuilder", "toString", "()Ljava/lang/String;"⟩ ⟨"java/lang/StringBuilder", "toString", "()Ljava/lang/String;"⟩ ∈ gaW := gaW_t4 (List.mem_of_getElem? (i := 149) rfl) rfl
theorem ww_4_150 : Cond.code ⟨"java/lang/StringBuilder", "toString", "()Ljava/lang/String;"⟩ prog_20_method_42_code 1 (some (.object "java/lang/String")) ∈ gaW := gaW_t4 (List.mem_of_getElem? (i := 150) rfl) rfl
theorem ww_4_151 : Cond.classLink "java/lang/StringBuilder" 18 "java/lang/String" ∈ gaW := gaW_t4 (List.mem_of_getElem? (i := 151) rfl) rfl
theorem ww_4_152 : Cond.instantiable "java/lang/String" 4 ∈ gaW := gaW_t4 (List.mem_of_getElem? (i := 152) rfl) rfl
theorem ww_4_153 : Cond.methodLink "java/lang/StringBuilder" 137 ⟨"java/lang/String", "<init>", "(Ljava/lang/StringBuilder;)V"⟩ ∈ gaW := gaW_t4 (List.mem_of_getElem? (i := 153) rfl) rfl
theorem ww_4_154 : Cond.instanceMethod ⟨"java/lang/String", "<init>", "(Ljava/lang/StringBuilder;)V"⟩ ∈ gaW := gaW_t4 (List.mem_of_getElem? (i := 154) rfl) rfl
theorem ww_4_155 : Cond.code ⟨"java/lang/String", "<init>", "(Ljava/lang/StringBuilder;)V"⟩ prog_19_method_53_code 2 (none : Option Jvm.ClassFile.FieldType) ∈ gaW := gaW_t4 (List.mem_of_getElem? (i := 155) rfl) rfl
theorem ww_4_156 : Cond.methodLink "java/lang/String" 489 ⟨"java/lang/String", "<init>", "(Ljava/lang/AbstractStringBuilder;Ljava/lang/Void;)V"⟩ ∈ gaW := gaW_t4 (List.mem_of_getElem? (i := 156) rfl) rfl
theorem ww_4_157 : Cond.instanceMethod ⟨"java/lang/String", "<init>", "(Ljava/lang/AbstractStringBuilder;Ljava/lang/Void;)V"⟩ ∈ gaW := gaW_t4 (List.mem_of_getElem? (i := 157) rfl) rfl
theorem ww_4_158 : Cond.code ⟨"java/lang/String", "<init>", "(Ljava/lang/AbstractStringBuilder;Ljava/lang/Void;)V"⟩ prog_19_method_150_code 5 (none : Option Jvm.ClassFile.FieldType) ∈ gaW := gaW_t4 (List.mem_of_getElem? (i := 158) rfl) rfl
theorem ww_4_159 : Cond.methodLink "java/lang/String" 1 ⟨"java/lang/Object", "<init>", "()V"⟩ ∈ gaW := gaW_t4 (List.mem_of_getElem? (i := 159) rfl) rfl
theorem ww_4_160 : Cond.methodLink "java/lang/String" 552 ⟨"java/lang/AbstractStringBuilder", "getValue", "()[B"⟩ ∈ gaW := gaW_t4 (List.mem_of_getElem? (i := 160) rfl) rfl
theorem ww_4_161 : Cond.instanceMethod ⟨"java/lang/AbstractStringBuilder", "getValue", "()[B"⟩ ∈ gaW := gaW_t4 (List.mem_of_getElem? (i := 161) rfl) rfl
theorem ww_4_162 : Cond.sameMethod "java/lang/AbstractStringBuilder" "java/lang/AbstractStringBuilder" "getValue" "()[B" ∈ gaW := gaW_t4 (List.mem_of_getElem? (i := 162) rfl) rfl
theorem ww_4_163 : Cond.selects "java/lang/StringBuilder" ⟨"java/lang/AbstractStringBuilder", "getValue", "()[B"⟩ ⟨"java/lang/AbstractStringBuilder", "getValue", "()[B"⟩ ∈ gaW := gaW_t4 (List.mem_of_getElem? (i := 163) rfl) rfl
theorem ww_4_164 : Cond.code ⟨"java/lang/AbstractStringBuilder", "getValue", "()[B"⟩ prog_10_method_64_code 1 (some (.array .byte)) ∈ gaW := gaW_t4 (List.mem_of_getElem? (i := 164) rfl) rfl
theorem ww_4_165 : Cond.methodLink "java/lang/String" 549 ⟨"java/lang/AbstractStringBuilder", "length", "()I"⟩ ∈ gaW := gaW_t4 (List.mem_of_getElem? (i := 165) rfl) rfl
theorem ww_4_166 : Cond.instanceMethod ⟨"java/lang/AbstractStringBuilder", "length", "()I"⟩ ∈ gaW := gaW_t4 (List.mem_of_getElem? (i := 166) rfl) rfl
theorem ww_4_167 : Cond.sameMethod "java/lang/AbstractStringBuilder" "java/lang/AbstractStringBuilder" "length" "()I" ∈ gaW := gaW_t4 (List.mem_of_getElem? (i := 167) rfl) rfl
theorem ww_4_168 : Cond.selects "java/lang/StringBuilder" ⟨"java/lang/AbstractStringBuilder", "length", "()I"⟩ ⟨"java/lang/StringBuilder", "length", "()I"⟩ ∈ gaW := gaW_t4 (List.mem_of_getElem? (i := 168) rfl) rfl
theorem ww_4_169 : Cond.instanceMethod ⟨"java/lang/StringBuilder", "length", "()I"⟩ ∈ gaW := gaW_t4 (List.mem_of_getElem? (i := 169) rfl) rfl
theorem ww_4_170 : Cond.code ⟨"java/lang/StringBuilder", "length", "()I"⟩ prog_20_method_93_code 1 (some .int) ∈ gaW := gaW_t4 (List.mem_of_getElem? (i := 170) rfl) rfl
theorem ww_4_171 : Cond.methodLink "java/lang/StringBuilder" 343 ⟨"java/lang/AbstractStringBuilder", "length", "()I"⟩ ∈ gaW := gaW_t4 (List.mem_of_getElem? (i := 171) rfl) rfl
theorem ww_4_172 : Cond.code ⟨"java/lang/AbstractStringBuilder", "length", "()I"⟩ prog_10_method_6_code 1 (some .int) ∈ gaW := gaW_t4 (List.mem_of_getElem? (i := 172) rfl) rfl
theorem ww_4_173 : Cond.methodLink "java/lang/String" 1047 ⟨"java/lang/AbstractStringBuilder", "isLatin1", "()Z"⟩ ∈ gaW := gaW_t4 (List.mem_of_getElem? (i := 173) rfl) rfl
theorem ww_4_174 : Cond.methodLink "java/lang/String" 54 ⟨"java/util/Arrays", "copyOfRange", "([BII)[B"⟩ ∈ gaW := gaW_t4 (List.mem_of_getElem? (i := 174) rfl) rfl
theorem ww_4_175 : Cond.static ⟨"java/util/Arrays", "copyOfRange", "([BII)[B"⟩ ∈ gaW := gaW_t4 (List.mem_of_getElem? (i := 175) rfl) rfl
theorem ww_4_176 : Cond.code ⟨"java/util/Arrays", "copyOfRange", "([BII)[B"⟩ prog_25_method_132_code 3 (some (.array .byte)) ∈ gaW := gaW_t4 (List.mem_of_getElem? (i := 176) rfl) rfl
theorem ww_4_177 : Cond.methodLink "java/util/Arrays" 339 ⟨"java/util/Arrays", "copyOfRangeByte", "([BII)[B"⟩ ∈ gaW := gaW_t4 (List.mem_of_getElem? (i := 177) rfl) rfl
theorem ww_4_178 : Cond.static ⟨"java/util/Arrays", "copyOfRangeByte", "([BII)[B"⟩ ∈ gaW := gaW_t4 (List.mem_of_getElem? (i := 178) rfl) rfl
theorem ww_4_179 : Cond.code ⟨"java/util/Arrays", "copyOfRangeByte", "([BII)[B"⟩ prog_25_method_133_code 5 (some (.array .byte)) ∈ gaW := gaW_t4 (List.mem_of_getElem? (i := 179) rfl) rfl
theorem ww_4_180 : Cond.methodLink "java/util/Arrays" 343 ⟨"java/util/Arrays", "checkLength", "(II)V"⟩ ∈ gaW := gaW_t4 (List.mem_of_getElem? (i := 180) rfl) rfl
theorem ww_4_181 : Cond.static ⟨"java/util/Arrays", "checkLength", "(II)V"⟩ ∈ gaW := gaW_t4 (List.mem_of_getElem? (i := 181) rfl) rfl
theorem ww_4_182 : Cond.code ⟨"java/util/Arrays", "checkLength", "(II)V"⟩ prog_25_method_131_code 2 (none : Option Jvm.ClassFile.FieldType) ∈ gaW := gaW_t4 (List.mem_of_getElem? (i := 182) rfl) rfl
theorem ww_4_187 : Cond.instanceMethod ⟨"java/lang/StringBuilder", "append", "(I)Ljava/lang/StringBuilder;"⟩ ∈ gaW := gaW_t4 (List.mem_of_getElem? (i := 187) rfl) rfl
theorem ww_4_188 : Cond.selects "java/lang/StringBuilder" ⟨"java/lang/StringBuilder", "append", "(I)Ljava/lang/StringBuilder;"⟩ ⟨"java/lang/StringBuilder", "append", "(I)Ljava/lang/StringBuilder;"⟩ ∈ gaW := gaW_t4 (List.mem_of_getElem? (i := 188) rfl) rfl
theorem ww_4_189 : Cond.code ⟨"java/lang/StringBuilder", "append", "(I)Ljava/lang/StringBuilder;"⟩ prog_20_method_15_code 2 (some (.object "java/lang/StringBuilder")) ∈ gaW := gaW_t4 (List.mem_of_getElem? (i := 189) rfl) rfl
theorem ww_4_190 : Cond.methodLink "java/lang/StringBuilder" 53 ⟨"java/lang/AbstractStringBuilder", "append", "(I)Ljava/lang/AbstractStringBuilder;"⟩ ∈ gaW := gaW_t4 (List.mem_of_getElem? (i := 190) rfl) rfl
theorem ww_4_191 : Cond.instanceMethod ⟨"java/lang/AbstractStringBuilder", "append", "(I)Ljava/lang/AbstractStringBuilder;"⟩ ∈ gaW := gaW_t4 (List.mem_of_getElem? (i := 191) rfl) rfl
theorem ww_4_192 : Cond.code ⟨"java/lang/AbstractStringBuilder", "append", "(I)Ljava/lang/AbstractStringBuilder;"⟩ prog_10_method_32_code 4 (some (.object "java/lang/AbstractStringBuilder")) ∈ gaW := gaW_t4 (List.mem_of_getElem? (i := 192) rfl) rfl
theorem ww_4_193 : Cond.methodLink "java/lang/AbstractStringBuilder" 245 ⟨"java/lang/Integer", "stringSize", "(I)I"⟩ ∈ gaW := gaW_t4 (List.mem_of_getElem? (i := 193) rfl) rfl
theorem ww_4_194 : Cond.static ⟨"java/lang/Integer", "stringSize", "(I)I"⟩ ∈ gaW := gaW_t4 (List.mem_of_getElem? (i := 194) rfl) rfl
theorem ww_4_195 : Cond.code ⟨"java/lang/Integer", "stringSize", "(I)I"⟩ prog_16_method_13_code 4 (some .int) ∈ gaW := gaW_t4 (List.mem_of_getElem? (i := 195) rfl) rfl
theorem ww_4_196 : Cond.methodLink "java/lang/AbstractStringBuilder" 248 ⟨"java/lang/Integer", "getChars", "(II[B)I"⟩ ∈ gaW := gaW_t4 (List.mem_of_getElem? (i := 196) rfl) rfl
theorem ww_4_197 : Cond.static ⟨"java/lang/Integer", "getChars", "(II[B)I"⟩ ∈ gaW := gaW_t4 (List.mem_of_getElem? (i := 197) rfl) rfl
theorem ww_4_198 : Cond.code ⟨"java/lang/Integer", "getChars", "(II[B)I"⟩ prog_16_method_12_code 7 (some .int) ∈ gaW := gaW_t4 (List.mem_of_getElem? (i := 198) rfl) rfl
theorem ww_4_199 : Cond.fieldLink "java/lang/Integer" 83 "java/lang/Integer" "DigitOnes" "[B" ∈ gaW := gaW_t4 (List.mem_of_getElem? (i := 199) rfl) rfl
theorem ww_4_201 : Cond.fieldLink "java/lang/Integer" 87 "java/lang/Integer" "DigitTens" "[B" ∈ gaW := gaW_t4 (List.mem_of_getElem? (i := 201) rfl) rfl
theorem ww_5_3 : Cond.fieldLink "java/lang/String" 38 "java/lang/String" "COMPACT_STRINGS" "Z" ∈ gaW := gaW_t5 (List.mem_of_getElem? (i := 3) rfl) rfl
theorem ww_5_34 : Cond.fieldLink "java/lang/String" 9 "java/lang/String" "value" "[B" ∈ gaW := gaW_t5 (List.mem_of_getElem? (i := 34) rfl) rfl
theorem ww_5_35 : Cond.fieldLink "java/lang/String" 15 "java/lang/String" "coder" "B" ∈ gaW := gaW_t5 (List.mem_of_getElem? (i := 35) rfl) rfl
theorem ww_5_36 : Cond.laysFinal "java/lang/String" "java/lang/String" "value" "[B" ∈ gaW := gaW_t5 (List.mem_of_getElem? (i := 36) rfl) rfl
theorem ww_5_38 : Cond.laysFinal "java/lang/String" "java/lang/String" "coder" "B" ∈ gaW := gaW_t5 (List.mem_of_getElem? (i := 38) rfl) rfl
theorem ww_5_40 : Cond.lays "java/lang/String" "java/lang/String" "hash" "I" ∈ gaW := gaW_t5 (List.mem_of_getElem? (i := 40) rfl) rfl
theorem ww_5_42 : Cond.lays "java/lang/String" "java/lang/String" "hashIsZero" "Z" ∈ gaW := gaW_t5 (List.mem_of_getElem? (i := 42) rfl) rfl
theorem ww_5_45 : Cond.methodLink "WordgardenLaw" 261 ⟨"WordgardenLaw", "count", "(LWordgarden;IZLWordgardenLaw$Out;)I"⟩ ∈ gaW := gaW_t5 (List.mem_of_getElem? (i := 45) rfl) rfl
theorem ww_5_46 : Cond.static ⟨"WordgardenLaw", "count", "(LWordgarden;IZLWordgardenLaw$Out;)I"⟩ ∈ gaW := gaW_t5 (List.mem_of_getElem? (i := 46) rfl) rfl
theorem ww_5_47 : Cond.codeWith ⟨"WordgardenLaw", "count", "(LWordgarden;IZLWordgardenLaw$Out;)I"⟩ method_26_code 5 (some .int) [(0, 11, 14, 19)] ∈ gaW := gaW_t5 (List.mem_of_getElem? (i := 47) rfl) rfl
theorem ww_5_48 : Cond.methodLink "WordgardenLaw" 104 ⟨"Wordgarden", "count", "(IZ)I"⟩ ∈ gaW := gaW_t5 (List.mem_of_getElem? (i := 48) rfl) rfl
theorem ww_5_49 : Cond.methodLink "WordgardenLaw" 265 ⟨"WordgardenLaw", "find", "(LWordgarden;IIILWordgardenLaw$Out;)I"⟩ ∈ gaW := gaW_t5 (List.mem_of_getElem? (i := 49) rfl) rfl
theorem ww_5_50 : Cond.static ⟨"WordgardenLaw", "find", "(LWordgarden;IIILWordgardenLaw$Out;)I"⟩ ∈ gaW := gaW_t5 (List.mem_of_getElem? (i := 50) rfl) rfl
theorem ww_5_51 : Cond.codeWith ⟨"WordgardenLaw", "find", "(LWordgarden;IIILWordgardenLaw$Out;)I"⟩ method_27_code 6 (some .int) [(0, 13, 16, 19)] ∈ gaW := gaW_t5 (List.mem_of_getElem? (i := 51) rfl) rfl
theorem ww_5_52 : Cond.methodLink "WordgardenLaw" 108 ⟨"Wordgarden", "find", "(III)I"⟩ ∈ gaW := gaW_t5 (List.mem_of_getElem? (i := 52) rfl) rfl
theorem ww_5_53 : Cond.instanceMethod ⟨"Wordgarden", "find", "(III)I"⟩ ∈ gaW := gaW_t5 (List.mem_of_getElem? (i := 53) rfl) rfl
theorem ww_5_54 : Cond.selects "Wordgarden" ⟨"Wordgarden", "find", "(III)I"⟩ ⟨"Wordgarden", "find", "(III)I"⟩ ∈ gaW := gaW_t5 (List.mem_of_getElem? (i := 54) rfl) rfl
theorem ww_5_55 : Cond.code ⟨"Wordgarden", "find", "(III)I"⟩ prog_1_method_27_code 7 (some .int) ∈ gaW := gaW_t5 (List.mem_of_getElem? (i := 55) rfl) rfl
theorem ww_5_56 : Cond.methodLink "Wordgarden" 191 ⟨"Wordgarden$Reading", "standsAt", "(LWordgarden$Word;ILWordgarden$Word;)Z"⟩ ∈ gaW := gaW_t5 (List.mem_of_getElem? (i := 56) rfl) rfl
theorem ww_5_57 : Cond.methodLink "WordgardenLaw" 268 ⟨"WordgardenLaw", "findLast", "(LWordgarden;IIILWordgardenLaw$Out;)I"⟩ ∈ gaW := gaW_t5 (List.mem_of_getElem? (i := 57) rfl) rfl
theorem ww_5_58 : Cond.static ⟨"WordgardenLaw", "findLast", "(LWordgarden;IIILWordgardenLaw$Out;)I"⟩ ∈ gaW := gaW_t5 (List.mem_of_getElem? (i := 58) rfl) rfl
theorem ww_5_59 : Cond.codeWith ⟨"WordgardenLaw", "findLast", "(LWordgarden;IIILWordgardenLaw$Out;)I"⟩ method_28_code 6 (some .int) [(0, 13, 16, 19)] ∈ gaW := gaW_t5 (List.mem_of_getElem? (i := 59) rfl) rfl
theorem ww_5_60 : Cond.methodLink "WordgardenLaw" 111 ⟨"Wordgarden", "findLast", "(III)I"⟩ ∈ gaW := gaW_t5 (List.mem_of_getElem? (i := 60) rfl) rfl
theorem ww_5_61 : Cond.instanceMethod ⟨"Wordgarden", "findLast", "(III)I"⟩ ∈ gaW := gaW_t5 (List.mem_of_getElem? (i := 61) rfl) rfl
theorem ww_5_62 : Cond.selects "Wordgarden" ⟨"Wordgarden", "findLast", "(III)I"⟩ ⟨"Wordgarden", "findLast", "(III)I"⟩ ∈ gaW := gaW_t5 (List.mem_of_getElem? (i := 62) rfl) rfl
theorem ww_5_63 : Cond.code ⟨"Wordgarden", "findLast", "(III)I"⟩ prog_1_method_28_code 7 (some .int) ∈ gaW := gaW_t5 (List.mem_of_getElem? (i := 63) rfl) rfl
theorem ww_5_64 : Cond.methodLink "WordgardenLaw" 271 ⟨"WordgardenLaw", "order", "(LWordgarden;IILWordgardenLaw$Out;)I"⟩ ∈ gaW := gaW_t5 (List.mem_of_getElem? (i := 64) rfl) rfl
theorem ww_5_65 : Cond.static ⟨"WordgardenLaw", "order", "(LWordgarden;IILWordgardenLaw$Out;)I"⟩ ∈ gaW := gaW_t5 (List.mem_of_getElem? (i := 65) rfl) rfl
theorem ww_5_66 : Cond.codeWith ⟨"WordgardenLaw", "order", "(LWordgarden;IILWordgardenLaw$Out;)I"⟩ method_29_code 5 (some .int) [(0, 11, 14, 19)] ∈ gaW := gaW_t5 (List.mem_of_getElem? (i := 66) rfl) rfl
theorem ww_5_67 : Cond.methodLink "WordgardenLaw" 114 ⟨"Wordgarden", "order", "(II)I"⟩ ∈ gaW := gaW_t5 (List.mem_of_getElem? (i := 67) rfl) rfl
theorem ww_5_68 : Cond.instanceMethod ⟨"Wordgarden", "order", "(II)I"⟩ ∈ gaW := gaW_t5 (List.mem_of_getElem? (i := 68) rfl) rfl
theorem ww_5_69 : Cond.selects "Wordgarden" ⟨"Wordgarden", "order", "(II)I"⟩ ⟨"Wordgarden", "order", "(II)I"⟩ ∈ gaW := gaW_t5 (List.mem_of_getElem? (i := 69) rfl) rfl
theorem ww_5_70 : Cond.code ⟨"Wordgarden", "order", "(II)I"⟩ prog_1_method_29_code 3 (some .int) ∈ gaW := gaW_t5 (List.mem_of_getElem? (i := 70) rfl) rfl
theorem ww_5_71 : Cond.methodLink "WordgardenLaw" 274 ⟨"WordgardenLaw", "isMirrored", "(LWordgarden;ILWordgardenLaw$Out;)I"⟩ ∈ gaW := gaW_t5 (List.mem_of_getElem? (i := 71) rfl) rfl
theorem ww_5_72 : Cond.static ⟨"WordgardenLaw", "isMirrored", "(LWordgarden;ILWordgardenLaw$Out;)I"⟩ ∈ gaW := gaW_t5 (List.mem_of_getElem? (i := 72) rfl) rfl
theorem ww_5_73 : Cond.codeWith ⟨"WordgardenLaw", "isMirrored", "(LWordgarden;ILWordgardenLaw$Out;)I"⟩ method_30_code 4 (some .int) [(0, 17, 20, 19)] ∈ gaW := gaW_t5 (List.mem_of_getElem? (i := 73) rfl) rfl
theorem ww_5_74 : Cond.methodLink "WordgardenLaw" 117 ⟨"Wordgarden", "isMirrored", "(I)Z"⟩ ∈ gaW := gaW_t5 (List.mem_of_getElem? (i := 74) rfl) rfl
theorem ww_5_75 : Cond.methodLink "WordgardenLaw" 277 ⟨"WordgardenLaw", "spread", "(LWordgarden;IIZLWordgardenLaw$Out;)I"⟩ ∈ gaW := gaW_t5 (List.mem_of_getElem? (i := 75) rfl) rfl
theorem ww_5_76 : Cond.static ⟨"WordgardenLaw", "spread", "(LWordgarden;IIZLWordgardenLaw$Out;)I"⟩ ∈ gaW := gaW_t5 (List.mem_of_getElem? (i := 76) rfl) rfl
theorem ww_5_77 : Cond.codeWith ⟨"WordgardenLaw", "spread", "(LWordgarden;IIZLWordgardenLaw$Out;)I"⟩ method_31_code 6 (some .int) [(0, 13, 16, 19), (0, 13, 20, 21)] ∈ gaW := gaW_t5 (List.mem_of_getElem? (i := 77) rfl) rfl
theorem ww_5_78 : Cond.methodLink "WordgardenLaw" 121 ⟨"Wordgarden", "spread", "(IIZ)I"⟩ ∈ gaW := gaW_t5 (List.mem_of_getElem? (i := 78) rfl) rfl
theorem ww_5_79 : Cond.instanceMethod ⟨"Wordgarden", "spread", "(IIZ)I"⟩ ∈ gaW := gaW_t5 (List.mem_of_getElem? (i := 79) rfl) rfl
theorem ww_5_80 : Cond.selects "Wordgarden" ⟨"Wordgarden", "spread", "(IIZ)I"⟩ ⟨"Wordgarden", "spread", "(IIZ)I"⟩ ∈ gaW := gaW_t5 (List.mem_of_getElem? (i := 80) rfl) rfl
theorem ww_5_81 : Cond.code ⟨"Wordgarden", "spread", "(IIZ)I"⟩ prog_1_method_31_code 5 (some .int) ∈ gaW := gaW_t5 (List.mem_of_getElem? (i := 81) rfl) rfl
theorem ww_5_82 : Cond.methodLink "Wordgarden" 202 ⟨"Wordgarden$Reading", "spreadOf", "(LWordgarden$Word;IZ)I"⟩ ∈ gaW := gaW_t5 (List.mem_of_getElem? (i := 82) rfl) rfl
theorem ww_5_83 : Cond.static ⟨"Wordgarden$Reading", "spreadOf", "(LWordgarden$Word;IZ)I"⟩ ∈ gaW := gaW_t5 (List.mem_of_getElem? (i := 83) rfl) rfl
theorem ww_5_84 : Cond.code ⟨"Wordgarden$Reading", "spreadOf", "(LWordgarden$Word;IZ)I"⟩ prog_3_method_11_code 8 (some .int) ∈ gaW := gaW_t5 (List.mem_of_getElem? (i := 84) rfl) rfl
theorem ww_5_85 : Cond.methodLink "Wordgarden$Reading" 50 ⟨"Wordgarden$Reading", "beginnings", "(LWordgarden$Word;IZ)I"⟩ ∈ gaW := gaW_t5 (List.mem_of_getElem? (i := 85) rfl) rfl
theorem ww_5_86 : Cond.static ⟨"Wordgarden$Reading", "beginnings", "(LWordgarden$Word;IZ)I"⟩ ∈ gaW := gaW_t5 (List.mem_of_getElem? (i := 86) rfl) rfl
theorem ww_5_87 : Cond.code ⟨"Wordgarden$Reading", "beginnings", "(LWordgarden$Word;IZ)I"⟩ prog_3_method_10_code 3 (some .int) ∈ gaW := gaW_t5 (List.mem_of_getElem? (i := 87) rfl) rfl
theorem ww_5_88 : Cond.methodLink "Wordgarden$Reading" 54 ⟨"Wordgarden$Reading", "upsInPart", "(LWordgarden$Word;II)I"⟩ ∈ gaW := gaW_t5 (List.mem_of_getElem? (i := 88) rfl) rfl
theorem ww_5_89 : Cond.methodLink "WordgardenLaw" 280 ⟨"WordgardenLaw", "kinds", "(LWordgarden;IIZLWordgardenLaw$Out;)I"⟩ ∈ gaW := gaW_t5 (List.mem_of_getElem? (i := 89) rfl) rfl
theorem ww_5_90 : Cond.static ⟨"WordgardenLaw", "kinds", "(LWordgarden;IIZLWordgardenLaw$Out;)I"⟩ ∈ gaW := gaW_t5 (List.mem_of_getElem? (i := 90) rfl) rfl
theorem ww_5_91 : Cond.codeWith ⟨"WordgardenLaw", "kinds", "(LWordgarden;IIZLWordgardenLaw$Out;)I"⟩ method_32_code 6 (some .int) [(0, 13, 16, 19), (0, 13, 20, 21)] ∈ gaW := gaW_t5 (List.mem_of_getElem? (i := 91) rfl) rfl
theorem ww_5_92 : Cond.methodLink "WordgardenLaw" 124 ⟨"Wordgarden", "kinds", "(IIZ)I"⟩ ∈ gaW := gaW_t5 (List.mem_of_getElem? (i := 92) rfl) rfl
theorem ww_5_93 : Cond.instanceMethod ⟨"Wordgarden", "kinds", "(IIZ)I"⟩ ∈ gaW := gaW_t5 (List.mem_of_getElem? (i := 93) rfl) rfl
theorem ww_5_94 : Cond.selects "Wordgarden" ⟨"Wordgarden", "kinds", "(IIZ)I"⟩ ⟨"Wordgarden", "kinds", "(IIZ)I"⟩ ∈ gaW := gaW_t5 (List.mem_of_getElem? (i := 94) rfl) rfl
theorem ww_5_95 : Cond.code ⟨"Wordgarden", "kinds", "(IIZ)I"⟩ prog_1_method_32_code 5 (some .int) ∈ gaW := gaW_t5 (List.mem_of_getElem? (i := 95) rfl) rfl
theorem ww_5_96 : Cond.methodLink "Wordgarden" 206 ⟨"Wordgarden$Reading", "kindsOf", "(LWordgarden$Word;IZ)I"⟩ ∈ gaW := gaW_t5 (List.mem_of_getElem? (i := 96) rfl) rfl
theorem ww_5_97 : Cond.static ⟨"Wordgarden$Reading", "kindsOf", "(LWordgarden$Word;IZ)I"⟩ ∈ gaW := gaW_t5 (List.mem_of_getElem? (i := 97) rfl) rfl
theorem ww_5_98 : Cond.code ⟨"Wordgarden$Reading", "kindsOf", "(LWordgarden$Word;IZ)I"⟩ prog_3_method_13_code 6 (some .int) ∈ gaW := gaW_t5 (List.mem_of_getElem? (i := 98) rfl) rfl
theorem ww_5_99 : Cond.methodLink "Wordgarden$Reading" 62 ⟨"Wordgarden$Reading", "isReadEarlier", "(LWordgarden$Word;II)Z"⟩ ∈ gaW := gaW_t5 (List.mem_of_getElem? (i := 99) rfl) rfl
theorem ww_5_100 : Cond.static ⟨"Wordgarden$Reading", "isReadEarlier", "(LWordgarden$Word;II)Z"⟩ ∈ gaW := gaW_t5 (List.mem_of_getElem? (i := 100) rfl) rfl
theorem ww_5_101 : Cond.code ⟨"Wordgarden$Reading", "isReadEarlier", "(LWordgarden$Word;II)Z"⟩ prog_3_method_12_code 4 (some .boolean) ∈ gaW := gaW_t5 (List.mem_of_getElem? (i := 101) rfl) rfl
theorem ww_5_102 : Cond.methodLink "WordgardenLaw" 283 ⟨"WordgardenLaw", "times", "(LWordgarden;ILWordgardenLaw$Out;)I"⟩ ∈ gaW := gaW_t5 (List.mem_of_getElem? (i := 102) rfl) rfl
theorem ww_5_103 : Cond.static ⟨"WordgardenLaw", "times", "(LWordgarden;ILWordgardenLaw$Out;)I"⟩ ∈ gaW := gaW_t5 (List.mem_of_getElem? (i := 103) rfl) rfl
theorem ww_5_104 : Cond.codeWith ⟨"WordgardenLaw", "times", "(LWordgarden;ILWordgardenLaw$Out;)I"⟩ method_33_code 4 (some .int) [(0, 10, 13, 19)] ∈ gaW := gaW_t5 (List.mem_of_getElem? (i := 104) rfl) rfl
theorem ww_5_105 : Cond.methodLink "WordgardenLaw" 127 ⟨"Wordgarden", "times", "(I)I"⟩ ∈ gaW := gaW_t5 (List.mem_of_getElem? (i := 105) rfl) rfl
theorem ww_5_106 : Cond.methodLink "WordgardenLaw" 286 ⟨"WordgardenLaw", "overlaps", "(LWordgarden;ILWordgardenLaw$Out;)I"⟩ ∈ gaW := gaW_t5 (List.mem_of_getElem? (i := 106) rfl) rfl
theorem ww_5_107 : Cond.static ⟨"WordgardenLaw", "overlaps", "(LWordgarden;ILWordgardenLaw$Out;)I"⟩ ∈ gaW := gaW_t5 (List.mem_of_getElem? (i := 107) rfl) rfl
theorem ww_5_108 : Cond.codeWith ⟨"WordgardenLaw", "overlaps", "(LWordgarden;ILWordgardenLaw$Out;)I"⟩ method_34_code 4 (some .int) [(0, 10, 13, 19)] ∈ gaW := gaW_t5 (List.mem_of_getElem? (i := 108) rfl) rfl
theorem ww_5_109 : Cond.methodLink "WordgardenLaw" 130 ⟨"Wordgarden", "overlaps", "(I)I"⟩ ∈ gaW := gaW_t5 (List.mem_of_getElem? (i := 109) rfl) rfl
theorem ww_5_110 : Cond.methodLink "WordgardenLaw" 289 ⟨"WordgardenLaw", "mirrors", "(LWordgarden;ILWordgardenLaw$Out;)I"⟩ ∈ gaW := gaW_t5 (List.mem_of_getElem? (i := 110) rfl) rfl
theorem ww_5_111 : Cond.static ⟨"WordgardenLaw", "mirrors", "(LWordgarden;ILWordgardenLaw$Out;)I"⟩ ∈ gaW := gaW_t5 (List.mem_of_getElem? (i := 111) rfl) rfl
theorem ww_5_112 : Cond.codeWith ⟨"WordgardenLaw", "mirrors", "(LWordgarden;ILWordgardenLaw$Out;)I"⟩ method_35_code 4 (some .int) [(0, 10, 13, 19)] ∈ gaW := gaW_t5 (List.mem_of_getElem? (i := 112) rfl) rfl
theorem ww_5_113 : Cond.methodLink "WordgardenLaw" 133 ⟨"Wordgarden", "mirrors", "(I)I"⟩ ∈ gaW := gaW_t5 (List.mem_of_getElem? (i := 113) rfl) rfl
theorem ww_5_114 : Cond.instanceMethod ⟨"Wordgarden", "mirrors", "(I)I"⟩ ∈ gaW := gaW_t5 (List.mem_of_getElem? (i := 114) rfl) rfl
theorem ww_5_115 : Cond.selects "Wordgarden" ⟨"Wordgarden", "mirrors", "(I)I"⟩ ⟨"Wordgarden", "mirrors", "(I)I"⟩ ∈ gaW := gaW_t5 (List.mem_of_getElem? (i := 115) rfl) rfl
theorem ww_5_116 : Cond.code ⟨"Wordgarden", "mirrors", "(I)I"⟩ prog_1_method_35_code 2 (some .int) ∈ gaW := gaW_t5 (List.mem_of_getElem? (i := 116) rfl) rfl
theorem ww_5_117 : Cond.methodLink "Wordgarden" 215 ⟨"Wordgarden$Reading", "mirrorsOf", "(LWordgarden$Word;)I"⟩ ∈ gaW := gaW_t5 (List.mem_of_getElem? (i := 117) rfl) rfl
theorem ww_5_118 : Cond.static ⟨"Wordgarden$Reading", "mirrorsOf", "(LWordgarden$Word;)I"⟩ ∈ gaW := gaW_t5 (List.mem_of_getElem? (i := 118) rfl) rfl
theorem ww_5_119 : Cond.code ⟨"Wordgarden$Reading", "mirrorsOf", "(LWordgarden$Word;)I"⟩ prog_3_method_18_code 4 (some .int) ∈ gaW := gaW_t5 (List.mem_of_getElem? (i := 119) rfl) rfl
theorem ww_5_120 : Cond.methodLink "WordgardenLaw" 292 ⟨"WordgardenLaw", "folds", "(LWordgarden;ILWordgardenLaw$Out;)I"⟩ ∈ gaW := gaW_t5 (List.mem_of_getElem? (i := 120) rfl) rfl
theorem ww_5_121 : Cond.static ⟨"WordgardenLaw", "folds", "(LWordgarden;ILWordgardenLaw$Out;)I"⟩ ∈ gaW := gaW_t5 (List.mem_of_getElem? (i := 121) rfl) rfl
theorem ww_5_122 : Cond.codeWith ⟨"WordgardenLaw", "folds", "(LWordgarden;ILWordgardenLaw$Out;)I"⟩ method_36_code 4 (some .int) [(0, 10, 13, 19)] ∈ gaW := gaW_t5 (List.mem_of_getElem? (i := 122) rfl) rfl
theorem ww_5_123 : Cond.methodLink "WordgardenLaw" 136 ⟨"Wordgarden", "folds", "(I)I"⟩ ∈ gaW := gaW_t5 (List.mem_of_getElem? (i := 123) rfl) rfl
theorem ww_5_124 : Cond.methodLink "WordgardenLaw" 295 ⟨"WordgardenLaw", "least", "(LWordgarden;ILWordgardenLaw$Out;)I"⟩ ∈ gaW := gaW_t5 (List.mem_of_getElem? (i := 124) rfl) rfl
theorem ww_5_125 : Cond.static ⟨"WordgardenLaw", "least", "(LWordgarden;ILWordgardenLaw$Out;)I"⟩ ∈ gaW := gaW_t5 (List.mem_of_getElem? (i := 125) rfl) rfl
theorem ww_5_126 : Cond.codeWith ⟨"WordgardenLaw", "least", "(LWordgarden;ILWordgardenLaw$Out;)I"⟩ method_37_code 4 (some .int) [(0, 10, 13, 19)] ∈ gaW := gaW_t5 (List.mem_of_getElem? (i := 126) rfl) rfl
theorem ww_5_127 : Cond.methodLink "WordgardenLaw" 139 ⟨"Wordgarden", "least", "(I)I"⟩ ∈ gaW := gaW_t5 (List.mem_of_getElem? (i := 127) rfl) rfl
theorem ww_5_128 : Cond.methodLink "WordgardenLaw" 298 ⟨"WordgardenLaw", "isApart", "(LWordgarden;IILWordgardenLaw$Out;)I"⟩ ∈ gaW := gaW_t5 (List.mem_of_getElem? (i := 128) rfl) rfl
theorem ww_5_129 : Cond.static ⟨"WordgardenLaw", "isApart", "(LWordgarden;IILWordgardenLaw$Out;)I"⟩ ∈ gaW := gaW_t5 (List.mem_of_getElem? (i := 129) rfl) rfl
theorem ww_5_130 : Cond.codeWith ⟨"WordgardenLaw", "isApart", "(LWordgarden;IILWordgardenLaw$Out;)I"⟩ method_38_code 5 (some .int) [(0, 18, 21, 21)] ∈ gaW := gaW_t5 (List.mem_of_getElem? (i := 130) rfl) rfl
theorem ww_5_131 : Cond.methodLink "WordgardenLaw" 142 ⟨"Wordgarden", "isApart", "(II)Z"⟩ ∈ gaW := gaW_t5 (List.mem_of_getElem? (i := 131) rfl) rfl
theorem ww_5_132 : Cond.instanceMethod ⟨"Wordgarden", "isApart", "(II)Z"⟩ ∈ gaW := gaW_t5 (List.mem_of_getElem? (i := 132) rfl) rfl
theorem ww_5_133 : Cond.selects "Wordgarden" ⟨"Wordgarden", "isApart", "(II)Z"⟩ ⟨"Wordgarden", "isApart", "(II)Z"⟩ ∈ gaW := gaW_t5 (List.mem_of_getElem? (i := 133) rfl) rfl
theorem ww_5_134 : Cond.code ⟨"Wordgarden", "isApart", "(II)Z"⟩ prog_1_method_38_code 3 (some .boolean) ∈ gaW := gaW_t5 (List.mem_of_getElem? (i := 134) rfl) rfl
theorem ww_5_135 : Cond.methodLink "WordgardenLaw" 301 ⟨"WordgardenLaw", "turns", "(LWordgarden;ILWordgardenLaw$Out;)I"⟩ ∈ gaW := gaW_t5 (List.mem_of_getElem? (i := 135) rfl) rfl
theorem ww_5_136 : Cond.static ⟨"WordgardenLaw", "turns", "(LWordgarden;ILWordgardenLaw$Out;)I"⟩ ∈ gaW := gaW_t5 (List.mem_of_getElem? (i := 136) rfl) rfl
theorem ww_5_137 : Cond.codeWith ⟨"WordgardenLaw", "turns", "(LWordgarden;ILWordgardenLaw$Out;)I"⟩ method_39_code 4 (some .int) [(0, 9, 12, 19)] ∈ gaW := gaW_t5 (List.mem_of_getElem? (i := 137) rfl) rfl
theorem ww_5_138 : Cond.methodLink "WordgardenLaw" 145 ⟨"Wordgarden", "turns", "(I)Ljava/lang/String;"⟩ ∈ gaW := gaW_t5 (List.mem_of_getElem? (i := 138) rfl) rfl
theorem ww_5_139 : Cond.instanceMethod ⟨"Wordgarden", "turns", "(I)Ljava/lang/String;"⟩ ∈ gaW := gaW_t5 (List.mem_of_getElem? (i := 139) rfl) rfl
theorem ww_5_140 : Cond.selects "Wordgarden" ⟨"Wordgarden", "turns", "(I)Ljava/lang/String;"⟩ ⟨"Wordgarden", "turns", "(I)Ljava/lang/String;"⟩ ∈ gaW := gaW_t5 (List.mem_of_getElem? (i := 140) rfl) rfl
theorem ww_5_141 : Cond.code ⟨"Wordgarden", "turns", "(I)Ljava/lang/String;"⟩ prog_1_method_39_code 5 (some (.object "java/lang/String")) ∈ gaW := gaW_t5 (List.mem_of_getElem? (i := 141) rfl) rfl
theorem ww_5_142 : Cond.classLink "Wordgarden" 224 "java/lang/StringBuilder" ∈ gaW := gaW_t5 (List.mem_of_getElem? (i := 142) rfl) rfl
theorem ww_5_143 : Cond.methodLink "Wordgarden" 226 ⟨"java/lang/StringBuilder", "<init>", "()V"⟩ ∈ gaW := gaW_t5 (List.mem_of_getElem? (i := 143) rfl) rfl
theorem ww_5_144 : Cond.methodLink "Wordgarden" 230 ⟨"java/lang/StringBuilder", "append", "(I)Ljava/lang/StringBuilder;"⟩ ∈ gaW := gaW_t5 (List.mem_of_getElem? (i := 144) rfl) rfl
theorem ww_5_145 : Cond.methodLink "Wordgarden" 234 ⟨"java/lang/StringBuilder", "toString", "()Ljava/lang/String;"⟩ ∈ gaW := gaW_t5 (List.mem_of_getElem? (i := 145) rfl) rfl
theorem ww_5_146 : Cond.methodLink "WordgardenLaw" 304 ⟨"WordgardenLaw", "grown", "(LWordgarden;IZLWordgardenLaw$Out;)I"⟩ ∈ gaW := gaW_t5 (List.mem_of_getElem? (i := 146) rfl) rfl
theorem ww_5_147 : Cond.static ⟨"WordgardenLaw", "grown", "(LWordgarden;IZLWordgardenLaw$Out;)I"⟩ ∈ gaW := gaW_t5 (List.mem_of_getElem? (i := 147) rfl) rfl
theorem ww_5_148 : Cond.codeWith ⟨"WordgardenLaw", "grown", "(LWordgarden;IZLWordgardenLaw$Out;)I"⟩ method_40_code 5 (some .int) [(0, 10, 13, 19)] ∈ gaW := gaW_t5 (List.mem_of_getElem? (i := 148) rfl) rfl
theorem ww_5_149 : Cond.methodLink "WordgardenLaw" 148 ⟨"Wordgarden", "grown", "(IZ)Ljava/lang/String;"⟩ ∈ gaW := gaW_t5 (List.mem_of_getElem? (i := 149) rfl) rfl
theorem ww_5_150 : Cond.instanceMethod ⟨"Wordgarden", "grown", "(IZ)Ljava/lang/String;"⟩ ∈ gaW := gaW_t5 (List.mem_of_getElem? (i := 150) rfl) rfl
theorem ww_5_151 : Cond.selects "Wordgarden" ⟨"Wordgarden", "grown", "(IZ)Ljava/lang/String;"⟩ ⟨"Wordgarden", "grown", "(IZ)Ljava/lang/String;"⟩ ∈ gaW := gaW_t5 (List.mem_of_getElem? (i := 151) rfl) rfl
theorem ww_5_152 : Cond.code ⟨"Wordgarden", "grown", "(IZ)Ljava/lang/String;"⟩ prog_1_method_40_code 3 (some (.object "java/lang/String")) ∈ gaW := gaW_t5 (List.mem_of_getElem? (i := 152) rfl) rfl
theorem ww_5_153 : Cond.methodLink "WordgardenLaw" 307 ⟨"WordgardenLaw", "size", "(LWordgarden;IZLWordgardenLaw$Out;)I"⟩ ∈ gaW := gaW_t5 (List.mem_of_getElem? (i := 153) rfl) rfl
theorem ww_5_154 : Cond.static ⟨"WordgardenLaw", "size", "(LWordgarden;IZLWordgardenLaw$Out;)I"⟩ ∈ gaW := gaW_t5 (List.mem_of_getElem? (i := 154) rfl) rfl
theorem ww_5_155 : Cond.codeWith ⟨"WordgardenLaw", "size", "(LWordgarden;IZLWordgardenLaw$Out;)I"⟩ method_41_code 5 (some .int) [(0, 11, 14, 19)] ∈ gaW := gaW_t5 (List.mem_of_getElem? (i := 155) rfl) rfl
theorem ww_5_156 : Cond.methodLink "WordgardenLaw" 152 ⟨"Wordgarden", "size", "(IZ)I"⟩ ∈ gaW := gaW_t5 (List.mem_of_getElem? (i := 156) rfl) rfl
theorem ww_5_157 : Cond.methodLink "WordgardenLaw" 310 ⟨"WordgardenLaw", "ups", "(LWordgarden;IZLWordgardenLaw$Out;)I"⟩ ∈ gaW := gaW_t5 (List.mem_of_getElem? (i := 157) rfl) rfl
theorem ww_5_158 : Cond.static ⟨"WordgardenLaw", "ups", "(LWordgarden;IZLWordgardenLaw$Out;)I"⟩ ∈ gaW := gaW_t5 (List.mem_of_getElem? (i := 158) rfl) rfl
theorem ww_5_159 : Cond.codeWith ⟨"WordgardenLaw", "ups", "(LWordgarden;IZLWordgardenLaw$Out;)I"⟩ method_42_code 5 (some .int) [(0, 11, 14, 19)] ∈ gaW := gaW_t5 (List.mem_of_getElem? (i := 159) rfl) rfl
theorem ww_5_160 : Cond.methodLink "WordgardenLaw" 155 ⟨"Wordgarden", "ups", "(IZ)I"⟩ ∈ gaW := gaW_t5 (List.mem_of_getElem? (i := 160) rfl) rfl
theorem ww_5_161 : Cond.methodLink "WordgardenLaw" 313 ⟨"WordgardenLaw", "cross", "(LWordgarden;ILWordgardenLaw$Out;)I"⟩ ∈ gaW := gaW_t5 (List.mem_of_getElem? (i := 161) rfl) rfl
theorem ww_5_162 : Cond.static ⟨"WordgardenLaw", "cross", "(LWordgarden;ILWordgardenLaw$Out;)I"⟩ ∈ gaW := gaW_t5 (List.mem_of_getElem? (i := 162) rfl) rfl
theorem ww_5_163 : Cond.codeWith ⟨"WordgardenLaw", "cross", "(LWordgarden;ILWordgardenLaw$Out;)I"⟩ method_43_code 4 (some .int) [(0, 10, 13, 19)] ∈ gaW := gaW_t5 (List.mem_of_getElem? (i := 163) rfl) rfl
theorem ww_5_164 : Cond.methodLink "WordgardenLaw" 158 ⟨"Wordgarden", "cross", "(I)I"⟩ ∈ gaW := gaW_t5 (List.mem_of_getElem? (i := 164) rfl) rfl
theorem ww_5_165 : Cond.methodLink "WordgardenLaw" 316 ⟨"WordgardenLaw", "alike", "(LWordgarden;ILWordgardenLaw$Out;)I"⟩ ∈ gaW := gaW_t5 (List.mem_of_getElem? (i := 165) rfl) rfl
theorem ww_5_166 : Cond.static ⟨"WordgardenLaw", "alike", "(LWordgarden;ILWordgardenLaw$Out;)I"⟩ ∈ gaW := gaW_t5 (List.mem_of_getElem? (i := 166) rfl) rfl
theorem ww_5_167 : Cond.codeWith ⟨"WordgardenLaw", "alike", "(LWordgarden;ILWordgardenLaw$Out;)I"⟩ method_44_code 4 (some .int) [(0, 10, 13, 19)] ∈ gaW := gaW_t5 (List.mem_of_getElem? (i := 167) rfl) rfl
theorem ww_5_168 : Cond.methodLink "WordgardenLaw" 161 ⟨"Wordgarden", "alike", "(I)I"⟩ ∈ gaW := gaW_t5 (List.mem_of_getElem? (i := 168) rfl) rfl
theorem ww_5_169 : Cond.methodLink "WordgardenLaw" 319 ⟨"WordgardenLaw", "house", "(LWordgarden;ILWordgardenLaw$Out;)I"⟩ ∈ gaW := gaW_t5 (List.mem_of_getElem? (i := 169) rfl) rfl
theorem ww_5_170 : Cond.static ⟨"WordgardenLaw", "house", "(LWordgarden;ILWordgardenLaw$Out;)I"⟩ ∈ gaW := gaW_t5 (List.mem_of_getElem? (i := 170) rfl) rfl
theorem ww_5_171 : Cond.codeWith ⟨"WordgardenLaw", "house", "(LWordgarden;ILWordgardenLaw$Out;)I"⟩ method_45_code 4 (some .int) [(0, 10, 13, 21)] ∈ gaW := gaW_t5 (List.mem_of_getElem? (i := 171) rfl) rfl
theorem ww_5_172 : Cond.methodLink "WordgardenLaw" 164 ⟨"Wordgarden", "house", "(I)I"⟩ ∈ gaW := gaW_t5 (List.mem_of_getElem? (i := 172) rfl) rfl
theorem ww_5_173 : Cond.classLink "WordgardenLaw" 168 "WordgardenModel" ∈ gaW := gaW_t5 (List.mem_of_getElem? (i := 173) rfl) rfl
theorem ww_5_174 : Cond.instantiable "WordgardenModel" 8 ∈ gaW := gaW_t5 (List.mem_of_getElem? (i := 174) rfl) rfl
theorem ww_5_175 : Cond.methodLink "WordgardenLaw" 170 ⟨"WordgardenModel", "<init>", "()V"⟩ ∈ gaW := gaW_t5 (List.mem_of_getElem? (i := 175) rfl) rfl
theorem ww_5_176 : Cond.instanceMethod ⟨"WordgardenModel", "<init>", "()V"⟩ ∈ gaW := gaW_t5 (List.mem_of_getElem? (i := 176) rfl) rfl
theorem ww_5_177 : Cond.code ⟨"WordgardenModel", "<init>", "()V"⟩ prog_9_method_1_code 1 (none : Option Jvm.ClassFile.FieldType) ∈ gaW := gaW_t5 (List.mem_of_getElem? (i := 177) rfl) rfl
theorem ww_5_178 : Cond.methodLink "WordgardenModel" 1 ⟨"java/lang/Object", "<init>", "()V"⟩ ∈ gaW := gaW_t5 (List.mem_of_getElem? (i := 178) rfl) rfl
theorem ww_5_179 : Cond.classLink "WordgardenModel" 7 "[I" ∈ gaW := gaW_t5 (List.mem_of_getElem? (i := 179) rfl) rfl
theorem ww_5_181 : Cond.fieldLink "WordgardenModel" 9 "WordgardenModel" "words" "[[I" ∈ gaW := gaW_t5 (List.mem_of_getElem? (i := 181) rfl) rfl
theorem ww_5_182 : Cond.fieldLink "WordgardenModel" 15 "WordgardenModel" "diaries" "[[I" ∈ gaW := gaW_t5 (List.mem_of_getElem? (i := 182) rfl) rfl
theorem ww_5_183 : Cond.fieldLink "WordgardenModel" 18 "WordgardenModel" "many" "[I" ∈ gaW := gaW_t5 (List.mem_of_getElem? (i := 183) rfl) rfl
theorem ww_5_184 : Cond.fieldLink "WordgardenModel" 45 "WordgardenModel" "onSheets" "I" ∈ gaW := gaW_t5 (List.mem_of_getElem? (i := 184) rfl) rfl
theorem ww_5_185 : Cond.fieldLink "WordgardenModel" 136 "WordgardenModel" "onGrowths" "I" ∈ gaW := gaW_t5 (List.mem_of_getElem? (i := 185) rfl) rfl
theorem ww_5_186 : Cond.fieldLink "WordgardenModel" 48 "WordgardenModel" "refused" "I" ∈ gaW := gaW_t5 (List.mem_of_getElem? (i := 186) rfl) rfl
theorem ww_5_187 : Cond.fieldLink "WordgardenModel" 203 "WordgardenModel" "knocked" "I" ∈ gaW := gaW_t5 (List.mem_of_getElem? (i := 187) rfl) rfl
theorem ww_5_188 : Cond.fieldLink "WordgardenModel" 21 "WordgardenModel" "thrown" "I" ∈ gaW := gaW_t5 (List.mem_of_getElem? (i := 188) rfl) rfl
theorem ww_5_189 : Cond.laysFinal "WordgardenModel" "WordgardenModel" "words" "[[I" ∈ gaW := gaW_t5 (List.mem_of_getElem? (i := 189) rfl) rfl
theorem ww_5_191 : Cond.laysFinal "WordgardenModel" "WordgardenModel" "diaries" "[[I" ∈ gaW := gaW_t5 (List.mem_of_getElem? (i := 191) rfl) rfl
theorem ww_5_193 : Cond.laysFinal "WordgardenModel" "WordgardenModel" "many" "[I" ∈ gaW := gaW_t5 (List.mem_of_getElem? (i := 193) rfl) rfl
theorem ww_5_195 : Cond.lays "WordgardenModel" "WordgardenModel" "onSheets" "I" ∈ gaW := gaW_t5 (List.mem_of_getElem? (i := 195) rfl) rfl
theorem ww_5_197 : Cond.lays "WordgardenModel" "WordgardenModel" "onGrowths" "I" ∈ gaW := gaW_t5 (List.mem_of_getElem? (i := 197) rfl) rfl
theorem ww_5_199 : Cond.lays "WordgardenModel" "WordgardenModel" "refused" "I" ∈ gaW := gaW_t5 (List.mem_of_getElem? (i := 199) rfl) rfl
theorem ww_5_201 : Cond.lays "WordgardenModel" "WordgardenModel" "knocked" "I" ∈ gaW := gaW_t5 (List.mem_of_getElem? (i := 201) rfl) rfl
theorem ww_5_203 : Cond.lays "WordgardenModel" "WordgardenModel" "thrown" "I" ∈ gaW := gaW_t5 (List.mem_of_getElem? (i := 203) rfl) rfl
theorem ww_5_206 : Cond.methodLink "WordgardenLaw" 178 ⟨"WordgardenModel", "thrown", "()I"⟩ ∈ gaW := gaW_t5 (List.mem_of_getElem? (i := 206) rfl) rfl
theorem ww_5_207 : Cond.instanceMethod ⟨"WordgardenModel", "thrown", "()I"⟩ ∈ gaW := gaW_t5 (List.mem_of_getElem? (i := 207) rfl) rfl
theorem ww_5_208 : Cond.selects "WordgardenModel" ⟨"WordgardenModel", "thrown", "()I"⟩ ⟨"WordgardenModel", "thrown", "()I"⟩ ∈ gaW := gaW_t5 (List.mem_of_getElem? (i := 208) rfl) rfl
theorem ww_5_209 : Cond.code ⟨"WordgardenModel", "thrown", "()I"⟩ prog_9_method_2_code 1 (some .int) ∈ gaW := gaW_t5 (List.mem_of_getElem? (i := 209) rfl) rfl
theorem ww_5_210 : Cond.methodLink "WordgardenLaw" 177 ⟨"WordgardenModel", "write", "(II)I"⟩ ∈ gaW := gaW_t5 (List.mem_of_getElem? (i := 210) rfl) rfl
theorem ww_5_211 : Cond.instanceMethod ⟨"WordgardenModel", "write", "(II)I"⟩ ∈ gaW := gaW_t5 (List.mem_of_getElem? (i := 211) rfl) rfl
theorem ww_5_212 : Cond.selects "WordgardenModel" ⟨"WordgardenModel", "write", "(II)I"⟩ ⟨"WordgardenModel", "write", "(II)I"⟩ ∈ gaW := gaW_t5 (List.mem_of_getElem? (i := 212) rfl) rfl
theorem ww_5_213 : Cond.code ⟨"WordgardenModel", "write", "(II)I"⟩ prog_9_method_22_code 3 (some .int) ∈ gaW := gaW_t5 (List.mem_of_getElem? (i := 213) rfl) rfl
theorem ww_5_214 : Cond.methodLink "WordgardenModel" 33 ⟨"WordgardenModel", "isNoSheet", "(I)Z"⟩ ∈ gaW := gaW_t5 (List.mem_of_getElem? (i := 214) rfl) rfl
theorem ww_5_215 : Cond.static ⟨"WordgardenModel", "isNoSheet", "(I)Z"⟩ ∈ gaW := gaW_t5 (List.mem_of_getElem? (i := 215) rfl) rfl
theorem ww_5_216 : Cond.code ⟨"WordgardenModel", "isNoSheet", "(I)Z"⟩ prog_9_method_6_code 1 (some .boolean) ∈ gaW := gaW_t5 (List.mem_of_getElem? (i := 216) rfl) rfl
theorem ww_5_217 : Cond.methodLink "WordgardenModel" 29 ⟨"WordgardenModel", "isIn", "(III)Z"⟩ ∈ gaW := gaW_t5 (List.mem_of_getElem? (i := 217) rfl) rfl
theorem ww_5_218 : Cond.static ⟨"WordgardenModel", "isIn", "(III)Z"⟩ ∈ gaW := gaW_t5 (List.mem_of_getElem? (i := 218) rfl) rfl
theorem ww_5_219 : Cond.code ⟨"WordgardenModel", "isIn", "(III)Z"⟩ prog_9_method_3_code 3 (some .boolean) ∈ gaW := gaW_t5 (List.mem_of_getElem? (i := 219) rfl) rfl
theorem ww_5_220 : Cond.methodLink "WordgardenModel" 51 ⟨"WordgardenModel", "start", "(ZI)Z"⟩ ∈ gaW := gaW_t5 (List.mem_of_getElem? (i := 220) rfl) rfl
theorem ww_5_222 : Cond.instanceMethod ⟨"WordgardenModel", "start", "(ZI)Z"⟩ ∈ gaW := gaW_t5 (List.mem_of_getElem? (i := 222) rfl) rfl
theorem ww_5_223 : Cond.code ⟨"WordgardenModel", "start", "(ZI)Z"⟩ prog_9_method_5_code 3 (some .boolean) ∈ gaW := gaW_t5 (List.mem_of_getElem? (i := 223) rfl) rfl
theorem ww_5_224 : Cond.methodLink "WordgardenModel" 25 ⟨"WordgardenModel", "refuse", "(ZI)Z"⟩ ∈ gaW := gaW_t5 (List.mem_of_getElem? (i := 224) rfl) rfl
theorem ww_5_226 : Cond.instanceMethod ⟨"WordgardenModel", "refuse", "(ZI)Z"⟩ ∈ gaW := gaW_t5 (List.mem_of_getElem? (i := 226) rfl) rfl
theorem ww_5_227 : Cond.code ⟨"WordgardenModel", "refuse", "(ZI)Z"⟩ prog_9_method_4_code 3 (some .boolean) ∈ gaW := gaW_t5 (List.mem_of_getElem? (i := 227) rfl) rfl
theorem ww_5_228 : Cond.constant "WordgardenModel" 54 (65535) ∈ gaW := gaW_t5 (List.mem_of_getElem? (i := 228) rfl) rfl
theorem ww_5_229 : Cond.methodLink "WordgardenModel" 55 ⟨"WordgardenModel", "ofCode", "(I)[I"⟩ ∈ gaW := gaW_t5 (List.mem_of_getElem? (i := 229) rfl) rfl
theorem ww_5_230 : Cond.static ⟨"WordgardenModel", "ofCode", "(I)[I"⟩ ∈ gaW := gaW_t5 (List.mem_of_getElem? (i := 230) rfl) rfl
theorem ww_5_231 : Cond.code ⟨"WordgardenModel", "ofCode", "(I)[I"⟩ prog_9_method_16_code 4 (some (.array .int)) ∈ gaW := gaW_t5 (List.mem_of_getElem? (i := 231) rfl) rfl
theorem ww_5_232 : Cond.methodLink "WordgardenModel" 59 ⟨"WordgardenModel", "comes", "(I[I)I"⟩ ∈ gaW := gaW_t5 (List.mem_of_getElem? (i := 232) rfl) rfl
theorem ww_5_234 : Cond.instanceMethod ⟨"WordgardenModel", "comes", "(I[I)I"⟩ ∈ gaW := gaW_t5 (List.mem_of_getElem? (i := 234) rfl) rfl
theorem ww_5_235 : Cond.code ⟨"WordgardenModel", "comes", "(I[I)I"⟩ prog_9_method_20_code 3 (some .int) ∈ gaW := gaW_t5 (List.mem_of_getElem? (i := 235) rfl) rfl
theorem ww_5_236 : Cond.methodLink "WordgardenLaw" 184 ⟨"WordgardenModel", "append", "(II)I"⟩ ∈ gaW := gaW_t5 (List.mem_of_getElem? (i := 236) rfl) rfl
theorem ww_5_237 : Cond.instanceMethod ⟨"WordgardenModel", "append", "(II)I"⟩ ∈ gaW := gaW_t5 (List.mem_of_getElem? (i := 237) rfl) rfl
theorem ww_5_238 : Cond.selects "WordgardenModel" ⟨"WordgardenModel", "append", "(II)I"⟩ ⟨"WordgardenModel", "append", "(II)I"⟩ ∈ gaW := gaW_t5 (List.mem_of_getElem? (i := 238) rfl) rfl
theorem ww_5_239 : Cond.code ⟨"WordgardenModel", "append", "(II)I"⟩ prog_9_method_24_code 3 (some .int) ∈ gaW := gaW_t5 (List.mem_of_getElem? (i := 239) rfl) rfl
theorem ww_6_0 : Cond.methodLink "WordgardenModel" 71 ⟨"WordgardenModel", "put", "(III[I)I"⟩ ∈ gaW := gaW_t6 (List.mem_of_getElem? (i := 0) rfl) rfl
theorem ww_6_2 : Cond.instanceMethod ⟨"WordgardenModel", "put", "(III[I)I"⟩ ∈ gaW := gaW_t6 (List.mem_of_getElem? (i := 2) rfl) rfl
theorem ww_6_3 : Cond.code ⟨"WordgardenModel", "put", "(III[I)I"⟩ prog_9_method_23_code 5 (some .int) ∈ gaW := gaW_t6 (List.mem_of_getElem? (i := 3) rfl) rfl
theorem ww_6_4 : Cond.methodLink "WordgardenModel" 63 ⟨"WordgardenModel", "cannot", "()I"⟩ ∈ gaW := gaW_t6 (List.mem_of_getElem? (i := 4) rfl) rfl
theorem ww_6_6 : Cond.instanceMethod ⟨"WordgardenModel", "cannot", "()I"⟩ ∈ gaW := gaW_t6 (List.mem_of_getElem? (i := 6) rfl) rfl
theorem ww_6_7 : Cond.code ⟨"WordgardenModel", "cannot", "()I"⟩ prog_9_method_21_code 1 (some .int) ∈ gaW := gaW_t6 (List.mem_of_getElem? (i := 7) rfl) rfl
theorem ww_6_8 : Cond.methodLink "WordgardenModel" 67 ⟨"WordgardenModel", "spliced", "([III[I)[I"⟩ ∈ gaW := gaW_t6 (List.mem_of_getElem? (i := 8) rfl) rfl
theorem ww_6_9 : Cond.static ⟨"WordgardenModel", "spliced", "([III[I)[I"⟩ ∈ gaW := gaW_t6 (List.mem_of_getElem? (i := 9) rfl) rfl
theorem ww_6_10 : Cond.code ⟨"WordgardenModel", "spliced", "([III[I)[I"⟩ prog_9_method_15_code 6 (some (.array .int)) ∈ gaW := gaW_t6 (List.mem_of_getElem? (i := 10) rfl) rfl
theorem ww_6_11 : Cond.methodLink "WordgardenLaw" 188 ⟨"WordgardenModel", "insertSign", "(IIZ)I"⟩ ∈ gaW := gaW_t6 (List.mem_of_getElem? (i := 11) rfl) rfl
theorem ww_6_12 : Cond.instanceMethod ⟨"WordgardenModel", "insertSign", "(IIZ)I"⟩ ∈ gaW := gaW_t6 (List.mem_of_getElem? (i := 12) rfl) rfl
theorem ww_6_13 : Cond.selects "WordgardenModel" ⟨"WordgardenModel", "insertSign", "(IIZ)I"⟩ ⟨"WordgardenModel", "insertSign", "(IIZ)I"⟩ ∈ gaW := gaW_t6 (List.mem_of_getElem? (i := 13) rfl) rfl
theorem ww_6_14 : Cond.code ⟨"WordgardenModel", "insertSign", "(IIZ)I"⟩ prog_9_method_25_code 4 (some .int) ∈ gaW := gaW_t6 (List.mem_of_getElem? (i := 14) rfl) rfl
theorem ww_6_15 : Cond.methodLink "WordgardenModel" 75 ⟨"WordgardenModel", "isNoGap", "(II)Z"⟩ ∈ gaW := gaW_t6 (List.mem_of_getElem? (i := 15) rfl) rfl
theorem ww_6_17 : Cond.instanceMethod ⟨"WordgardenModel", "isNoGap", "(II)Z"⟩ ∈ gaW := gaW_t6 (List.mem_of_getElem? (i := 17) rfl) rfl
theorem ww_6_18 : Cond.code ⟨"WordgardenModel", "isNoGap", "(II)Z"⟩ prog_9_method_8_code 3 (some .boolean) ∈ gaW := gaW_t6 (List.mem_of_getElem? (i := 18) rfl) rfl
theorem ww_6_19 : Cond.methodLink "WordgardenModel" 79 ⟨"WordgardenModel", "one", "(Z)I"⟩ ∈ gaW := gaW_t6 (List.mem_of_getElem? (i := 19) rfl) rfl
theorem ww_6_20 : Cond.static ⟨"WordgardenModel", "one", "(Z)I"⟩ ∈ gaW := gaW_t6 (List.mem_of_getElem? (i := 20) rfl) rfl
theorem ww_6_21 : Cond.code ⟨"WordgardenModel", "one", "(Z)I"⟩ prog_9_method_11_code 1 (some .int) ∈ gaW := gaW_t6 (List.mem_of_getElem? (i := 21) rfl) rfl
theorem ww_6_22 : Cond.methodLink "WordgardenLaw" 192 ⟨"WordgardenModel", "insertSheet", "(III)I"⟩ ∈ gaW := gaW_t6 (List.mem_of_getElem? (i := 22) rfl) rfl
theorem ww_6_23 : Cond.instanceMethod ⟨"WordgardenModel", "insertSheet", "(III)I"⟩ ∈ gaW := gaW_t6 (List.mem_of_getElem? (i := 23) rfl) rfl
theorem ww_6_24 : Cond.selects "WordgardenModel" ⟨"WordgardenModel", "insertSheet", "(III)I"⟩ ⟨"WordgardenModel", "insertSheet", "(III)I"⟩ ∈ gaW := gaW_t6 (List.mem_of_getElem? (i := 24) rfl) rfl
theorem ww_6_25 : Cond.code ⟨"WordgardenModel", "insertSheet", "(III)I"⟩ prog_9_method_26_code 4 (some .int) ∈ gaW := gaW_t6 (List.mem_of_getElem? (i := 25) rfl) rfl
theorem ww_6_26 : Cond.methodLink "WordgardenLaw" 195 ⟨"WordgardenModel", "setSign", "(IIZ)I"⟩ ∈ gaW := gaW_t6 (List.mem_of_getElem? (i := 26) rfl) rfl
theorem ww_6_27 : Cond.instanceMethod ⟨"WordgardenModel", "setSign", "(IIZ)I"⟩ ∈ gaW := gaW_t6 (List.mem_of_getElem? (i := 27) rfl) rfl
theorem ww_6_28 : Cond.selects "WordgardenModel" ⟨"WordgardenModel", "setSign", "(IIZ)I"⟩ ⟨"WordgardenModel", "setSign", "(IIZ)I"⟩ ∈ gaW := gaW_t6 (List.mem_of_getElem? (i := 28) rfl) rfl
theorem ww_6_29 : Cond.code ⟨"WordgardenModel", "setSign", "(IIZ)I"⟩ prog_9_method_27_code 5 (some .int) ∈ gaW := gaW_t6 (List.mem_of_getElem? (i := 29) rfl) rfl
theorem ww_6_30 : Cond.methodLink "WordgardenModel" 83 ⟨"WordgardenModel", "isNoPlace", "(II)Z"⟩ ∈ gaW := gaW_t6 (List.mem_of_getElem? (i := 30) rfl) rfl
theorem ww_6_32 : Cond.instanceMethod ⟨"WordgardenModel", "isNoPlace", "(II)Z"⟩ ∈ gaW := gaW_t6 (List.mem_of_getElem? (i := 32) rfl) rfl
theorem ww_6_33 : Cond.code ⟨"WordgardenModel", "isNoPlace", "(II)Z"⟩ prog_9_method_9_code 3 (some .boolean) ∈ gaW := gaW_t6 (List.mem_of_getElem? (i := 33) rfl) rfl
theorem ww_6_34 : Cond.methodLink "WordgardenLaw" 198 ⟨"WordgardenModel", "removeSign", "(II)I"⟩ ∈ gaW := gaW_t6 (List.mem_of_getElem? (i := 34) rfl) rfl
theorem ww_6_35 : Cond.instanceMethod ⟨"WordgardenModel", "removeSign", "(II)I"⟩ ∈ gaW := gaW_t6 (List.mem_of_getElem? (i := 35) rfl) rfl
theorem ww_6_36 : Cond.selects "WordgardenModel" ⟨"WordgardenModel", "removeSign", "(II)I"⟩ ⟨"WordgardenModel", "removeSign", "(II)I"⟩ ∈ gaW := gaW_t6 (List.mem_of_getElem? (i := 36) rfl) rfl
theorem ww_6_37 : Cond.code ⟨"WordgardenModel", "removeSign", "(II)I"⟩ prog_9_method_28_code 4 (some .int) ∈ gaW := gaW_t6 (List.mem_of_getElem? (i := 37) rfl) rfl
theorem ww_6_38 : Cond.methodLink "WordgardenLaw" 201 ⟨"WordgardenModel", "remove", "(III)I"⟩ ∈ gaW := gaW_t6 (List.mem_of_getElem? (i := 38) rfl) rfl
theorem ww_6_39 : Cond.instanceMethod ⟨"WordgardenModel", "remove", "(III)I"⟩ ∈ gaW := gaW_t6 (List.mem_of_getElem? (i := 39) rfl) rfl
theorem ww_6_40 : Cond.selects "WordgardenModel" ⟨"WordgardenModel", "remove", "(III)I"⟩ ⟨"WordgardenModel", "remove", "(III)I"⟩ ∈ gaW := gaW_t6 (List.mem_of_getElem? (i := 40) rfl) rfl
theorem ww_6_41 : Cond.code ⟨"WordgardenModel", "remove", "(III)I"⟩ prog_9_method_29_code 5 (some .int) ∈ gaW := gaW_t6 (List.mem_of_getElem? (i := 41) rfl) rfl
theorem ww_6_42 : Cond.methodLink "WordgardenModel" 86 ⟨"WordgardenModel", "isNoPart", "(III)Z"⟩ ∈ gaW := gaW_t6 (List.mem_of_getElem? (i := 42) rfl) rfl
theorem ww_6_44 : Cond.instanceMethod ⟨"WordgardenModel", "isNoPart", "(III)Z"⟩ ∈ gaW := gaW_t6 (List.mem_of_getElem? (i := 44) rfl) rfl
theorem ww_6_45 : Cond.code ⟨"WordgardenModel", "isNoPart", "(III)Z"⟩ prog_9_method_10_code 4 (some .boolean) ∈ gaW := gaW_t6 (List.mem_of_getElem? (i := 45) rfl) rfl
theorem ww_6_46 : Cond.methodLink "WordgardenModel" 41 ⟨"WordgardenModel", "bs", "([I)I"⟩ ∈ gaW := gaW_t6 (List.mem_of_getElem? (i := 46) rfl) rfl
theorem ww_6_47 : Cond.static ⟨"WordgardenModel", "bs", "([I)I"⟩ ∈ gaW := gaW_t6 (List.mem_of_getElem? (i := 47) rfl) rfl
theorem ww_6_48 : Cond.code ⟨"WordgardenModel", "bs", "([I)I"⟩ prog_9_method_14_code 6 (some .int) ∈ gaW := gaW_t6 (List.mem_of_getElem? (i := 48) rfl) rfl
theorem ww_6_49 : Cond.methodLink "WordgardenLaw" 205 ⟨"WordgardenModel", "replace", "(IIII)I"⟩ ∈ gaW := gaW_t6 (List.mem_of_getElem? (i := 49) rfl) rfl
theorem ww_6_50 : Cond.instanceMethod ⟨"WordgardenModel", "replace", "(IIII)I"⟩ ∈ gaW := gaW_t6 (List.mem_of_getElem? (i := 50) rfl) rfl
theorem ww_6_51 : Cond.selects "WordgardenModel" ⟨"WordgardenModel", "replace", "(IIII)I"⟩ ⟨"WordgardenModel", "replace", "(IIII)I"⟩ ∈ gaW := gaW_t6 (List.mem_of_getElem? (i := 51) rfl) rfl
theorem ww_6_52 : Cond.code ⟨"WordgardenModel", "replace", "(IIII)I"⟩ prog_9_method_30_code 5 (some .int) ∈ gaW := gaW_t6 (List.mem_of_getElem? (i := 52) rfl) rfl
theorem ww_6_53 : Cond.methodLink "WordgardenLaw" 208 ⟨"WordgardenModel", "cutTo", "(II)I"⟩ ∈ gaW := gaW_t6 (List.mem_of_getElem? (i := 53) rfl) rfl
theorem ww_6_54 : Cond.instanceMethod ⟨"WordgardenModel", "cutTo", "(II)I"⟩ ∈ gaW := gaW_t6 (List.mem_of_getElem? (i := 54) rfl) rfl
theorem ww_6_55 : Cond.selects "WordgardenModel" ⟨"WordgardenModel", "cutTo", "(II)I"⟩ ⟨"WordgardenModel", "cutTo", "(II)I"⟩ ∈ gaW := gaW_t6 (List.mem_of_getElem? (i := 55) rfl) rfl
theorem ww_6_56 : Cond.code ⟨"WordgardenModel", "cutTo", "(II)I"⟩ prog_9_method_31_code 6 (some .int) ∈ gaW := gaW_t6 (List.mem_of_getElem? (i := 56) rfl) rfl
theorem ww_6_57 : Cond.methodLink "WordgardenLaw" 212 ⟨"WordgardenModel", "turn", "(I)I"⟩ ∈ gaW := gaW_t6 (List.mem_of_getElem? (i := 57) rfl) rfl
theorem ww_6_58 : Cond.instanceMethod ⟨"WordgardenModel", "turn", "(I)I"⟩ ∈ gaW := gaW_t6 (List.mem_of_getElem? (i := 58) rfl) rfl
theorem ww_6_59 : Cond.selects "WordgardenModel" ⟨"WordgardenModel", "turn", "(I)I"⟩ ⟨"WordgardenModel", "turn", "(I)I"⟩ ∈ gaW := gaW_t6 (List.mem_of_getElem? (i := 59) rfl) rfl
theorem ww_6_60 : Cond.code ⟨"WordgardenModel", "turn", "(I)I"⟩ prog_9_method_33_code 2 (some .int) ∈ gaW := gaW_t6 (List.mem_of_getElem? (i := 60) rfl) rfl
theorem ww_6_61 : Cond.methodLink "WordgardenModel" 93 ⟨"WordgardenModel", "turned", "([I)[I"⟩ ∈ gaW := gaW_t6 (List.mem_of_getElem? (i := 61) rfl) rfl
theorem ww_6_62 : Cond.static ⟨"WordgardenModel", "turned", "([I)[I"⟩ ∈ gaW := gaW_t6 (List.mem_of_getElem? (i := 62) rfl) rfl
theorem ww_6_63 : Cond.code ⟨"WordgardenModel", "turned", "([I)[I"⟩ prog_9_method_17_code 3 (some (.array .int)) ∈ gaW := gaW_t6 (List.mem_of_getElem? (i := 63) rfl) rfl
theorem ww_6_64 : Cond.methodLink "WordgardenModel" 97 ⟨"WordgardenModel", "becomes", "(I[I)I"⟩ ∈ gaW := gaW_t6 (List.mem_of_getElem? (i := 64) rfl) rfl
theorem ww_6_66 : Cond.instanceMethod ⟨"WordgardenModel", "becomes", "(I[I)I"⟩ ∈ gaW := gaW_t6 (List.mem_of_getElem? (i := 66) rfl) rfl
theorem ww_6_67 : Cond.code ⟨"WordgardenModel", "becomes", "(I[I)I"⟩ prog_9_method_32_code 4 (some .int) ∈ gaW := gaW_t6 (List.mem_of_getElem? (i := 67) rfl) rfl
theorem ww_6_68 : Cond.methodLink "WordgardenModel" 89 ⟨"WordgardenModel", "areSame", "([I[I)Z"⟩ ∈ gaW := gaW_t6 (List.mem_of_getElem? (i := 68) rfl) rfl
theorem ww_6_69 : Cond.static ⟨"WordgardenModel", "areSame", "([I[I)Z"⟩ ∈ gaW := gaW_t6 (List.mem_of_getElem? (i := 69) rfl) rfl
theorem ww_6_70 : Cond.code ⟨"WordgardenModel", "areSame", "([I[I)Z"⟩ prog_9_method_12_code 2 (some .boolean) ∈ gaW := gaW_t6 (List.mem_of_getElem? (i := 70) rfl) rfl
theorem ww_6_71 : Cond.methodLink "WordgardenModel" 37 ⟨"WordgardenModel", "standsAt", "([I[II)Z"⟩ ∈ gaW := gaW_t6 (List.mem_of_getElem? (i := 71) rfl) rfl
theorem ww_6_72 : Cond.static ⟨"WordgardenModel", "standsAt", "([I[II)Z"⟩ ∈ gaW := gaW_t6 (List.mem_of_getElem? (i := 72) rfl) rfl
theorem ww_6_73 : Cond.code ⟨"WordgardenModel", "standsAt", "([I[II)Z"⟩ prog_9_method_13_code 4 (some .boolean) ∈ gaW := gaW_t6 (List.mem_of_getElem? (i := 73) rfl) rfl
theorem ww_6_74 : Cond.methodLink "WordgardenLaw" 215 ⟨"WordgardenModel", "exchange", "(I)I"⟩ ∈ gaW := gaW_t6 (List.mem_of_getElem? (i := 74) rfl) rfl
theorem ww_6_75 : Cond.instanceMethod ⟨"WordgardenModel", "exchange", "(I)I"⟩ ∈ gaW := gaW_t6 (List.mem_of_getElem? (i := 75) rfl) rfl
theorem ww_6_76 : Cond.selects "WordgardenModel" ⟨"WordgardenModel", "exchange", "(I)I"⟩ ⟨"WordgardenModel", "exchange", "(I)I"⟩ ∈ gaW := gaW_t6 (List.mem_of_getElem? (i := 76) rfl) rfl
theorem ww_6_77 : Cond.code ⟨"WordgardenModel", "exchange", "(I)I"⟩ prog_9_method_34_code 2 (some .int) ∈ gaW := gaW_t6 (List.mem_of_getElem? (i := 77) rfl) rfl
theorem ww_6_78 : Cond.methodLink "WordgardenModel" 100 ⟨"WordgardenModel", "image", "([I[I[I)[I"⟩ ∈ gaW := gaW_t6 (List.mem_of_getElem? (i := 78) rfl) rfl
theorem ww_6_79 : Cond.static ⟨"WordgardenModel", "image", "([I[I[I)[I"⟩ ∈ gaW := gaW_t6 (List.mem_of_getElem? (i := 79) rfl) rfl
theorem ww_6_80 : Cond.code ⟨"WordgardenModel", "image", "([I[I[I)[I"⟩ prog_9_method_18_code 14 (some (.array .int)) ∈ gaW := gaW_t6 (List.mem_of_getElem? (i := 80) rfl) rfl
theorem ww_6_81 : Cond.methodLink "WordgardenLaw" 218 ⟨"WordgardenModel", "rotate", "(II)I"⟩ ∈ gaW := gaW_t6 (List.mem_of_getElem? (i := 81) rfl) rfl
theorem ww_6_82 : Cond.instanceMethod ⟨"WordgardenModel", "rotate", "(II)I"⟩ ∈ gaW := gaW_t6 (List.mem_of_getElem? (i := 82) rfl) rfl
theorem ww_6_83 : Cond.selects "WordgardenModel" ⟨"WordgardenModel", "rotate", "(II)I"⟩ ⟨"WordgardenModel", "rotate", "(II)I"⟩ ∈ gaW := gaW_t6 (List.mem_of_getElem? (i := 83) rfl) rfl
theorem ww_6_84 : Cond.code ⟨"WordgardenModel", "rotate", "(II)I"⟩ prog_9_method_35_code 6 (some .int) ∈ gaW := gaW_t6 (List.mem_of_getElem? (i := 84) rfl) rfl
theorem ww_6_85 : Cond.methodLink "WordgardenLaw" 221 ⟨"WordgardenModel", "copy", "(II)I"⟩ ∈ gaW := gaW_t6 (List.mem_of_getElem? (i := 85) rfl) rfl
theorem ww_6_86 : Cond.instanceMethod ⟨"WordgardenModel", "copy", "(II)I"⟩ ∈ gaW := gaW_t6 (List.mem_of_getElem? (i := 86) rfl) rfl
theorem ww_6_87 : Cond.selects "WordgardenModel" ⟨"WordgardenModel", "copy", "(II)I"⟩ ⟨"WordgardenModel", "copy", "(II)I"⟩ ∈ gaW := gaW_t6 (List.mem_of_getElem? (i := 87) rfl) rfl
theorem ww_6_88 : Cond.code ⟨"WordgardenModel", "copy", "(II)I"⟩ prog_9_method_36_code 3 (some .int) ∈ gaW := gaW_t6 (List.mem_of_getElem? (i := 88) rfl) rfl
theorem ww_6_89 : Cond.methodLink "WordgardenLaw" 224 ⟨"WordgardenModel", "apply", "(III)I"⟩ ∈ gaW := gaW_t6 (List.mem_of_getElem? (i := 89) rfl) rfl
theorem ww_6_90 : Cond.instanceMethod ⟨"WordgardenModel", "apply", "(III)I"⟩ ∈ gaW := gaW_t6 (List.mem_of_getElem? (i := 90) rfl) rfl
theorem ww_6_91 : Cond.selects "WordgardenModel" ⟨"WordgardenModel", "apply", "(III)I"⟩ ⟨"WordgardenModel", "apply", "(III)I"⟩ ∈ gaW := gaW_t6 (List.mem_of_getElem? (i := 91) rfl) rfl
theorem ww_6_92 : Cond.code ⟨"WordgardenModel", "apply", "(III)I"⟩ prog_9_method_38_code 5 (some .int) ∈ gaW := gaW_t6 (List.mem_of_getElem? (i := 92) rfl) rfl
theorem ww_6_93 : Cond.methodLink "WordgardenModel" 104 ⟨"WordgardenModel", "isNoRule", "(II)Z"⟩ ∈ gaW := gaW_t6 (List.mem_of_getElem? (i := 93) rfl) rfl
theorem ww_6_94 : Cond.static ⟨"WordgardenModel", "isNoRule", "(II)Z"⟩ ∈ gaW := gaW_t6 (List.mem_of_getElem? (i := 94) rfl) rfl
theorem ww_6_95 : Cond.code ⟨"WordgardenModel", "isNoRule", "(II)Z"⟩ prog_9_method_37_code 2 (some .boolean) ∈ gaW := gaW_t6 (List.mem_of_getElem? (i := 95) rfl) rfl
theorem ww_6_96 : Cond.methodLink "WordgardenLaw" 227 ⟨"WordgardenModel", "undo", "(III)I"⟩ ∈ gaW := gaW_t6 (List.mem_of_getElem? (i := 96) rfl) rfl
theorem ww_6_97 : Cond.instanceMethod ⟨"WordgardenModel", "undo", "(III)I"⟩ ∈ gaW := gaW_t6 (List.mem_of_getElem? (i := 97) rfl) rfl
theorem ww_6_98 : Cond.selects "WordgardenModel" ⟨"WordgardenModel", "undo", "(III)I"⟩ ⟨"WordgardenModel", "undo", "(III)I"⟩ ∈ gaW := gaW_t6 (List.mem_of_getElem? (i := 98) rfl) rfl
theorem ww_6_99 : Cond.code ⟨"WordgardenModel", "undo", "(III)I"⟩ prog_9_method_41_code 12 (some .int) ∈ gaW := gaW_t6 (List.mem_of_getElem? (i := 99) rfl) rfl
theorem ww_6_100 : Cond.methodLink "WordgardenModel" 107 ⟨"WordgardenModel", "isApartRule", "(II)Z"⟩ ∈ gaW := gaW_t6 (List.mem_of_getElem? (i := 100) rfl) rfl
theorem ww_6_101 : Cond.static ⟨"WordgardenModel", "isApartRule", "(II)Z"⟩ ∈ gaW := gaW_t6 (List.mem_of_getElem? (i := 101) rfl) rfl
theorem ww_6_102 : Cond.code ⟨"WordgardenModel", "isApartRule", "(II)Z"⟩ prog_9_method_39_code 4 (some .boolean) ∈ gaW := gaW_t6 (List.mem_of_getElem? (i := 102) rfl) rfl
theorem ww_6_103 : Cond.methodLink "WordgardenModel" 110 ⟨"WordgardenModel", "steps", "([I[I[I)[I"⟩ ∈ gaW := gaW_t6 (List.mem_of_getElem? (i := 103) rfl) rfl
theorem ww_6_104 : Cond.static ⟨"WordgardenModel", "steps", "([I[I[I)[I"⟩ ∈ gaW := gaW_t6 (List.mem_of_getElem? (i := 104) rfl) rfl
theorem ww_6_105 : Cond.code ⟨"WordgardenModel", "steps", "([I[I[I)[I"⟩ prog_9_method_40_code 7 (some (.array .int)) ∈ gaW := gaW_t6 (List.mem_of_getElem? (i := 105) rfl) rfl
theorem ww_6_106 : Cond.methodLink "WordgardenLaw" 230 ⟨"WordgardenModel", "lay", "(III)I"⟩ ∈ gaW := gaW_t6 (List.mem_of_getElem? (i := 106) rfl) rfl
theorem ww_6_107 : Cond.instanceMethod ⟨"WordgardenModel", "lay", "(III)I"⟩ ∈ gaW := gaW_t6 (List.mem_of_getElem? (i := 107) rfl) rfl
theorem ww_6_108 : Cond.selects "WordgardenModel" ⟨"WordgardenModel", "lay", "(III)I"⟩ ⟨"WordgardenModel", "lay", "(III)I"⟩ ∈ gaW := gaW_t6 (List.mem_of_getElem? (i := 108) rfl) rfl
theorem ww_6_109 : Cond.code ⟨"WordgardenModel", "lay", "(III)I"⟩ prog_9_method_42_code 4 (some .int) ∈ gaW := gaW_t6 (List.mem_of_getElem? (i := 109) rfl) rfl
theorem ww_6_110 : Cond.methodLink "WordgardenModel" 113 ⟨"WordgardenModel", "isNoGrowth", "(I)Z"⟩ ∈ gaW := gaW_t6 (List.mem_of_getElem? (i := 110) rfl) rfl
theorem ww_6_111 : Cond.static ⟨"WordgardenModel", "isNoGrowth", "(I)Z"⟩ ∈ gaW := gaW_t6 (List.mem_of_getElem? (i := 111) rfl) rfl
theorem ww_6_112 : Cond.code ⟨"WordgardenModel", "isNoGrowth", "(I)Z"⟩ prog_9_method_7_code 1 (some .boolean) ∈ gaW := gaW_t6 (List.mem_of_getElem? (i := 112) rfl) rfl
theorem ww_6_113 : Cond.methodLink "WordgardenModel" 116 ⟨"WordgardenModel", "byCopies", "(II)[I"⟩ ∈ gaW := gaW_t6 (List.mem_of_getElem? (i := 113) rfl) rfl
theorem ww_6_115 : Cond.instanceMethod ⟨"WordgardenModel", "byCopies", "(II)[I"⟩ ∈ gaW := gaW_t6 (List.mem_of_getElem? (i := 115) rfl) rfl
theorem ww_6_116 : Cond.code ⟨"WordgardenModel", "byCopies", "(II)[I"⟩ prog_9_method_47_code 9 (some (.array .int)) ∈ gaW := gaW_t6 (List.mem_of_getElem? (i := 116) rfl) rfl
theorem ww_6_117 : Cond.methodLink "WordgardenModel" 120 ⟨"WordgardenModel", "byRules", "(I)[I"⟩ ∈ gaW := gaW_t6 (List.mem_of_getElem? (i := 117) rfl) rfl
theorem ww_6_119 : Cond.instanceMethod ⟨"WordgardenModel", "byRules", "(I)[I"⟩ ∈ gaW := gaW_t6 (List.mem_of_getElem? (i := 119) rfl) rfl
theorem ww_6_120 : Cond.code ⟨"WordgardenModel", "byRules", "(I)[I"⟩ prog_9_method_50_code 4 (some (.array .int)) ∈ gaW := gaW_t6 (List.mem_of_getElem? (i := 120) rfl) rfl
theorem ww_6_121 : Cond.methodLink "WordgardenModel" 123 ⟨"WordgardenModel", "byLine", "(I)[I"⟩ ∈ gaW := gaW_t6 (List.mem_of_getElem? (i := 121) rfl) rfl
theorem ww_6_123 : Cond.instanceMethod ⟨"WordgardenModel", "byLine", "(I)[I"⟩ ∈ gaW := gaW_t6 (List.mem_of_getElem? (i := 123) rfl) rfl
theorem ww_6_124 : Cond.code ⟨"WordgardenModel", "byLine", "(I)[I"⟩ prog_9_method_51_code 7 (some (.array .int)) ∈ gaW := gaW_t6 (List.mem_of_getElem? (i := 124) rfl) rfl
theorem ww_6_125 : Cond.methodLink "WordgardenModel" 129 ⟨"WordgardenModel", "lineSign", "(IIII)I"⟩ ∈ gaW := gaW_t6 (List.mem_of_getElem? (i := 125) rfl) rfl
theorem ww_6_126 : Cond.static ⟨"WordgardenModel", "lineSign", "(IIII)I"⟩ ∈ gaW := gaW_t6 (List.mem_of_getElem? (i := 126) rfl) rfl
theorem ww_6_127 : Cond.code ⟨"WordgardenModel", "lineSign", "(IIII)I"⟩ prog_9_method_45_code 4 (some .int) ∈ gaW := gaW_t6 (List.mem_of_getElem? (i := 127) rfl) rfl
theorem ww_6_128 : Cond.methodLink "WordgardenLaw" 233 ⟨"WordgardenModel", "twos", "(III)I"⟩ ∈ gaW := gaW_t6 (List.mem_of_getElem? (i := 128) rfl) rfl
theorem ww_6_129 : Cond.instanceMethod ⟨"WordgardenModel", "twos", "(III)I"⟩ ∈ gaW := gaW_t6 (List.mem_of_getElem? (i := 129) rfl) rfl
theorem ww_6_130 : Cond.selects "WordgardenModel" ⟨"WordgardenModel", "twos", "(III)I"⟩ ⟨"WordgardenModel", "twos", "(III)I"⟩ ∈ gaW := gaW_t6 (List.mem_of_getElem? (i := 130) rfl) rfl
theorem ww_6_131 : Cond.code ⟨"WordgardenModel", "twos", "(III)I"⟩ prog_9_method_44_code 4 (some .int) ∈ gaW := gaW_t6 (List.mem_of_getElem? (i := 131) rfl) rfl
theorem ww_6_132 : Cond.methodLink "WordgardenModel" 126 ⟨"WordgardenModel", "twosOf", "(II)[I"⟩ ∈ gaW := gaW_t6 (List.mem_of_getElem? (i := 132) rfl) rfl
theorem ww_6_133 : Cond.static ⟨"WordgardenModel", "twosOf", "(II)[I"⟩ ∈ gaW := gaW_t6 (List.mem_of_getElem? (i := 133) rfl) rfl
theorem ww_6_134 : Cond.code ⟨"WordgardenModel", "twosOf", "(II)[I"⟩ prog_9_method_43_code 5 (some (.array .int)) ∈ gaW := gaW_t6 (List.mem_of_getElem? (i := 134) rfl) rfl
theorem ww_6_135 : Cond.methodLink "WordgardenLaw" 236 ⟨"WordgardenModel", "line", "(IIII)I"⟩ ∈ gaW := gaW_t6 (List.mem_of_getElem? (i := 135) rfl) rfl
theorem ww_6_136 : Cond.instanceMethod ⟨"WordgardenModel", "line", "(IIII)I"⟩ ∈ gaW := gaW_t6 (List.mem_of_getElem? (i := 136) rfl) rfl
theorem ww_6_137 : Cond.selects "WordgardenModel" ⟨"WordgardenModel", "line", "(IIII)I"⟩ ⟨"WordgardenModel", "line", "(IIII)I"⟩ ∈ gaW := gaW_t6 (List.mem_of_getElem? (i := 137) rfl) rfl
theorem ww_6_138 : Cond.code ⟨"WordgardenModel", "line", "(IIII)I"⟩ prog_9_method_46_code 7 (some .int) ∈ gaW := gaW_t6 (List.mem_of_getElem? (i := 138) rfl) rfl
theorem ww_6_139 : Cond.methodLink "WordgardenLaw" 239 ⟨"WordgardenModel", "grow", "(II)I"⟩ ∈ gaW := gaW_t6 (List.mem_of_getElem? (i := 139) rfl) rfl
theorem ww_6_140 : Cond.instanceMethod ⟨"WordgardenModel", "grow", "(II)I"⟩ ∈ gaW := gaW_t6 (List.mem_of_getElem? (i := 140) rfl) rfl
theorem ww_6_141 : Cond.selects "WordgardenModel" ⟨"WordgardenModel", "grow", "(II)I"⟩ ⟨"WordgardenModel", "grow", "(II)I"⟩ ∈ gaW := gaW_t6 (List.mem_of_getElem? (i := 141) rfl) rfl
theorem ww_6_142 : Cond.code ⟨"WordgardenModel", "grow", "(II)I"⟩ prog_9_method_52_code 4 (some .int) ∈ gaW := gaW_t6 (List.mem_of_getElem? (i := 142) rfl) rfl
theorem ww_6_143 : Cond.methodLink "WordgardenModel" 133 ⟨"WordgardenModel", "elder", "(I)[I"⟩ ∈ gaW := gaW_t6 (List.mem_of_getElem? (i := 143) rfl) rfl
theorem ww_6_145 : Cond.instanceMethod ⟨"WordgardenModel", "elder", "(I)[I"⟩ ∈ gaW := gaW_t6 (List.mem_of_getElem? (i := 145) rfl) rfl
theorem ww_6_146 : Cond.code ⟨"WordgardenModel", "elder", "(I)[I"⟩ prog_9_method_48_code 2 (some (.array .int)) ∈ gaW := gaW_t6 (List.mem_of_getElem? (i := 146) rfl) rfl
theorem ww_6_147 : Cond.methodLink "WordgardenLaw" 242 ⟨"WordgardenModel", "shrink", "(I)I"⟩ ∈ gaW := gaW_t6 (List.mem_of_getElem? (i := 147) rfl) rfl
theorem ww_6_148 : Cond.instanceMethod ⟨"WordgardenModel", "shrink", "(I)I"⟩ ∈ gaW := gaW_t6 (List.mem_of_getElem? (i := 148) rfl) rfl
theorem ww_6_149 : Cond.selects "WordgardenModel" ⟨"WordgardenModel", "shrink", "(I)I"⟩ ⟨"WordgardenModel", "shrink", "(I)I"⟩ ∈ gaW := gaW_t6 (List.mem_of_getElem? (i := 149) rfl) rfl
theorem ww_6_150 : Cond.code ⟨"WordgardenModel", "shrink", "(I)I"⟩ prog_9_method_53_code 2 (some .int) ∈ gaW := gaW_t6 (List.mem_of_getElem? (i := 150) rfl) rfl
theorem ww_6_151 : Cond.methodLink "WordgardenLaw" 245 ⟨"WordgardenModel", "fresh", "(I)I"⟩ ∈ gaW := gaW_t6 (List.mem_of_getElem? (i := 151) rfl) rfl
theorem ww_6_152 : Cond.instanceMethod ⟨"WordgardenModel", "fresh", "(I)I"⟩ ∈ gaW := gaW_t6 (List.mem_of_getElem? (i := 152) rfl) rfl
theorem ww_6_153 : Cond.selects "WordgardenModel" ⟨"WordgardenModel", "fresh", "(I)I"⟩ ⟨"WordgardenModel", "fresh", "(I)I"⟩ ∈ gaW := gaW_t6 (List.mem_of_getElem? (i := 153) rfl) rfl
theorem ww_6_154 : Cond.code ⟨"WordgardenModel", "fresh", "(I)I"⟩ prog_9_method_54_code 3 (some .int) ∈ gaW := gaW_t6 (List.mem_of_getElem? (i := 154) rfl) rfl
theorem ww_6_155 : Cond.methodLink "WordgardenLaw" 248 ⟨"WordgardenModel", "length", "(I)I"⟩ ∈ gaW := gaW_t6 (List.mem_of_getElem? (i := 155) rfl) rfl
theorem ww_6_156 : Cond.instanceMethod ⟨"WordgardenModel", "length", "(I)I"⟩ ∈ gaW := gaW_t6 (List.mem_of_getElem? (i := 156) rfl) rfl
theorem ww_6_157 : Cond.selects "WordgardenModel" ⟨"WordgardenModel", "length", "(I)I"⟩ ⟨"WordgardenModel", "length", "(I)I"⟩ ∈ gaW := gaW_t6 (List.mem_of_getElem? (i := 157) rfl) rfl
theorem ww_6_158 : Cond.code ⟨"WordgardenModel", "length", "(I)I"⟩ prog_9_method_55_code 2 (some .int) ∈ gaW := gaW_t6 (List.mem_of_getElem? (i := 158) rfl) rfl
theorem ww_6_159 : Cond.methodLink "WordgardenLaw" 251 ⟨"WordgardenModel", "isB", "(II)Z"⟩ ∈ gaW := gaW_t6 (List.mem_of_getElem? (i := 159) rfl) rfl
theorem ww_6_160 : Cond.instanceMethod ⟨"WordgardenModel", "isB", "(II)Z"⟩ ∈ gaW := gaW_t6 (List.mem_of_getElem? (i := 160) rfl) rfl
theorem ww_6_161 : Cond.selects "WordgardenModel" ⟨"WordgardenModel", "isB", "(II)Z"⟩ ⟨"WordgardenModel", "isB", "(II)Z"⟩ ∈ gaW := gaW_t6 (List.mem_of_getElem? (i := 161) rfl) rfl
theorem ww_6_162 : Cond.code ⟨"WordgardenModel", "isB", "(II)Z"⟩ prog_9_method_56_code 3 (some .boolean) ∈ gaW := gaW_t6 (List.mem_of_getElem? (i := 162) rfl) rfl
theorem ww_6_163 : Cond.methodLink "WordgardenLaw" 254 ⟨"WordgardenModel", "text", "(I)Ljava/lang/String;"⟩ ∈ gaW := gaW_t6 (List.mem_of_getElem? (i := 163) rfl) rfl
theorem ww_6_164 : Cond.instanceMethod ⟨"WordgardenModel", "text", "(I)Ljava/lang/String;"⟩ ∈ gaW := gaW_t6 (List.mem_of_getElem? (i := 164) rfl) rfl
theorem ww_6_165 : Cond.selects "WordgardenModel" ⟨"WordgardenModel", "text", "(I)Ljava/lang/String;"⟩ ⟨"WordgardenModel", "text", "(I)Ljava/lang/String;"⟩ ∈ gaW := gaW_t6 (List.mem_of_getElem? (i := 165) rfl) rfl
theorem ww_6_166 : Cond.code ⟨"WordgardenModel", "text", "(I)Ljava/lang/String;"⟩ prog_9_method_58_code 2 (some (.object "java/lang/String")) ∈ gaW := gaW_t6 (List.mem_of_getElem? (i := 166) rfl) rfl
theorem ww_6_168 : Cond.methodLink "WordgardenModel" 152 ⟨"WordgardenModel", "textOf", "([I)Ljava/lang/String;"⟩ ∈ gaW := gaW_t6 (List.mem_of_getElem? (i := 168) rfl) rfl
theorem ww_6_169 : Cond.static ⟨"WordgardenModel", "textOf", "([I)Ljava/lang/String;"⟩ ∈ gaW := gaW_t6 (List.mem_of_getElem? (i := 169) rfl) rfl
theorem ww_6_170 : Cond.code ⟨"WordgardenModel", "textOf", "([I)Ljava/lang/String;"⟩ prog_9_method_57_code 6 (some (.object "java/lang/String")) ∈ gaW := gaW_t6 (List.mem_of_getElem? (i := 170) rfl) rfl
theorem ww_6_171 : Cond.classLink "WordgardenModel" 139 "java/lang/StringBuilder" ∈ gaW := gaW_t6 (List.mem_of_getElem? (i := 171) rfl) rfl
theorem ww_6_172 : Cond.methodLink "WordgardenModel" 141 ⟨"java/lang/StringBuilder", "<init>", "()V"⟩ ∈ gaW := gaW_t6 (List.mem_of_getElem? (i := 172) rfl) rfl
theorem ww_6_173 : Cond.methodLink "WordgardenModel" 142 ⟨"java/lang/StringBuilder", "append", "(C)Ljava/lang/StringBuilder;"⟩ ∈ gaW := gaW_t6 (List.mem_of_getElem? (i := 173) rfl) rfl
theorem ww_6_174 : Cond.methodLink "WordgardenModel" 146 ⟨"java/lang/StringBuilder", "toString", "()Ljava/lang/String;"⟩ ∈ gaW := gaW_t6 (List.mem_of_getElem? (i := 174) rfl) rfl
theorem ww_6_175 : Cond.methodLink "WordgardenLaw" 264 ⟨"WordgardenModel", "count", "(IZ)I"⟩ ∈ gaW := gaW_t6 (List.mem_of_getElem? (i := 175) rfl) rfl
theorem ww_6_176 : Cond.instanceMethod ⟨"WordgardenModel", "count", "(IZ)I"⟩ ∈ gaW := gaW_t6 (List.mem_of_getElem? (i := 176) rfl) rfl
theorem ww_6_177 : Cond.selects "WordgardenModel" ⟨"WordgardenModel", "count", "(IZ)I"⟩ ⟨"WordgardenModel", "count", "(IZ)I"⟩ ∈ gaW := gaW_t6 (List.mem_of_getElem? (i := 177) rfl) rfl
theorem ww_6_178 : Cond.code ⟨"WordgardenModel", "count", "(IZ)I"⟩ prog_9_method_59_code 4 (some .int) ∈ gaW := gaW_t6 (List.mem_of_getElem? (i := 178) rfl) rfl
theorem ww_6_179 : Cond.methodLink "WordgardenLaw" 267 ⟨"WordgardenModel", "find", "(III)I"⟩ ∈ gaW := gaW_t6 (List.mem_of_getElem? (i := 179) rfl) rfl
theorem ww_6_180 : Cond.instanceMethod ⟨"WordgardenModel", "find", "(III)I"⟩ ∈ gaW := gaW_t6 (List.mem_of_getElem? (i := 180) rfl) rfl
theorem ww_6_181 : Cond.selects "WordgardenModel" ⟨"WordgardenModel", "find", "(III)I"⟩ ⟨"WordgardenModel", "find", "(III)I"⟩ ∈ gaW := gaW_t6 (List.mem_of_getElem? (i := 181) rfl) rfl
theorem ww_6_182 : Cond.code ⟨"WordgardenModel", "find", "(III)I"⟩ prog_9_method_60_code 5 (some .int) ∈ gaW := gaW_t6 (List.mem_of_getElem? (i := 182) rfl) rfl
theorem ww_6_183 : Cond.methodLink "WordgardenLaw" 270 ⟨"WordgardenModel", "findLast", "(III)I"⟩ ∈ gaW := gaW_t6 (List.mem_of_getElem? (i := 183) rfl) rfl
theorem ww_6_184 : Cond.instanceMethod ⟨"WordgardenModel", "findLast", "(III)I"⟩ ∈ gaW := gaW_t6 (List.mem_of_getElem? (i := 184) rfl) rfl
theorem ww_6_185 : Cond.selects "WordgardenModel" ⟨"WordgardenModel", "findLast", "(III)I"⟩ ⟨"WordgardenModel", "findLast", "(III)I"⟩ ∈ gaW := gaW_t6 (List.mem_of_getElem? (i := 185) rfl) rfl
theorem ww_6_186 : Cond.code ⟨"WordgardenModel", "findLast", "(III)I"⟩ prog_9_method_61_code 5 (some .int) ∈ gaW := gaW_t6 (List.mem_of_getElem? (i := 186) rfl) rfl
theorem ww_6_187 : Cond.methodLink "WordgardenLaw" 273 ⟨"WordgardenModel", "order", "(II)I"⟩ ∈ gaW := gaW_t6 (List.mem_of_getElem? (i := 187) rfl) rfl
theorem ww_6_188 : Cond.instanceMethod ⟨"WordgardenModel", "order", "(II)I"⟩ ∈ gaW := gaW_t6 (List.mem_of_getElem? (i := 188) rfl) rfl
theorem ww_6_189 : Cond.selects "WordgardenModel" ⟨"WordgardenModel", "order", "(II)I"⟩ ⟨"WordgardenModel", "order", "(II)I"⟩ ∈ gaW := gaW_t6 (List.mem_of_getElem? (i := 189) rfl) rfl
theorem ww_6_190 : Cond.code ⟨"WordgardenModel", "order", "(II)I"⟩ prog_9_method_62_code 6 (some .int) ∈ gaW := gaW_t6 (List.mem_of_getElem? (i := 190) rfl) rfl
theorem ww_6_191 : Cond.methodLink "WordgardenLaw" 276 ⟨"WordgardenModel", "isMirrored", "(I)Z"⟩ ∈ gaW := gaW_t6 (List.mem_of_getElem? (i := 191) rfl) rfl
theorem ww_6_192 : Cond.instanceMethod ⟨"WordgardenModel", "isMirrored", "(I)Z"⟩ ∈ gaW := gaW_t6 (List.mem_of_getElem? (i := 192) rfl) rfl
theorem ww_6_193 : Cond.selects "WordgardenModel" ⟨"WordgardenModel", "isMirrored", "(I)Z"⟩ ⟨"WordgardenModel", "isMirrored", "(I)Z"⟩ ∈ gaW := gaW_t6 (List.mem_of_getElem? (i := 193) rfl) rfl
theorem ww_6_194 : Cond.code ⟨"WordgardenModel", "isMirrored", "(I)Z"⟩ prog_9_method_63_code 2 (some .boolean) ∈ gaW := gaW_t6 (List.mem_of_getElem? (i := 194) rfl) rfl
theorem ww_6_195 : Cond.methodLink "WordgardenModel" 156 ⟨"WordgardenModel", "isMirrored", "([III)Z"⟩ ∈ gaW := gaW_t6 (List.mem_of_getElem? (i := 195) rfl) rfl
theorem ww_6_196 : Cond.static ⟨"WordgardenModel", "isMirrored", "([III)Z"⟩ ∈ gaW := gaW_t6 (List.mem_of_getElem? (i := 196) rfl) rfl
theorem ww_6_197 : Cond.code ⟨"WordgardenModel", "isMirrored", "([III)Z"⟩ prog_9_method_19_code 4 (some .boolean) ∈ gaW := gaW_t6 (List.mem_of_getElem? (i := 197) rfl) rfl
theorem ww_6_198 : Cond.methodLink "WordgardenLaw" 279 ⟨"WordgardenModel", "spread", "(IIZ)I"⟩ ∈ gaW := gaW_t6 (List.mem_of_getElem? (i := 198) rfl) rfl
theorem ww_6_199 : Cond.instanceMethod ⟨"WordgardenModel", "spread", "(IIZ)I"⟩ ∈ gaW := gaW_t6 (List.mem_of_getElem? (i := 199) rfl) rfl
theorem ww_6_200 : Cond.selects "WordgardenModel" ⟨"WordgardenModel", "spread", "(IIZ)I"⟩ ⟨"WordgardenModel", "spread", "(IIZ)I"⟩ ∈ gaW := gaW_t6 (List.mem_of_getElem? (i := 200) rfl) rfl
theorem ww_6_201 : Cond.code ⟨"WordgardenModel", "spread", "(IIZ)I"⟩ prog_9_method_65_code 10 (some .int) ∈ gaW := gaW_t6 (List.mem_of_getElem? (i := 201) rfl) rfl
theorem ww_6_202 : Cond.methodLink "WordgardenModel" 160 ⟨"WordgardenModel", "parts", "([IIZ)I"⟩ ∈ gaW := gaW_t6 (List.mem_of_getElem? (i := 202) rfl) rfl
theorem ww_6_203 : Cond.static ⟨"WordgardenModel", "parts", "([IIZ)I"⟩ ∈ gaW := gaW_t6 (List.mem_of_getElem? (i := 203) rfl) rfl
theorem ww_6_204 : Cond.code ⟨"WordgardenModel", "parts", "([IIZ)I"⟩ prog_9_method_64_code 3 (some .int) ∈ gaW := gaW_t6 (List.mem_of_getElem? (i := 204) rfl) rfl
theorem ww_6_205 : Cond.methodLink "WordgardenModel" 164 ⟨"java/lang/Math", "max", "(II)I"⟩ ∈ gaW := gaW_t6 (List.mem_of_getElem? (i := 205) rfl) rfl
theorem ww_6_206 : Cond.methodLink "WordgardenModel" 170 ⟨"java/lang/Math", "min", "(II)I"⟩ ∈ gaW := gaW_t6 (List.mem_of_getElem? (i := 206) rfl) rfl
theorem ww_6_207 : Cond.methodLink "WordgardenLaw" 282 ⟨"WordgardenModel", "kinds", "(IIZ)I"⟩ ∈ gaW := gaW_t6 (List.mem_of_getElem? (i := 207) rfl) rfl
theorem ww_6_208 : Cond.instanceMethod ⟨"WordgardenModel", "kinds", "(IIZ)I"⟩ ∈ gaW := gaW_t6 (List.mem_of_getElem? (i := 208) rfl) rfl
theorem ww_6_209 : Cond.selects "WordgardenModel" ⟨"WordgardenModel", "kinds", "(IIZ)I"⟩ ⟨"WordgardenModel", "kinds", "(IIZ)I"⟩ ∈ gaW := gaW_t6 (List.mem_of_getElem? (i := 209) rfl) rfl
theorem ww_6_210 : Cond.code ⟨"WordgardenModel", "kinds", "(IIZ)I"⟩ prog_9_method_67_code 9 (some .int) ∈ gaW := gaW_t6 (List.mem_of_getElem? (i := 210) rfl) rfl
theorem ww_6_211 : Cond.methodLink "WordgardenModel" 173 ⟨"WordgardenModel", "areLike", "([IIII)Z"⟩ ∈ gaW := gaW_t6 (List.mem_of_getElem? (i := 211) rfl) rfl
theorem ww_6_212 : Cond.static ⟨"WordgardenModel", "areLike", "([IIII)Z"⟩ ∈ gaW := gaW_t6 (List.mem_of_getElem? (i := 212) rfl) rfl
theorem ww_6_213 : Cond.code ⟨"WordgardenModel", "areLike", "([IIII)Z"⟩ prog_9_method_66_code 5 (some .boolean) ∈ gaW := gaW_t6 (List.mem_of_getElem? (i := 213) rfl) rfl
theorem ww_6_214 : Cond.methodLink "WordgardenLaw" 285 ⟨"WordgardenModel", "times", "(I)I"⟩ ∈ gaW := gaW_t6 (List.mem_of_getElem? (i := 214) rfl) rfl
theorem ww_6_215 : Cond.instanceMethod ⟨"WordgardenModel", "times", "(I)I"⟩ ∈ gaW := gaW_t6 (List.mem_of_getElem? (i := 215) rfl) rfl
theorem ww_6_216 : Cond.selects "WordgardenModel" ⟨"WordgardenModel", "times", "(I)I"⟩ ⟨"WordgardenModel", "times", "(I)I"⟩ ∈ gaW := gaW_t6 (List.mem_of_getElem? (i := 216) rfl) rfl
theorem ww_6_217 : Cond.code ⟨"WordgardenModel", "times", "(I)I"⟩ prog_9_method_69_code 2 (some .int) ∈ gaW := gaW_t6 (List.mem_of_getElem? (i := 217) rfl) rfl
theorem ww_6_218 : Cond.methodLink "WordgardenModel" 177 ⟨"WordgardenModel", "timesOf", "([I)I"⟩ ∈ gaW := gaW_t6 (List.mem_of_getElem? (i := 218) rfl) rfl
theorem ww_6_219 : Cond.static ⟨"WordgardenModel", "timesOf", "([I)I"⟩ ∈ gaW := gaW_t6 (List.mem_of_getElem? (i := 219) rfl) rfl
theorem ww_6_220 : Cond.code ⟨"WordgardenModel", "timesOf", "([I)I"⟩ prog_9_method_68_code 5 (some .int) ∈ gaW := gaW_t6 (List.mem_of_getElem? (i := 220) rfl) rfl
theorem ww_6_221 : Cond.methodLink "WordgardenLaw" 288 ⟨"WordgardenModel", "overlaps", "(I)I"⟩ ∈ gaW := gaW_t6 (List.mem_of_getElem? (i := 221) rfl) rfl
theorem ww_6_222 : Cond.instanceMethod ⟨"WordgardenModel", "overlaps", "(I)I"⟩ ∈ gaW := gaW_t6 (List.mem_of_getElem? (i := 222) rfl) rfl
theorem ww_6_223 : Cond.selects "WordgardenModel" ⟨"WordgardenModel", "overlaps", "(I)I"⟩ ⟨"WordgardenModel", "overlaps", "(I)I"⟩ ∈ gaW := gaW_t6 (List.mem_of_getElem? (i := 223) rfl) rfl
theorem ww_6_224 : Cond.code ⟨"WordgardenModel", "overlaps", "(I)I"⟩ prog_9_method_71_code 2 (some .int) ∈ gaW := gaW_t6 (List.mem_of_getElem? (i := 224) rfl) rfl
theorem ww_6_225 : Cond.methodLink "WordgardenModel" 180 ⟨"WordgardenModel", "overlapsOf", "([I)I"⟩ ∈ gaW := gaW_t6 (List.mem_of_getElem? (i := 225) rfl) rfl
theorem ww_6_226 : Cond.static ⟨"WordgardenModel", "overlapsOf", "([I)I"⟩ ∈ gaW := gaW_t6 (List.mem_of_getElem? (i := 226) rfl) rfl
theorem ww_6_227 : Cond.code ⟨"WordgardenModel", "overlapsOf", "([I)I"⟩ prog_9_method_70_code 4 (some .int) ∈ gaW := gaW_t6 (List.mem_of_getElem? (i := 227) rfl) rfl
theorem ww_6_228 : Cond.methodLink "WordgardenLaw" 291 ⟨"WordgardenModel", "mirrors", "(I)I"⟩ ∈ gaW := gaW_t6 (List.mem_of_getElem? (i := 228) rfl) rfl
theorem ww_6_229 : Cond.instanceMethod ⟨"WordgardenModel", "mirrors", "(I)I"⟩ ∈ gaW := gaW_t6 (List.mem_of_getElem? (i := 229) rfl) rfl
theorem ww_6_230 : Cond.selects "WordgardenModel" ⟨"WordgardenModel", "mirrors", "(I)I"⟩ ⟨"WordgardenModel", "mirrors", "(I)I"⟩ ∈ gaW := gaW_t6 (List.mem_of_getElem? (i := 230) rfl) rfl
theorem ww_6_231 : Cond.code ⟨"WordgardenModel", "mirrors", "(I)I"⟩ prog_9_method_72_code 8 (some .int) ∈ gaW := gaW_t6 (List.mem_of_getElem? (i := 231) rfl) rfl
theorem ww_6_232 : Cond.methodLink "WordgardenLaw" 294 ⟨"WordgardenModel", "folds", "(I)I"⟩ ∈ gaW := gaW_t6 (List.mem_of_getElem? (i := 232) rfl) rfl
theorem ww_6_233 : Cond.instanceMethod ⟨"WordgardenModel", "folds", "(I)I"⟩ ∈ gaW := gaW_t6 (List.mem_of_getElem? (i := 233) rfl) rfl
theorem ww_6_234 : Cond.selects "WordgardenModel" ⟨"WordgardenModel", "folds", "(I)I"⟩ ⟨"WordgardenModel", "folds", "(I)I"⟩ ∈ gaW := gaW_t6 (List.mem_of_getElem? (i := 234) rfl) rfl
theorem ww_6_235 : Cond.code ⟨"WordgardenModel", "folds", "(I)I"⟩ prog_9_method_74_code 2 (some .int) ∈ gaW := gaW_t6 (List.mem_of_getElem? (i := 235) rfl) rfl
theorem ww_6_236 : Cond.methodLink "WordgardenModel" 183 ⟨"WordgardenModel", "foldsOf", "([I)I"⟩ ∈ gaW := gaW_t6 (List.mem_of_getElem? (i := 236) rfl) rfl
theorem ww_6_237 : Cond.static ⟨"WordgardenModel", "foldsOf", "([I)I"⟩ ∈ gaW := gaW_t6 (List.mem_of_getElem? (i := 237) rfl) rfl
theorem ww_6_238 : Cond.code ⟨"WordgardenModel", "foldsOf", "([I)I"⟩ prog_9_method_73_code 3 (some .int) ∈ gaW := gaW_t6 (List.mem_of_getElem? (i := 238) rfl) rfl
theorem ww_6_239 : Cond.methodLink "WordgardenLaw" 297 ⟨"WordgardenModel", "least", "(I)I"⟩ ∈ gaW := gaW_t6 (List.mem_of_getElem? (i := 239) rfl) rfl
theorem ww_7_0 : Cond.instanceMethod ⟨"WordgardenModel", "least", "(I)I"⟩ ∈ gaW := gaW_t7 (List.mem_of_getElem? (i := 0) rfl) rfl
theorem ww_7_1 : Cond.selects "WordgardenModel" ⟨"WordgardenModel", "least", "(I)I"⟩ ⟨"WordgardenModel", "least", "(I)I"⟩ ∈ gaW := gaW_t7 (List.mem_of_getElem? (i := 1) rfl) rfl
theorem ww_7_2 : Cond.code ⟨"WordgardenModel", "least", "(I)I"⟩ prog_9_method_76_code 2 (some .int) ∈ gaW := gaW_t7 (List.mem_of_getElem? (i := 2) rfl) rfl
theorem ww_7_3 : Cond.methodLink "WordgardenModel" 186 ⟨"WordgardenModel", "leastOf", "([I)I"⟩ ∈ gaW := gaW_t7 (List.mem_of_getElem? (i := 3) rfl) rfl
theorem ww_7_4 : Cond.static ⟨"WordgardenModel", "leastOf", "([I)I"⟩ ∈ gaW := gaW_t7 (List.mem_of_getElem? (i := 4) rfl) rfl
theorem ww_7_5 : Cond.code ⟨"WordgardenModel", "leastOf", "([I)I"⟩ prog_9_method_75_code 4 (some .int) ∈ gaW := gaW_t7 (List.mem_of_getElem? (i := 5) rfl) rfl
theorem ww_7_6 : Cond.methodLink "WordgardenLaw" 300 ⟨"WordgardenModel", "isApart", "(II)Z"⟩ ∈ gaW := gaW_t7 (List.mem_of_getElem? (i := 6) rfl) rfl
theorem ww_7_7 : Cond.instanceMethod ⟨"WordgardenModel", "isApart", "(II)Z"⟩ ∈ gaW := gaW_t7 (List.mem_of_getElem? (i := 7) rfl) rfl
theorem ww_7_8 : Cond.selects "WordgardenModel" ⟨"WordgardenModel", "isApart", "(II)Z"⟩ ⟨"WordgardenModel", "isApart", "(II)Z"⟩ ∈ gaW := gaW_t7 (List.mem_of_getElem? (i := 8) rfl) rfl
theorem ww_7_9 : Cond.code ⟨"WordgardenModel", "isApart", "(II)Z"⟩ prog_9_method_77_code 3 (some .boolean) ∈ gaW := gaW_t7 (List.mem_of_getElem? (i := 9) rfl) rfl
theorem ww_7_10 : Cond.methodLink "WordgardenLaw" 303 ⟨"WordgardenModel", "turns", "(I)Ljava/lang/String;"⟩ ∈ gaW := gaW_t7 (List.mem_of_getElem? (i := 10) rfl) rfl
theorem ww_7_11 : Cond.instanceMethod ⟨"WordgardenModel", "turns", "(I)Ljava/lang/String;"⟩ ∈ gaW := gaW_t7 (List.mem_of_getElem? (i := 11) rfl) rfl
theorem ww_7_12 : Cond.selects "WordgardenModel" ⟨"WordgardenModel", "turns", "(I)Ljava/lang/String;"⟩ ⟨"WordgardenModel", "turns", "(I)Ljava/lang/String;"⟩ ∈ gaW := gaW_t7 (List.mem_of_getElem? (i := 12) rfl) rfl
theorem ww_7_13 : Cond.code ⟨"WordgardenModel", "turns", "(I)Ljava/lang/String;"⟩ prog_9_method_78_code 4 (some (.object "java/lang/String")) ∈ gaW := gaW_t7 (List.mem_of_getElem? (i := 13) rfl) rfl
theorem ww_7_14 : Cond.methodLink "WordgardenModel" 189 ⟨"java/lang/StringBuilder", "append", "(I)Ljava/lang/StringBuilder;"⟩ ∈ gaW := gaW_t7 (List.mem_of_getElem? (i := 14) rfl) rfl
theorem ww_7_15 : Cond.methodLink "WordgardenLaw" 306 ⟨"WordgardenModel", "grown", "(IZ)Ljava/lang/String;"⟩ ∈ gaW := gaW_t7 (List.mem_of_getElem? (i := 15) rfl) rfl
theorem ww_7_16 : Cond.instanceMethod ⟨"WordgardenModel", "grown", "(IZ)Ljava/lang/String;"⟩ ∈ gaW := gaW_t7 (List.mem_of_getElem? (i := 16) rfl) rfl
theorem ww_7_17 : Cond.selects "WordgardenModel" ⟨"WordgardenModel", "grown", "(IZ)Ljava/lang/String;"⟩ ⟨"WordgardenModel", "grown", "(IZ)Ljava/lang/String;"⟩ ∈ gaW := gaW_t7 (List.mem_of_getElem? (i := 17) rfl) rfl
theorem ww_7_18 : Cond.code ⟨"WordgardenModel", "grown", "(IZ)Ljava/lang/String;"⟩ prog_9_method_79_code 3 (some (.object "java/lang/String")) ∈ gaW := gaW_t7 (List.mem_of_getElem? (i := 18) rfl) rfl
theorem ww_7_19 : Cond.methodLink "WordgardenModel" 192 ⟨"WordgardenModel", "word", "(IZ)[I"⟩ ∈ gaW := gaW_t7 (List.mem_of_getElem? (i := 19) rfl) rfl
theorem ww_7_21 : Cond.instanceMethod ⟨"WordgardenModel", "word", "(IZ)[I"⟩ ∈ gaW := gaW_t7 (List.mem_of_getElem? (i := 21) rfl) rfl
theorem ww_7_22 : Cond.code ⟨"WordgardenModel", "word", "(IZ)[I"⟩ prog_9_method_49_code 3 (some (.array .int)) ∈ gaW := gaW_t7 (List.mem_of_getElem? (i := 22) rfl) rfl
theorem ww_7_23 : Cond.methodLink "WordgardenLaw" 309 ⟨"WordgardenModel", "size", "(IZ)I"⟩ ∈ gaW := gaW_t7 (List.mem_of_getElem? (i := 23) rfl) rfl
theorem ww_7_24 : Cond.instanceMethod ⟨"WordgardenModel", "size", "(IZ)I"⟩ ∈ gaW := gaW_t7 (List.mem_of_getElem? (i := 24) rfl) rfl
theorem ww_7_25 : Cond.selects "WordgardenModel" ⟨"WordgardenModel", "size", "(IZ)I"⟩ ⟨"WordgardenModel", "size", "(IZ)I"⟩ ∈ gaW := gaW_t7 (List.mem_of_getElem? (i := 25) rfl) rfl
theorem ww_7_26 : Cond.code ⟨"WordgardenModel", "size", "(IZ)I"⟩ prog_9_method_80_code 3 (some .int) ∈ gaW := gaW_t7 (List.mem_of_getElem? (i := 26) rfl) rfl
theorem ww_7_27 : Cond.methodLink "WordgardenLaw" 312 ⟨"WordgardenModel", "ups", "(IZ)I"⟩ ∈ gaW := gaW_t7 (List.mem_of_getElem? (i := 27) rfl) rfl
theorem ww_7_28 : Cond.instanceMethod ⟨"WordgardenModel", "ups", "(IZ)I"⟩ ∈ gaW := gaW_t7 (List.mem_of_getElem? (i := 28) rfl) rfl
theorem ww_7_29 : Cond.selects "WordgardenModel" ⟨"WordgardenModel", "ups", "(IZ)I"⟩ ⟨"WordgardenModel", "ups", "(IZ)I"⟩ ∈ gaW := gaW_t7 (List.mem_of_getElem? (i := 29) rfl) rfl
theorem ww_7_30 : Cond.code ⟨"WordgardenModel", "ups", "(IZ)I"⟩ prog_9_method_81_code 3 (some .int) ∈ gaW := gaW_t7 (List.mem_of_getElem? (i := 30) rfl) rfl
theorem ww_7_31 : Cond.methodLink "WordgardenLaw" 315 ⟨"WordgardenModel", "cross", "(I)I"⟩ ∈ gaW := gaW_t7 (List.mem_of_getElem? (i := 31) rfl) rfl
theorem ww_7_32 : Cond.instanceMethod ⟨"WordgardenModel", "cross", "(I)I"⟩ ∈ gaW := gaW_t7 (List.mem_of_getElem? (i := 32) rfl) rfl
theorem ww_7_33 : Cond.selects "WordgardenModel" ⟨"WordgardenModel", "cross", "(I)I"⟩ ⟨"WordgardenModel", "cross", "(I)I"⟩ ∈ gaW := gaW_t7 (List.mem_of_getElem? (i := 33) rfl) rfl
theorem ww_7_34 : Cond.code ⟨"WordgardenModel", "cross", "(I)I"⟩ prog_9_method_83_code 2 (some .int) ∈ gaW := gaW_t7 (List.mem_of_getElem? (i := 34) rfl) rfl
theorem ww_7_35 : Cond.methodLink "WordgardenModel" 196 ⟨"WordgardenModel", "crossOf", "([I[I)I"⟩ ∈ gaW := gaW_t7 (List.mem_of_getElem? (i := 35) rfl) rfl
theorem ww_7_36 : Cond.static ⟨"WordgardenModel", "crossOf", "([I[I)I"⟩ ∈ gaW := gaW_t7 (List.mem_of_getElem? (i := 36) rfl) rfl
theorem ww_7_37 : Cond.code ⟨"WordgardenModel", "crossOf", "([I[I)I"⟩ prog_9_method_82_code 2 (some .int) ∈ gaW := gaW_t7 (List.mem_of_getElem? (i := 37) rfl) rfl
theorem ww_7_38 : Cond.methodLink "WordgardenLaw" 318 ⟨"WordgardenModel", "alike", "(I)I"⟩ ∈ gaW := gaW_t7 (List.mem_of_getElem? (i := 38) rfl) rfl
theorem ww_7_39 : Cond.instanceMethod ⟨"WordgardenModel", "alike", "(I)I"⟩ ∈ gaW := gaW_t7 (List.mem_of_getElem? (i := 39) rfl) rfl
theorem ww_7_40 : Cond.selects "WordgardenModel" ⟨"WordgardenModel", "alike", "(I)I"⟩ ⟨"WordgardenModel", "alike", "(I)I"⟩ ∈ gaW := gaW_t7 (List.mem_of_getElem? (i := 40) rfl) rfl
theorem ww_7_41 : Cond.code ⟨"WordgardenModel", "alike", "(I)I"⟩ prog_9_method_85_code 2 (some .int) ∈ gaW := gaW_t7 (List.mem_of_getElem? (i := 41) rfl) rfl
theorem ww_7_42 : Cond.methodLink "WordgardenModel" 200 ⟨"WordgardenModel", "alikeOf", "([I[I)I"⟩ ∈ gaW := gaW_t7 (List.mem_of_getElem? (i := 42) rfl) rfl
theorem ww_7_43 : Cond.static ⟨"WordgardenModel", "alikeOf", "([I[I)I"⟩ ∈ gaW := gaW_t7 (List.mem_of_getElem? (i := 43) rfl) rfl
theorem ww_7_44 : Cond.code ⟨"WordgardenModel", "alikeOf", "([I[I)I"⟩ prog_9_method_84_code 5 (some .int) ∈ gaW := gaW_t7 (List.mem_of_getElem? (i := 44) rfl) rfl
theorem ww_7_45 : Cond.methodLink "WordgardenLaw" 321 ⟨"WordgardenModel", "house", "(I)I"⟩ ∈ gaW := gaW_t7 (List.mem_of_getElem? (i := 45) rfl) rfl
theorem ww_7_46 : Cond.instanceMethod ⟨"WordgardenModel", "house", "(I)I"⟩ ∈ gaW := gaW_t7 (List.mem_of_getElem? (i := 46) rfl) rfl
theorem ww_7_47 : Cond.selects "WordgardenModel" ⟨"WordgardenModel", "house", "(I)I"⟩ ⟨"WordgardenModel", "house", "(I)I"⟩ ∈ gaW := gaW_t7 (List.mem_of_getElem? (i := 47) rfl) rfl
theorem ww_7_48 : Cond.code ⟨"WordgardenModel", "house", "(I)I"⟩ prog_9_method_87_code 2 (some .int) ∈ gaW := gaW_t7 (List.mem_of_getElem? (i := 48) rfl) rfl
theorem ww_7_49 : Cond.methodLink "WordgardenModel" 206 ⟨"WordgardenModel", "told", "(I)I"⟩ ∈ gaW := gaW_t7 (List.mem_of_getElem? (i := 49) rfl) rfl
theorem ww_7_51 : Cond.instanceMethod ⟨"WordgardenModel", "told", "(I)I"⟩ ∈ gaW := gaW_t7 (List.mem_of_getElem? (i := 51) rfl) rfl
theorem ww_7_52 : Cond.code ⟨"WordgardenModel", "told", "(I)I"⟩ prog_9_method_86_code 2 (some .int) ∈ gaW := gaW_t7 (List.mem_of_getElem? (i := 52) rfl) rfl
theorem ww_7_53 : Cond.methodLink "WordgardenLaw" 325 ⟨"WordgardenModel", "knock", "()I"⟩ ∈ gaW := gaW_t7 (List.mem_of_getElem? (i := 53) rfl) rfl
theorem ww_7_54 : Cond.instanceMethod ⟨"WordgardenModel", "knock", "()I"⟩ ∈ gaW := gaW_t7 (List.mem_of_getElem? (i := 54) rfl) rfl
theorem ww_7_55 : Cond.selects "WordgardenModel" ⟨"WordgardenModel", "knock", "()I"⟩ ⟨"WordgardenModel", "knock", "()I"⟩ ∈ gaW := gaW_t7 (List.mem_of_getElem? (i := 55) rfl) rfl
theorem ww_7_56 : Cond.code ⟨"WordgardenModel", "knock", "()I"⟩ prog_9_method_88_code 1 (some .int) ∈ gaW := gaW_t7 (List.mem_of_getElem? (i := 56) rfl) rfl
theorem ww_7_57 : Cond.methodLink "WordgardenLaw" 330 ⟨"WordgardenModel", "isSound", "()Z"⟩ ∈ gaW := gaW_t7 (List.mem_of_getElem? (i := 57) rfl) rfl
theorem ww_7_58 : Cond.instanceMethod ⟨"WordgardenModel", "isSound", "()Z"⟩ ∈ gaW := gaW_t7 (List.mem_of_getElem? (i := 58) rfl) rfl
theorem ww_7_59 : Cond.selects "WordgardenModel" ⟨"WordgardenModel", "isSound", "()Z"⟩ ⟨"WordgardenModel", "isSound", "()Z"⟩ ∈ gaW := gaW_t7 (List.mem_of_getElem? (i := 59) rfl) rfl
theorem ww_7_60 : Cond.code ⟨"WordgardenModel", "isSound", "()Z"⟩ prog_9_method_90_code 1 (some .boolean) ∈ gaW := gaW_t7 (List.mem_of_getElem? (i := 60) rfl) rfl
theorem ww_7_61 : Cond.methodLink "WordgardenModel" 210 ⟨"WordgardenModel", "isWhole", "()Z"⟩ ∈ gaW := gaW_t7 (List.mem_of_getElem? (i := 61) rfl) rfl
theorem ww_7_63 : Cond.instanceMethod ⟨"WordgardenModel", "isWhole", "()Z"⟩ ∈ gaW := gaW_t7 (List.mem_of_getElem? (i := 63) rfl) rfl
theorem ww_7_64 : Cond.code ⟨"WordgardenModel", "isWhole", "()Z"⟩ prog_9_method_89_code 5 (some .boolean) ∈ gaW := gaW_t7 (List.mem_of_getElem? (i := 64) rfl) rfl
theorem ww_7_65 : Cond.methodLink "WordgardenLaw" 335 ⟨"WordgardenModel", "digest", "()J"⟩ ∈ gaW := gaW_t7 (List.mem_of_getElem? (i := 65) rfl) rfl
theorem ww_7_66 : Cond.instanceMethod ⟨"WordgardenModel", "digest", "()J"⟩ ∈ gaW := gaW_t7 (List.mem_of_getElem? (i := 66) rfl) rfl
theorem ww_7_67 : Cond.selects "WordgardenModel" ⟨"WordgardenModel", "digest", "()J"⟩ ⟨"WordgardenModel", "digest", "()J"⟩ ∈ gaW := gaW_t7 (List.mem_of_getElem? (i := 67) rfl) rfl
theorem ww_7_68 : Cond.code ⟨"WordgardenModel", "digest", "()J"⟩ prog_9_method_93_code 11 (some .long) ∈ gaW := gaW_t7 (List.mem_of_getElem? (i := 68) rfl) rfl
theorem ww_7_69 : Cond.constantLong "WordgardenModel" 220 (7979 : Int64) ∈ gaW := gaW_t7 (List.mem_of_getElem? (i := 69) rfl) rfl
theorem ww_7_70 : Cond.methodLink "WordgardenModel" 216 ⟨"WordgardenModel", "add", "(JJ)J"⟩ ∈ gaW := gaW_t7 (List.mem_of_getElem? (i := 70) rfl) rfl
theorem ww_7_71 : Cond.static ⟨"WordgardenModel", "add", "(JJ)J"⟩ ∈ gaW := gaW_t7 (List.mem_of_getElem? (i := 71) rfl) rfl
theorem ww_7_72 : Cond.code ⟨"WordgardenModel", "add", "(JJ)J"⟩ prog_9_method_91_code 4 (some .long) ∈ gaW := gaW_t7 (List.mem_of_getElem? (i := 72) rfl) rfl
theorem ww_7_73 : Cond.constantLong "WordgardenModel" 214 (31 : Int64) ∈ gaW := gaW_t7 (List.mem_of_getElem? (i := 73) rfl) rfl
theorem ww_7_74 : Cond.methodLink "WordgardenModel" 222 ⟨"WordgardenModel", "added", "(JI)J"⟩ ∈ gaW := gaW_t7 (List.mem_of_getElem? (i := 74) rfl) rfl
theorem ww_7_76 : Cond.instanceMethod ⟨"WordgardenModel", "added", "(JI)J"⟩ ∈ gaW := gaW_t7 (List.mem_of_getElem? (i := 76) rfl) rfl
theorem ww_7_77 : Cond.code ⟨"WordgardenModel", "added", "(JI)J"⟩ prog_9_method_92_code 9 (some .long) ∈ gaW := gaW_t7 (List.mem_of_getElem? (i := 77) rfl) rfl
theorem ww_7_78 : Cond.methodLink "WordgardenLaw" 255 ⟨"java/lang/String", "equals", "(Ljava/lang/Object;)Z"⟩ ∈ gaW := gaW_t7 (List.mem_of_getElem? (i := 78) rfl) rfl
theorem ww_7_79 : Cond.instanceMethod ⟨"java/lang/String", "equals", "(Ljava/lang/Object;)Z"⟩ ∈ gaW := gaW_t7 (List.mem_of_getElem? (i := 79) rfl) rfl
theorem ww_7_80 : Cond.selects "java/lang/String" ⟨"java/lang/String", "equals", "(Ljava/lang/Object;)Z"⟩ ⟨"java/lang/String", "equals", "(Ljava/lang/Object;)Z"⟩ ∈ gaW := gaW_t7 (List.mem_of_getElem? (i := 80) rfl) rfl
theorem ww_7_81 : Cond.code ⟨"java/lang/String", "equals", "(Ljava/lang/Object;)Z"⟩ prog_19_method_66_code 3 (some .boolean) ∈ gaW := gaW_t7 (List.mem_of_getElem? (i := 81) rfl) rfl
theorem ww_7_82 : Cond.classLink "java/lang/String" 10 "java/lang/String" ∈ gaW := gaW_t7 (List.mem_of_getElem? (i := 82) rfl) rfl
theorem ww_7_83 : Cond.methodLink "java/lang/String" 541 ⟨"java/lang/StringLatin1", "equals", "([B[B)Z"⟩ ∈ gaW := gaW_t7 (List.mem_of_getElem? (i := 83) rfl) rfl
theorem ww_7_84 : Cond.static ⟨"java/lang/StringLatin1", "equals", "([B[B)Z"⟩ ∈ gaW := gaW_t7 (List.mem_of_getElem? (i := 84) rfl) rfl
theorem ww_7_85 : Cond.code ⟨"java/lang/StringLatin1", "equals", "([B[B)Z"⟩ prog_21_method_13_code 3 (some .boolean) ∈ gaW := gaW_t7 (List.mem_of_getElem? (i := 85) rfl) rfl
theorem ww_7_87 : Cond.sameMethod "java/lang/AbstractStringBuilder" "java/lang/AbstractStringBuilder" "append" "(C)Ljava/lang/AbstractStringBuilder;" ∈ gaW := gaW_t7 (List.mem_of_getElem? (i := 87) rfl) rfl
theorem ww_7_88 : Cond.sameMethod "java/lang/AbstractStringBuilder" "java/lang/AbstractStringBuilder" "ensureCapacityInternal" "(I)V" ∈ gaW := gaW_t7 (List.mem_of_getElem? (i := 88) rfl) rfl
theorem ww_7_89 : Cond.sameMethod "java/lang/AbstractStringBuilder" "java/lang/AbstractStringBuilder" "newCapacity" "(I)I" ∈ gaW := gaW_t7 (List.mem_of_getElem? (i := 89) rfl) rfl
theorem ww_7_91 : Cond.sameMethod "java/lang/AbstractStringBuilder" "java/lang/AbstractStringBuilder" "append" "(I)Ljava/lang/AbstractStringBuilder;" ∈ gaW := gaW_t7 (List.mem_of_getElem? (i := 91) rfl) rfl
theorem wp_1_0 : Cond.selects "Wordgarden" ⟨"Wordgarden", "isSheetSound", "(I)Z"⟩ ⟨"Wordgarden", "isSheetSound", "(I)Z"⟩ ∈ gaW := gaW_p1 (q := (⟨"Wordgarden", "isSheetSound", "(I)Z"⟩, 9)) (List.mem_of_getElem? (i := 0) rfl)
theorem wp_1_1 : Cond.selects "Wordgarden" ⟨"Wordgarden", "wordOf", "(I)LWordgarden$Word;"⟩ ⟨"Wordgarden", "wordOf", "(I)LWordgarden$Word;"⟩ ∈ gaW := gaW_p1 (q := (⟨"Wordgarden", "wordOf", "(I)LWordgarden$Word;"⟩, 9)) (List.mem_of_getElem? (i := 1) rfl)
theorem wp_1_3 : Cond.selects "Wordgarden" ⟨"Wordgarden", "isGrowthSound", "(I)Z"⟩ ⟨"Wordgarden", "isGrowthSound", "(I)Z"⟩ ∈ gaW := gaW_p1 (q := (⟨"Wordgarden", "isGrowthSound", "(I)Z"⟩, 9)) (List.mem_of_getElem? (i := 3) rfl)
theorem wp_1_4 : Cond.selects "Wordgarden" ⟨"Wordgarden", "growthOf", "(I)LWordgarden$Growth;"⟩ ⟨"Wordgarden", "growthOf", "(I)LWordgarden$Growth;"⟩ ∈ gaW := gaW_p1 (q := (⟨"Wordgarden", "growthOf", "(I)LWordgarden$Growth;"⟩, 9)) (List.mem_of_getElem? (i := 4) rfl)
theorem wp_1_5 : Cond.selects "Wordgarden$Growth" ⟨"Wordgarden$Growth", "addLineEnd", "(LWordgarden$Word;)V"⟩ ⟨"Wordgarden$Growth", "addLineEnd", "(LWordgarden$Word;)V"⟩ ∈ gaW := gaW_p1 (q := (⟨"Wordgarden$Growth", "addLineEnd", "(LWordgarden$Word;)V"⟩, 4)) (List.mem_of_getElem? (i := 5) rfl)
theorem wp_1_6 : Cond.selects "Wordgarden" ⟨"Wordgarden", "digestSheet", "(JI)J"⟩ ⟨"Wordgarden", "digestSheet", "(JI)J"⟩ ∈ gaW := gaW_p1 (q := (⟨"Wordgarden", "digestSheet", "(JI)J"⟩, 9)) (List.mem_of_getElem? (i := 6) rfl)
theorem wp_1_7 : Cond.selects "Wordgarden" ⟨"Wordgarden", "digestGrowth", "(JI)J"⟩ ⟨"Wordgarden", "digestGrowth", "(JI)J"⟩ ∈ gaW := gaW_p1 (q := (⟨"Wordgarden", "digestGrowth", "(JI)J"⟩, 9)) (List.mem_of_getElem? (i := 7) rfl)
theorem wp_1_8 : Cond.selects "Wordgarden" ⟨"Wordgarden", "sheetActDone", "(I)I"⟩ ⟨"Wordgarden", "sheetActDone", "(I)I"⟩ ∈ gaW := gaW_p1 (q := (⟨"Wordgarden", "sheetActDone", "(I)I"⟩, 9)) (List.mem_of_getElem? (i := 8) rfl)
theorem wp_1_9 : Cond.selects "Wordgarden" ⟨"Wordgarden", "exchangePart", "(LWordgarden$Word;IILWordgarden$Word;)I"⟩ ⟨"Wordgarden", "exchangePart", "(LWordgarden$Word;IILWordgarden$Word;)I"⟩ ∈ gaW := gaW_p1 (q := (⟨"Wordgarden", "exchangePart", "(LWordgarden$Word;IILWordgarden$Word;)I"⟩, 9)) (List.mem_of_getElem? (i := 9) rfl)
theorem wp_1_10 : Cond.selects "Wordgarden" ⟨"Wordgarden", "refuse", "()I"⟩ ⟨"Wordgarden", "refuse", "()I"⟩ ∈ gaW := gaW_p1 (q := (⟨"Wordgarden", "refuse", "()I"⟩, 9)) (List.mem_of_getElem? (i := 10) rfl)
theorem wp_1_11 : Cond.selects "Wordgarden" ⟨"Wordgarden", "takeOut", "(LWordgarden$Word;II)I"⟩ ⟨"Wordgarden", "takeOut", "(LWordgarden$Word;II)I"⟩ ∈ gaW := gaW_p1 (q := (⟨"Wordgarden", "takeOut", "(LWordgarden$Word;II)I"⟩, 9)) (List.mem_of_getElem? (i := 11) rfl)
theorem wp_1_12 : Cond.selects "Wordgarden" ⟨"Wordgarden", "settle", "(LWordgarden$Word;LWordgarden$Word;)I"⟩ ⟨"Wordgarden", "settle", "(LWordgarden$Word;LWordgarden$Word;)I"⟩ ∈ gaW := gaW_p1 (q := (⟨"Wordgarden", "settle", "(LWordgarden$Word;LWordgarden$Word;)I"⟩, 9)) (List.mem_of_getElem? (i := 12) rfl)
theorem wp_1_13 : Cond.selects "Wordgarden" ⟨"Wordgarden", "takeRule", "(II)V"⟩ ⟨"Wordgarden", "takeRule", "(II)V"⟩ ∈ gaW := gaW_p1 (q := (⟨"Wordgarden", "takeRule", "(II)V"⟩, 9)) (List.mem_of_getElem? (i := 13) rfl)
theorem wp_1_14 : Cond.selects "Wordgarden$Rule" ⟨"Wordgarden$Rule", "markImages", "(LWordgarden$Word;)V"⟩ ⟨"Wordgarden$Rule", "markImages", "(LWordgarden$Word;)V"⟩ ∈ gaW := gaW_p1 (q := (⟨"Wordgarden$Rule", "markImages", "(LWordgarden$Word;)V"⟩, 3)) (List.mem_of_getElem? (i := 14) rfl)
theorem wp_1_15 : Cond.selects "Wordgarden$Rule" ⟨"Wordgarden$Rule", "goesOn", "(LWordgarden$Word;ILWordgarden$Word;)Z"⟩ ⟨"Wordgarden$Rule", "goesOn", "(LWordgarden$Word;ILWordgarden$Word;)Z"⟩ ∈ gaW := gaW_p1 (q := (⟨"Wordgarden$Rule", "goesOn", "(LWordgarden$Word;ILWordgarden$Word;)Z"⟩, 3)) (List.mem_of_getElem? (i := 15) rfl)
theorem wp_2_0 : Cond.selects "Wordgarden$Rule" ⟨"Wordgarden$Rule", "isMarked", "(I)Z"⟩ ⟨"Wordgarden$Rule", "isMarked", "(I)Z"⟩ ∈ gaW := gaW_p2 (q := (⟨"Wordgarden$Rule", "isMarked", "(I)Z"⟩, 3)) (List.mem_of_getElem? (i := 0) rfl)
theorem wp_2_1 : Cond.selects "Wordgarden" ⟨"Wordgarden", "growthActDone", "(I)I"⟩ ⟨"Wordgarden", "growthActDone", "(I)I"⟩ ∈ gaW := gaW_p2 (q := (⟨"Wordgarden", "growthActDone", "(I)I"⟩, 9)) (List.mem_of_getElem? (i := 1) rfl)
theorem wp_2_2 : Cond.selects "WordgardenModel" ⟨"WordgardenModel", "start", "(ZI)Z"⟩ ⟨"WordgardenModel", "start", "(ZI)Z"⟩ ∈ gaW := gaW_p2 (q := (⟨"WordgardenModel", "start", "(ZI)Z"⟩, 8)) (List.mem_of_getElem? (i := 2) rfl)
theorem wp_2_3 : Cond.selects "WordgardenModel" ⟨"WordgardenModel", "refuse", "(ZI)Z"⟩ ⟨"WordgardenModel", "refuse", "(ZI)Z"⟩ ∈ gaW := gaW_p2 (q := (⟨"WordgardenModel", "refuse", "(ZI)Z"⟩, 8)) (List.mem_of_getElem? (i := 3) rfl)
theorem wp_2_4 : Cond.selects "WordgardenModel" ⟨"WordgardenModel", "comes", "(I[I)I"⟩ ⟨"WordgardenModel", "comes", "(I[I)I"⟩ ∈ gaW := gaW_p2 (q := (⟨"WordgardenModel", "comes", "(I[I)I"⟩, 8)) (List.mem_of_getElem? (i := 4) rfl)
theorem wp_2_5 : Cond.selects "WordgardenModel" ⟨"WordgardenModel", "put", "(III[I)I"⟩ ⟨"WordgardenModel", "put", "(III[I)I"⟩ ∈ gaW := gaW_p2 (q := (⟨"WordgardenModel", "put", "(III[I)I"⟩, 8)) (List.mem_of_getElem? (i := 5) rfl)
theorem wp_2_6 : Cond.selects "WordgardenModel" ⟨"WordgardenModel", "cannot", "()I"⟩ ⟨"WordgardenModel", "cannot", "()I"⟩ ∈ gaW := gaW_p2 (q := (⟨"WordgardenModel", "cannot", "()I"⟩, 8)) (List.mem_of_getElem? (i := 6) rfl)
theorem wp_2_7 : Cond.selects "WordgardenModel" ⟨"WordgardenModel", "isNoGap", "(II)Z"⟩ ⟨"WordgardenModel", "isNoGap", "(II)Z"⟩ ∈ gaW := gaW_p2 (q := (⟨"WordgardenModel", "isNoGap", "(II)Z"⟩, 8)) (List.mem_of_getElem? (i := 7) rfl)
theorem wp_2_8 : Cond.selects "WordgardenModel" ⟨"WordgardenModel", "isNoPlace", "(II)Z"⟩ ⟨"WordgardenModel", "isNoPlace", "(II)Z"⟩ ∈ gaW := gaW_p2 (q := (⟨"WordgardenModel", "isNoPlace", "(II)Z"⟩, 8)) (List.mem_of_getElem? (i := 8) rfl)
theorem wp_2_9 : Cond.selects "WordgardenModel" ⟨"WordgardenModel", "isNoPart", "(III)Z"⟩ ⟨"WordgardenModel", "isNoPart", "(III)Z"⟩ ∈ gaW := gaW_p2 (q := (⟨"WordgardenModel", "isNoPart", "(III)Z"⟩, 8)) (List.mem_of_getElem? (i := 9) rfl)
theorem wp_2_10 : Cond.selects "WordgardenModel" ⟨"WordgardenModel", "becomes", "(I[I)I"⟩ ⟨"WordgardenModel", "becomes", "(I[I)I"⟩ ∈ gaW := gaW_p2 (q := (⟨"WordgardenModel", "becomes", "(I[I)I"⟩, 8)) (List.mem_of_getElem? (i := 10) rfl)
theorem wp_2_11 : Cond.selects "WordgardenModel" ⟨"WordgardenModel", "byCopies", "(II)[I"⟩ ⟨"WordgardenModel", "byCopies", "(II)[I"⟩ ∈ gaW := gaW_p2 (q := (⟨"WordgardenModel", "byCopies", "(II)[I"⟩, 8)) (List.mem_of_getElem? (i := 11) rfl)
theorem wp_2_12 : Cond.selects "WordgardenModel" ⟨"WordgardenModel", "byRules", "(I)[I"⟩ ⟨"WordgardenModel", "byRules", "(I)[I"⟩ ∈ gaW := gaW_p2 (q := (⟨"WordgardenModel", "byRules", "(I)[I"⟩, 8)) (List.mem_of_getElem? (i := 12) rfl)
theorem wp_2_13 : Cond.selects "WordgardenModel" ⟨"WordgardenModel", "byLine", "(I)[I"⟩ ⟨"WordgardenModel", "byLine", "(I)[I"⟩ ∈ gaW := gaW_p2 (q := (⟨"WordgardenModel", "byLine", "(I)[I"⟩, 8)) (List.mem_of_getElem? (i := 13) rfl)
theorem wp_2_14 : Cond.selects "WordgardenModel" ⟨"WordgardenModel", "elder", "(I)[I"⟩ ⟨"WordgardenModel", "elder", "(I)[I"⟩ ∈ gaW := gaW_p2 (q := (⟨"WordgardenModel", "elder", "(I)[I"⟩, 8)) (List.mem_of_getElem? (i := 14) rfl)
theorem wp_2_15 : Cond.selects "WordgardenModel" ⟨"WordgardenModel", "word", "(IZ)[I"⟩ ⟨"WordgardenModel", "word", "(IZ)[I"⟩ ∈ gaW := gaW_p2 (q := (⟨"WordgardenModel", "word", "(IZ)[I"⟩, 8)) (List.mem_of_getElem? (i := 15) rfl)
theorem wp_3_0 : Cond.selects "WordgardenModel" ⟨"WordgardenModel", "told", "(I)I"⟩ ⟨"WordgardenModel", "told", "(I)I"⟩ ∈ gaW := gaW_p3 (q := (⟨"WordgardenModel", "told", "(I)I"⟩, 8)) (List.mem_of_getElem? (i := 0) rfl)
theorem wp_3_1 : Cond.selects "WordgardenModel" ⟨"WordgardenModel", "isWhole", "()Z"⟩ ⟨"WordgardenModel", "isWhole", "()Z"⟩ ∈ gaW := gaW_p3 (q := (⟨"WordgardenModel", "isWhole", "()Z"⟩, 8)) (List.mem_of_getElem? (i := 1) rfl)
theorem wp_3_2 : Cond.selects "WordgardenModel" ⟨"WordgardenModel", "added", "(JI)J"⟩ ⟨"WordgardenModel", "added", "(JI)J"⟩ ∈ gaW := gaW_p3 (q := (⟨"WordgardenModel", "added", "(JI)J"⟩, 8)) (List.mem_of_getElem? (i := 2) rfl)
def gaStrs : List (String × Nat × String × Nat) := [("Wordgarden", 287, "a sheet is 0 to 2", 10), ("Wordgarden", 292, "a growth is 0 or 1", 11), ("Wordgarden", 298, "a number is out of its bounds", 12), ("Wordgarden", 294, "no such place", 13), ("Wordgarden", 303, "not to be done as things stand", 14), ("WordgardenModel", 150, "", 15)]
theorem gs_0 : ("Wordgarden", 287, "a sheet is 0 to 2", 10) ∈ gaStrs := List.mem_of_getElem? (i := 0) rfl
theorem gs_1 : ("Wordgarden", 292, "a growth is 0 or 1", 11) ∈ gaStrs := List.mem_of_getElem? (i := 1) rfl
theorem gs_2 : ("Wordgarden", 298, "a number is out of its bounds", 12) ∈ gaStrs := List.mem_of_getElem? (i := 2) rfl
theorem gs_3 : ("Wordgarden", 294, "no such place", 13) ∈ gaStrs := List.mem_of_getElem? (i := 3) rfl
theorem gs_4 : ("Wordgarden", 303, "not to be done as things stand", 14) ∈ gaStrs := List.mem_of_getElem? (i := 4) rfl
theorem gs_5 : ("WordgardenModel", 150, "", 15) ∈ gaStrs := List.mem_of_getElem? (i := 5) rfl
def gaNests : List Cond := [Cond.methodLinkNest "Wordgarden" 23 ⟨"Wordgarden$Rule", "<init>", "()V"⟩ "Wordgarden", Cond.methodLinkNest "Wordgarden$Rule" 11 ⟨"Wordgarden$Word", "<init>", "()V"⟩ "Wordgarden", Cond.fieldLinkNest "Wordgarden$Reading" 12 "Wordgarden$Word" "many" "I" "Wordgarden", Cond.fieldLinkNest "Wordgarden" 50 "Wordgarden$Word" "many" "I" "Wordgarden", Cond.fieldLinkNest "Wordgarden$Twos" 31 "Wordgarden$Word" "many" "I" "Wordgarden", Cond.fieldLinkNest "Wordgarden$Rule" 39 "Wordgarden$Word" "many" "I" "Wordgarden", Cond.fieldLinkNest "Wordgarden$Growth" 39 "Wordgarden$Word" "many" "I" "Wordgarden", Cond.methodLinkNest "Wordgarden" 28 ⟨"Wordgarden$Word", "<init>", "()V"⟩ "Wordgarden", Cond.methodLinkNest "Wordgarden$Growth" 17 ⟨"Wordgarden$Word", "<init>", "()V"⟩ "Wordgarden", Cond.fieldLinkNest "Wordgarden" 178 "Wordgarden$Growth" "turnCount" "I" "Wordgarden", Cond.fieldLinkNest "Wordgarden" 242 "Wordgarden$Growth" "elder" "LWordgarden$Word;" "Wordgarden", Cond.fieldLinkNest "Wordgarden" 144 "Wordgarden$Growth" "younger" "LWordgarden$Word;" "Wordgarden", Cond.castable "java/lang/IndexOutOfBoundsException" "java/lang/IndexOutOfBoundsException", Cond.declares ⟨"java/lang/RuntimeException", "<init>", "()V"⟩, Cond.declares ⟨"java/lang/RuntimeException", "<init>", "(Ljava/lang/String;)V"⟩, Cond.declares ⟨"java/lang/Exception", "<init>", "()V"⟩, Cond.declares ⟨"java/lang/Exception", "<init>", "(Ljava/lang/String;)V"⟩, Cond.declares ⟨"java/lang/Throwable", "<init>", "()V"⟩, Cond.declares ⟨"java/lang/Throwable", "<init>", "(Ljava/lang/String;)V"⟩, Cond.methodLinkNest "Wordgarden$Growth" 69 ⟨"Wordgarden", "isUpOnLine", "(IIII)Z"⟩ "Wordgarden", Cond.castable "java/lang/IllegalArgumentException" "java/lang/IllegalArgumentException", Cond.methodLinkNest "WordgardenLaw" 171 ⟨"WordgardenLaw$Out", "<init>", "()V"⟩ "WordgardenLaw", Cond.fieldLinkNest "WordgardenLaw" 13 "WordgardenLaw$Out" "n" "J" "WordgardenLaw", Cond.fieldLinkNest "WordgardenLaw" 100 "WordgardenLaw$Out" "s" "Ljava/lang/String;" "WordgardenLaw", Cond.castable "java/lang/IllegalStateException" "java/lang/IllegalStateException", Cond.castable "[B" "java/lang/Cloneable"]
theorem gn_0 : Cond.methodLinkNest "Wordgarden" 23 ⟨"Wordgarden$Rule", "<init>", "()V"⟩ "Wordgarden" ∈ gaNests := List.mem_of_getElem? (i := 0) rfl
theorem gn_1 : Cond.methodLinkNest "Wordgarden$Rule" 11 ⟨"Wordgarden$Word", "<init>", "()V"⟩ "Wordgarden" ∈ gaNests := List.mem_of_getElem? (i := 1) rfl
theorem gn_2 : Cond.fieldLinkNest "Wordgarden$Reading" 12 "Wordgarden$Word" "many" "I" "Wordgarden" ∈ gaNests := List.mem_of_getElem? (i := 2) rfl
theorem gn_3 : Cond.fieldLinkNest "Wordgarden" 50 "Wordgarden$Word" "many" "I" "Wordgarden" ∈ gaNests := List.mem_of_getElem? (i := 3) rfl
theorem gn_4 : Cond.fieldLinkNest "Wordgarden$Twos" 31 "Wordgarden$Word" "many" "I" "Wordgarden" ∈ gaNests := List.mem_of_getElem? (i := 4) rfl
theorem gn_5 : Cond.fieldLinkNest "Wordgarden$Rule" 39 "Wordgarden$Word" "many" "I" "Wordgarden" ∈ gaNests := List.mem_of_getElem? (i := 5) rfl
theorem gn_6 : Cond.fieldLinkNest "Wordgarden$Growth" 39 "Wordgarden$Word" "many" "I" "Wordgarden" ∈ gaNests := List.mem_of_getElem? (i := 6) rfl
theorem gn_7 : Cond.methodLinkNest "Wordgarden" 28 ⟨"Wordgarden$Word", "<init>", "()V"⟩ "Wordgarden" ∈ gaNests := List.mem_of_getElem? (i := 7) rfl
theorem gn_8 : Cond.methodLinkNest "Wordgarden$Growth" 17 ⟨"Wordgarden$Word", "<init>", "()V"⟩ "Wordgarden" ∈ gaNests := List.mem_of_getElem? (i := 8) rfl
theorem gn_9 : Cond.fieldLinkNest "Wordgarden" 178 "Wordgarden$Growth" "turnCount" "I" "Wordgarden" ∈ gaNests := List.mem_of_getElem? (i := 9) rfl
theorem gn_10 : Cond.fieldLinkNest "Wordgarden" 242 "Wordgarden$Growth" "elder" "LWordgarden$Word;" "Wordgarden" ∈ gaNests := List.mem_of_getElem? (i := 10) rfl
theorem gn_11 : Cond.fieldLinkNest "Wordgarden" 144 "Wordgarden$Growth" "younger" "LWordgarden$Word;" "Wordgarden" ∈ gaNests := List.mem_of_getElem? (i := 11) rfl
theorem gn_12 : Cond.castable "java/lang/IndexOutOfBoundsException" "java/lang/IndexOutOfBoundsException" ∈ gaNests := List.mem_of_getElem? (i := 12) rfl
theorem gn_13 : Cond.declares ⟨"java/lang/RuntimeException", "<init>", "()V"⟩ ∈ gaNests := List.mem_of_getElem? (i := 13) rfl
theorem gn_14 : Cond.declares ⟨"java/lang/RuntimeException", "<init>", "(Ljava/lang/String;)V"⟩ ∈ gaNests := List.mem_of_getElem? (i := 14) rfl
theorem gn_15 : Cond.declares ⟨"java/lang/Exception", "<init>", "()V"⟩ ∈ gaNests := List.mem_of_getElem? (i := 15) rfl
theorem gn_16 : Cond.declares ⟨"java/lang/Exception", "<init>", "(Ljava/lang/String;)V"⟩ ∈ gaNests := List.mem_of_getElem? (i := 16) rfl
theorem gn_17 : Cond.declares ⟨"java/lang/Throwable", "<init>", "()V"⟩ ∈ gaNests := List.mem_of_getElem? (i := 17) rfl
theorem gn_18 : Cond.declares ⟨"java/lang/Throwable", "<init>", "(Ljava/lang/String;)V"⟩ ∈ gaNests := List.mem_of_getElem? (i := 18) rfl
theorem gn_19 : Cond.methodLinkNest "Wordgarden$Growth" 69 ⟨"Wordgarden", "isUpOnLine", "(IIII)Z"⟩ "Wordgarden" ∈ gaNests := List.mem_of_getElem? (i := 19) rfl
theorem gn_20 : Cond.castable "java/lang/IllegalArgumentException" "java/lang/IllegalArgumentException" ∈ gaNests := List.mem_of_getElem? (i := 20) rfl
theorem gn_21 : Cond.methodLinkNest "WordgardenLaw" 171 ⟨"WordgardenLaw$Out", "<init>", "()V"⟩ "WordgardenLaw" ∈ gaNests := List.mem_of_getElem? (i := 21) rfl
theorem gn_22 : Cond.fieldLinkNest "WordgardenLaw" 13 "WordgardenLaw$Out" "n" "J" "WordgardenLaw" ∈ gaNests := List.mem_of_getElem? (i := 22) rfl
theorem gn_23 : Cond.fieldLinkNest "WordgardenLaw" 100 "WordgardenLaw$Out" "s" "Ljava/lang/String;" "WordgardenLaw" ∈ gaNests := List.mem_of_getElem? (i := 23) rfl
theorem gn_24 : Cond.castable "java/lang/IllegalStateException" "java/lang/IllegalStateException" ∈ gaNests := List.mem_of_getElem? (i := 24) rfl
theorem gn_25 : Cond.castable "[B" "java/lang/Cloneable" ∈ gaNests := List.mem_of_getElem? (i := 25) rfl
def gaNcs : List (String × String) := [("java/lang/IllegalArgumentException", "java/lang/IndexOutOfBoundsException"), ("java/lang/IllegalStateException", "java/lang/IndexOutOfBoundsException"), ("java/lang/IllegalStateException", "java/lang/IllegalArgumentException")]
/-! ABSTRACT HEAPS. A cell is a tag and its values: a tag below 100 is the number of its class in vwCl (the values are its fields), 100 and up an array (gaTy: of what), 1000 more an array that nothing writes to. gaR: the heap holds what the abstract heap says. gaP: from this place of the method, with these locals, this stack, this abstract heap, that many cells and slots still to be spent, the method comes to its end. -/
abbrev gaE : Type := Nat × List Value
abbrev gaH : Type := Nat → Option gaE
/-- layout of classes, array classes by tag, the first own address, places of static arrays and texts -/
abbrev gaG : Type := va_G × (Nat → ClassId) × Nat × (Nat → Nat)
def gaTy (t : Nat) : FieldType := if t = 100 then .boolean else if t = 101 then .byte else if t = 102 then .int else if t = 110 then .object RX4 else if t = 111 then .object RX0 else .array .int
def gaCn (t : Nat) : String := if t = 110 then RX4 else if t = 111 then RX0 else "[I"
def gaT (t : Nat) : Prop := t = 100 ∨ t = 101 ∨ t = 102 ∨ t = 110 ∨ t = 111 ∨ t = 112
def gaA (G : gaG) : Nat → Prop := fun q => G.2.2.1 ≤ q
def gaUp (h : gaH) (a : Nat) (e : gaE) : gaH := fun b => if b = a then some e else h b
theorem gaUp_self (h : gaH) (a : Nat) (e : gaE) : gaUp h a e a = some e := by simp [gaUp]
theorem gaUp_ne (h : gaH) {a b : Nat} (e : gaE) (hb : b ≠ a) : gaUp h a e b = h b := by simp [gaUp, hb]
def gaAt (G : gaG) (a : Nat) (e : gaE) (H : Heap) : Prop := (e.1 < 100 → va_at G.1 vwCl (a, .inr e) H) ∧ (100 ≤ e.1 → H[a]? = some { cls := G.2.1 e.1, slots := e.2.toArray, vm := .none })
def gaRo (s : State) (a : Nat) (e : gaE) (H : Heap) : Prop := ∃ cell : Cell, H[a]? = some cell ∧ s.isArrayOf cell (gaTy (e.1 - 1000)) ∧ cell.vm ≠ .unknown ∧ cell.slots.size.toInt32 = Int32.ofNat e.2.length ∧ e.2.length ≤ cell.slots.size ∧ ∀ (j : Nat) (v : Value), e.2[j]? = some v → cell.slots[j]? = some v
def gaR (G : gaG) (s : State) (h : gaH) (H : Heap) : Prop := ∀ (a : Nat) (e : gaE), h a = some e → (e.1 < 1000 ∧ G.2.2.1 ≤ a ∧ gaAt G a e H) ∨ (1000 ≤ e.1 ∧ gaRo s a e H)
theorem gaAt.lt {G : gaG} {a : Nat} {e : gaE} {H : Heap} (h : gaAt G a e H) : a < H.size := by
  by_cases h1 : e.1 < 100
  · exact va_at.lt (h.1 h1)
  · exact (Array.getElem?_eq_some_iff.mp (h.2 (by omega))).1
theorem gaAt.kept {G : gaG} {a : Nat} {e : gaE} {H H1 : Heap} (h : gaAt G a e H) (hq : H1[a]? = H[a]?) : gaAt G a e H1 :=
  ⟨fun h1 => va_at.kept (h.1 h1) hq, fun h1 => hq.trans (h.2 h1)⟩
theorem gaRo.kept {s : State} {a : Nat} {e : gaE} {H H1 : Heap} (h : gaRo s a e H) (hq : H1[a]? = H[a]?) : gaRo s a e H1 := by
  obtain ⟨cell, h1, h2⟩ := h
  exact ⟨cell, hq.trans h1, h2⟩
theorem gaRo.lt {s : State} {a : Nat} {e : gaE} {H : Heap} (h : gaRo s a e H) : a < H.size := by
  obtain ⟨cell, h1, h2⟩ := h
  exact (Array.getElem?_eq_some_iff.mp h1).1
theorem gaR.lt {G : gaG} {s : State} {h : gaH} {H : Heap} (hR : gaR G s h H) {a : Nat} {e : gaE} (ha : h a = some e) : a < H.size := by
  rcases hR a e ha with ⟨-, -, h1⟩ | ⟨-, h1⟩
  · exact h1.lt
  · exact h1.lt
theorem gaR.fresh {G : gaG} {s : State} {h : gaH} {H : Heap} (hR : gaR G s h H) : h H.size = none := by
  cases hh : h H.size with
  | none => rfl
  | some e => exact absurd (hR.lt hh) (Nat.lt_irrefl _)
theorem gaR.set {G : gaG} {s : State} {h : gaH} {H H1 : Heap} (hR : gaR G s h H) {a : Nat} {e : gaE} (h1 : e.1 < 1000) (hB : G.2.2.1 ≤ a) (ha : gaAt G a e H1) (oq : ∀ q : Nat, q ≠ a → q < H.size → H1[q]? = H[q]?) : gaR G s (gaUp h a e) H1 := by
  intro b e2 hb
  by_cases hba : b = a
  · subst hba
    rw [gaUp_self] at hb
    cases hb
    exact Or.inl ⟨h1, hB, ha⟩
  · rw [gaUp_ne _ _ hba] at hb
    have hl := hR.lt hb
    rcases hR b e2 hb with ⟨q1, q2, q3⟩ | ⟨q1, q3⟩
    · exact Or.inl ⟨q1, q2, q3.kept (oq b hba hl)⟩
    · exact Or.inr ⟨q1, q3.kept (oq b hba hl)⟩
theorem gaR.moved {G : gaG} {u U : State} {h : gaH} {H : Heap} (hvm : u.vm.Alike U.vm) (hR : gaR G u h H) : gaR G U h H := by
  intro a e ha
  rcases hR a e ha with q | ⟨q1, cell, q2, q3, q4⟩
  · exact Or.inl q
  · exact Or.inr ⟨q1, cell, q2, State.isArrayOf_alike hvm q3, q4⟩
/-- what the tables say of the array classes -/
def gaK (G : gaG) (s : State) : Prop := ∀ t : Nat, gaT t → ∃ (kA : Class) (comp : ClassId), s.vm.findClass ("[" ++ (gaTy t).toString) = some (G.2.1 t) ∧ s.vm.classes[G.2.1 t]? = some kA ∧ kA.kind = .array comp (gaTy t) ∧ (110 ≤ t → s.vm.findClass (gaCn t) = some comp)
theorem gaK.moved {G : gaG} {u U : State} (hvm : u.vm.Alike U.vm) (h : gaK G u) : gaK G U := by
  intro t ht
  obtain ⟨kA, comp, h1, h2, h3, h4⟩ := h t ht
  obtain ⟨k', hk', he⟩ := hvm.2.2 _ _ h2
  exact ⟨k', comp, by rw [hvm.findClass]; exact h1, hk', by rw [he]; exact h3, fun q => by rw [hvm.findClass]; exact h4 q⟩
theorem gaK.arr {G : gaG} {s : State} (h : gaK G s) {t : Nat} (ht : gaT t) (vs : Array Value) : s.isArrayOf { cls := G.2.1 t, slots := vs, vm := .none } (gaTy t) := by
  obtain ⟨kA, comp, h1, h2, h3, h4⟩ := h t ht
  exact ⟨fun k h => (by cases h), kA, h2, comp, h3⟩
theorem gaR.arr {G : gaG} {s : State} {h : gaH} {H : Heap} (hR : gaR G s h H) (hK : gaK G s) {a t t' : Nat} {vs : List Value} (ha : h a = some (t', vs)) (ht : t' = t ∨ t' = t + 1000) (hT : gaT t) :
    ∃ cell : Cell, H[a]? = some cell ∧ s.isArrayOf cell (gaTy t) ∧ cell.vm ≠ .unknown ∧ cell.slots.size.toInt32 = Int32.ofNat vs.length ∧ vs.length ≤ cell.slots.size ∧ ∀ (j : Nat) (v : Value), vs[j]? = some v → cell.slots[j]? = some v := by
  have hT' := hT
  unfold gaT at hT'
  rcases hR a _ ha with ⟨q1, q2, q3⟩ | ⟨q1, cell, q3, q4, q5⟩
  · dsimp only at q1
    have e : t' = t := by omega
    subst e
    have h1 := q3.2 (by dsimp only; omega)
    refine ⟨_, h1, hK.arr hT _, (fun q => by cases q), ?_, ?_, fun j v hj => ?_⟩
    · first | rfl | simp
    · first | (simp; done) | (dsimp only; omega)
    · simpa using hj
  · dsimp only at q1 q4
    have e : t' = t + 1000 := by omega
    subst e
    rw [Nat.add_sub_cancel] at q4
    exact ⟨cell, q3, q4, q5⟩
/-- words that the tables decide and that a call hands on by premises of their own: links of nest mates, casts -/
def gaNest (w : Cond) : Bool := match w with
  | .fieldLinkNest .. => true
  | .methodLinkNest .. => true
  | .castable .. => true
  | .declares .. => true
  | _ => false
theorem gaNest_tab {w : Cond} (h : gaNest w = true) : w.onTables = true := by
  cases w <;> first | rfl | (simp [gaNest] at h)
theorem gaNests_ok : ∀ w ∈ gaNests, gaNest w = true := by decide +kernel
theorem gaNest.warm {w : Cond} {s U : State} (hg : gaNest w = true) (hW : s.WarmedH U.vm) (h : va_Nw w s) : va_Nw w U := by
  cases w <;> first | exact va_Nw.warmF hW h | exact va_Nw.warmM hW h | exact va_Nw.warmC hW h | exact va_Nw.warmD hW h | (simp [gaNest] at hg)
/-- what is said of the start of each method: the tables, the statics, the texts of the class's messages -/
def gaF (G : gaG) (s : State) (H : Heap) : Prop :=
  va_K G.1 vwCl [] s ∧ gaK G s ∧ G.2.2.1 ≤ H.size ∧
  (va_Z RX0 "CODES_FOR_A" "[I" (.ref (G.2.2.2 0)) (gaA G) s H ∧ va_Z RJ0 "COMPACT_STRINGS" "Z" (.int 1) (gaA G) s H ∧ va_Z RJ6 "DigitOnes" "[B" (.ref (G.2.2.2 1)) (gaA G) s H ∧ va_Z RJ6 "DigitTens" "[B" (.ref (G.2.2.2 2)) (gaA G) s H) ∧
  (vx_Zq Bundle.tN "UNASSIGNED_STACK" Bundle.steD (gaA G) s H ∧ vx_Zq Bundle.tN "SUPPRESSED_SENTINEL" Bundle.listD (gaA G) s H) ∧
  (∀ q ∈ gaStrs, vk_R q.1 q.2.1 q.2.2.1 (G.2.2.2 q.2.2.2) s) ∧ (∀ w ∈ gaNests, va_Nw w s) ∧ (∀ q ∈ gaNcs, va_Nc q.1 q.2 s) ∧ (∀ t : Nat, 110 ≤ t ∧ t ≤ 112 → (Cond.arrayOver (gaTy t)).before #[] s = true)
theorem gaOver.moved {ty : FieldType} {u U : State} (hvm : u.vm.Alike U.vm) (h : (Cond.arrayOver ty).before #[] u = true) : (Cond.arrayOver ty).before #[] U = true := by
  have e := Cond.arrayOver_setVmC (args := #[]) hvm ty
  rw [h] at e
  exact e
theorem gaF.same {G : gaG} {u U : State} {H : Heap} (hv : U.vm = u.vm) (h : gaF G u H) : gaF G U H := by
  obtain ⟨h1, h2, h3, ⟨z1, z2, z3, z4⟩, ⟨y1, y2⟩, h6, h7, h8, h9⟩ := h
  have hvm : u.vm.Alike U.vm := by rw [hv]; exact Vm.Alike.refl _
  exact ⟨va_K.moved hvm h1, h2.moved hvm, h3, ⟨va_Z.moved hvm z1, va_Z.moved hvm z2, va_Z.moved hvm z3, va_Z.moved hvm z4⟩, ⟨vx_Zq.moved hvm y1, vx_Zq.moved hvm y2⟩,
    fun q hq => vk_R.same hv (h6 q hq), fun w hw => va_Nw.same (gaNest_tab (gaNests_ok w hw)) hv.symm (h7 w hw), fun q hq => va_Nc.moved hvm (h8 q hq), fun t ht => gaOver.moved hvm (h9 t ht)⟩
theorem gaF.on {G : gaG} {s U : State} {H : Heap} {locs : List Loc} (h : gaF G s s.heap) (hS : va_S (gaA G) s.heap H locs) (hW : s.WarmedH U.vm) : gaF G U H := by
  obtain ⟨h1, h2, h3, ⟨z1, z2, z3, z4⟩, ⟨y1, y2⟩, h6, h7, h8, h9⟩ := h
  have hvm := hW.alike
  have hq : ∀ a : Nat, a < s.heap.size → ¬ gaA G a → H[a]? = s.heap[a]? := hS.2.1
  exact ⟨va_K.moved hvm h1, h2.moved hvm, Nat.le_trans h3 hS.1, ⟨va_Z.moved hvm (z1.kept hq), va_Z.moved hvm (z2.kept hq), va_Z.moved hvm (z3.kept hq), va_Z.moved hvm (z4.kept hq)⟩, ⟨vx_Zq.moved hvm (y1.kept hq), vx_Zq.moved hvm (y2.kept hq)⟩,
    fun q hq => vk_R.warm hW (h6 q hq), fun w hw => gaNest.warm (gaNests_ok w hw) hW (h7 w hw), fun q hq => va_Nc.moved hvm (h8 q hq), fun t ht => gaOver.moved hvm (h9 t ht)⟩
def gaQ (G : gaG) (Q : Option Value → gaH → Prop) : Array Value → State → Outcome → State → Prop := fun _ st o t => ∃ (v : Option Value) (h' : gaH), o = .returned v ∧ Q v h' ∧ gaR G t h' t.heap ∧ va_F (gaA G) st t
def gaX (G : gaG) (X : String → gaH → Prop) : String → State → State → Prop := fun E st t => ∃ h' : gaH, X E h' ∧ gaR G t h' t.heap ∧ va_F (gaA G) st t
/-- a method's contract -/
def gaC (l : Launch) (G : gaG) (y : MethodName) (ws : List Cond) (rm : Room) (av : List Value) (h : gaH) (Q : Option Value → gaH → Prop) (X : String → gaH → Prop) : Prop :=
  vx_Met l y ws rm (va_Pc av (fun U => gaR G U h U.heap ∧ gaF G U U.heap)) (gaQ G Q) (gaX G X) rm.cells rm.slots (gaA G)
/-- locals by their numbers -/
def gaL (ls : Array Slot) (nL : Nat) (lv : List (Option Value)) : Prop := ls.size = nL ∧ lv_wf ls ∧ ∀ (i : Nat) (v : Value), lv[i]? = some (some v) → ls[i]? = some (.val v)
def gaPairs (lv : List (Option Value)) : List (Nat × Value) := (List.range lv.length).filterMap (fun i => match lv[i]? with | some (some v) => some (i, v) | _ => none)
theorem gaPairs_mem {lv : List (Option Value)} {i : Nat} {v : Value} : (i, v) ∈ gaPairs lv ↔ lv[i]? = some (some v) := by
  unfold gaPairs
  rw [List.mem_filterMap]
  constructor
  · rintro ⟨j, hj, h⟩
    cases hx : lv[j]? with
    | none => rw [hx] at h; cases h
    | some o =>
      cases o with
      | none => rw [hx] at h; cases h
      | some w =>
        rw [hx] at h
        cases h
        exact hx
  · intro h
    refine ⟨i, List.mem_range.mpr (List.getElem?_eq_some_iff.mp h).1, ?_⟩
    rw [h]
theorem gaL.has {ls : Array Slot} {nL : Nat} {lv : List (Option Value)} (h : gaL ls nL lv) : lv_has ls nL (gaPairs lv) := ⟨h.1, h.2.1, fun q hq => h.2.2 q.1 q.2 (gaPairs_mem.mp hq)⟩
/-- no second half of a long stands at i -/
def gaOk (lv : List (Option Value)) (i : Nat) : Bool := match i with
  | 0 => true
  | j + 1 => match lv[j]? with
    | some (some v) => v.category != 2
    | _ => true
theorem gaL.set1 {ls : Array Slot} {nL : Nat} {lv : List (Option Value)} {i : Nat} {v : Value} (hok : gaOk lv i = true)
    (hl : lv_has ls nL ((i, v) :: (gaPairs lv).filter (fun q => !(q.1 == i) && !(q.1 + 1 == i && q.2.category == 2)))) : gaL ls nL (lv.set i (some v)) := by
  refine ⟨hl.1, hl.2.1, fun j w hj => ?_⟩
  by_cases hji : j = i
  · subst hji
    have hlt : j < lv.length := by
      have := (List.getElem?_eq_some_iff.mp hj).1
      simpa using this
    rw [List.getElem?_set_self hlt] at hj
    cases hj
    exact hl.2.2 _ List.mem_cons_self
  · rw [List.getElem?_set_ne (fun q => hji q.symm)] at hj
    refine hl.2.2 (j, w) (List.mem_cons_of_mem _ (List.mem_filter.mpr ⟨gaPairs_mem.mpr hj, ?_⟩))
    have h2 : ¬ (j + 1 = i ∧ w.category = 2) := by
      rintro ⟨q1, q2⟩
      subst q1
      simp only [gaOk, hj] at hok
      simp [q2] at hok
    simp only [Bool.and_eq_true, Bool.not_eq_true', beq_eq_false_iff_ne, ne_eq, Bool.and_eq_false_iff]
    refine ⟨hji, ?_⟩
    by_cases q : j + 1 = i
    · exact Or.inr fun z => h2 ⟨q, z⟩
    · exact Or.inl q
theorem gaL.set2 {ls : Array Slot} {nL : Nat} {lv : List (Option Value)} {i : Nat} {v : Value} (hok : gaOk lv i = true)
    (hl : lv_has ls nL ((i, v) :: (gaPairs lv).filter (fun q => !(q.1 == i) && (!(q.1 == i + 1) && !(q.1 + 1 == i && q.2.category == 2))))) : gaL ls nL ((lv.set i (some v)).set (i + 1) none) := by
  refine ⟨hl.1, hl.2.1, fun j w hj => ?_⟩
  by_cases hji1 : j = i + 1
  · subst hji1
    have hlt : i + 1 < ((lv.set i (some v)).set (i + 1) none).length := (List.getElem?_eq_some_iff.mp hj).1
    rw [List.getElem?_set_self (by simpa using hlt)] at hj
    cases hj
  · rw [List.getElem?_set_ne (fun q => hji1 q.symm)] at hj
    by_cases hji : j = i
    · subst hji
      have hlt : j < lv.length := by
        have := (List.getElem?_eq_some_iff.mp hj).1
        simpa using this
      rw [List.getElem?_set_self hlt] at hj
      cases hj
      exact hl.2.2 _ List.mem_cons_self
    · rw [List.getElem?_set_ne (fun q => hji q.symm)] at hj
      refine hl.2.2 (j, w) (List.mem_cons_of_mem _ (List.mem_filter.mpr ⟨gaPairs_mem.mpr hj, ?_⟩))
      have h2 : ¬ (j + 1 = i ∧ w.category = 2) := by
        rintro ⟨q1, q2⟩
        subst q1
        simp only [gaOk, hj] at hok
        simp [q2] at hok
      simp only [Bool.and_eq_true, Bool.not_eq_true', beq_eq_false_iff_ne, ne_eq, Bool.and_eq_false_iff]
      refine ⟨hji, hji1, ?_⟩
      by_cases q : j + 1 = i
      · exact Or.inr fun z => h2 ⟨q, z⟩
      · exact Or.inl q
/-- what holds all along a method's body -/
def gaV (p : Program) (l : Launch) (s : State) (m : MethodId) (args : Array Value) (meth : Method) (c : Code) (G : gaG) (cc : ByteArray) (own : String) (nL : Nat) (ws : List Cond) (ret : Option FieldType) (nm : String) : Prop :=
  p.tables.exec = Jvm.exec ∧ c.code = cc ∧ c.maxLocals = nL ∧ s.vm.findClass own = some m.cls ∧ (∀ w ∈ ws, w.before args s = true) ∧ meth.sig.returnType = ret ∧ meth.locks = false ∧ True ∧ meth.name = nm ∧ gaF G s s.heap ∧ l.stackTraces = false
def gaP (p : Program) (l : Launch) (e : Env) (R : Room) (s : State) (m : MethodId) (args : Array Value) (below : List Frame) (meth : Method) (c : Code) (G : gaG) (nL : Nat) (Z : State → Prop)
    (pc : Nat) (lv : List (Option Value)) (st : List Value) (h : gaH) (k n : Nat) : Prop :=
  ∀ (H : Heap) (locs : List Loc) (ls : Array Slot) (cells slots : Nat), gaR G s h H → va_S (gaA G) s.heap H locs → gaL ls nL lv → cells + k ≤ R.cells → slots + n ≤ R.slots →
    W p l e R s m args below meth c H locs cells slots Z (F0 m pc ls st)
/-- a method's end, returned or thrown -/
abbrev gaZ (below : List Frame) (G : gaG) (Q : Option Value → gaH → Prop) (X : String → gaH → Prop) (args : Array Value) (s : State) (R : Room) : State → Prop := vx_MQ below (gaQ G Q) (gaX G X) args s R.cells R.slots (gaA G)
/-- an exception of this class that comes up at this place leads to the end -/
def gaO (p : Program) (l : Launch) (e : Env) (R : Room) (s : State) (m : MethodId) (args : Array Value) (below : List Frame) (meth : Method) (c : Code) (G : gaG) (nL : Nat) (Z : State → Prop)
    (pc : Nat) (lv : List (Option Value)) (E : String) (h : gaH) (k n : Nat) : Prop :=
  ∀ (H : Heap) (locs : List Loc) (ls : Array Slot) (rest : List Value) (cells slots : Nat) (q : Addr) (ce : Cell), gaR G s h H → va_S (gaA G) s.heap H locs → gaL ls nL lv → cells + k ≤ R.cells → slots + n ≤ R.slots →
    H[q]? = some ce → ce.vm = .none → s.vm.findClass E = some ce.cls → vx_W p l e R s m args below meth c H locs cells slots Z (F0 m pc ls rest) q
section GAR
variable {p : Program} {l : Launch} {e : Env} {R : Room} {s : State} {m : MethodId} {args : Array Value} {below : List Frame} {meth : Method} {c : Code} {G : gaG} {cc : ByteArray} {own : String} {nL : Nat} {ws : List Cond} {ret : Option FieldType} {nm : String} {Q : Option Value → gaH → Prop} {X : String → gaH → Prop} {Z : State → Prop}
variable {pc n : Nat} {lv : List (Option Value)} {st : List Value} {h : gaH} {k j : Nat}
theorem g_iload (V : gaV p l s m args meth c G cc own nL ws ret nm) {i : Nat} {x : Int32} (d : decode cc pc = .ok (.iload i, 2)) (hl : lv[i]? = some (some (.int x))) (hn : pc + 2 = n)
    (kk : gaP p l e R s m args below meth c G nL Z n lv (.int x :: st) h k j) : gaP p l e R s m args below meth c G nL Z pc lv (st) h k j := by
  subst hn
  intro H locs ls cells slots hR hS hL h1 h2
  exact lv_iload V.1 V.2.1 d (hL.2.2 i _ hl) (kk H locs ls cells slots hR hS hL h1 h2)
theorem g_iload_n (V : gaV p l s m args meth c G cc own nL ws ret nm) {i : Fin 4} {x : Int32} (d : decode cc pc = .ok (.iload_n i, 1)) (hl : lv[(i : Nat)]? = some (some (.int x))) (hn : pc + 1 = n)
    (kk : gaP p l e R s m args below meth c G nL Z n lv (.int x :: st) h k j) : gaP p l e R s m args below meth c G nL Z pc lv (st) h k j := by
  subst hn
  intro H locs ls cells slots hR hS hL h1 h2
  exact lv_iload_n V.1 V.2.1 d rfl (hL.2.2 _ _ hl) (kk H locs ls cells slots hR hS hL h1 h2)
theorem g_aload (V : gaV p l s m args meth c G cc own nL ws ret nm) {i : Nat} {x : Nat} (d : decode cc pc = .ok (.aload i, 2)) (hl : lv[i]? = some (some (.ref x))) (hn : pc + 2 = n)
    (kk : gaP p l e R s m args below meth c G nL Z n lv (.ref x :: st) h k j) : gaP p l e R s m args below meth c G nL Z pc lv (st) h k j := by
  subst hn
  intro H locs ls cells slots hR hS hL h1 h2
  exact lv_aload V.1 V.2.1 d (hL.2.2 i _ hl) (kk H locs ls cells slots hR hS hL h1 h2)
theorem g_aload_n (V : gaV p l s m args meth c G cc own nL ws ret nm) {i : Fin 4} {x : Nat} (d : decode cc pc = .ok (.aload_n i, 1)) (hl : lv[(i : Nat)]? = some (some (.ref x))) (hn : pc + 1 = n)
    (kk : gaP p l e R s m args below meth c G nL Z n lv (.ref x :: st) h k j) : gaP p l e R s m args below meth c G nL Z pc lv (st) h k j := by
  subst hn
  intro H locs ls cells slots hR hS hL h1 h2
  exact lv_aload_n V.1 V.2.1 d rfl (hL.2.2 _ _ hl) (kk H locs ls cells slots hR hS hL h1 h2)
theorem g_lload (V : gaV p l s m args meth c G cc own nL ws ret nm) {i : Nat} {x : Int64} (d : decode cc pc = .ok (.lload i, 2)) (hl : lv[i]? = some (some (.long x))) (hn : pc + 2 = n)
    (kk : gaP p l e R s m args below meth c G nL Z n lv (.long x :: st) h k j) : gaP p l e R s m args below meth c G nL Z pc lv (st) h k j := by
  subst hn
  intro H locs ls cells slots hR hS hL h1 h2
  exact lv_lload V.1 V.2.1 d (hL.2.2 i _ hl) (kk H locs ls cells slots hR hS hL h1 h2)
theorem g_lload_n (V : gaV p l s m args meth c G cc own nL ws ret nm) {i : Fin 4} {x : Int64} (d : decode cc pc = .ok (.lload_n i, 1)) (hl : lv[(i : Nat)]? = some (some (.long x))) (hn : pc + 1 = n)
    (kk : gaP p l e R s m args below meth c G nL Z n lv (.long x :: st) h k j) : gaP p l e R s m args below meth c G nL Z pc lv (st) h k j := by
  subst hn
  intro H locs ls cells slots hR hS hL h1 h2
  exact lv_lload_n V.1 V.2.1 d rfl (hL.2.2 _ _ hl) (kk H locs ls cells slots hR hS hL h1 h2)
theorem g_iconst (V : gaV p l s m args meth c G cc own nL ws ret nm) {i : Int} (v : Int32) (d : decode cc pc = .ok (.iconst i, 1)) (hv : Int32.ofInt i = v) (hn : pc + 1 = n)
    (kk : gaP p l e R s m args below meth c G nL Z n lv (.int v :: st) h k j) : gaP p l e R s m args below meth c G nL Z pc lv (st) h k j := by
  subst hn
  intro H locs ls cells slots hR hS hL h1 h2
  exact lv_iconst V.1 V.2.1 d hv (kk H locs ls cells slots hR hS hL h1 h2)
theorem g_bipush (V : gaV p l s m args meth c G cc own nL ws ret nm) {i : Int} (v : Int32) (d : decode cc pc = .ok (.bipush i, 2)) (hv : (Int8.ofInt i).toInt32 = v) (hn : pc + 2 = n)
    (kk : gaP p l e R s m args below meth c G nL Z n lv (.int v :: st) h k j) : gaP p l e R s m args below meth c G nL Z pc lv (st) h k j := by
  subst hn
  intro H locs ls cells slots hR hS hL h1 h2
  exact lv_bipush V.1 V.2.1 d hv (kk H locs ls cells slots hR hS hL h1 h2)
theorem g_sipush (V : gaV p l s m args meth c G cc own nL ws ret nm) {i : Int} (v : Int32) (d : decode cc pc = .ok (.sipush i, 3)) (hv : (Int16.ofInt i).toInt32 = v) (hn : pc + 3 = n)
    (kk : gaP p l e R s m args below meth c G nL Z n lv (.int v :: st) h k j) : gaP p l e R s m args below meth c G nL Z pc lv (st) h k j := by
  subst hn
  intro H locs ls cells slots hR hS hL h1 h2
  exact lv_sipush V.1 V.2.1 d hv (kk H locs ls cells slots hR hS hL h1 h2)
theorem g_lconst (V : gaV p l s m args meth c G cc own nL ws ret nm) {i : Fin 2} (v : Int64) (d : decode cc pc = .ok (.lconst i, 1)) (hv : Int64.ofNat (i : Nat) = v) (hn : pc + 1 = n)
    (kk : gaP p l e R s m args below meth c G nL Z n lv (.long v :: st) h k j) : gaP p l e R s m args below meth c G nL Z pc lv (st) h k j := by
  subst hn
  intro H locs ls cells slots hR hS hL h1 h2
  exact lv_lconst V.1 V.2.1 d hv (kk H locs ls cells slots hR hS hL h1 h2)
theorem g_aconst_null (V : gaV p l s m args meth c G cc own nL ws ret nm)  (d : decode cc pc = .ok (.aconst_null, 1))  (hn : pc + 1 = n)
    (kk : gaP p l e R s m args below meth c G nL Z n lv (.null :: st) h k j) : gaP p l e R s m args below meth c G nL Z pc lv (st) h k j := by
  subst hn
  intro H locs ls cells slots hR hS hL h1 h2
  exact lv_null V.1 V.2.1 d  (kk H locs ls cells slots hR hS hL h1 h2)
theorem g_iadd (V : gaV p l s m args meth c G cc own nL ws ret nm) {x y : Int32} (d : decode cc pc = .ok (.iadd, 1))  (hn : pc + 1 = n)
    (kk : gaP p l e R s m args below meth c G nL Z n lv (.int (x + y) :: st) h k j) : gaP p l e R s m args below meth c G nL Z pc lv (.int y :: .int x :: st) h k j := by
  subst hn
  intro H locs ls cells slots hR hS hL h1 h2
  exact lv_iadd V.1 V.2.1 d  (kk H locs ls cells slots hR hS hL h1 h2)
theorem g_isub (V : gaV p l s m args meth c G cc own nL ws ret nm) {x y : Int32} (d : decode cc pc = .ok (.isub, 1))  (hn : pc + 1 = n)
    (kk : gaP p l e R s m args below meth c G nL Z n lv (.int (x - y) :: st) h k j) : gaP p l e R s m args below meth c G nL Z pc lv (.int y :: .int x :: st) h k j := by
  subst hn
  intro H locs ls cells slots hR hS hL h1 h2
  exact lv_isub V.1 V.2.1 d  (kk H locs ls cells slots hR hS hL h1 h2)
theorem g_imul (V : gaV p l s m args meth c G cc own nL ws ret nm) {x y : Int32} (d : decode cc pc = .ok (.imul, 1))  (hn : pc + 1 = n)
    (kk : gaP p l e R s m args below meth c G nL Z n lv (.int (x * y) :: st) h k j) : gaP p l e R s m args below meth c G nL Z pc lv (.int y :: .int x :: st) h k j := by
  subst hn
  intro H locs ls cells slots hR hS hL h1 h2
  exact lv_imul V.1 V.2.1 d  (kk H locs ls cells slots hR hS hL h1 h2)
theorem g_iand (V : gaV p l s m args meth c G cc own nL ws ret nm) {x y : Int32} (d : decode cc pc = .ok (.iand, 1))  (hn : pc + 1 = n)
    (kk : gaP p l e R s m args below meth c G nL Z n lv (.int (x &&& y) :: st) h k j) : gaP p l e R s m args below meth c G nL Z pc lv (.int y :: .int x :: st) h k j := by
  subst hn
  intro H locs ls cells slots hR hS hL h1 h2
  exact lv_iand V.1 V.2.1 d  (kk H locs ls cells slots hR hS hL h1 h2)
theorem g_ior (V : gaV p l s m args meth c G cc own nL ws ret nm) {x y : Int32} (d : decode cc pc = .ok (.ior, 1))  (hn : pc + 1 = n)
    (kk : gaP p l e R s m args below meth c G nL Z n lv (.int (x ||| y) :: st) h k j) : gaP p l e R s m args below meth c G nL Z pc lv (.int y :: .int x :: st) h k j := by
  subst hn
  intro H locs ls cells slots hR hS hL h1 h2
  exact lv_ior V.1 V.2.1 d  (kk H locs ls cells slots hR hS hL h1 h2)
theorem g_ixor (V : gaV p l s m args meth c G cc own nL ws ret nm) {x y : Int32} (d : decode cc pc = .ok (.ixor, 1))  (hn : pc + 1 = n)
    (kk : gaP p l e R s m args below meth c G nL Z n lv (.int (x ^^^ y) :: st) h k j) : gaP p l e R s m args below meth c G nL Z pc lv (.int y :: .int x :: st) h k j := by
  subst hn
  intro H locs ls cells slots hR hS hL h1 h2
  exact lv_ixor V.1 V.2.1 d  (kk H locs ls cells slots hR hS hL h1 h2)
theorem g_ishl (V : gaV p l s m args meth c G cc own nL ws ret nm) {x y : Int32} (d : decode cc pc = .ok (.ishl, 1))  (hn : pc + 1 = n)
    (kk : gaP p l e R s m args below meth c G nL Z n lv (.int (x <<< (y &&& 31)) :: st) h k j) : gaP p l e R s m args below meth c G nL Z pc lv (.int y :: .int x :: st) h k j := by
  subst hn
  intro H locs ls cells slots hR hS hL h1 h2
  exact lv_ishl V.1 V.2.1 d  (kk H locs ls cells slots hR hS hL h1 h2)
theorem g_ishr (V : gaV p l s m args meth c G cc own nL ws ret nm) {x y : Int32} (d : decode cc pc = .ok (.ishr, 1))  (hn : pc + 1 = n)
    (kk : gaP p l e R s m args below meth c G nL Z n lv (.int (x >>> (y &&& 31)) :: st) h k j) : gaP p l e R s m args below meth c G nL Z pc lv (.int y :: .int x :: st) h k j := by
  subst hn
  intro H locs ls cells slots hR hS hL h1 h2
  exact lv_ishr V.1 V.2.1 d  (kk H locs ls cells slots hR hS hL h1 h2)
theorem g_iushr (V : gaV p l s m args meth c G cc own nL ws ret nm) {x y : Int32} (d : decode cc pc = .ok (.iushr, 1))  (hn : pc + 1 = n)
    (kk : gaP p l e R s m args below meth c G nL Z n lv (.int ((x.toUInt32 >>> (y.toUInt32 &&& Int32.toUInt32 31)).toInt32) :: st) h k j) : gaP p l e R s m args below meth c G nL Z pc lv (.int y :: .int x :: st) h k j := by
  subst hn
  intro H locs ls cells slots hR hS hL h1 h2
  exact lv_iushr V.1 V.2.1 d rfl (kk H locs ls cells slots hR hS hL h1 h2)
theorem g_idiv (V : gaV p l s m args meth c G cc own nL ws ret nm) {x y : Int32} (d : decode cc pc = .ok (.idiv, 1)) (hne : ¬ y = 0) (hn : pc + 1 = n)
    (kk : gaP p l e R s m args below meth c G nL Z n lv (.int (x / y) :: st) h k j) : gaP p l e R s m args below meth c G nL Z pc lv (.int y :: .int x :: st) h k j := by
  subst hn
  intro H locs ls cells slots hR hS hL h1 h2
  exact lv_idiv V.1 V.2.1 d hne (kk H locs ls cells slots hR hS hL h1 h2)
theorem g_irem (V : gaV p l s m args meth c G cc own nL ws ret nm) {x y : Int32} (d : decode cc pc = .ok (.irem, 1)) (hne : ¬ y = 0) (hn : pc + 1 = n)
    (kk : gaP p l e R s m args below meth c G nL Z n lv (.int (x - x / y * y) :: st) h k j) : gaP p l e R s m args below meth c G nL Z pc lv (.int y :: .int x :: st) h k j := by
  subst hn
  intro H locs ls cells slots hR hS hL h1 h2
  exact lv_irem V.1 V.2.1 d hne (kk H locs ls cells slots hR hS hL h1 h2)
theorem g_ineg (V : gaV p l s m args meth c G cc own nL ws ret nm) {x : Int32} (d : decode cc pc = .ok (.ineg, 1))  (hn : pc + 1 = n)
    (kk : gaP p l e R s m args below meth c G nL Z n lv (.int (-x) :: st) h k j) : gaP p l e R s m args below meth c G nL Z pc lv (.int x :: st) h k j := by
  subst hn
  intro H locs ls cells slots hR hS hL h1 h2
  exact lv_ineg V.1 V.2.1 d  (kk H locs ls cells slots hR hS hL h1 h2)
theorem g_i2l (V : gaV p l s m args meth c G cc own nL ws ret nm) {x : Int32} (d : decode cc pc = .ok (.i2l, 1))  (hn : pc + 1 = n)
    (kk : gaP p l e R s m args below meth c G nL Z n lv (.long x.toInt64 :: st) h k j) : gaP p l e R s m args below meth c G nL Z pc lv (.int x :: st) h k j := by
  subst hn
  intro H locs ls cells slots hR hS hL h1 h2
  exact lv_i2l V.1 V.2.1 d rfl (kk H locs ls cells slots hR hS hL h1 h2)
theorem g_i2b (V : gaV p l s m args meth c G cc own nL ws ret nm) {x : Int32} (d : decode cc pc = .ok (.i2b, 1))  (hn : pc + 1 = n)
    (kk : gaP p l e R s m args below meth c G nL Z n lv (.int x.toInt8.toInt32 :: st) h k j) : gaP p l e R s m args below meth c G nL Z pc lv (.int x :: st) h k j := by
  subst hn
  intro H locs ls cells slots hR hS hL h1 h2
  exact lv_i2b V.1 V.2.1 d rfl (kk H locs ls cells slots hR hS hL h1 h2)
theorem g_i2c (V : gaV p l s m args meth c G cc own nL ws ret nm) {x : Int32} (d : decode cc pc = .ok (.i2c, 1))  (hn : pc + 1 = n)
    (kk : gaP p l e R s m args below meth c G nL Z n lv (.int (x.toUInt32 % 65536).toInt32 :: st) h k j) : gaP p l e R s m args below meth c G nL Z pc lv (.int x :: st) h k j := by
  subst hn
  intro H locs ls cells slots hR hS hL h1 h2
  exact lv_i2c V.1 V.2.1 d rfl (kk H locs ls cells slots hR hS hL h1 h2)
theorem g_ladd (V : gaV p l s m args meth c G cc own nL ws ret nm) {x y : Int64} (d : decode cc pc = .ok (.ladd, 1))  (hn : pc + 1 = n)
    (kk : gaP p l e R s m args below meth c G nL Z n lv (.long (x + y) :: st) h k j) : gaP p l e R s m args below meth c G nL Z pc lv (.long y :: .long x :: st) h k j := by
  subst hn
  intro H locs ls cells slots hR hS hL h1 h2
  exact lv_ladd V.1 V.2.1 d  (kk H locs ls cells slots hR hS hL h1 h2)
theorem g_lmul (V : gaV p l s m args meth c G cc own nL ws ret nm) {x y : Int64} (d : decode cc pc = .ok (.lmul, 1))  (hn : pc + 1 = n)
    (kk : gaP p l e R s m args below meth c G nL Z n lv (.long (x * y) :: st) h k j) : gaP p l e R s m args below meth c G nL Z pc lv (.long y :: .long x :: st) h k j := by
  subst hn
  intro H locs ls cells slots hR hS hL h1 h2
  exact lv_lmul V.1 V.2.1 d  (kk H locs ls cells slots hR hS hL h1 h2)
theorem g_lcmp (V : gaV p l s m args meth c G cc own nL ws ret nm) {x y : Int64} (d : decode cc pc = .ok (.lcmp, 1))  (hn : pc + 1 = n)
    (kk : gaP p l e R s m args below meth c G nL Z n lv (.int (lg_cmp x y) :: st) h k j) : gaP p l e R s m args below meth c G nL Z pc lv (.long y :: .long x :: st) h k j := by
  subst hn
  intro H locs ls cells slots hR hS hL h1 h2
  exact W.lcmp V.1 V.2.1 d  (kk H locs ls cells slots hR hS hL h1 h2)
theorem g_dup (V : gaV p l s m args meth c G cc own nL ws ret nm) {v : Value} (d : decode cc pc = .ok (.dup, 1)) (hv : v.category = 1) (hn : pc + 1 = n)
    (kk : gaP p l e R s m args below meth c G nL Z n lv (v :: v :: st) h k j) : gaP p l e R s m args below meth c G nL Z pc lv (v :: st) h k j := by
  subst hn
  intro H locs ls cells slots hR hS hL h1 h2
  exact lv_dup V.1 V.2.1 d hv (kk H locs ls cells slots hR hS hL h1 h2)
theorem g_dup_x1 (V : gaV p l s m args meth c G cc own nL ws ret nm) {v w : Value} (d : decode cc pc = .ok (.dup_x1, 1)) (hv : v.category = 1) (hw : w.category = 1) (hn : pc + 1 = n)
    (kk : gaP p l e R s m args below meth c G nL Z n lv (v :: w :: v :: st) h k j) : gaP p l e R s m args below meth c G nL Z pc lv (v :: w :: st) h k j := by
  subst hn
  intro H locs ls cells slots hR hS hL h1 h2
  exact lv_dup_x1 V.1 V.2.1 d hv hw (kk H locs ls cells slots hR hS hL h1 h2)
theorem g_dup2 (V : gaV p l s m args meth c G cc own nL ws ret nm) {v w : Value} (d : decode cc pc = .ok (.dup2, 1)) (hv : v.category = 1) (hw : w.category = 1) (hn : pc + 1 = n)
    (kk : gaP p l e R s m args below meth c G nL Z n lv (v :: w :: v :: w :: st) h k j) : gaP p l e R s m args below meth c G nL Z pc lv (v :: w :: st) h k j := by
  subst hn
  intro H locs ls cells slots hR hS hL h1 h2
  exact lv_dup2_11 V.1 V.2.1 d hv hw (kk H locs ls cells slots hR hS hL h1 h2)
theorem g_pop (V : gaV p l s m args meth c G cc own nL ws ret nm) {v : Value} (d : decode cc pc = .ok (.pop, 1)) (hv : v.category = 1) (hn : pc + 1 = n)
    (kk : gaP p l e R s m args below meth c G nL Z n lv (st) h k j) : gaP p l e R s m args below meth c G nL Z pc lv (v :: st) h k j := by
  subst hn
  intro H locs ls cells slots hR hS hL h1 h2
  exact lv_pop V.1 V.2.1 d hv (kk H locs ls cells slots hR hS hL h1 h2)
theorem g_ldc (V : gaV p l s m args meth c G cc own nL ws ret nm) {i : Nat} (v : Int32) (d : decode cc pc = .ok (.ldc i, 2)) (hw : Cond.constant own i v ∈ ws) (hn : pc + 2 = n)
    (kk : gaP p l e R s m args below meth c G nL Z n lv (.int v :: st) h k j) : gaP p l e R s m args below meth c G nL Z pc lv st h k j := by
  subst hn
  intro H locs ls cells slots hR hS hL h1 h2
  exact lv_ldc V.1 V.2.1 V.2.2.2.1 (V.2.2.2.2.1 _ hw) d (kk H locs ls cells slots hR hS hL h1 h2)
theorem g_ldcw (V : gaV p l s m args meth c G cc own nL ws ret nm) {i : Nat} (v : Int32) (d : decode cc pc = .ok (.ldc_w i, 3)) (hw : Cond.constant own i v ∈ ws) (hn : pc + 3 = n)
    (kk : gaP p l e R s m args below meth c G nL Z n lv (.int v :: st) h k j) : gaP p l e R s m args below meth c G nL Z pc lv st h k j := by
  subst hn
  intro H locs ls cells slots hR hS hL h1 h2
  exact lv_ldcw V.1 V.2.1 V.2.2.2.1 (V.2.2.2.2.1 _ hw) d (kk H locs ls cells slots hR hS hL h1 h2)
theorem g_ldc2 (V : gaV p l s m args meth c G cc own nL ws ret nm) {i : Nat} (v : Int64) (d : decode cc pc = .ok (.ldc2_w i, 3)) (hw : Cond.constantLong own i v ∈ ws) (hn : pc + 3 = n)
    (kk : gaP p l e R s m args below meth c G nL Z n lv (.long v :: st) h k j) : gaP p l e R s m args below meth c G nL Z pc lv st h k j := by
  subst hn
  intro H locs ls cells slots hR hS hL h1 h2
  exact lv_ldc2 V.1 V.2.1 V.2.2.2.1 (V.2.2.2.2.1 _ hw) d (kk H locs ls cells slots hR hS hL h1 h2)
theorem g_istore (V : gaV p l s m args meth c G cc own nL ws ret nm) {i : Nat} {x : Int32} {lv2 : List (Option Value)} (d : decode cc pc = .ok (.istore i, 2)) (hi : i < nL) (hok : gaOk lv i = true) (hlv : lv.set i (some (.int x)) = lv2) (hn : pc + 2 = n)
    (kk : gaP p l e R s m args below meth c G nL Z n lv2 st h k j) : gaP p l e R s m args below meth c G nL Z pc lv (.int x :: st) h k j := by
  subst hn
  subst hlv
  intro H locs ls cells slots hR hS hL h1 h2
  exact lv_istore V.1 V.2.1 d hL.has hi rfl (fun ls2 hl2 => kk H locs ls2 cells slots hR hS (gaL.set1 hok hl2) h1 h2)
theorem g_istore_n (V : gaV p l s m args meth c G cc own nL ws ret nm) {i : Fin 4} {x : Int32} {lv2 : List (Option Value)} (d : decode cc pc = .ok (.istore_n i, 1)) (hi : (i : Nat) < nL) (hok : gaOk lv (i : Nat) = true) (hlv : lv.set (i : Nat) (some (.int x)) = lv2) (hn : pc + 1 = n)
    (kk : gaP p l e R s m args below meth c G nL Z n lv2 st h k j) : gaP p l e R s m args below meth c G nL Z pc lv (.int x :: st) h k j := by
  subst hn
  subst hlv
  intro H locs ls cells slots hR hS hL h1 h2
  exact lv_istore_n V.1 V.2.1 d rfl hL.has hi rfl (fun ls2 hl2 => kk H locs ls2 cells slots hR hS (gaL.set1 hok hl2) h1 h2)
theorem g_astore (V : gaV p l s m args meth c G cc own nL ws ret nm) {i : Nat} {x : Nat} {lv2 : List (Option Value)} (d : decode cc pc = .ok (.astore i, 2)) (hi : i < nL) (hok : gaOk lv i = true) (hlv : lv.set i (some (.ref x)) = lv2) (hn : pc + 2 = n)
    (kk : gaP p l e R s m args below meth c G nL Z n lv2 st h k j) : gaP p l e R s m args below meth c G nL Z pc lv (.ref x :: st) h k j := by
  subst hn
  subst hlv
  intro H locs ls cells slots hR hS hL h1 h2
  exact lv_astore V.1 V.2.1 d hL.has hi rfl (fun ls2 hl2 => kk H locs ls2 cells slots hR hS (gaL.set1 hok hl2) h1 h2)
theorem g_astore_n (V : gaV p l s m args meth c G cc own nL ws ret nm) {i : Fin 4} {x : Nat} {lv2 : List (Option Value)} (d : decode cc pc = .ok (.astore_n i, 1)) (hi : (i : Nat) < nL) (hok : gaOk lv (i : Nat) = true) (hlv : lv.set (i : Nat) (some (.ref x)) = lv2) (hn : pc + 1 = n)
    (kk : gaP p l e R s m args below meth c G nL Z n lv2 st h k j) : gaP p l e R s m args below meth c G nL Z pc lv (.ref x :: st) h k j := by
  subst hn
  subst hlv
  intro H locs ls cells slots hR hS hL h1 h2
  exact lv_astore_n V.1 V.2.1 d rfl hL.has hi rfl (fun ls2 hl2 => kk H locs ls2 cells slots hR hS (gaL.set1 hok hl2) h1 h2)
theorem g_lstore (V : gaV p l s m args meth c G cc own nL ws ret nm) {i : Nat} {x : Int64} {lv2 : List (Option Value)} (d : decode cc pc = .ok (.lstore i, 2)) (hi : i + 1 < nL) (hok : gaOk lv i = true) (hlv : (lv.set i (some (.long x))).set (i + 1) none = lv2) (hn : pc + 2 = n)
    (kk : gaP p l e R s m args below meth c G nL Z n lv2 st h k j) : gaP p l e R s m args below meth c G nL Z pc lv (.long x :: st) h k j := by
  subst hn
  subst hlv
  intro H locs ls cells slots hR hS hL h1 h2
  exact lv_lstore V.1 V.2.1 d hL.has hi rfl (fun ls2 hl2 => kk H locs ls2 cells slots hR hS (gaL.set2 hok hl2) h1 h2)
theorem g_lstore_n (V : gaV p l s m args meth c G cc own nL ws ret nm) {i : Fin 4} {x : Int64} {lv2 : List (Option Value)} (d : decode cc pc = .ok (.lstore_n i, 1)) (hi : (i : Nat) + 1 < nL) (hok : gaOk lv (i : Nat) = true) (hlv : (lv.set (i : Nat) (some (.long x))).set ((i : Nat) + 1) none = lv2) (hn : pc + 1 = n)
    (kk : gaP p l e R s m args below meth c G nL Z n lv2 st h k j) : gaP p l e R s m args below meth c G nL Z pc lv (.long x :: st) h k j := by
  subst hn
  subst hlv
  intro H locs ls cells slots hR hS hL h1 h2
  exact lv_lstore_n V.1 V.2.1 d rfl hL.has hi rfl (fun ls2 hl2 => kk H locs ls2 cells slots hR hS (gaL.set2 hok hl2) h1 h2)
theorem g_iinc (V : gaV p l s m args meth c G cc own nL ws ret nm) {i : Nat} {q : Int} {x v : Int32} {lv2 : List (Option Value)} (d : decode cc pc = .ok (.iinc i q, 3)) (hi : i < nL) (hl : lv[i]? = some (some (.int x))) (hv : Int32.ofInt q = v) (hok : gaOk lv i = true) (hlv : lv.set i (some (.int (x + v))) = lv2) (hn : pc + 3 = n)
    (kk : gaP p l e R s m args below meth c G nL Z n lv2 st h k j) : gaP p l e R s m args below meth c G nL Z pc lv st h k j := by
  subst hn
  subst hlv
  subst hv
  intro H locs ls cells slots hR hS hL h1 h2
  obtain ⟨z, hz⟩ := List.getElem?_of_mem (gaPairs_mem.mpr hl)
  exact lv_iinc V.1 V.2.1 d hL.has hz rfl hi rfl (fun ls2 hl2 => kk H locs ls2 cells slots hR hS (gaL.set1 hok hl2) h1 h2)
theorem g_if_eq (V : gaV p l s m args meth c G cc own nL ws ret nm) {x : Int32} {off : Int} {t : Nat} (d : decode cc pc = .ok (.ifCond .eq off, 3)) (ht : (pc : Int) + off = (t : Int)) (hn : pc + 3 = n)
    (kt : x = 0 → gaP p l e R s m args below meth c G nL Z t lv st h k j) (kf : ¬ (x = 0) → gaP p l e R s m args below meth c G nL Z n lv st h k j) : gaP p l e R s m args below meth c G nL Z pc lv (.int x :: st) h k j := by
  subst hn
  intro H locs ls cells slots hR hS hL h1 h2
  exact lv_if_eq V.1 V.2.1 d ht (fun q => kt q H locs ls cells slots hR hS hL h1 h2) (fun q => kf q H locs ls cells slots hR hS hL h1 h2)
theorem g_if_ne (V : gaV p l s m args meth c G cc own nL ws ret nm) {x : Int32} {off : Int} {t : Nat} (d : decode cc pc = .ok (.ifCond .ne off, 3)) (ht : (pc : Int) + off = (t : Int)) (hn : pc + 3 = n)
    (kt : ¬ x = 0 → gaP p l e R s m args below meth c G nL Z t lv st h k j) (kf : x = 0 → gaP p l e R s m args below meth c G nL Z n lv st h k j) : gaP p l e R s m args below meth c G nL Z pc lv (.int x :: st) h k j := by
  subst hn
  intro H locs ls cells slots hR hS hL h1 h2
  exact lv_if_ne V.1 V.2.1 d ht (fun q => kt q H locs ls cells slots hR hS hL h1 h2) (fun q => kf q H locs ls cells slots hR hS hL h1 h2)
theorem g_if_lt (V : gaV p l s m args meth c G cc own nL ws ret nm) {x : Int32} {off : Int} {t : Nat} (d : decode cc pc = .ok (.ifCond .lt off, 3)) (ht : (pc : Int) + off = (t : Int)) (hn : pc + 3 = n)
    (kt : x < 0 → gaP p l e R s m args below meth c G nL Z t lv st h k j) (kf : ¬ (x < 0) → gaP p l e R s m args below meth c G nL Z n lv st h k j) : gaP p l e R s m args below meth c G nL Z pc lv (.int x :: st) h k j := by
  subst hn
  intro H locs ls cells slots hR hS hL h1 h2
  exact lv_if_lt V.1 V.2.1 d ht (fun q => kt q H locs ls cells slots hR hS hL h1 h2) (fun q => kf q H locs ls cells slots hR hS hL h1 h2)
theorem g_if_ge (V : gaV p l s m args meth c G cc own nL ws ret nm) {x : Int32} {off : Int} {t : Nat} (d : decode cc pc = .ok (.ifCond .ge off, 3)) (ht : (pc : Int) + off = (t : Int)) (hn : pc + 3 = n)
    (kt : 0 ≤ x → gaP p l e R s m args below meth c G nL Z t lv st h k j) (kf : ¬ (0 ≤ x) → gaP p l e R s m args below meth c G nL Z n lv st h k j) : gaP p l e R s m args below meth c G nL Z pc lv (.int x :: st) h k j := by
  subst hn
  intro H locs ls cells slots hR hS hL h1 h2
  exact lv_if_ge V.1 V.2.1 d ht (fun q => kt q H locs ls cells slots hR hS hL h1 h2) (fun q => kf q H locs ls cells slots hR hS hL h1 h2)
theorem g_if_gt (V : gaV p l s m args meth c G cc own nL ws ret nm) {x : Int32} {off : Int} {t : Nat} (d : decode cc pc = .ok (.ifCond .gt off, 3)) (ht : (pc : Int) + off = (t : Int)) (hn : pc + 3 = n)
    (kt : 0 < x → gaP p l e R s m args below meth c G nL Z t lv st h k j) (kf : ¬ (0 < x) → gaP p l e R s m args below meth c G nL Z n lv st h k j) : gaP p l e R s m args below meth c G nL Z pc lv (.int x :: st) h k j := by
  subst hn
  intro H locs ls cells slots hR hS hL h1 h2
  exact lv_if_gt V.1 V.2.1 d ht (fun q => kt q H locs ls cells slots hR hS hL h1 h2) (fun q => kf q H locs ls cells slots hR hS hL h1 h2)
theorem g_if_le (V : gaV p l s m args meth c G cc own nL ws ret nm) {x : Int32} {off : Int} {t : Nat} (d : decode cc pc = .ok (.ifCond .le off, 3)) (ht : (pc : Int) + off = (t : Int)) (hn : pc + 3 = n)
    (kt : x ≤ 0 → gaP p l e R s m args below meth c G nL Z t lv st h k j) (kf : ¬ (x ≤ 0) → gaP p l e R s m args below meth c G nL Z n lv st h k j) : gaP p l e R s m args below meth c G nL Z pc lv (.int x :: st) h k j := by
  subst hn
  intro H locs ls cells slots hR hS hL h1 h2
  exact lv_if_le V.1 V.2.1 d ht (fun q => kt q H locs ls cells slots hR hS hL h1 h2) (fun q => kf q H locs ls cells slots hR hS hL h1 h2)
theorem g_icmp_eq (V : gaV p l s m args meth c G cc own nL ws ret nm) {x y : Int32} {off : Int} {t : Nat} (d : decode cc pc = .ok (.if_icmp .eq off, 3)) (ht : (pc : Int) + off = (t : Int)) (hn : pc + 3 = n)
    (kt : x = y → gaP p l e R s m args below meth c G nL Z t lv st h k j) (kf : ¬ (x = y) → gaP p l e R s m args below meth c G nL Z n lv st h k j) : gaP p l e R s m args below meth c G nL Z pc lv (.int y :: .int x :: st) h k j := by
  subst hn
  intro H locs ls cells slots hR hS hL h1 h2
  exact lv_icmp_eq V.1 V.2.1 d ht (fun q => kt q H locs ls cells slots hR hS hL h1 h2) (fun q => kf q H locs ls cells slots hR hS hL h1 h2)
theorem g_icmp_ne (V : gaV p l s m args meth c G cc own nL ws ret nm) {x y : Int32} {off : Int} {t : Nat} (d : decode cc pc = .ok (.if_icmp .ne off, 3)) (ht : (pc : Int) + off = (t : Int)) (hn : pc + 3 = n)
    (kt : ¬ x = y → gaP p l e R s m args below meth c G nL Z t lv st h k j) (kf : x = y → gaP p l e R s m args below meth c G nL Z n lv st h k j) : gaP p l e R s m args below meth c G nL Z pc lv (.int y :: .int x :: st) h k j := by
  subst hn
  intro H locs ls cells slots hR hS hL h1 h2
  exact lv_icmp_ne V.1 V.2.1 d ht (fun q => kt q H locs ls cells slots hR hS hL h1 h2) (fun q => kf q H locs ls cells slots hR hS hL h1 h2)
theorem g_icmp_lt (V : gaV p l s m args meth c G cc own nL ws ret nm) {x y : Int32} {off : Int} {t : Nat} (d : decode cc pc = .ok (.if_icmp .lt off, 3)) (ht : (pc : Int) + off = (t : Int)) (hn : pc + 3 = n)
    (kt : x < y → gaP p l e R s m args below meth c G nL Z t lv st h k j) (kf : ¬ (x < y) → gaP p l e R s m args below meth c G nL Z n lv st h k j) : gaP p l e R s m args below meth c G nL Z pc lv (.int y :: .int x :: st) h k j := by
  subst hn
  intro H locs ls cells slots hR hS hL h1 h2
  exact lv_icmp_lt V.1 V.2.1 d ht (fun q => kt q H locs ls cells slots hR hS hL h1 h2) (fun q => kf q H locs ls cells slots hR hS hL h1 h2)
theorem g_icmp_ge (V : gaV p l s m args meth c G cc own nL ws ret nm) {x y : Int32} {off : Int} {t : Nat} (d : decode cc pc = .ok (.if_icmp .ge off, 3)) (ht : (pc : Int) + off = (t : Int)) (hn : pc + 3 = n)
    (kt : y ≤ x → gaP p l e R s m args below meth c G nL Z t lv st h k j) (kf : ¬ (y ≤ x) → gaP p l e R s m args below meth c G nL Z n lv st h k j) : gaP p l e R s m args below meth c G nL Z pc lv (.int y :: .int x :: st) h k j := by
  subst hn
  intro H locs ls cells slots hR hS hL h1 h2
  exact lv_icmp_ge V.1 V.2.1 d ht (fun q => kt q H locs ls cells slots hR hS hL h1 h2) (fun q => kf q H locs ls cells slots hR hS hL h1 h2)
theorem g_icmp_gt (V : gaV p l s m args meth c G cc own nL ws ret nm) {x y : Int32} {off : Int} {t : Nat} (d : decode cc pc = .ok (.if_icmp .gt off, 3)) (ht : (pc : Int) + off = (t : Int)) (hn : pc + 3 = n)
    (kt : y < x → gaP p l e R s m args below meth c G nL Z t lv st h k j) (kf : ¬ (y < x) → gaP p l e R s m args below meth c G nL Z n lv st h k j) : gaP p l e R s m args below meth c G nL Z pc lv (.int y :: .int x :: st) h k j := by
  subst hn
  intro H locs ls cells slots hR hS hL h1 h2
  exact lv_icmp_gt V.1 V.2.1 d ht (fun q => kt q H locs ls cells slots hR hS hL h1 h2) (fun q => kf q H locs ls cells slots hR hS hL h1 h2)
theorem g_icmp_le (V : gaV p l s m args meth c G cc own nL ws ret nm) {x y : Int32} {off : Int} {t : Nat} (d : decode cc pc = .ok (.if_icmp .le off, 3)) (ht : (pc : Int) + off = (t : Int)) (hn : pc + 3 = n)
    (kt : x ≤ y → gaP p l e R s m args below meth c G nL Z t lv st h k j) (kf : ¬ (x ≤ y) → gaP p l e R s m args below meth c G nL Z n lv st h k j) : gaP p l e R s m args below meth c G nL Z pc lv (.int y :: .int x :: st) h k j := by
  subst hn
  intro H locs ls cells slots hR hS hL h1 h2
  exact lv_icmp_le V.1 V.2.1 d ht (fun q => kt q H locs ls cells slots hR hS hL h1 h2) (fun q => kf q H locs ls cells slots hR hS hL h1 h2)
theorem g_goto (V : gaV p l s m args meth c G cc own nL ws ret nm) {off : Int} {t : Nat} (d : decode cc pc = .ok (.goto off, 3)) (ht : (pc : Int) + off = (t : Int)) (kk : gaP p l e R s m args below meth c G nL Z t lv st h k j) : gaP p l e R s m args below meth c G nL Z pc lv st h k j := by
  intro H locs ls cells slots hR hS hL h1 h2
  exact lv_goto V.1 V.2.1 d ht (kk H locs ls cells slots hR hS hL h1 h2)
theorem g_ifnonnull (V : gaV p l s m args meth c G cc own nL ws ret nm) {x : Nat} {off : Int} {t : Nat} (d : decode cc pc = .ok (.ifnonnull off, 3)) (ht : (pc : Int) + off = (t : Int)) (kk : gaP p l e R s m args below meth c G nL Z t lv st h k j) : gaP p l e R s m args below meth c G nL Z pc lv (.ref x :: st) h k j := by
  intro H locs ls cells slots hR hS hL h1 h2
  exact lv_ifnonnull V.1 V.2.1 d ht (kk H locs ls cells slots hR hS hL h1 h2)
theorem g_tableIn (V : gaV p l s m args meth c G cc own nL ws ret nm) {dflt lo hi : Int} {offs : Array Int} {len : Nat} {x : Int32} {off : Int} {t : Nat} (d : decode cc pc = .ok (.tableswitch dflt lo hi offs, len)) (h3 : ¬ x.toInt < lo) (h4 : ¬ hi < x.toInt) (ho : offs[(x.toInt - lo).toNat]? = some off) (ht : (pc : Int) + off = (t : Int)) (kk : gaP p l e R s m args below meth c G nL Z t lv st h k j) : gaP p l e R s m args below meth c G nL Z pc lv (.int x :: st) h k j := by
  intro H locs ls cells slots hR hS hL h1 h2
  exact lv_tableIn V.1 V.2.1 d h3 h4 ho ht (kk H locs ls cells slots hR hS hL h1 h2)
theorem g_tableOut (V : gaV p l s m args meth c G cc own nL ws ret nm) {dflt lo hi : Int} {offs : Array Int} {len : Nat} {x : Int32} {t : Nat} (d : decode cc pc = .ok (.tableswitch dflt lo hi offs, len)) (h3 : x.toInt < lo ∨ hi < x.toInt) (ht : (pc : Int) + dflt = (t : Int)) (kk : gaP p l e R s m args below meth c G nL Z t lv st h k j) : gaP p l e R s m args below meth c G nL Z pc lv (.int x :: st) h k j := by
  intro H locs ls cells slots hR hS hL h1 h2
  exact lv_tableOut V.1 V.2.1 d h3 ht (kk H locs ls cells slots hR hS hL h1 h2)
def gaMask (lv : List (Option Value)) (bs : List Bool) : List (Option Value) := List.zipWith (fun v b => if b = true then v else none) lv bs
theorem gaMask_at {lv : List (Option Value)} {bs : List Bool} {i : Nat} {v : Value} (hq : (gaMask lv bs)[i]? = some (some v)) : lv[i]? = some (some v) := by
  unfold gaMask at hq
  rw [List.getElem?_zipWith] at hq
  cases h1 : lv[i]? with
  | none => rw [h1] at hq; simp at hq
  | some o =>
    cases h2 : bs[i]? with
    | none => rw [h1, h2] at hq; simp at hq
    | some b =>
      rw [h1, h2] at hq
      cases b <;> simp at hq
      rw [hq]
theorem g_less {bs : List Bool} {lv2 : List (Option Value)} (hb : gaMask lv bs = lv2) (kk : gaP p l e R s m args below meth c G nL Z pc lv2 st h k j) : gaP p l e R s m args below meth c G nL Z pc lv st h k j := by
  subst hb
  intro H locs ls cells slots hR hS hL h1 h2
  exact kk H locs ls cells slots hR hS ⟨hL.1, hL.2.1, fun i v hq => hL.2.2 i v (gaMask_at hq)⟩ h1 h2
theorem g_vret (V : gaV p l s m args meth c G cc own nL ws ret nm) (hr : ret = none) (d : decode cc pc = .ok (.return_, 1)) (hq : Q none h) : gaP p l e R s m args below meth c G nL (gaZ below G Q X args s R) pc lv [] h k j := by
  intro H locs ls cells slots hR hS hL h1 h2
  refine W.widen (k := R.cells) (n := R.slots) (by omega) (by omega) (vx_ret ?_)
  exact W.vret V.1 V.2.1 (V.2.2.2.2.2.1.trans hr) (fun t ht hW => ⟨none, h, rfl, hq, by rw [ht]; exact hR.moved hW.alike, hS.F ht⟩) hS.2.2 d V.2.2.2.2.2.2.1
theorem g_iret (V : gaV p l s m args meth c G cc own nL ws ret nm) {ty : FieldType} {x : Int32} (hr : ret = some ty) (hn : narrow ty (.int x) = .int x) (d : decode cc pc = .ok (.ireturn, 1)) (hq : Q (some (.int x)) h) : gaP p l e R s m args below meth c G nL (gaZ below G Q X args s R) pc lv [.int x] h k j := by
  intro H locs ls cells slots hR hS hL h1 h2
  refine W.widen (k := R.cells) (n := R.slots) (by omega) (by omega) (vx_ret ?_)
  exact W.zret V.1 V.2.1 (V.2.2.2.2.2.1.trans hr) hn (fun t ht hW => ⟨some (.int x), h, rfl, hq, by rw [ht]; exact hR.moved hW.alike, hS.F ht⟩) hS.2.2 d V.2.2.2.2.2.2.1
theorem g_lret (V : gaV p l s m args meth c G cc own nL ws ret nm) {x : Int64} (hr : ret = some .long) (d : decode cc pc = .ok (.lreturn, 1)) (hq : Q (some (.long x)) h) : gaP p l e R s m args below meth c G nL (gaZ below G Q X args s R) pc lv [.long x] h k j := by
  intro H locs ls cells slots hR hS hL h1 h2
  refine W.widen (k := R.cells) (n := R.slots) (by omega) (by omega) (vx_ret ?_)
  exact W.lret V.1 V.2.1 (V.2.2.2.2.2.1.trans hr) (fun t ht hW => ⟨some (.long x), h, rfl, hq, by rw [ht]; exact hR.moved hW.alike, hS.F ht⟩) hS.2.2 d V.2.2.2.2.2.2.1
theorem g_aret (V : gaV p l s m args meth c G cc own nL ws ret nm) {rt : FieldType} {x : Nat} (hr : ret = some rt) (hrt : (∃ n, rt = .object n) ∨ ∃ t, rt = .array t) (d : decode cc pc = .ok (.areturn, 1)) (hq : Q (some (.ref x)) h) : gaP p l e R s m args below meth c G nL (gaZ below G Q X args s R) pc lv [.ref x] h k j := by
  intro H locs ls cells slots hR hS hL h1 h2
  refine W.widen (k := R.cells) (n := R.slots) (by omega) (by omega) (vx_ret ?_)
  exact W.aret V.1 V.2.1 (V.2.2.2.2.2.1.trans hr) hrt (Or.inr ⟨x, rfl⟩) (fun t ht hW => ⟨some (.ref x), h, rfl, hq, by rw [ht]; exact hR.moved hW.alike, hS.F ht⟩) hS.2.2 d V.2.2.2.2.2.2.1
end GAR
section GAH
variable {H : Heap}
variable {p : Program} {l : Launch} {e : Env} {R : Room} {s : State} {m : MethodId} {args : Array Value} {below : List Frame} {meth : Method} {c : Code} {G : gaG} {cc : ByteArray} {own : String} {nL : Nat} {ws : List Cond} {ret : Option FieldType} {nm : String} {Q : Option Value → gaH → Prop} {X : String → gaH → Prop} {Z : State → Prop}
variable {pc n : Nat} {lv : List (Option Value)} {st : List Value} {h : gaH} {k j : Nat}
theorem gaR.obj (hR : gaR G s h H) {a ci : Nat} {fs : List Value} (hci : ci < 100) (ha : h a = some (ci, fs)) : va_P G.1 vwCl [(a, .inr (ci, fs))] H ∧ G.2.2.1 ≤ a := by
  rcases hR a _ ha with ⟨q1, q2, q3⟩ | ⟨q1, -⟩
  · refine ⟨fun z q hq => ?_, q2⟩
    have hz : z < 1 := (List.getElem?_eq_some_iff.mp hq).1
    rw [show z = 0 by omega] at hq
    cases hq
    exact q3.1 hci
  · dsimp only at q1
    omega
theorem g_get (V : gaV p l s m args meth c G cc own nL ws ret nm) {C ref : String} {T : u_T} {N ci index : Nat} (f : Nat) (hc : vwCl[ci]? = some (C, T, N)) (hin : ∀ w ∈ u_ws C T N, w ∈ ws) (hf : f < N) (hci : ci < 100) (hlink : Cond.fieldLink own index ref (T f).2.1 (T f).2.2.1 ∈ ws) (hsame : (T f).1 = ref)
    {a : Nat} {fs : List Value} {v : Value} (ha : h a = some (ci, fs)) (hv : fs[f]? = some v) (d : decode cc pc = .ok (.getfield index, 3)) (hn : pc + 3 = n)
    (kk : gaP p l e R s m args below meth c G nL Z n lv (v :: st) h k j) : gaP p l e R s m args below meth c G nL Z pc lv (.ref a :: st) h k j := by
  subst hn
  intro H locs ls cells slots hR hS hL h1 h2
  obtain ⟨hP, -⟩ := hR.obj hci ha
  exact va_get V.1 V.2.1 V.2.2.2.2.1 hin V.2.2.2.1 V.2.2.2.2.2.2.2.2.2.1.1 hP 0 rfl hc f hf (V.2.2.2.2.1 _ hlink) (fun x hx => by rw [← hsame]; exact hx) hv d (kk H locs ls cells slots hR hS hL h1 h2)
theorem g_getN (V : gaV p l s m args meth c G cc own nL ws ret nm) {C ref host : String} {T : u_T} {N ci index : Nat} (f : Nat) (hc : vwCl[ci]? = some (C, T, N)) (hin : ∀ w ∈ u_ws C T N, w ∈ ws) (hf : f < N) (hci : ci < 100) (hlink : Cond.fieldLinkNest own index ref (T f).2.1 (T f).2.2.1 host ∈ gaNests) (hsame : (T f).1 = ref)
    {a : Nat} {fs : List Value} {v : Value} (ha : h a = some (ci, fs)) (hv : fs[f]? = some v) (d : decode cc pc = .ok (.getfield index, 3)) (hn : pc + 3 = n)
    (kk : gaP p l e R s m args below meth c G nL Z n lv (v :: st) h k j) : gaP p l e R s m args below meth c G nL Z pc lv (.ref a :: st) h k j := by
  subst hn
  intro H locs ls cells slots hR hS hL h1 h2
  obtain ⟨hP, -⟩ := hR.obj hci ha
  exact va_getN V.1 V.2.1 V.2.2.2.2.1 hin V.2.2.2.1 V.2.2.2.2.2.2.2.2.2.1.1 hP 0 rfl hc f hf (va_Nw.use rfl (V.2.2.2.2.2.2.2.2.2.1.2.2.2.2.2.2.1 _ hlink)) (fun x hx => by rw [← hsame]; exact hx) hv d (kk H locs ls cells slots hR hS hL h1 h2)
/-- a field's new value in the heap's picture -/
theorem gaR.put (hR : gaR G s h H) {H1 : Heap} {a ci f : Nat} {fs : List Value} {v : Value} {C : String} {T : u_T} {N : Nat} (hc : vwCl[ci]? = some (C, T, N)) (hci : ci < 100) (hB : G.2.2.1 ≤ a) (hl : f < fs.length) (hf : f < N) (hap : ∀ x y, x < N → y < N → x ≠ y → (G.1.2 ci) x ≠ (G.1.2 ci) y)
    {cell : Cell} (q2 : cell.cls = G.1.1 ci) (q3 : cell.vm = .none) (q4 : ∀ k, k < N → cell.slots[G.1.2 ci k]? = some (vp_V fs k)) (e1 : H1[a]? = some (cell.setSlot (G.1.2 ci f) v)) (oq : ∀ q : Nat, q ≠ a → H1[q]? = H[q]?) : gaR G s (gaUp h a (ci, fs.set f v)) H1 := by
  refine hR.set (by dsimp only; omega) hB ⟨fun _ => ?_, fun q => ?_⟩ (fun q hq _ => oq q hq)
  · exact ⟨_, hc, t_OB.to (V := updV (vp_V fs) f v) ⟨_, e1, q2, q3, t_set q4 hap hf v⟩ (fun j _ => vp_updV_set hl v j)⟩
  · dsimp only at q
    omega
theorem g_put (V : gaV p l s m args meth c G cc own nL ws ret nm) {C ref : String} {T : u_T} {N ci index : Nat} (f : Nat) (ty0 : Nat → FieldType) (hty : ∀ k, k < N → parseFieldDescriptor (T k).2.2.1 = some (ty0 k)) (hnm : ∀ a, a < N → ∀ b, b < N → a ≠ b → (T a).2.1 ≠ (T b).2.1)
    (hc : vwCl[ci]? = some (C, T, N)) (hin : ∀ w ∈ u_ws C T N, w ∈ ws) (hf : f < N) (hci : ci < 100) (hlink : Cond.fieldLink own index ref (T f).2.1 (T f).2.2.1 ∈ ws) (hsame : (T f).1 = ref) (hfin : (T f).2.2.2 = false)
    {a : Nat} {fs : List Value} {v : Value} (hnr : narrow (ty0 f) v = v) (hfit : fits (ty0 f) v = true) (ha : h a = some (ci, fs)) (hl : f < fs.length) (d : decode cc pc = .ok (.putfield index, 3)) (hn : pc + 3 = n)
    (kk : gaP p l e R s m args below meth c G nL Z n lv st (gaUp h a (ci, fs.set f v)) k j) : gaP p l e R s m args below meth c G nL Z pc lv (v :: .ref a :: st) h k j := by
  subst hn
  intro H locs ls cells slots hR hS hL h1 h2
  obtain ⟨hP, hB⟩ := hR.obj hci ha
  have hK := V.2.2.2.2.2.2.2.2.2.1.1
  have hts := V.2.2.2.2.1
  have hap := va_apart (own := own) hts hin ty0 hty hnm hK hc
  obtain ⟨r, g1, cell, q1, q2, q3, q4⟩ := hP 0 _ rfl
  have hr : r = (C, T, N) := Option.some.inj (g1.symm.trans hc)
  subst hr
  obtain ⟨hSl, hfc, kC, hkC, hkind⟩ := hK.1 ci _ hc
  obtain ⟨cf, kf, fi, fd, hi, hsl⟩ := hSl f hf
  have hlay := hts _ (hin _ (u_in_lay hf))
  unfold u_lay at hlay
  rw [if_neg (by rw [hfin]; decide)] at hlay
  have hst := (u_facts hfc hkC (u_lays hts hin hf) hi).1
  have h6 := u_store hfc hkC hkind hlay hi (hty f hf) hnr hfit
  subst hsame
  refine W.putK V.1 V.2.1 (f := fd) ⟨V.2.2.2.1, hts _ hlink, ⟨_, _, _, hi⟩, hst⟩ (by rw [q2]; exact h6) q1 q3 (by rw [hsl]; exact k2_hasslot (q4 f hf)) rfl rfl d fun H' e1 e2 e3 => ?_
  rw [hsl] at e1
  exact kk H' _ ls cells slots (hR.put hc hci hB hl hf hap q2 q3 q4 e1 e3) (hS.put e2 e3 hB) hL h1 h2
theorem g_putN (V : gaV p l s m args meth c G cc own nL ws ret nm) {C ref host : String} {T : u_T} {N ci index : Nat} (f : Nat) (ty0 : Nat → FieldType) (hty : ∀ k, k < N → parseFieldDescriptor (T k).2.2.1 = some (ty0 k)) (hnm : ∀ a, a < N → ∀ b, b < N → a ≠ b → (T a).2.1 ≠ (T b).2.1)
    (hc : vwCl[ci]? = some (C, T, N)) (hin : ∀ w ∈ u_ws C T N, w ∈ ws) (hf : f < N) (hci : ci < 100) (hlink : Cond.fieldLinkNest own index ref (T f).2.1 (T f).2.2.1 host ∈ gaNests) (hsame : (T f).1 = ref) (hfin : (T f).2.2.2 = false)
    {a : Nat} {fs : List Value} {v : Value} (hnr : narrow (ty0 f) v = v) (hfit : fits (ty0 f) v = true) (ha : h a = some (ci, fs)) (hl : f < fs.length) (d : decode cc pc = .ok (.putfield index, 3)) (hn : pc + 3 = n)
    (kk : gaP p l e R s m args below meth c G nL Z n lv st (gaUp h a (ci, fs.set f v)) k j) : gaP p l e R s m args below meth c G nL Z pc lv (v :: .ref a :: st) h k j := by
  subst hn
  intro H locs ls cells slots hR hS hL h1 h2
  obtain ⟨hP, hB⟩ := hR.obj hci ha
  have hK := V.2.2.2.2.2.2.2.2.2.1.1
  have hts := V.2.2.2.2.1
  have hap := va_apart (own := own) hts hin ty0 hty hnm hK hc
  obtain ⟨r, g1, cell, q1, q2, q3, q4⟩ := hP 0 _ rfl
  have hr : r = (C, T, N) := Option.some.inj (g1.symm.trans hc)
  subst hr
  obtain ⟨hSl, hfc, kC, hkC, hkind⟩ := hK.1 ci _ hc
  obtain ⟨cf, kf, fi, fd, hi, hsl⟩ := hSl f hf
  have hlay := hts _ (hin _ (u_in_lay hf))
  unfold u_lay at hlay
  rw [if_neg (by rw [hfin]; decide)] at hlay
  have hst := (u_facts hfc hkC (u_lays hts hin hf) hi).1
  have h6 := u_store hfc hkC hkind hlay hi (hty f hf) hnr hfit
  subst hsame
  refine va_WputK V.1 V.2.1 (f := fd) V.2.2.2.1 (va_Nw.use rfl (V.2.2.2.2.2.2.2.2.2.1.2.2.2.2.2.2.1 _ hlink)) hi hst (by rw [q2]; exact h6) q1 q3 (by rw [hsl]; exact k2_hasslot (q4 f hf)) rfl rfl d fun H' e1 e2 e3 => ?_
  rw [hsl] at e1
  exact kk H' _ ls cells slots (hR.put hc hci hB hl hf hap q2 q3 q4 e1 e3) (hS.put e2 e3 hB) hL h1 h2
theorem g_putF (V : gaV p l s m args meth c G cc own nL ws ret nm) {C ref : String} {T : u_T} {N ci index : Nat} (f : Nat) (ty0 : Nat → FieldType) (hty : ∀ k, k < N → parseFieldDescriptor (T k).2.2.1 = some (ty0 k)) (hnm : ∀ a, a < N → ∀ b, b < N → a ≠ b → (T a).2.1 ≠ (T b).2.1)
    (hc : vwCl[ci]? = some (C, T, N)) (hin : ∀ w ∈ u_ws C T N, w ∈ ws) (hf : f < N) (hci : ci < 100) (hlink : Cond.fieldLink own index ref (T f).2.1 (T f).2.2.1 ∈ ws) (hsame : (T f).1 = ref) (hfin : (T f).2.2.2 = true) (hin2 : nm = "<init>") (hdecl : (T f).1 = own)
    {a : Nat} {fs : List Value} {v : Value} (hnr : narrow (ty0 f) v = v) (hfit : fits (ty0 f) v = true) (ha : h a = some (ci, fs)) (hl : f < fs.length) (d : decode cc pc = .ok (.putfield index, 3)) (hn : pc + 3 = n)
    (kk : gaP p l e R s m args below meth c G nL Z n lv st (gaUp h a (ci, fs.set f v)) k j) : gaP p l e R s m args below meth c G nL Z pc lv (v :: .ref a :: st) h k j := by
  subst hn
  intro H locs ls cells slots hR hS hL h1 h2
  obtain ⟨hP, hB⟩ := hR.obj hci ha
  have hK := V.2.2.2.2.2.2.2.2.2.1.1
  have hts := V.2.2.2.2.1
  have hown := V.2.2.2.1
  have hap := va_apart (own := own) hts hin ty0 hty hnm hK hc
  obtain ⟨r, g1, cell, q1, q2, q3, q4⟩ := hP 0 _ rfl
  have hr : r = (C, T, N) := Option.some.inj (g1.symm.trans hc)
  subst hr
  obtain ⟨hSl, hfc, kC, hkC, hkind⟩ := hK.1 ci _ hc
  obtain ⟨cf, kf, fi, fd, hi, hsl⟩ := hSl f hf
  have hlay := hts _ (hin _ (u_in_lay hf))
  unfold u_lay at hlay
  rw [if_pos hfin] at hlay
  have hst := (u_facts hfc hkC (u_lays hts hin hf) hi).1
  have hcf : m.cls = cf := by
    obtain ⟨_, _, c', _, _, _, -, -, hf', -, -, -, hown2, -⟩ := Cond.laysFinal_spec hlay
    have e1 : c' = cf := by have := hi.symm.trans hf'; simp at this; exact this.1.symm
    rw [hdecl] at hown2
    rw [← e1]; exact Option.some.inj (hown.symm.trans hown2)
  have h6 := u_fits hfc hkC hkind (Or.inr hlay) hi (hty f hf) hnr hfit
  subst hsame
  refine W.putFinK V.1 V.2.1 hown (hts _ hlink) hi hst hcf (V.2.2.2.2.2.2.2.2.1.trans hin2) (by rw [q2]; exact h6) q1 q3 (by rw [hsl]; exact k2_hasslot (q4 f hf)) rfl rfl d fun H' e1 e2 e3 => ?_
  rw [hsl] at e1
  exact kk H' _ ls cells slots (hR.put hc hci hB hl hf hap q2 q3 q4 e1 e3) (hS.put e2 e3 hB) hL h1 h2
theorem gaClamp {i : Int32} {N : Nat} (h0 : ¬ i < 0) (hi : i.toNatClampNeg < N) {cell : Cell} (hN : N ≤ cell.slots.size) : ¬ (i < 0 ∨ cell.slots.size ≤ i.toNatClampNeg) := by
  rintro (q | q)
  · exact h0 q
  · omega
theorem g_iaload (V : gaV p l s m args meth c G cc own nL ws ret nm) {a t : Nat} {vs : List Value} {i x : Int32} (ha : h a = some (t, vs)) (ht : t = 102 ∨ t = 102 + 1000) (h0 : ¬ i < 0) (hv : vs[i.toNatClampNeg]? = some (.int x)) (d : decode cc pc = .ok (.iaload, 1)) (hn : pc + 1 = n)
    (kk : gaP p l e R s m args below meth c G nL Z n lv (.int x :: st) h k j) : gaP p l e R s m args below meth c G nL Z pc lv (.int i :: .ref a :: st) h k j := by
  subst hn
  intro H locs ls cells slots hR hS hL h1 h2
  obtain ⟨cell, g1, g2, g3, g4, g5, g6⟩ := hR.arr V.2.2.2.2.2.2.2.2.2.1.2.1 ha ht (by simp [gaT])
  exact W.iald V.1 V.2.1 g1 g2 g3 (gaClamp h0 (List.getElem?_eq_some_iff.mp hv).1 g5) (g6 _ _ hv) rfl rfl d (kk H locs ls cells slots hR hS hL h1 h2)
theorem g_baloadZ (V : gaV p l s m args meth c G cc own nL ws ret nm) {a t : Nat} {vs : List Value} {i x : Int32} (ha : h a = some (t, vs)) (ht : t = 100 ∨ t = 100 + 1000) (h0 : ¬ i < 0) (hv : vs[i.toNatClampNeg]? = some (.int x)) (d : decode cc pc = .ok (.baload, 1)) (hn : pc + 1 = n)
    (kk : gaP p l e R s m args below meth c G nL Z n lv (.int x :: st) h k j) : gaP p l e R s m args below meth c G nL Z pc lv (.int i :: .ref a :: st) h k j := by
  subst hn
  intro H locs ls cells slots hR hS hL h1 h2
  obtain ⟨cell, g1, g2, g3, g4, g5, g6⟩ := hR.arr V.2.2.2.2.2.2.2.2.2.1.2.1 ha ht (by simp [gaT])
  exact W.zald V.1 V.2.1 g1 g2 g3 (gaClamp h0 (List.getElem?_eq_some_iff.mp hv).1 g5) (g6 _ _ hv) rfl rfl d (kk H locs ls cells slots hR hS hL h1 h2)
theorem g_baloadB (V : gaV p l s m args meth c G cc own nL ws ret nm) {a t : Nat} {vs : List Value} {i x : Int32} (ha : h a = some (t, vs)) (ht : t = 101 ∨ t = 101 + 1000) (h0 : ¬ i < 0) (hv : vs[i.toNatClampNeg]? = some (.int x)) (d : decode cc pc = .ok (.baload, 1)) (hn : pc + 1 = n)
    (kk : gaP p l e R s m args below meth c G nL Z n lv (.int x :: st) h k j) : gaP p l e R s m args below meth c G nL Z pc lv (.int i :: .ref a :: st) h k j := by
  subst hn
  intro H locs ls cells slots hR hS hL h1 h2
  obtain ⟨cell, g1, g2, g3, g4, g5, g6⟩ := hR.arr V.2.2.2.2.2.2.2.2.2.1.2.1 ha ht (by simp [gaT])
  exact W.bald V.1 V.2.1 g1 g2 g3 (gaClamp h0 (List.getElem?_eq_some_iff.mp hv).1 g5) (g6 _ _ hv) rfl rfl d (kk H locs ls cells slots hR hS hL h1 h2)
theorem g_aaload (V : gaV p l s m args meth c G cc own nL ws ret nm) {a t b : Nat} {vs : List Value} {i : Int32} (ha : h a = some (t, vs)) (ht : t = 110 ∨ t = 111 ∨ t = 112) (h0 : ¬ i < 0) (hv : vs[i.toNatClampNeg]? = some (.ref b)) (d : decode cc pc = .ok (.aaload, 1)) (hn : pc + 1 = n)
    (kk : gaP p l e R s m args below meth c G nL Z n lv (.ref b :: st) h k j) : gaP p l e R s m args below meth c G nL Z pc lv (.int i :: .ref a :: st) h k j := by
  subst hn
  intro H locs ls cells slots hR hS hL h1 h2
  obtain ⟨cell, g1, g2, g3, g4, g5, g6⟩ := hR.arr V.2.2.2.2.2.2.2.2.2.1.2.1 ha (Or.inl rfl) (by rcases ht with rfl | rfl | rfl <;> simp [gaT])
  exact W.aald V.1 V.2.1 g1 g2 (by rcases ht with rfl | rfl | rfl <;> rfl) g3 (gaClamp h0 (List.getElem?_eq_some_iff.mp hv).1 g5) (g6 _ _ hv) rfl rfl d (kk H locs ls cells slots hR hS hL h1 h2)
theorem g_arraylength (V : gaV p l s m args meth c G cc own nL ws ret nm) {a t t0 : Nat} {vs : List Value} (ha : h a = some (t, vs)) (hT : gaT t0) (ht : t = t0 ∨ t = t0 + 1000) (d : decode cc pc = .ok (.arraylength, 1)) (hn : pc + 1 = n)
    (kk : gaP p l e R s m args below meth c G nL Z n lv (.int (Int32.ofNat vs.length) :: st) h k j) : gaP p l e R s m args below meth c G nL Z pc lv (.ref a :: st) h k j := by
  subst hn
  intro H locs ls cells slots hR hS hL h1 h2
  obtain ⟨cell, g1, g2, g3, g4, g5, g6⟩ := hR.arr V.2.2.2.2.2.2.2.2.2.1.2.1 ha ht hT
  exact W.alen V.1 V.2.1 g1 g2 g4 rfl rfl d (kk H locs ls cells slots hR hS hL h1 h2)
theorem gaR.mine (hR : gaR G s h H) {a t : Nat} {vs : List Value} (ha : h a = some (t, vs)) (h1 : 100 ≤ t) (h2 : t < 1000) : H[a]? = some { cls := G.2.1 t, slots := vs.toArray, vm := .none } ∧ G.2.2.1 ≤ a := by
  rcases hR a _ ha with ⟨q1, q2, q3⟩ | ⟨q1, -⟩
  · exact ⟨q3.2 h1, q2⟩
  · dsimp only at q1
    omega
theorem gaR.ast (hR : gaR G s h H) {H1 : Heap} {a t i : Nat} {vs : List Value} {v : Value} (h1 : 100 ≤ t) (h2 : t < 1000) (hB : G.2.2.1 ≤ a) (e1 : H1[a]? = some (Cell.setSlot { cls := G.2.1 t, slots := vs.toArray, vm := .none } i v)) (oq : ∀ q : Nat, q ≠ a → H1[q]? = H[q]?) : gaR G s (gaUp h a (t, vs.set i v)) H1 := by
  refine hR.set h2 hB ⟨fun q => ?_, fun _ => ?_⟩ (fun q hq _ => oq q hq)
  · dsimp only at q
    omega
  · rw [e1]
    simp [Cell.setSlot]
theorem g_iastore (V : gaV p l s m args meth c G cc own nL ws ret nm) {a : Nat} {vs : List Value} {i x : Int32} (ha : h a = some (102, vs)) (h0 : ¬ i < 0) (hi : i.toNatClampNeg < vs.length) (d : decode cc pc = .ok (.iastore, 1)) (hn : pc + 1 = n)
    (kk : gaP p l e R s m args below meth c G nL Z n lv st (gaUp h a (102, vs.set i.toNatClampNeg (.int x))) k j) : gaP p l e R s m args below meth c G nL Z pc lv (.int x :: .int i :: .ref a :: st) h k j := by
  subst hn
  intro H locs ls cells slots hR hS hL h1 h2
  obtain ⟨g1, hB⟩ := hR.mine ha (by decide) (by decide)
  exact W.iast V.1 V.2.1 g1 (V.2.2.2.2.2.2.2.2.2.1.2.1.arr (t := 102) (by simp [gaT]) _) (fun q => by cases q) (gaClamp (N := vs.length) h0 hi (by simp)) rfl rfl d (fun H' e1 e2 e3 => kk H' _ ls cells slots (hR.ast (by decide) (by decide) hB e1 e3) (hS.put e2 e3 hB) hL h1 h2)
theorem g_bastoreZ (V : gaV p l s m args meth c G cc own nL ws ret nm) {a : Nat} {vs : List Value} {i x : Int32} (ha : h a = some (100, vs)) (h0 : ¬ i < 0) (hi : i.toNatClampNeg < vs.length) (d : decode cc pc = .ok (.bastore, 1)) (hn : pc + 1 = n)
    (kk : gaP p l e R s m args below meth c G nL Z n lv st (gaUp h a (100, vs.set i.toNatClampNeg (narrow .boolean (.int x)))) k j) : gaP p l e R s m args below meth c G nL Z pc lv (.int x :: .int i :: .ref a :: st) h k j := by
  subst hn
  intro H locs ls cells slots hR hS hL h1 h2
  obtain ⟨g1, hB⟩ := hR.mine ha (by decide) (by decide)
  exact W.zast V.1 V.2.1 g1 (V.2.2.2.2.2.2.2.2.2.1.2.1.arr (t := 100) (by simp [gaT]) _) (fun q => by cases q) (gaClamp (N := vs.length) h0 hi (by simp)) rfl rfl d (fun H' e1 e2 e3 => kk H' _ ls cells slots (hR.ast (by decide) (by decide) hB e1 e3) (hS.put e2 e3 hB) hL h1 h2)
theorem g_bastoreB (V : gaV p l s m args meth c G cc own nL ws ret nm) {a : Nat} {vs : List Value} {i x : Int32} (ha : h a = some (101, vs)) (h0 : ¬ i < 0) (hi : i.toNatClampNeg < vs.length) (d : decode cc pc = .ok (.bastore, 1)) (hn : pc + 1 = n)
    (kk : gaP p l e R s m args below meth c G nL Z n lv st (gaUp h a (101, vs.set i.toNatClampNeg (narrow .byte (.int x)))) k j) : gaP p l e R s m args below meth c G nL Z pc lv (.int x :: .int i :: .ref a :: st) h k j := by
  subst hn
  intro H locs ls cells slots hR hS hL h1 h2
  obtain ⟨g1, hB⟩ := hR.mine ha (by decide) (by decide)
  exact W.bast V.1 V.2.1 g1 (V.2.2.2.2.2.2.2.2.2.1.2.1.arr (t := 101) (by simp [gaT]) _) (fun q => by cases q) (gaClamp (N := vs.length) h0 hi (by simp)) rfl rfl d (fun H' e1 e2 e3 => kk H' _ ls cells slots (hR.ast (by decide) (by decide) hB e1 e3) (hS.put e2 e3 hB) hL h1 h2)
end GAH
section GAN
variable {p : Program} {l : Launch} {e : Env} {R : Room} {s : State} {m : MethodId} {args : Array Value} {below : List Frame} {meth : Method} {c : Code} {G : gaG} {cc : ByteArray} {own : String} {nL : Nat} {ws : List Cond} {ret : Option FieldType} {nm : String} {Q : Option Value → gaH → Prop} {X : String → gaH → Prop} {Z : State → Prop}
variable {pc n : Nat} {lv : List (Option Value)} {st : List Value} {h : gaH} {k j : Nat} {H : Heap} {locs : List Loc} {cells slots : Nat}
theorem gaR.kept (hR : gaR G s h H) {H1 : Heap} (hq : ∀ q : Nat, q < H.size → H1[q]? = H[q]?) : gaR G s h H1 := by
  intro b e2 hb
  have hl := hR.lt hb
  rcases hR b e2 hb with ⟨q1, q2, q3⟩ | ⟨q1, q3⟩
  · exact Or.inl ⟨q1, q2, q3.kept (hq b hl)⟩
  · exact Or.inr ⟨q1, q3.kept (hq b hl)⟩
theorem gaF.le (h : gaF G s s.heap) (hS : va_S (gaA G) s.heap H locs) : G.2.2.1 ≤ H.size := Nat.le_trans h.2.2.1 hS.1
theorem va_S.grow {A : Nat → Prop} {H0 H1 : Heap} (hS : va_S A H0 H locs) (hz : H.size ≤ H1.size) (hq : ∀ q : Nat, q < H.size → H1[q]? = H[q]?) : va_S A H0 H1 locs :=
  ⟨Nat.le_trans hS.1 hz, fun x h1 h2 => (hq x (Nat.lt_of_lt_of_le h1 hS.1)).trans (hS.2.1 x h1 h2), hS.2.2⟩
theorem g_new (V : gaV p l s m args meth c G cc own nL ws ret nm) {C : String} {T : u_T} {N ci index : Nat} (ty0 : Nat → FieldType) (hty : ∀ k, k < N → parseFieldDescriptor (T k).2.2.1 = some (ty0 k)) (hc : vwCl[ci]? = some (C, T, N)) (hin : ∀ w ∈ u_ws C T N, w ∈ ws) (hci : ci < 100)
    (hcl : Cond.classLink own index C ∈ ws) (hinst : Cond.instantiable C N ∈ ws) (hini : Cond.initialized C ∈ ws) {fs : List Value} (hfs : ∀ q, q < N → defaultValue (ty0 q) = vp_V fs q) (d : decode cc pc = .ok (.new index, 3)) (hn : pc + 3 = n) (hk : 1 ≤ k) (hj : N ≤ j)
    (kk : ∀ a : Nat, h a = none → gaP p l e R s m args below meth c G nL Z n lv (.ref a :: st) (gaUp h a (ci, fs)) (k - 1) (j - N)) : gaP p l e R s m args below meth c G nL Z pc lv st h k j := by
  subst hn
  intro H locs ls cells slots hR hS hL h1 h2
  have hts := V.2.2.2.2.1
  have hF := V.2.2.2.2.2.2.2.2.2.1
  have hKn := hF.1.1 ci _ hc
  refine W.newcK V.1 V.2.1 V.2.2.2.1 (hts _ hcl) (hts _ hinst) (hts _ hini) rfl d (by omega) (by omega) hKn.2.1 rfl fun H1 kC hkC e1 z1 o1 => ?_
  refine kk H.size hR.fresh H1 locs ls (cells + 1) (slots + N) (hR.set (by dsimp only; omega) (hF.le hS) ⟨fun _ => ⟨_, hc, (u_born ty0 hts hin hKn hkC e1 hty).to hfs⟩, fun q => ?_⟩ (fun q _ hq => o1 q hq)) (hS.grow (by omega) o1) hL (by omega) (by omega)
  dsimp only at q
  omega
theorem g_newarray (V : gaV p l s m args meth c G cc own nL ws ret nm) {atype : ArrayType} {t : Nat} (hT : t = 100 ∨ t = 101 ∨ t = 102) (hty : newarray.typeOf atype = gaTy t) (harr : Cond.arrayClass (newarray.typeOf atype) ∈ ws) {x : Int32} (h0 : ¬ x < 0) (hb : x.toNatClampNeg ≤ 100000) (d : decode cc pc = .ok (.newarray atype, 2)) (hn : pc + 2 = n) (hk : 1 ≤ k) (hj : x.toNatClampNeg ≤ j)
    (kk : ∀ a : Nat, h a = none → gaP p l e R s m args below meth c G nL Z n lv (.ref a :: st) (gaUp h a (t, List.replicate x.toNatClampNeg (.int 0))) (k - 1) (j - x.toNatClampNeg)) : gaP p l e R s m args below meth c G nL Z pc lv (.int x :: st) h k j := by
  subst hn
  intro H locs ls cells slots hR hS hL h1 h2
  have hF := V.2.2.2.2.2.2.2.2.2.1
  have hT2 : gaT t := by unfold gaT; omega
  obtain ⟨kA, comp, f1, f2, f3, f4⟩ := hF.2.1 t hT2
  have hdef : defaultValue (newarray.typeOf atype) = .int 0 := by rw [hty]; rcases hT with rfl | rfl | rfl <;> rfl
  have hcb : componentBytes (newarray.typeOf atype) ≤ 8 := by rw [hty]; rcases hT with rfl | rfl | rfl <;> decide
  refine W.newa V.1 V.2.1 (V.2.2.2.2.1 _ harr) rfl d rfl h0 ?_ (by omega) (by omega) fun cA kA2 comp2 g1 g2 g3 => ?_
  · calc x.toNatClampNeg * componentBytes (newarray.typeOf atype) ≤ 100000 * 8 := Nat.mul_le_mul hb hcb
      _ ≤ 536870912 := by decide
  · rw [hty] at g1
    cases Option.some.inj (f1.symm.trans g1)
    rw [hdef]
    refine kk H.size hR.fresh _ locs ls (cells + 1) (slots + x.toNatClampNeg) (hR.set (by dsimp only; omega) (hF.le hS) ⟨fun q => ?_, fun _ => ?_⟩ (fun q _ hq => ?_)) (hS.grow (by simp) (fun q hq => ?_)) hL (by omega) (by omega)
    · dsimp only at q
      omega
    · simp
    · rw [Array.getElem?_push, if_neg (Nat.ne_of_lt hq)]
    · rw [Array.getElem?_push, if_neg (Nat.ne_of_lt hq)]
theorem g_anewarray (V : gaV p l s m args meth c G cc own nL ws ret nm) {t index : Nat} (hT : t = 110 ∨ t = 111) (hcl : Cond.classLink own index (gaCn t) ∈ ws) {x : Int32} (h0 : ¬ x < 0) (hb : x.toNatClampNeg ≤ 100000) (d : decode cc pc = .ok (.anewarray index, 3)) (hn : pc + 3 = n) (hk : 1 ≤ k) (hj : x.toNatClampNeg ≤ j)
    (kk : ∀ a : Nat, h a = none → gaP p l e R s m args below meth c G nL Z n lv (.ref a :: st) (gaUp h a (t, List.replicate x.toNatClampNeg .null)) (k - 1) (j - x.toNatClampNeg)) : gaP p l e R s m args below meth c G nL Z pc lv (.int x :: st) h k j := by
  subst hn
  intro H locs ls cells slots hR hS hL h1 h2
  have hF := V.2.2.2.2.2.2.2.2.2.1
  have hT2 : gaT t := by unfold gaT; omega
  obtain ⟨kA, comp, f1, f2, f3, f4⟩ := hF.2.1 t hT2
  have hty : gaTy t = .object (gaCn t) := by rcases hT with rfl | rfl <;> rfl
  have hov := hF.2.2.2.2.2.2.2.2 t (by omega)
  rw [hty] at hov f1
  refine W.anew V.1 V.2.1 V.2.2.2.1 (V.2.2.2.2.1 _ hcl) hov rfl d rfl h0 (by omega) (by omega) (by omega) fun cA kA2 comp2 g1 g2 g3 g4 => ?_
  cases Option.some.inj (f1.symm.trans g1)
  refine kk H.size hR.fresh _ locs ls (cells + 1) (slots + x.toNatClampNeg) (hR.set (by dsimp only; omega) (hF.le hS) ⟨fun q => ?_, fun _ => ?_⟩ (fun q _ hq => ?_)) (hS.grow (by simp) (fun q hq => ?_)) hL (by omega) (by omega)
  · dsimp only at q
    omega
  · simp
  · rw [Array.getElem?_push, if_neg (Nat.ne_of_lt hq)]
  · rw [Array.getElem?_push, if_neg (Nat.ne_of_lt hq)]
theorem g_anewarrayA (V : gaV p l s m args meth c G cc own nL ws ret nm) {index : Nat} (hcl : Cond.classLink own index "[I" ∈ ws) {x : Int32} (h0 : ¬ x < 0) (hb : x.toNatClampNeg ≤ 100000) (d : decode cc pc = .ok (.anewarray index, 3)) (hn : pc + 3 = n) (hk : 1 ≤ k) (hj : x.toNatClampNeg ≤ j)
    (kk : ∀ a : Nat, h a = none → gaP p l e R s m args below meth c G nL Z n lv (.ref a :: st) (gaUp h a (112, List.replicate x.toNatClampNeg .null)) (k - 1) (j - x.toNatClampNeg)) : gaP p l e R s m args below meth c G nL Z pc lv (.int x :: st) h k j := by
  subst hn
  intro H locs ls cells slots hR hS hL h1 h2
  have hF := V.2.2.2.2.2.2.2.2.2.1
  obtain ⟨kA, comp, f1, f2, f3, f4⟩ := hF.2.1 112 (by simp [gaT])
  have hov : (Cond.arrayOver (.array .int)).before #[] s = true := hF.2.2.2.2.2.2.2.2 112 (by omega)
  have f1 : s.vm.findClass ("[" ++ (FieldType.array .int).toString) = some (G.2.1 112) := f1
  refine W.anewA V.1 V.2.1 (t := .int) V.2.2.2.1 (V.2.2.2.2.1 _ hcl) hov rfl d rfl h0 (by omega) (by omega) (by omega) fun cA kA2 comp2 g1 g2 g3 g4 => ?_
  cases Option.some.inj (f1.symm.trans g1)
  refine kk H.size hR.fresh _ locs ls (cells + 1) (slots + x.toNatClampNeg) (hR.set (by dsimp only; omega) (hF.le hS) ⟨fun q => ?_, fun _ => ?_⟩ (fun q _ hq => ?_)) (hS.grow (by simp) (fun q hq => ?_)) hL (by omega) (by omega)
  · dsimp only at q
    omega
  · simp
  · rw [Array.getElem?_push, if_neg (Nat.ne_of_lt hq)]
  · rw [Array.getElem?_push, if_neg (Nat.ne_of_lt hq)]
theorem g_aastoreO (V : gaV p l s m args meth c G cc own nL ws ret nm) {a b t ci N : Nat} {T : u_T} {vs fs : List Value} {i : Int32} (hT : t = 110 ∨ t = 111) (hc : vwCl[ci]? = some (gaCn t, T, N)) (hci : ci < 100) (ha : h a = some (t, vs)) (hv : h b = some (ci, fs)) (h0 : ¬ i < 0) (hi : i.toNatClampNeg < vs.length) (d : decode cc pc = .ok (.aastore, 1)) (hn : pc + 1 = n)
    (kk : gaP p l e R s m args below meth c G nL Z n lv st (gaUp h a (t, vs.set i.toNatClampNeg (.ref b))) k j) : gaP p l e R s m args below meth c G nL Z pc lv (.ref b :: .int i :: .ref a :: st) h k j := by
  subst hn
  intro H locs ls cells slots hR hS hL h1 h2
  have hF := V.2.2.2.2.2.2.2.2.2.1
  obtain ⟨g1, hB⟩ := hR.mine ha (by omega) (by omega)
  obtain ⟨hP, -⟩ := hR.obj hci hv
  obtain ⟨r', hr', cellV, v1, v2, v3, -⟩ := hP 0 _ rfl
  have hcls := (hF.1.1 ci _ hc).2
  obtain ⟨kA, comp, f1, f2, f3, f4⟩ := hF.2.1 t (by unfold gaT; omega)
  have hcomp : comp = G.1.1 ci := Option.some.inj ((f4 (by omega)).symm.trans hcls.1)
  subst hcomp
  obtain ⟨kC, hkC, -⟩ := hcls.2
  exact W.aast V.1 V.2.1 g1 (fun q h => by cases h) (fun h => by cases h) f2 f3 (by rcases hT with rfl | rfl <;> rfl) hkC ⟨h0, by simpa using hi⟩ v1 (fun q h => by rw [v3] at h; cases h) (by rw [v2]; exact hkC) (by rw [v2]; exact va_assign hcls) rfl rfl d (fun H' e1 e2 e3 => kk H' _ ls cells slots (hR.ast (by omega) (by omega) hB e1 e3) (hS.put e2 e3 hB) hL h1 h2)
theorem g_aastoreA (V : gaV p l s m args meth c G cc own nL ws ret nm) {a b : Nat} {vs xs : List Value} {i : Int32} (hasg : s.vm.assignable (G.2.1 102) (G.2.1 102) = true) (ha : h a = some (112, vs)) (hv : h b = some (102, xs)) (h0 : ¬ i < 0) (hi : i.toNatClampNeg < vs.length) (d : decode cc pc = .ok (.aastore, 1)) (hn : pc + 1 = n)
    (kk : gaP p l e R s m args below meth c G nL Z n lv st (gaUp h a (112, vs.set i.toNatClampNeg (.ref b))) k j) : gaP p l e R s m args below meth c G nL Z pc lv (.ref b :: .int i :: .ref a :: st) h k j := by
  subst hn
  intro H locs ls cells slots hR hS hL h1 h2
  have hF := V.2.2.2.2.2.2.2.2.2.1
  obtain ⟨g1, hB⟩ := hR.mine ha (by decide) (by decide)
  obtain ⟨v1, -⟩ := hR.mine hv (by decide) (by decide)
  obtain ⟨kA, comp, f1, f2, f3, f4⟩ := hF.2.1 112 (by simp [gaT])
  obtain ⟨kI, compI, i1, i2, i3, -⟩ := hF.2.1 102 (by simp [gaT])
  have f4 : s.vm.findClass "[I" = some comp := f4 (by decide)
  have i1 : s.vm.findClass "[I" = some (G.2.1 102) := i1
  have hcomp : comp = G.2.1 102 := Option.some.inj (f4.symm.trans i1)
  subst hcomp
  exact W.aast V.1 V.2.1 g1 (fun q h => by cases h) (fun h => by cases h) f2 f3 rfl i2 ⟨h0, by simpa using hi⟩ v1 (fun q h => by cases h) i2 hasg rfl rfl d (fun H' e1 e2 e3 => kk H' _ ls cells slots (hR.ast (by decide) (by decide) hB e1 e3) (hS.put e2 e3 hB) hL h1 h2)
theorem g_gets (V : gaV p l s m args meth c G cc own nL ws ret nm) {C f d0 : String} {v : Value} {index : Nat} (hZ : va_Z C f d0 v (gaA G) s s.heap) (hlink : Cond.fieldLink own index C f d0 ∈ ws) (d : decode cc pc = .ok (.getstatic index, 3)) (hn : pc + 3 = n)
    (kk : gaP p l e R s m args below meth c G nL Z n lv (v :: st) h k j) : gaP p l e R s m args below meth c G nL Z pc lv st h k j := by
  subst hn
  intro H locs ls cells slots hR hS hL h1 h2
  exact va_gets V.1 V.2.1 hZ hS V.2.2.2.1 (V.2.2.2.2.1 _ hlink) (fun _ q => q) d (kk H locs ls cells slots hR hS hL h1 h2)
theorem g_objInit (V : gaV p l s m args meth c G cc own nL ws ret nm) {a index : Nat} (w1 : Cond.methodLink own index Lib.objectInit ∈ ws) (w2 : Cond.instanceMethod Lib.objectInit ∈ ws) (w3 : Cond.code Lib.objectInit ⟨#[0xb1]⟩ 1 none ∈ ws) (d : decode cc pc = .ok (.invokespecial index, 3)) (hfr : 1 ≤ R.frames) (hlo : 20 ≤ R.locals) (hcat : (st.map fun v => v.category).sum ≤ 8) (hn : pc + 3 = n)
    (kk : gaP p l e R s m args below meth c G nL Z n lv st h k j) : gaP p l e R s m args below meth c G nL Z pc lv (.ref a :: st) h k j := by
  subst hn
  intro H locs ls cells slots hR hS hL h1 h2
  have hr := lv_room (pc := pc) (m := m) (ls := ls) (rest := .ref a :: st) hcat
  have hts := V.2.2.2.2.1
  exact W.objInit V.1 V.2.1 V.2.2.2.1 (hts _ w1) (hts _ w2) (hts _ w3) rfl (by rw [V.2.2.1]; exact hL.1) rfl d hfr (by omega) (kk H locs ls cells slots hR hS hL h1 h2)
end GAN
/-! ===== BEGIN a constructor that throws (launches without stack traces) ===== -/
section VXIA
variable {p : Program} {l : Launch} {e : Env} {R : Room} {s : State} {m : MethodId} {args : Array Value} {below : List Frame} {meth : Method} {c : Code} {T : State} {locs : List Loc} {cells slots : Nat}
theorem vx_callI (X : Stand p l e R s m args below meth c T locs cells slots) (hexec : p.tables.exec = Jvm.exec) {own : String} {index : Nat} {y : MethodName} {bytes : ByteArray} {maxL : Nat}
    (hown : s.vm.findClass own = some m.cls) (hy1 : y.name = "<init>") (hlink : (Cond.methodLink own index y).before args s = true) (hinst : (Cond.instanceMethod y).before args s = true)
    (hcode : (Cond.code y bytes maxL none).before args s = true) (hy : y.cls ≠ "java/lang/invoke/MethodHandle" ∧ y.cls ≠ "java/lang/invoke/VarHandle")
    {W9 : Nat} {Pre : Pt → Array Value → Prop} {Post : Pt → Array Value → Option Value → Pt → Prop} {PostX : Pt → Array Value → Addr → Pt → Prop} (hK : vx_Back l R p e below s args y 3 W9 Pre Post PostX)
    {g : JFrame} (hg : g.method = m) (hsize : g.locals.size = c.maxLocals) {a : Addr} {argsL rest : List Value} (hlen : ∀ sig, parseMethodDescriptor y.desc = some sig → argsL.length = sig.parameters.length)
    (hstack : g.stack = argsL.reverse ++ .ref a :: rest) (hW : 2 * g.monitorRoom + (rest.map fun v => v.category).sum ≤ W9) (hdg : decode c.code g.pc = .ok (.invokespecial index, 3))
    (hpre : ∀ vm₁, s.WarmedH vm₁ → Pre ⟨T.setVm vm₁, locs, cells, slots⟩ (Value.ref a :: argsL).toArray) :
    (∃ (v : Option Value) (vm₁ : Vm) (B : Pt), s.WarmedH vm₁ ∧ Stand p l e R s m args below meth c B.U B.locs B.cells B.slots ∧ Post ⟨T.setVm vm₁, locs, cells, slots⟩ (Value.ref a :: argsL).toArray v B ∧
      ∀ target, Steps p.tables e below (B.U.setTop { g with pc := g.pc + 3, stack := v.toList ++ rest }) target → Steps p.tables e below (T.setTop g) target) ∨
    (∃ (q : Addr) (vm₁ : Vm) (B : Pt), s.WarmedH vm₁ ∧ Stand p l e R s m args below meth c B.U B.locs B.cells B.slots ∧ PostX ⟨T.setVm vm₁, locs, cells, slots⟩ (Value.ref a :: argsL).toArray q B ∧
      Steps p.tables e below (T.setTop g) ((B.U.setTop { g with stack := rest }).pushFrame (.throwing q))) := by
  subst hg
  have hpl : e.platform.magicAccessors = ({} : Platform).magicAccessors := by rw [X.admits.platform]
  obtain ⟨mk, methM, cM, kP, vm₁, hnamed, hmethM, hcodeM, -, hlocalsM, -, hkP, -, hW₁, hstep₁⟩ := Steps.initColdArgs (e := e) X.here hexec X.warmed hpl hown hy1 hy hlink hinst hcode (f := g) rfl hlen hstack hdg
  have X₁ := X.noted hW₁
  rcases hK g.method meth c ⟨T.setVm vm₁, locs, cells, slots⟩ { g with stack := rest } (.invokespecial index) mk (Value.ref a :: argsL).toArray X₁ rfl hsize hdg hW (X₁.named hnamed) (hpre vm₁ X₁.warmed) with ⟨v, B, X', hpost, hsteps⟩ | ⟨q, B, X', hpost, hsteps⟩
  · exact Or.inl ⟨v, vm₁, B, X₁.warmed, X', hpost, fun target h => hstep₁ _ fun acts => by rw [doInvoke_state]; exact hsteps.trans h⟩
  · exact Or.inr ⟨q, vm₁, B, X₁.warmed, X', hpost, hstep₁ _ fun acts => by rw [doInvoke_state]; exact hsteps⟩
end VXIA
section VXIB
variable {p : Program} {l : Launch} {e : Env} {R : Room} {s : State} {m : MethodId} {args : Array Value} {below : List Frame} {meth : Method} {c : Code} {H : Heap} {locs : List Loc} {cells slots : Nat}
variable {y : MethodName} {bytes cc : ByteArray} {maxL nL mc ms n index : Nat} {ret : Option FieldType} {ws : List Cond} {rm : Room} {Pc : Array Value → State → Prop} {Qc : Array Value → State → Outcome → State → Prop} {XC : String → State → State → Prop} {free : Addr → Prop} {Ts : List Cond} {own C : String} {b : Addr} {As rest : List Value} {g : JFrame}
theorem vx_runI (S : CallFix p m c cc nL s args Ts own) (hM : vx_Met l y ws rm Pc Qc XC mc ms free) (cw : CallB R s args own index y bytes maxL none ws rm mc ms n ∧ y.name = "<init>" ∧ (Cond.instanceMethod y).before args s = true) (hp : PreS s H Pc (.ref b :: As))
    (hg : g.method = m) (hn : As.length = n) (hsize : g.locals.size = nL) (hstack : g.stack = As.reverse ++ .ref b :: rest) (hW : 2 * g.monitorRoom + (rest.map fun v => v.category).sum ≤ 8) (hdg : decode cc g.pc = .ok (.invokespecial index, 3)) (hf : cells + mc ≤ R.cells ∧ slots + ms ≤ R.slots) :
    vx_Run p l e R s m args below meth c H locs cells slots mc ms g rest (Qc (Value.ref b :: As).toArray) XC free := by
  have hK : vx_Back l R p e below s args y 3 8 (PreOf R mc ms Pc) (PostOf Qc mc ms free) (vx_Post XC mc ms free) := vx_callBack cw.1 hM hp.1
  obtain ⟨⟨-, -, -, -, -, -, hcode, -, hy, hlen, hl⟩, hy1, hin⟩ := cw
  obtain ⟨hx, hb, hml, ho, -⟩ := S
  have hPc := hp.2
  intro T hT X
  rcases vx_callI X hx (bytes := bytes) (maxL := maxL) ho hy1 hl hin hcode hy hK hg (hsize.trans hml.symm) (a := b) (argsL := As) (rest := rest) (fun sig h => hn.trans (hlen sig h)) hstack hW (by rw [hb]; exact hdg)
    (fun vm₁ hW₁ => ⟨hf.1, hf.2, hPc (T.setVm vm₁) hT hW₁⟩) with ⟨v, vm₁, ⟨U', l2, c2, s2⟩, hW₁, X', ⟨g', mk, t, L, e1, e2, hq, h1, hL, h2, h3⟩, st⟩ | ⟨q, vm₁, ⟨U', l2, c2, s2⟩, hW₁, X', ⟨g', mk, t, L, E, ce, e1, e2, hq, hce, hcv, hcl, h1, hL, h2, h3⟩, st⟩
  · dsimp only [Pt.U, Pt.locs, Pt.cells, Pt.slots] at X' e1 e2 h1 h2 h3 st
    subst h1; subst h2; subst h3
    exact Or.inl ⟨v, (T.setVm vm₁).calling g' mk (Value.ref b :: As).toArray, t, U', L, hT, X', hL, e1, e2, hq, st⟩
  · dsimp only [Pt.U, Pt.locs, Pt.cells, Pt.slots] at X' e1 e2 h1 h2 h3 st hcl
    subst h1; subst h2; subst h3
    exact Or.inr ⟨q, (T.setVm vm₁).calling g' mk (Value.ref b :: As).toArray, t, U', L, E, ce, hT, X', hL, e1, e2, hq, hce, hcv, vx_cls hW₁ hcl, st⟩
end VXIB
/-! ===== END ===== -/
/-! ===== BEGIN a private constructor of a nest mate that throws ===== -/
section VXIC
variable {p : Program} {l : Launch} {e : Env} {R : Room} {s : State} {m : MethodId} {args : Array Value} {below : List Frame} {meth : Method} {c : Code} {T : State} {locs : List Loc} {cells slots : Nat}
theorem vx_callIN (X : Stand p l e R s m args below meth c T locs cells slots) (hexec : p.tables.exec = Jvm.exec) {own : String} {index : Nat} {host : String} {y : MethodName} {bytes : ByteArray} {maxL : Nat}
    (hown : s.vm.findClass own = some m.cls) (hy1 : y.name = "<init>") (hlink : (Cond.methodLinkNest own index y host).before args s = true) (hinst : (Cond.instanceMethod y).before args s = true)
    (hcode : (Cond.code y bytes maxL none).before args s = true) (hy : y.cls ≠ "java/lang/invoke/MethodHandle" ∧ y.cls ≠ "java/lang/invoke/VarHandle")
    {W9 : Nat} {Pre : Pt → Array Value → Prop} {Post : Pt → Array Value → Option Value → Pt → Prop} {PostX : Pt → Array Value → Addr → Pt → Prop} (hK : vx_Back l R p e below s args y 3 W9 Pre Post PostX)
    {g : JFrame} (hg : g.method = m) (hsize : g.locals.size = c.maxLocals) {a : Addr} {argsL rest : List Value} (hlen : ∀ sig, parseMethodDescriptor y.desc = some sig → argsL.length = sig.parameters.length)
    (hstack : g.stack = argsL.reverse ++ .ref a :: rest) (hW : 2 * g.monitorRoom + (rest.map fun v => v.category).sum ≤ W9) (hdg : decode c.code g.pc = .ok (.invokespecial index, 3))
    (hpre : ∀ vm₁, s.WarmedH vm₁ → Pre ⟨T.setVm vm₁, locs, cells, slots⟩ (Value.ref a :: argsL).toArray) :
    (∃ (v : Option Value) (vm₁ : Vm) (B : Pt), s.WarmedH vm₁ ∧ Stand p l e R s m args below meth c B.U B.locs B.cells B.slots ∧ Post ⟨T.setVm vm₁, locs, cells, slots⟩ (Value.ref a :: argsL).toArray v B ∧
      ∀ target, Steps p.tables e below (B.U.setTop { g with pc := g.pc + 3, stack := v.toList ++ rest }) target → Steps p.tables e below (T.setTop g) target) ∨
    (∃ (q : Addr) (vm₁ : Vm) (B : Pt), s.WarmedH vm₁ ∧ Stand p l e R s m args below meth c B.U B.locs B.cells B.slots ∧ PostX ⟨T.setVm vm₁, locs, cells, slots⟩ (Value.ref a :: argsL).toArray q B ∧
      Steps p.tables e below (T.setTop g) ((B.U.setTop { g with stack := rest }).pushFrame (.throwing q))) := by
  subst hg
  have hpl : e.platform.magicAccessors = ({} : Platform).magicAccessors := by rw [X.admits.platform]
  obtain ⟨mk, methM, cM, kP, vm₁, hnamed, hmethM, hcodeM, -, hlocalsM, -, hkP, -, hW₁, hstep₁⟩ := Steps.initColdArgsNest (e := e) X.here hexec X.warmed hpl hown hy1 hy hlink hinst hcode (f := g) rfl hlen hstack hdg
  have X₁ := X.noted hW₁
  rcases hK g.method meth c ⟨T.setVm vm₁, locs, cells, slots⟩ { g with stack := rest } (.invokespecial index) mk (Value.ref a :: argsL).toArray X₁ rfl hsize hdg hW (X₁.named hnamed) (hpre vm₁ X₁.warmed) with ⟨v, B, X', hpost, hsteps⟩ | ⟨q, B, X', hpost, hsteps⟩
  · exact Or.inl ⟨v, vm₁, B, X₁.warmed, X', hpost, fun target h => hstep₁ _ fun acts => by rw [doInvoke_state]; exact hsteps.trans h⟩
  · exact Or.inr ⟨q, vm₁, B, X₁.warmed, X', hpost, hstep₁ _ fun acts => by rw [doInvoke_state]; exact hsteps⟩
end VXIC
section VXID
variable {p : Program} {l : Launch} {e : Env} {R : Room} {s : State} {m : MethodId} {args : Array Value} {below : List Frame} {meth : Method} {c : Code} {H : Heap} {locs : List Loc} {cells slots : Nat}
theorem vx_runIN {y : MethodName} {bytes cc : ByteArray} {maxL nL mc ms n index : Nat} {ws : List Cond} {rm : Room} {Pc : Array Value → State → Prop} {Qc : Array Value → State → Outcome → State → Prop} {XC : String → State → State → Prop} {free : Addr → Prop} {Ts : List Cond} {own host : String} {b : Addr} {As rest : List Value} {g : JFrame}
    (S : CallFix p m c cc nL s args Ts own) (hM : vx_Met l y ws rm Pc Qc XC mc ms free) (cw : va_CN R s args own index y host bytes maxL none ws rm mc ms n ∧ y.name = "<init>" ∧ (Cond.instanceMethod y).before args s = true) (hp : PreS s H Pc (.ref b :: As))
    (hg : g.method = m) (hn : As.length = n) (hsize : g.locals.size = nL) (hstack : g.stack = As.reverse ++ .ref b :: rest) (hW : 2 * g.monitorRoom + (rest.map fun v => v.category).sum ≤ 8) (hdg : decode cc g.pc = .ok (.invokespecial index, 3)) (hf : cells + mc ≤ R.cells ∧ slots + ms ≤ R.slots) :
    vx_Run p l e R s m args below meth c H locs cells slots mc ms g rest (Qc (Value.ref b :: As).toArray) XC free := by
  obtain ⟨⟨⟨hrc, hrs, hfr, hlo, hws, hcw⟩, hcode, hini, hy, hlen, hl⟩, hx1, hx2⟩ := cw
  have hK : vx_Back l R p e below s args y 3 8 (PreOf R mc ms Pc) (PostOf Qc mc ms free) (vx_Post XC mc ms free) := vx_back (bytes := bytes) (maxL := maxL) (ret := none) hM hp.1 hrc hrs hfr hlo hws hcw (fun a' U hW => word_at hW (Or.inl (by first | rfl | simp [Cond.onTables, Cond.keeps, Cond.steady])) hini)
  obtain ⟨hx, hb, hml, ho, -⟩ := S
  have hPc := hp.2
  intro T hT X
  rcases vx_callIN X hx (bytes := bytes) (maxL := maxL) ho hx1 hl hx2 hcode hy hK hg (hsize.trans hml.symm) (a := b) (argsL := As) (rest := rest) (fun sig h => hn.trans (hlen sig h)) hstack hW (by rw [hb]; exact hdg)
    (fun vm₁ hW₁ => ⟨hf.1, hf.2, hPc (T.setVm vm₁) hT hW₁⟩) with ⟨v, vm₁, ⟨U', l2, c2, s2⟩, hW₁, X', ⟨g', mk, t, L, e1, e2, hq, h1, hL, h2, h3⟩, st⟩ | ⟨q, vm₁, ⟨U', l2, c2, s2⟩, hW₁, X', ⟨g', mk, t, L, E, ce, e1, e2, hq, hce, hcv, hcl, h1, hL, h2, h3⟩, st⟩
  · dsimp only [Pt.U, Pt.locs, Pt.cells, Pt.slots] at X' e1 e2 h1 h2 h3 st
    subst h1; subst h2; subst h3
    exact Or.inl ⟨v, (T.setVm vm₁).calling g' mk (Value.ref b :: As).toArray, t, U', L, hT, X', hL, e1, e2, hq, st⟩
  · dsimp only [Pt.U, Pt.locs, Pt.cells, Pt.slots] at X' e1 e2 h1 h2 h3 st hcl
    subst h1; subst h2; subst h3
    exact Or.inr ⟨q, (T.setVm vm₁).calling g' mk (Value.ref b :: As).toArray, t, U', L, E, ce, hT, X', hL, e1, e2, hq, hce, hcv, vx_cls hW₁ hcl, st⟩
end VXID
/-! ===== END ===== -/
/-! ===== BEGIN a method of a class above, found by the receiver, that may throw (follows va_callVU, va_runU of this kit) ===== -/
section
variable {p : Program} {l : Launch} {e : Env} {R : Room} {s : State} {m : MethodId} {args : Array Value} {below : List Frame} {meth : Method} {c : Code} {H : Heap} {locs : List Loc} {cells slots : Nat}
theorem vx_callVU {T : State} {locs : List Loc} {cells slots : Nat} (X : Stand p l e R s m args below meth c T locs cells slots) (hexec : p.tables.exec = Jvm.exec) {own C owner : String} {index : Nat} {x y : MethodName} {bytes : ByteArray} {maxL : Nat} {ret : Option FieldType}
    (hown : s.vm.findClass own = some m.cls) (hlink : (Cond.methodLink own index x).before args s = true) (hsame : (Cond.sameMethod x.cls owner x.name x.desc).before args s = true)
    (hd0 : va_Decl s ⟨owner, x.name, x.desc⟩) (howner : owner ≠ "java/lang/invoke/MethodHandle" ∧ owner ≠ "java/lang/invoke/VarHandle")
    (hsel : (Cond.selects C x y).before args s = true) (hinst : (Cond.instanceMethod y).before args s = true) (hcode : (Cond.code y bytes maxL ret).before args s = true)
    {W : Nat} {Pre : Pt → Array Value → Prop} {Post : Pt → Array Value → Option Value → Pt → Prop} {PostX : Pt → Array Value → Addr → Pt → Prop} (hK : vx_Back l R p e below s args y 3 W Pre Post PostX)
    {b : Addr} {cellB : Cell} (hcell : T.heap[b]? = some cellB) (hobj : cellB.vm.isStatics = false) (hcls : s.vm.findClass C = some cellB.cls)
    {g : JFrame} (hg : g.method = m) (hsize : g.locals.size = c.maxLocals) {argsL rest : List Value} (hlen : ∀ sig, parseMethodDescriptor x.desc = some sig → argsL.length = sig.parameters.length)
    (hstack : g.stack = argsL.reverse ++ .ref b :: rest) (hW : 2 * g.monitorRoom + (rest.map fun v => v.category).sum ≤ W) (hdg : decode c.code g.pc = .ok (.invokevirtual index, 3))
    (hpre : ∀ vm₁, s.WarmedH vm₁ → Pre ⟨T.setVm vm₁, locs, cells, slots⟩ (Value.ref b :: argsL).toArray) :
    (∃ (v : Option Value) (vm₁ : Vm) (B : Pt), s.WarmedH vm₁ ∧ Stand p l e R s m args below meth c B.U B.locs B.cells B.slots ∧ Post ⟨T.setVm vm₁, locs, cells, slots⟩ (Value.ref b :: argsL).toArray v B ∧
      ∀ target, Steps p.tables e below (B.U.setTop { g with pc := g.pc + 3, stack := v.toList ++ rest }) target → Steps p.tables e below (T.setTop g) target) ∨
    (∃ (q : Addr) (vm₁ : Vm) (B : Pt), s.WarmedH vm₁ ∧ Stand p l e R s m args below meth c B.U B.locs B.cells B.slots ∧ PostX ⟨T.setVm vm₁, locs, cells, slots⟩ (Value.ref b :: argsL).toArray q B ∧
      Steps p.tables e below (T.setTop g) ((B.U.setTop { g with stack := rest }).pushFrame (.throwing q))) := by
  obtain ⟨r0, r, hn, hrm, hstR, hsigR⟩ := hd0
  obtain ⟨cn, ck, r1, hcn, hck, hni, hf, hn1⟩ := Cond.sameMethod_found hsame
  cases hn.symm.trans hn1
  obtain ⟨mk, methM, hnamed, hmethM, -, habM⟩ := Cond.instanceMethod_spec hinst
  obtain ⟨c2, r2, m2, q1, q2, q3, q4, kP, hkP, hkPi⟩ := Cond.selects_spec hsel
  cases hcls.symm.trans q1
  cases hf.symm.trans q2
  cases hnamed.symm.trans q3
  have hselP : selectMethod e.platform s.vm cellB.cls r0 = .method mk := by rw [Launch.admits_selectMethod X.admits]; exact q4
  obtain ⟨vm₁, X₁, hstep₁⟩ := X.invokevirtualUp hexec hown hlink hsame howner hn hrm hstR (a := b) (cell := cellB) hcell
    (fun z h => by rw [h] at hobj; cases hobj) hselP hmethM habM hkP hkPi (g := g) hg (argsL := argsL) (rest := rest) (hlen _ hsigR) hstack hdg
  rcases hK m meth c ⟨T.setVm vm₁, locs, cells, slots⟩ { g with stack := rest } (.invokevirtual index) mk (Value.ref b :: argsL).toArray X₁ hg hsize hdg hW (X₁.named hnamed) (hpre vm₁ X₁.warmed) with ⟨v, B, X', hpost, hsteps⟩ | ⟨q, B, X', hpost, hsteps⟩
  · exact Or.inl ⟨v, vm₁, B, X₁.warmed, X', hpost, fun target h => hstep₁ _ fun acts => by rw [doInvoke_state]; exact hsteps.trans h⟩
  · exact Or.inr ⟨q, vm₁, B, X₁.warmed, X', hpost, hstep₁ _ fun acts => by rw [doInvoke_state]; exact hsteps⟩
theorem vx_runU {x y : MethodName} {bytes cc : ByteArray} {maxL nL mc ms n index : Nat} {ret : Option FieldType} {ws : List Cond} {rm : Room} {Pc : Array Value → State → Prop} {Qc : Array Value → State → Outcome → State → Prop} {XC : String → State → State → Prop} {free : Addr → Prop} {Ts : List Cond} {own C owner : String} {b : Addr} {As rest : List Value} {g : JFrame}
    (S : CallFix p m c cc nL s args Ts own) (hM : vx_Met l y ws rm Pc Qc XC mc ms free) (cw : va_CU R s args own C owner index x y bytes maxL ret ws rm mc ms n) (hp : PreV s H C b Pc As)
    (hg : g.method = m) (hn : As.length = n) (hsize : g.locals.size = nL) (hstack : g.stack = As.reverse ++ .ref b :: rest) (hW : 2 * g.monitorRoom + (rest.map fun v => v.category).sum ≤ 8) (hdg : decode cc g.pc = .ok (.invokevirtual index, 3)) (hf : cells + mc ≤ R.cells ∧ slots + ms ≤ R.slots) :
    vx_Run p l e R s m args below meth c H locs cells slots mc ms g rest (Qc (Value.ref b :: As).toArray) XC free := by
  obtain ⟨hrc, hrs, hfr, hlo, hws, hcw⟩ := cw.back
  have hini := cw.init
  have hK : vx_Back l R p e below s args y 3 8 (PreOf R mc ms Pc) (PostOf Qc mc ms free) (vx_Post XC mc ms free) := vx_back (bytes := bytes) (maxL := maxL) (ret := ret) hM hp.1 hrc hrs hfr hlo hws hcw (fun a' U hW => word_at hW (Or.inl (by first | rfl | simp [Cond.onTables, Cond.keeps, Cond.steady])) hini)
  obtain ⟨hx, hb, hml, ho, -⟩ := S
  obtain ⟨-, ⟨cellB, hcB, hoB, hclB⟩, hPc⟩ := hp
  intro T hT X
  rcases vx_callVU X hx (C := C) (owner := owner) (bytes := bytes) (maxL := maxL) (ret := ret) ho cw.link cw.same cw.decl cw.notMH cw.sel cw.inst cw.code hK (by rw [hT]; exact hcB) hoB hclB hg (hsize.trans hml.symm) (argsL := As) (rest := rest) (fun sig h => hn.trans (cw.len sig h)) hstack hW (by rw [hb]; exact hdg)
    (fun vm₁ hW₁ => ⟨hf.1, hf.2, hPc (T.setVm vm₁) hT hW₁⟩) with ⟨v, vm₁, ⟨U', l2, c2, s2⟩, hW₁, X', ⟨g', mk, t, L, e1, e2, hq, h1, hL, h2, h3⟩, st⟩ | ⟨q, vm₁, ⟨U', l2, c2, s2⟩, hW₁, X', ⟨g', mk, t, L, E, ce, e1, e2, hq, hce, hcv, hcl, h1, hL, h2, h3⟩, st⟩
  · dsimp only [Pt.U, Pt.locs, Pt.cells, Pt.slots] at X' e1 e2 h1 h2 h3 st
    subst h1; subst h2; subst h3
    exact Or.inl ⟨v, (T.setVm vm₁).calling g' mk (Value.ref b :: As).toArray, t, U', L, hT, X', hL, e1, e2, hq, st⟩
  · dsimp only [Pt.U, Pt.locs, Pt.cells, Pt.slots] at X' e1 e2 h1 h2 h3 st hcl
    subst h1; subst h2; subst h3
    exact Or.inr ⟨q, (T.setVm vm₁).calling g' mk (Value.ref b :: As).toArray, t, U', L, E, ce, hT, X', hL, e1, e2, hq, hce, hcv, vx_cls hW₁ hcl, st⟩
end
/-! ===== END ===== -/
/-! ===== BEGIN super.m(..) that may throw (follows va_callSU, va_runSU) ===== -/
section
variable {p : Program} {l : Launch} {e : Env} {R : Room} {s : State} {m : MethodId} {args : Array Value} {below : List Frame} {meth : Method} {c : Code} {H : Heap} {locs : List Loc} {cells slots : Nat}
theorem vx_callSU {T : State} {locs : List Loc} {cells slots : Nat} (X : Stand p l e R s m args below meth c T locs cells slots) (hexec : p.tables.exec = Jvm.exec) {own : String} {index : Nat} {y : MethodName} {bytes : ByteArray} {maxL : Nat} {ret : Option FieldType}
    (hown : s.vm.findClass own = some m.cls) (hlink : (Cond.methodLink own index y).before args s = true) (hsame : (Cond.sameMethod y.cls y.cls y.name y.desc).before args s = true) (hsup : (Cond.superclass own y.cls).before args s = true)
    (hinst : (Cond.instanceMethod y).before args s = true) (hcode : (Cond.code y bytes maxL ret).before args s = true) (hno : y.name ≠ "<init>")
    {W : Nat} {Pre : Pt → Array Value → Prop} {Post : Pt → Array Value → Option Value → Pt → Prop} {PostX : Pt → Array Value → Addr → Pt → Prop} (hK : vx_Back l R p e below s args y 3 W Pre Post PostX)
    {b : Addr} {cellB : Cell} {kB : Class} (hcell : T.heap[b]? = some cellB) (hobj : cellB.vm.isStatics = false) (hkB : s.vm.classes[cellB.cls]? = some kB)
    {g : JFrame} (hg : g.method = m) (hsize : g.locals.size = c.maxLocals) {argsL rest : List Value} (hlen : ∀ sig, parseMethodDescriptor y.desc = some sig → argsL.length = sig.parameters.length)
    (hstack : g.stack = argsL.reverse ++ .ref b :: rest) (hW : 2 * g.monitorRoom + (rest.map fun v => v.category).sum ≤ W) (hdg : decode c.code g.pc = .ok (.invokespecial index, 3))
    (hpre : ∀ vm₁, s.WarmedH vm₁ → Pre ⟨T.setVm vm₁, locs, cells, slots⟩ (Value.ref b :: argsL).toArray) :
    (∃ (v : Option Value) (vm₁ : Vm) (B : Pt), s.WarmedH vm₁ ∧ Stand p l e R s m args below meth c B.U B.locs B.cells B.slots ∧ Post ⟨T.setVm vm₁, locs, cells, slots⟩ (Value.ref b :: argsL).toArray v B ∧
      ∀ target, Steps p.tables e below (B.U.setTop { g with pc := g.pc + 3, stack := v.toList ++ rest }) target → Steps p.tables e below (T.setTop g) target) ∨
    (∃ (q : Addr) (vm₁ : Vm) (B : Pt), s.WarmedH vm₁ ∧ Stand p l e R s m args below meth c B.U B.locs B.cells B.slots ∧ PostX ⟨T.setVm vm₁, locs, cells, slots⟩ (Value.ref b :: argsL).toArray q B ∧
      Steps p.tables e below (T.setTop g) ((B.U.setTop { g with stack := rest }).pushFrame (.throwing q))) := by
  obtain ⟨mk, methM, hnamed, hmethM, hstM, habM⟩ := Cond.instanceMethod_spec hinst
  obtain ⟨methM', cM, hmethM', -, -, -, -, -, -, hsigM⟩ := Cond.code_spec hnamed hcode
  cases hmethM.symm.trans hmethM'
  obtain ⟨ps, dk, kp, hps, hdk, hkp, hsuper, -, -, hnid⟩ := Cond.superclass_spec hown hsup
  have hn : s.methodNamed? ⟨y.cls, y.name, y.desc⟩ = some mk := hnamed
  have hpm : ps = mk.cls := Option.some.inj (hps.symm.trans (findClass_of_methodNamed hnamed))
  have hsub : s.vm.isSubclass ps mk.cls = true := by rw [hpm]; simp [Vm.isSubclass, Vm.isSubclassAux]
  obtain ⟨vm₁, X₁, hstep₁⟩ := X.invokespecialUp hexec hown hlink hsame hn hmethM hstM habM hno hdk hnid hps hsuper hsub (a := b) (cell := cellB) hcell
    (fun z h => by rw [h] at hobj; cases hobj) hkB (g := g) hg (argsL := argsL) (rest := rest) (hlen _ hsigM) hstack hdg
  rcases hK m meth c ⟨T.setVm vm₁, locs, cells, slots⟩ { g with stack := rest } (.invokespecial index) mk (Value.ref b :: argsL).toArray X₁ hg hsize hdg hW (X₁.named hnamed) (hpre vm₁ X₁.warmed) with ⟨v, B, X', hpost, hsteps⟩ | ⟨q, B, X', hpost, hsteps⟩
  · exact Or.inl ⟨v, vm₁, B, X₁.warmed, X', hpost, fun target h => hstep₁ _ (by rw [doInvoke_state]; exact hsteps.trans h)⟩
  · exact Or.inr ⟨q, vm₁, B, X₁.warmed, X', hpost, hstep₁ _ (by rw [doInvoke_state]; exact hsteps)⟩
theorem vx_runSU {y : MethodName} {bytes cc : ByteArray} {maxL nL mc ms n index : Nat} {ret : Option FieldType} {ws : List Cond} {rm : Room} {Pc : Array Value → State → Prop} {Qc : Array Value → State → Outcome → State → Prop} {XC : String → State → State → Prop} {free : Addr → Prop} {Ts : List Cond} {own C : String} {cC : ClassId} {b : Addr} {As rest : List Value} {g : JFrame}
    (hat : ClassAt s C cC) (S : CallFix p m c cc nL s args Ts own) (hM : vx_Met l y ws rm Pc Qc XC mc ms free) (cw : va_CS R s args own index y bytes maxL ret ws rm mc ms n) (hp : PreV s H C b Pc As)
    (hg : g.method = m) (hn : As.length = n) (hsize : g.locals.size = nL) (hstack : g.stack = As.reverse ++ .ref b :: rest) (hW : 2 * g.monitorRoom + (rest.map fun v => v.category).sum ≤ 8) (hdg : decode cc g.pc = .ok (.invokespecial index, 3)) (hf : cells + mc ≤ R.cells ∧ slots + ms ≤ R.slots) :
    vx_Run p l e R s m args below meth c H locs cells slots mc ms g rest (Qc (Value.ref b :: As).toArray) XC free := by
  obtain ⟨⟨hrc, hrs, hfr, hlo, hws, hcw⟩, hl1, hl2, hl3, hl4, hini, hcode, hno, hlen⟩ := cw
  have hK : vx_Back l R p e below s args y 3 8 (PreOf R mc ms Pc) (PostOf Qc mc ms free) (vx_Post XC mc ms free) := vx_back (bytes := bytes) (maxL := maxL) (ret := ret) hM hp.1 hrc hrs hfr hlo hws hcw (fun a' U hW => word_at hW (Or.inl (by first | rfl | simp [Cond.onTables, Cond.keeps, Cond.steady])) hini)
  obtain ⟨hx, hb, hml, ho, -⟩ := S
  obtain ⟨-, ⟨cellB, hcB, hoB, hclB⟩, hPc⟩ := hp
  obtain ⟨hfc, kB, hkB, -⟩ := hat
  cases hfc.symm.trans hclB
  intro T hT X
  rcases vx_callSU X hx (bytes := bytes) (maxL := maxL) (ret := ret) ho hl1 hl2 hl3 hl4 hcode hno hK (by rw [hT]; exact hcB) hoB hkB hg (hsize.trans hml.symm) (argsL := As) (rest := rest) (fun sig h => hn.trans (hlen sig h)) hstack hW (by rw [hb]; exact hdg)
    (fun vm₁ hW₁ => ⟨hf.1, hf.2, hPc (T.setVm vm₁) hT hW₁⟩) with ⟨v, vm₁, ⟨U', l2, c2, s2⟩, hW₁, X', ⟨g', mk, t, L, e1, e2, hq, h1, hL, h2, h3⟩, st⟩ | ⟨q, vm₁, ⟨U', l2, c2, s2⟩, hW₁, X', ⟨g', mk, t, L, E, ce, e1, e2, hq, hce, hcv, hcl, h1, hL, h2, h3⟩, st⟩
  · dsimp only [Pt.U, Pt.locs, Pt.cells, Pt.slots] at X' e1 e2 h1 h2 h3 st
    subst h1; subst h2; subst h3
    exact Or.inl ⟨v, (T.setVm vm₁).calling g' mk (Value.ref b :: As).toArray, t, U', L, hT, X', hL, e1, e2, hq, st⟩
  · dsimp only [Pt.U, Pt.locs, Pt.cells, Pt.slots] at X' e1 e2 h1 h2 h3 st hcl
    subst h1; subst h2; subst h3
    exact Or.inr ⟨q, (T.setVm vm₁).calling g' mk (Value.ref b :: As).toArray, t, U', L, E, ce, hT, X', hL, e1, e2, hq, hce, hcv, vx_cls hW₁ hcl, st⟩
end
/-! ===== END ===== -/
/-! ===== BEGIN a private method of a nest mate that may throw (follows va_callVN, va_callSN, va_runVN, va_runSN) ===== -/
section
variable {p : Program} {l : Launch} {e : Env} {R : Room} {s : State} {m : MethodId} {args : Array Value} {below : List Frame} {meth : Method} {c : Code} {H : Heap} {locs : List Loc} {cells slots : Nat}
variable {T : State}
theorem vx_callVN (X : Stand p l e R s m args below meth c T locs cells slots) (hexec : p.tables.exec = Jvm.exec) {own C : String} {index : Nat} {host : String} {y : MethodName} {bytes : ByteArray} {maxL : Nat} {ret : Option FieldType}
    (hown : s.vm.findClass own = some m.cls) (hlink : (Cond.methodLinkNest own index y host).before args s = true) (hinst : (Cond.instanceMethod y).before args s = true) (hsel : (Cond.selects C y y).before args s = true)
    (hcode : (Cond.code y bytes maxL ret).before args s = true) (hy : y.cls ≠ "java/lang/invoke/MethodHandle" ∧ y.cls ≠ "java/lang/invoke/VarHandle")
    {W : Nat} {Pre : Pt → Array Value → Prop} {Post : Pt → Array Value → Option Value → Pt → Prop} {PostX : Pt → Array Value → Addr → Pt → Prop} (hK : vx_Back l R p e below s args y 3 W Pre Post PostX)
    {b : Addr} {cellB : Cell} (hcell : T.heap[b]? = some cellB) (hobj : cellB.vm.isStatics = false) (hcls : s.vm.findClass C = some cellB.cls)
    {g : JFrame} (hg : g.method = m) (hsize : g.locals.size = c.maxLocals) {argsL rest : List Value} (hlen : ∀ sig, parseMethodDescriptor y.desc = some sig → argsL.length = sig.parameters.length)
    (hstack : g.stack = argsL.reverse ++ .ref b :: rest) (hW : 2 * g.monitorRoom + (rest.map fun v => v.category).sum ≤ W) (hdg : decode c.code g.pc = .ok (.invokevirtual index, 3))
    (hpre : ∀ vm₁, s.WarmedH vm₁ → Pre ⟨T.setVm vm₁, locs, cells, slots⟩ (Value.ref b :: argsL).toArray) :
    (∃ (v : Option Value) (vm₁ : Vm) (B : Pt), s.WarmedH vm₁ ∧ Stand p l e R s m args below meth c B.U B.locs B.cells B.slots ∧ Post ⟨T.setVm vm₁, locs, cells, slots⟩ (Value.ref b :: argsL).toArray v B ∧
      ∀ target, Steps p.tables e below (B.U.setTop { g with pc := g.pc + 3, stack := v.toList ++ rest }) target → Steps p.tables e below (T.setTop g) target) ∨
    (∃ (q : Addr) (vm₁ : Vm) (B : Pt), s.WarmedH vm₁ ∧ Stand p l e R s m args below meth c B.U B.locs B.cells B.slots ∧ PostX ⟨T.setVm vm₁, locs, cells, slots⟩ (Value.ref b :: argsL).toArray q B ∧
      Steps p.tables e below (T.setTop g) ((B.U.setTop { g with stack := rest }).pushFrame (.throwing q))) := by
  obtain ⟨mk, methM, hnamed, hmethM, hstM, habM⟩ := Cond.instanceMethod_spec hinst
  obtain ⟨methM', cM, hmethM', -, -, -, -, -, -, hsigM⟩ := Cond.code_spec hnamed hcode
  cases hmethM.symm.trans hmethM'
  obtain ⟨c2, r2, m2, q1, q2, q3, q4, kP, hkP, hkPi⟩ := Cond.selects_spec hsel
  cases hcls.symm.trans q1
  cases (State.methodFound?_of_named hnamed hy).symm.trans q2
  cases hnamed.symm.trans q3
  have hselP : selectMethod e.platform s.vm cellB.cls mk = .method mk := by rw [Launch.admits_selectMethod X.admits]; exact q4
  obtain ⟨vm₁, X₁, hstep₁⟩ := X.invokevirtualNest hexec hown hlink hnamed hmethM hstM hkP hkPi hy (a := b) (cell := cellB) hcell
    (fun z h => by rw [h] at hobj; cases hobj) hselP hmethM habM hkP hkPi (g := g) hg (argsL := argsL) (rest := rest) (hlen _ hsigM) hstack hdg
  rcases hK m meth c ⟨T.setVm vm₁, locs, cells, slots⟩ { g with stack := rest } (.invokevirtual index) mk (Value.ref b :: argsL).toArray X₁ hg hsize hdg hW (X₁.named hnamed) (hpre vm₁ X₁.warmed) with ⟨v, B, X', hpost, hsteps⟩ | ⟨q, B, X', hpost, hsteps⟩
  · exact Or.inl ⟨v, vm₁, B, X₁.warmed, X', hpost, fun target h => hstep₁ _ fun acts => by rw [doInvoke_state]; exact hsteps.trans h⟩
  · exact Or.inr ⟨q, vm₁, B, X₁.warmed, X', hpost, hstep₁ _ fun acts => by rw [doInvoke_state]; exact hsteps⟩
theorem vx_callSN (X : Stand p l e R s m args below meth c T locs cells slots) (hexec : p.tables.exec = Jvm.exec) {own : String} {index : Nat} {host : String} {y : MethodName} {bytes : ByteArray} {maxL : Nat} {ret : Option FieldType}
    (hown : s.vm.findClass own = some m.cls) (hlink : (Cond.methodLinkNest own index y host).before args s = true) (hstat : (Cond.static y).before args s = true) (hinit : (Cond.initialized y.cls).before args s = true)
    (hcode : (Cond.code y bytes maxL ret).before args s = true) (hy : y.cls ≠ "java/lang/invoke/MethodHandle" ∧ y.cls ≠ "java/lang/invoke/VarHandle")
    {W : Nat} {Pre : Pt → Array Value → Prop} {Post : Pt → Array Value → Option Value → Pt → Prop} {PostX : Pt → Array Value → Addr → Pt → Prop} (hK : vx_Back l R p e below s args y 3 W Pre Post PostX)
    {g : JFrame} (hg : g.method = m) (hsize : g.locals.size = c.maxLocals) {argsL rest : List Value} (hlen : ∀ sig, parseMethodDescriptor y.desc = some sig → argsL.length = sig.parameters.length)
    (hstack : g.stack = argsL.reverse ++ rest) (hW : 2 * g.monitorRoom + (rest.map fun v => v.category).sum ≤ W) (hdg : decode c.code g.pc = .ok (.invokestatic index, 3))
    (hpre : ∀ vm₁, s.WarmedH vm₁ → Pre ⟨T.setVm vm₁, locs, cells, slots⟩ argsL.toArray) :
    (∃ (v : Option Value) (vm₁ : Vm) (B : Pt), s.WarmedH vm₁ ∧ Stand p l e R s m args below meth c B.U B.locs B.cells B.slots ∧ Post ⟨T.setVm vm₁, locs, cells, slots⟩ argsL.toArray v B ∧
      ∀ target, Steps p.tables e below (B.U.setTop { g with pc := g.pc + 3, stack := v.toList ++ rest }) target → Steps p.tables e below (T.setTop g) target) ∨
    (∃ (q : Addr) (vm₁ : Vm) (B : Pt), s.WarmedH vm₁ ∧ Stand p l e R s m args below meth c B.U B.locs B.cells B.slots ∧ PostX ⟨T.setVm vm₁, locs, cells, slots⟩ argsL.toArray q B ∧
      Steps p.tables e below (T.setTop g) ((B.U.setTop { g with stack := rest }).pushFrame (.throwing q))) := by
  obtain ⟨mk, hnamed⟩ := Cond.code_named hcode
  obtain ⟨methM, cM, hmethM, -, -, -, -, -, -, hsigM⟩ := Cond.code_spec hnamed hcode
  have hstatic : methM.isStatic = true := Cond.static_spec hnamed hmethM hstat
  obtain ⟨kP, hkP, -⟩ := className_of_methodNamed hnamed
  have hinitP : kP.init = .initialized := Cond.initialized_spec (findClass_of_methodNamed hnamed) hkP hinit
  obtain ⟨vm₁, X₁, hstep₁⟩ := X.invokestaticNest hexec hown hlink hnamed hmethM hstatic hkP hinitP hy (g := g) hg (argsL := argsL) (rest := rest) (hlen _ hsigM) hstack hdg
  rcases hK m meth c ⟨T.setVm vm₁, locs, cells, slots⟩ { g with stack := rest } (.invokestatic index) mk argsL.toArray X₁ hg hsize hdg hW (X₁.named hnamed) (hpre vm₁ X₁.warmed) with ⟨v, B, X', hpost, hsteps⟩ | ⟨q, B, X', hpost, hsteps⟩
  · exact Or.inl ⟨v, vm₁, B, X₁.warmed, X', hpost, fun target h => hstep₁ _ fun acts => by rw [doInvoke_state]; exact hsteps.trans h⟩
  · exact Or.inr ⟨q, vm₁, B, X₁.warmed, X', hpost, hstep₁ _ fun acts => by rw [doInvoke_state]; exact hsteps⟩
theorem vx_runVN {y : MethodName} {bytes cc : ByteArray} {maxL nL mc ms n index : Nat} {ret : Option FieldType} {ws : List Cond} {rm : Room} {Pc : Array Value → State → Prop} {Qc : Array Value → State → Outcome → State → Prop} {XC : String → State → State → Prop} {free : Addr → Prop} {Ts : List Cond} {own C host : String} {b : Addr} {As rest : List Value} {g : JFrame}
    (S : CallFix p m c cc nL s args Ts own) (hM : vx_Met l y ws rm Pc Qc XC mc ms free) (cw : va_CN R s args own index y host bytes maxL ret ws rm mc ms n ∧ (Cond.instanceMethod y).before args s = true ∧ (Cond.selects C y y).before args s = true) (hp : PreV s H C b Pc As)
    (hg : g.method = m) (hn : As.length = n) (hsize : g.locals.size = nL) (hstack : g.stack = As.reverse ++ .ref b :: rest) (hW : 2 * g.monitorRoom + (rest.map fun v => v.category).sum ≤ 8) (hdg : decode cc g.pc = .ok (.invokevirtual index, 3)) (hf : cells + mc ≤ R.cells ∧ slots + ms ≤ R.slots) :
    vx_Run p l e R s m args below meth c H locs cells slots mc ms g rest (Qc (Value.ref b :: As).toArray) XC free := by
  obtain ⟨⟨⟨hrc, hrs, hfr, hlo, hws, hcw⟩, hcode, hini, hy, hlen, hl⟩, hx1, hx2⟩ := cw
  have hK : vx_Back l R p e below s args y 3 8 (PreOf R mc ms Pc) (PostOf Qc mc ms free) (vx_Post XC mc ms free) := vx_back (bytes := bytes) (maxL := maxL) (ret := ret) hM hp.1 hrc hrs hfr hlo hws hcw (fun a' U hW => word_at hW (Or.inl (by first | rfl | simp [Cond.onTables, Cond.keeps, Cond.steady])) hini)
  obtain ⟨hx, hb, hml, ho, -⟩ := S
  obtain ⟨-, ⟨cellB, hcB, hoB, hclB⟩, hPc⟩ := hp
  intro T hT X
  rcases vx_callVN X hx (C := C) (bytes := bytes) (maxL := maxL) (ret := ret) ho hl hx1 hx2 hcode hy hK (by rw [hT]; exact hcB) hoB hclB hg (hsize.trans hml.symm) (argsL := As) (rest := rest) (fun sig h => hn.trans (hlen sig h)) hstack hW (by rw [hb]; exact hdg)
    (fun vm₁ hW₁ => ⟨hf.1, hf.2, hPc (T.setVm vm₁) hT hW₁⟩) with ⟨v, vm₁, ⟨U', l2, c2, s2⟩, hW₁, X', ⟨g', mk, t, L, e1, e2, hq, h1, hL, h2, h3⟩, st⟩ | ⟨q, vm₁, ⟨U', l2, c2, s2⟩, hW₁, X', ⟨g', mk, t, L, E, ce, e1, e2, hq, hce, hcv, hcl, h1, hL, h2, h3⟩, st⟩
  · dsimp only [Pt.U, Pt.locs, Pt.cells, Pt.slots] at X' e1 e2 h1 h2 h3 st
    subst h1; subst h2; subst h3
    exact Or.inl ⟨v, (T.setVm vm₁).calling g' mk (Value.ref b :: As).toArray, t, U', L, hT, X', hL, e1, e2, hq, st⟩
  · dsimp only [Pt.U, Pt.locs, Pt.cells, Pt.slots] at X' e1 e2 h1 h2 h3 st hcl
    subst h1; subst h2; subst h3
    exact Or.inr ⟨q, (T.setVm vm₁).calling g' mk (Value.ref b :: As).toArray, t, U', L, E, ce, hT, X', hL, e1, e2, hq, hce, hcv, vx_cls hW₁ hcl, st⟩
theorem vx_runSN {y : MethodName} {bytes cc : ByteArray} {maxL nL mc ms n index : Nat} {ret : Option FieldType} {ws : List Cond} {rm : Room} {Pc : Array Value → State → Prop} {Qc : Array Value → State → Outcome → State → Prop} {XC : String → State → State → Prop} {free : Addr → Prop} {Ts : List Cond} {own host : String} {As rest : List Value} {g : JFrame}
    (S : CallFix p m c cc nL s args Ts own) (hM : vx_Met l y ws rm Pc Qc XC mc ms free) (cw : va_CN R s args own index y host bytes maxL ret ws rm mc ms n ∧ (Cond.static y).before args s = true ∧ True) (hp : PreS s H Pc As)
    (hg : g.method = m) (hn : As.length = n) (hsize : g.locals.size = nL) (hstack : g.stack = As.reverse ++ rest) (hW : 2 * g.monitorRoom + (rest.map fun v => v.category).sum ≤ 8) (hdg : decode cc g.pc = .ok (.invokestatic index, 3)) (hf : cells + mc ≤ R.cells ∧ slots + ms ≤ R.slots) :
    vx_Run p l e R s m args below meth c H locs cells slots mc ms g rest (Qc As.toArray) XC free := by
  obtain ⟨⟨⟨hrc, hrs, hfr, hlo, hws, hcw⟩, hcode, hini, hy, hlen, hl⟩, hx1, hx2⟩ := cw
  have hK : vx_Back l R p e below s args y 3 8 (PreOf R mc ms Pc) (PostOf Qc mc ms free) (vx_Post XC mc ms free) := vx_back (bytes := bytes) (maxL := maxL) (ret := ret) hM hp.1 hrc hrs hfr hlo hws hcw (fun a' U hW => word_at hW (Or.inl (by first | rfl | simp [Cond.onTables, Cond.keeps, Cond.steady])) hini)
  obtain ⟨hx, hb, hml, ho, -⟩ := S
  have hPc := hp.2
  intro T hT X
  rcases vx_callSN X hx (bytes := bytes) (maxL := maxL) (ret := ret) ho hl hx1 hini hcode hy hK hg (hsize.trans hml.symm) (argsL := As) (rest := rest) (fun sig h => hn.trans (hlen sig h)) hstack hW (by rw [hb]; exact hdg)
    (fun vm₁ hW₁ => ⟨hf.1, hf.2, hPc (T.setVm vm₁) hT hW₁⟩) with ⟨v, vm₁, ⟨U', l2, c2, s2⟩, hW₁, X', ⟨g', mk, t, L, e1, e2, hq, h1, hL, h2, h3⟩, st⟩ | ⟨q, vm₁, ⟨U', l2, c2, s2⟩, hW₁, X', ⟨g', mk, t, L, E, ce, e1, e2, hq, hce, hcv, hcl, h1, hL, h2, h3⟩, st⟩
  · dsimp only [Pt.U, Pt.locs, Pt.cells, Pt.slots] at X' e1 e2 h1 h2 h3 st
    subst h1; subst h2; subst h3
    exact Or.inl ⟨v, (T.setVm vm₁).calling g' mk As.toArray, t, U', L, hT, X', hL, e1, e2, hq, st⟩
  · dsimp only [Pt.U, Pt.locs, Pt.cells, Pt.slots] at X' e1 e2 h1 h2 h3 st hcl
    subst h1; subst h2; subst h3
    exact Or.inr ⟨q, (T.setVm vm₁).calling g' mk As.toArray, t, U', L, E, ce, hT, X', hL, e1, e2, hq, hce, hcv, vx_cls hW₁ hcl, st⟩
end
/-! ===== END ===== -/
theorem gaIn {ws : List Cond} (h : ∀ w ∈ ws, w ∈ gaW) : GoodIn gaW ws := fun w hw => ⟨h w hw, gaW_good (h w hw)⟩
theorem gaIn1 {a : Cond} {ws : List Cond} (ha : a ∈ gaW) (h : ∀ w ∈ ws, w ∈ gaW) : ∀ w ∈ a :: ws, w ∈ gaW := fun w hw => (List.mem_cons.mp hw).elim (fun e => e ▸ ha) (h w)
theorem gaIn0 : ∀ w ∈ gaW, w ∈ gaW := fun _ h => h
/-- a method's words: its own code, and all that the tables say -/
abbrev gaM (y : MethodName) (cc : ByteArray) (nL : Nat) (ret : Option FieldType) : List Cond := .code y cc nL ret :: gaW
abbrev gaNoMH (y : MethodName) : Prop := y.cls ≠ "java/lang/invoke/MethodHandle" ∧ y.cls ≠ "java/lang/invoke/VarHandle"
section GAU
variable {ws : List Cond}
variable {p : Program} {l : Launch} {e : Env} {R : Room} {s : State} {m : MethodId} {args : Array Value} {below : List Frame} {meth : Method} {c : Code} {G : gaG} {cc : ByteArray} {own : String} {nL : Nat} {ret : Option FieldType} {nm : String} {Q : Option Value → gaH → Prop} {X : String → gaH → Prop} {Z : State → Prop}
variable {pc n : Nat} {lv : List (Option Value)} {st : List Value} {h : gaH} {k j : Nat} {H : Heap} {locs : List Loc} {cells slots : Nat}
theorem gaBlind (av : List Value) : FrameBlind (va_Pc av (fun U => gaR G U h U.heap ∧ gaF G U U.heap)) :=
  fun _ U g mk q => ⟨q.1, q.2.1.moved (u := U) (U := U.calling g mk _) (Vm.Alike.refl U.vm), gaF.same (u := U) (U := U.calling g mk _) rfl q.2.2⟩
theorem gaPre (V : gaV p l s m args meth c G cc own nL gaW ret nm) (hR : gaR G s h H) (hS : va_S (gaA G) s.heap H locs) (av : List Value) : ∀ U : State, U.heap = H → s.WarmedH U.vm → va_Pc av (fun U => gaR G U h U.heap ∧ gaF G U U.heap) av.toArray U := by
  intro U hU hW
  refine ⟨rfl, ?_, ?_⟩
  · rw [hU]
    exact hR.moved hW.alike
  · rw [hU]
    exact V.2.2.2.2.2.2.2.2.2.1.on hS hW
theorem gaRecv (V : gaV p l s m args meth c G cc own nL gaW ret nm) (hR : gaR G s h H) {C : String} {T : u_T} {N ci b : Nat} {fs : List Value} (hc : vwCl[ci]? = some (C, T, N)) (hci : ci < 100) (hb : h b = some (ci, fs)) : ∃ cellB : Cell, H[b]? = some cellB ∧ cellB.vm.isStatics = false ∧ s.vm.findClass C = some cellB.cls :=
  va_recv V.2.2.2.2.2.2.2.2.2.1.1 (hR.obj hci hb).1 hc (q0 := 0) rfl
theorem gaAfter (V : gaV p l s m args meth c G cc own nL gaW ret nm) {ls : Array Slot} {st0 : List Value} {mc ms : Nat} {a : Array Value} {Q2 : Option Value → gaH → Prop} {X2 : String → gaH → Prop}
    (hr : vx_Run p l e R s m args below meth c H locs cells slots mc ms (F0 m pc ls st0) st (gaQ G Q2 a) (gaX G X2) (gaA G)) (hS : va_S (gaA G) s.heap H locs) (hL : gaL ls nL lv) (h1 : cells + k ≤ R.cells) (h2 : slots + j ≤ R.slots) (hk : mc ≤ k) (hj : ms ≤ j) (hX : ∀ E h', X2 E h' → gaO p l e R s m args below meth c G nL Z pc lv E h' (k - mc) (j - ms))
    (kk : ∀ v h', Q2 v h' → gaP p l e R s m args below meth c G nL Z (pc + 3) lv (v.toList ++ st) h' (k - mc) (j - ms)) :
    W p l e R s m args below meth c H locs cells slots Z (F0 m pc ls st0) := by
  intro T hT X9
  rcases hr T hT X9 with ⟨v, st₀, t, T', L, e0, X', hL', e1, e2, ⟨v', h', hv, hq, hR', hF⟩, hst⟩ | ⟨q, st₀, t, T', L, E, ce, e0, X', hL', e1, e2, ⟨h', hx, hR', hF⟩, hce, hcv, hcl, hst⟩
  · cases hv
    obtain ⟨k1, k2, k3⟩ := vx_keep e0 e1 hS (fun _ _ q => q) (fun _ q => q) hL' hF
    have hal : s.vm.Alike t.vm := by rw [← e2]; exact X'.warmed.alike
    have hR2 : gaR G s h' T'.heap := by rw [e1]; exact hR'.moved hal.symm
    obtain ⟨t2, a1, b1⟩ := kk v h' hq T'.heap (locs ++ L) ls (cells + mc) (slots + ms) hR2 k3 hL (by omega) (by omega) T' rfl X'
    exact ⟨t2, hst t2 a1, b1⟩
  · obtain ⟨k1, k2, k3⟩ := vx_keep e0 e1 hS (fun _ _ q => q) (fun _ q => q) hL' hF
    have hal : s.vm.Alike t.vm := by rw [← e2]; exact X'.warmed.alike
    have hR2 : gaR G s h' T'.heap := by rw [e1]; exact hR'.moved hal.symm
    have hout : vx_W p l e R s m args below meth c T'.heap (locs ++ L) (cells + mc) (slots + ms) Z (F0 m pc ls st) q :=
      hX E h' hx T'.heap (locs ++ L) ls st (cells + mc) (slots + ms) q ce hR2 k3 hL (by omega) (by omega) (by rw [e1]; exact hce) hcv hcl
    obtain ⟨t2, a1, b1⟩ := hout T' rfl X'
    exact ⟨t2, hst.trans a1, b1⟩
theorem gaO_out (hT : ∀ x ∈ c.exceptionTable.toList, False) (V : gaV p l s m args meth c G cc own nL ws ret nm) {E : String} (hx : X E h) : gaO p l e R s m args below meth c G nL (gaZ below G Q X args s R) pc lv E h k j := by
  intro H locs ls rest cells slots q ce hR hS hL h1 h2 hce hcv hcl
  exact vx_out (fun x hx9 => (hT x hx9).elim) V.2.2.2.2.2.2.1 hce hcv hcl (fun t2 ht hW => ⟨h, hx, by rw [ht]; exact hR.moved hW, hS.F ht⟩) hS.2.2 (by omega) (by omega)
theorem gaX_all (hT : ∀ x ∈ c.exceptionTable.toList, False) (V : gaV p l s m args meth c G cc own nL ws ret nm) : ∀ E h', X E h' → gaO p l e R s m args below meth c G nL (gaZ below G Q X args s R) pc lv E h' k j := fun _ _ hx => gaO_out hT V hx
theorem g_callV (V : gaV p l s m args meth c G cc own nL gaW ret nm) {y : MethodName} {C : String} {T : u_T} {N ci b index maxL nP : Nat} {fs : List Value} {bytes : ByteArray} {retf : Option FieldType} {rm : Room} {As st0 : List Value} {Q2 : Option Value → gaH → Prop} {X2 : String → gaH → Prop}
    (hM : gaC l G y (gaM y bytes maxL retf) rm (.ref b :: As) h Q2 X2) (w1 : Cond.methodLink own index y ∈ gaW) (w2 : Cond.instanceMethod y ∈ gaW) (w3 : Cond.selects C y y ∈ gaW) (w4 : Cond.initialized C ∈ gaW) (w5 : Cond.code y bytes maxL retf ∈ gaW)
    (hd : y.cls = C ∧ y.cls ≠ "java/lang/invoke/MethodHandle" ∧ y.cls ≠ "java/lang/invoke/VarHandle" ∧ (parseMethodDescriptor y.desc).map (fun d => d.parameters.length) = some nP) (hRm : rm.frames + 1 ≤ R.frames ∧ 8 + (maxL + 11) + rm.locals ≤ R.locals)
    (hc : vwCl[ci]? = some (C, T, N)) (hci : ci < 100) (hb : h b = some (ci, fs)) (hnp : As.length = nP) (hst : st0 = As.reverse ++ .ref b :: st) (hcat : (st.map fun v => v.category).sum ≤ 8) (d : decode cc pc = .ok (.invokevirtual index, 3)) (hk : rm.cells ≤ k) (hj : rm.slots ≤ j) (hn : pc + 3 = n) (hX : ∀ E h', X2 E h' → gaO p l e R s m args below meth c G nL Z pc lv E h' (k - rm.cells) (j - rm.slots))
    (kk : ∀ v h', Q2 v h' → gaP p l e R s m args below meth c G nL Z n lv (v.toList ++ st) h' (k - rm.cells) (j - rm.slots)) : gaP p l e R s m args below meth c G nL Z pc lv st0 h k j := by
  subst hn
  subst hst
  intro H locs ls cells slots hR hS hL h1 h2
  exact gaAfter V (vx_runV (As := As) (rest := st) ⟨V.1, V.2.1, V.2.2.1, V.2.2.2.1, V.2.2.2.2.1⟩ hM (cwV nP V.2.2.2.2.1 (gaIn (by unfold wsV; exact gaIn1 w1 (gaIn1 w2 (gaIn1 w3 (gaIn1 w4 (gaIn1 w5 gaIn0)))))) rfl rfl rfl hd hRm) ⟨gaBlind _, gaRecv V hR hc hci hb, gaPre V hR hS _⟩ rfl hnp hL.1 rfl (lv_room hcat) d ⟨by omega, by omega⟩) hS hL h1 h2 hk hj hX kk
theorem g_callS (V : gaV p l s m args meth c G cc own nL gaW ret nm) {y : MethodName} {index maxL nP : Nat} {bytes : ByteArray} {retf : Option FieldType} {rm : Room} {As st0 : List Value} {Q2 : Option Value → gaH → Prop} {X2 : String → gaH → Prop}
    (hM : gaC l G y (gaM y bytes maxL retf) rm As h Q2 X2) (w1 : Cond.methodLink own index y ∈ gaW) (w2 : Cond.static y ∈ gaW) (w4 : Cond.initialized y.cls ∈ gaW) (w5 : Cond.code y bytes maxL retf ∈ gaW)
    (hd : y.cls ≠ "java/lang/invoke/MethodHandle" ∧ y.cls ≠ "java/lang/invoke/VarHandle" ∧ (parseMethodDescriptor y.desc).map (fun d => d.parameters.length) = some nP) (hRm : rm.frames + 1 ≤ R.frames ∧ 8 + (maxL + 11) + rm.locals ≤ R.locals)
    (hnp : As.length = nP) (hst : st0 = As.reverse ++ st) (hcat : (st.map fun v => v.category).sum ≤ 8) (d : decode cc pc = .ok (.invokestatic index, 3)) (hk : rm.cells ≤ k) (hj : rm.slots ≤ j) (hn : pc + 3 = n) (hX : ∀ E h', X2 E h' → gaO p l e R s m args below meth c G nL Z pc lv E h' (k - rm.cells) (j - rm.slots))
    (kk : ∀ v h', Q2 v h' → gaP p l e R s m args below meth c G nL Z n lv (v.toList ++ st) h' (k - rm.cells) (j - rm.slots)) : gaP p l e R s m args below meth c G nL Z pc lv st0 h k j := by
  subst hn
  subst hst
  intro H locs ls cells slots hR hS hL h1 h2
  have hts := V.2.2.2.2.1
  exact gaAfter V (vx_runS (As := As) (rest := st) ⟨V.1, V.2.1, V.2.2.1, V.2.2.2.1, V.2.2.2.2.1⟩ hM ⟨callB_of nP hts (gaIn (gaIn1 w5 gaIn0)) rfl rfl rfl (hts _ w4) (hts _ w1) hd hRm, hts _ w2⟩ ⟨gaBlind _, gaPre V hR hS _⟩ rfl hnp hL.1 rfl (lv_room hcat) d ⟨by omega, by omega⟩) hS hL h1 h2 hk hj hX kk
theorem g_callSN (V : gaV p l s m args meth c G cc own nL gaW ret nm) {y : MethodName} {host : String} {index maxL nP : Nat} {bytes : ByteArray} {retf : Option FieldType} {rm : Room} {As st0 : List Value} {Q2 : Option Value → gaH → Prop} {X2 : String → gaH → Prop}
    (hM : gaC l G y (gaM y bytes maxL retf) rm As h Q2 X2) (w1 : Cond.methodLinkNest own index y host ∈ gaNests) (w2 : Cond.static y ∈ gaW) (w4 : Cond.initialized y.cls ∈ gaW) (w5 : Cond.code y bytes maxL retf ∈ gaW)
    (hd : y.cls ≠ "java/lang/invoke/MethodHandle" ∧ y.cls ≠ "java/lang/invoke/VarHandle" ∧ (parseMethodDescriptor y.desc).map (fun d => d.parameters.length) = some nP) (hRm : rm.frames + 1 ≤ R.frames ∧ 8 + (maxL + 11) + rm.locals ≤ R.locals)
    (hnp : As.length = nP) (hst : st0 = As.reverse ++ st) (hcat : (st.map fun v => v.category).sum ≤ 8) (d : decode cc pc = .ok (.invokestatic index, 3)) (hk : rm.cells ≤ k) (hj : rm.slots ≤ j) (hn : pc + 3 = n) (hX : ∀ E h', X2 E h' → gaO p l e R s m args below meth c G nL Z pc lv E h' (k - rm.cells) (j - rm.slots))
    (kk : ∀ v h', Q2 v h' → gaP p l e R s m args below meth c G nL Z n lv (v.toList ++ st) h' (k - rm.cells) (j - rm.slots)) : gaP p l e R s m args below meth c G nL Z pc lv st0 h k j := by
  subst hn
  subst hst
  intro H locs ls cells slots hR hS hL h1 h2
  have hts := V.2.2.2.2.1
  exact gaAfter V (vx_runSN (As := As) (rest := st) ⟨V.1, V.2.1, V.2.2.1, V.2.2.2.1, V.2.2.2.2.1⟩ hM ⟨va_cnB nP hts (gaIn (gaIn1 w5 gaIn0)) rfl rfl rfl (V.2.2.2.2.2.2.2.2.2.1.2.2.2.2.2.2.1 _ w1) (hts _ w4) hd hRm, hts _ w2, trivial⟩ ⟨gaBlind _, gaPre V hR hS _⟩ rfl hnp hL.1 rfl (lv_room hcat) d ⟨by omega, by omega⟩) hS hL h1 h2 hk hj hX kk
theorem g_callI (V : gaV p l s m args meth c G cc own nL gaW ret nm) {y : MethodName} {b index maxL nP : Nat} {bytes : ByteArray} {rm : Room} {As st0 : List Value} {Q2 : Option Value → gaH → Prop} {X2 : String → gaH → Prop}
    (hM : gaC l G y (gaM y bytes maxL none) rm (.ref b :: As) h Q2 X2) (w1 : Cond.methodLink own index y ∈ gaW) (w2 : Cond.instanceMethod y ∈ gaW) (w4 : Cond.initialized y.cls ∈ gaW) (w5 : Cond.code y bytes maxL none ∈ gaW) (hinit : y.name = "<init>")
    (hd : y.cls ≠ "java/lang/invoke/MethodHandle" ∧ y.cls ≠ "java/lang/invoke/VarHandle" ∧ (parseMethodDescriptor y.desc).map (fun d => d.parameters.length) = some nP) (hRm : rm.frames + 1 ≤ R.frames ∧ 8 + (maxL + 11) + rm.locals ≤ R.locals)
    (hnp : As.length = nP) (hst : st0 = As.reverse ++ .ref b :: st) (hcat : (st.map fun v => v.category).sum ≤ 8) (d : decode cc pc = .ok (.invokespecial index, 3)) (hk : rm.cells ≤ k) (hj : rm.slots ≤ j) (hn : pc + 3 = n) (hX : ∀ E h', X2 E h' → gaO p l e R s m args below meth c G nL Z pc lv E h' (k - rm.cells) (j - rm.slots))
    (kk : ∀ v h', Q2 v h' → gaP p l e R s m args below meth c G nL Z n lv (v.toList ++ st) h' (k - rm.cells) (j - rm.slots)) : gaP p l e R s m args below meth c G nL Z pc lv st0 h k j := by
  subst hn
  subst hst
  intro H locs ls cells slots hR hS hL h1 h2
  have hts := V.2.2.2.2.1
  exact gaAfter V (vx_runI (As := As) (rest := st) ⟨V.1, V.2.1, V.2.2.1, V.2.2.2.1, V.2.2.2.2.1⟩ hM ⟨callB_of nP hts (gaIn (gaIn1 w5 gaIn0)) rfl rfl rfl (hts _ w4) (hts _ w1) hd hRm, hinit, hts _ w2⟩ ⟨gaBlind _, gaPre V hR hS _⟩ rfl hnp hL.1 rfl (lv_room hcat) d ⟨by omega, by omega⟩) hS hL h1 h2 hk hj hX kk
theorem g_callIN (V : gaV p l s m args meth c G cc own nL gaW ret nm) {y : MethodName} {host : String} {b index maxL nP : Nat} {bytes : ByteArray} {rm : Room} {As st0 : List Value} {Q2 : Option Value → gaH → Prop} {X2 : String → gaH → Prop}
    (hM : gaC l G y (gaM y bytes maxL none) rm (.ref b :: As) h Q2 X2) (w1 : Cond.methodLinkNest own index y host ∈ gaNests) (w2 : Cond.instanceMethod y ∈ gaW) (w4 : Cond.initialized y.cls ∈ gaW) (w5 : Cond.code y bytes maxL none ∈ gaW) (hinit : y.name = "<init>")
    (hd : y.cls ≠ "java/lang/invoke/MethodHandle" ∧ y.cls ≠ "java/lang/invoke/VarHandle" ∧ (parseMethodDescriptor y.desc).map (fun d => d.parameters.length) = some nP) (hRm : rm.frames + 1 ≤ R.frames ∧ 8 + (maxL + 11) + rm.locals ≤ R.locals)
    (hnp : As.length = nP) (hst : st0 = As.reverse ++ .ref b :: st) (hcat : (st.map fun v => v.category).sum ≤ 8) (d : decode cc pc = .ok (.invokespecial index, 3)) (hk : rm.cells ≤ k) (hj : rm.slots ≤ j) (hn : pc + 3 = n) (hX : ∀ E h', X2 E h' → gaO p l e R s m args below meth c G nL Z pc lv E h' (k - rm.cells) (j - rm.slots))
    (kk : ∀ v h', Q2 v h' → gaP p l e R s m args below meth c G nL Z n lv (v.toList ++ st) h' (k - rm.cells) (j - rm.slots)) : gaP p l e R s m args below meth c G nL Z pc lv st0 h k j := by
  subst hn
  subst hst
  intro H locs ls cells slots hR hS hL h1 h2
  have hts := V.2.2.2.2.1
  exact gaAfter V (vx_runIN (As := As) (rest := st) ⟨V.1, V.2.1, V.2.2.1, V.2.2.2.1, V.2.2.2.2.1⟩ hM ⟨va_cnB nP hts (gaIn (gaIn1 w5 gaIn0)) rfl rfl rfl (V.2.2.2.2.2.2.2.2.2.1.2.2.2.2.2.2.1 _ w1) (hts _ w4) hd hRm, hinit, hts _ w2⟩ ⟨gaBlind _, gaPre V hR hS _⟩ rfl hnp hL.1 rfl (lv_room hcat) d ⟨by omega, by omega⟩) hS hL h1 h2 hk hj hX kk
/-- a method of the class above, found by the receiver -/
theorem g_callU (V : gaV p l s m args meth c G cc own nL gaW ret nm) {x y : MethodName} {C owner : String} {T : u_T} {N ci b index maxL nP : Nat} {fs : List Value} {bytes : ByteArray} {retf : Option FieldType} {rm : Room} {As st0 : List Value} {Q2 : Option Value → gaH → Prop} {X2 : String → gaH → Prop}
    (hM : gaC l G y (gaM y bytes maxL retf) rm (.ref b :: As) h Q2 X2) (w1 : Cond.methodLink own index x ∈ gaW) (w6 : Cond.sameMethod x.cls owner x.name x.desc ∈ gaW) (w2 : Cond.instanceMethod y ∈ gaW) (w3 : Cond.selects C x y ∈ gaW) (w4 : Cond.initialized y.cls ∈ gaW) (w5 : Cond.code y bytes maxL retf ∈ gaW)
    (hyx : y = ⟨owner, x.name, x.desc⟩) (hd : owner ≠ "java/lang/invoke/MethodHandle" ∧ owner ≠ "java/lang/invoke/VarHandle" ∧ (parseMethodDescriptor x.desc).map (fun d => d.parameters.length) = some nP) (hRm : rm.frames + 1 ≤ R.frames ∧ 8 + (maxL + 11) + rm.locals ≤ R.locals)
    (hc : vwCl[ci]? = some (C, T, N)) (hci : ci < 100) (hb : h b = some (ci, fs)) (hnp : As.length = nP) (hst : st0 = As.reverse ++ .ref b :: st) (hcat : (st.map fun v => v.category).sum ≤ 8) (d : decode cc pc = .ok (.invokevirtual index, 3)) (hk : rm.cells ≤ k) (hj : rm.slots ≤ j) (hn : pc + 3 = n) (hX : ∀ E h', X2 E h' → gaO p l e R s m args below meth c G nL Z pc lv E h' (k - rm.cells) (j - rm.slots))
    (kk : ∀ v h', Q2 v h' → gaP p l e R s m args below meth c G nL Z n lv (v.toList ++ st) h' (k - rm.cells) (j - rm.slots)) : gaP p l e R s m args below meth c G nL Z pc lv st0 h k j := by
  subst hn
  subst hst
  intro H locs ls cells slots hR hS hL h1 h2
  exact gaAfter V (vx_runU (As := As) (rest := st) ⟨V.1, V.2.1, V.2.2.1, V.2.2.2.1, V.2.2.2.2.1⟩ hM (va_cwU nP V.2.2.2.2.1 (gaIn (by unfold va_wsU; exact gaIn1 w1 (gaIn1 w6 (gaIn1 w3 (gaIn1 w2 (gaIn1 w4 (gaIn1 w5 gaIn0))))))) rfl rfl rfl hyx hd hRm) ⟨gaBlind _, gaRecv V hR hc hci hb, gaPre V hR hS _⟩ rfl hnp hL.1 rfl (lv_room hcat) d ⟨by omega, by omega⟩) hS hL h1 h2 hk hj hX kk
/-- super.m(..) -/
theorem g_callSU (V : gaV p l s m args meth c G cc own nL gaW ret nm) {y : MethodName} {C : String} {T : u_T} {N ci b index maxL nP : Nat} {fs : List Value} {bytes : ByteArray} {retf : Option FieldType} {rm : Room} {As st0 : List Value} {Q2 : Option Value → gaH → Prop} {X2 : String → gaH → Prop}
    (hM : gaC l G y (gaM y bytes maxL retf) rm (.ref b :: As) h Q2 X2) (w1 : Cond.methodLink own index y ∈ gaW) (w6 : Cond.sameMethod y.cls y.cls y.name y.desc ∈ gaW) (w7 : Cond.superclass own y.cls ∈ gaW) (w2 : Cond.instanceMethod y ∈ gaW) (w4 : Cond.initialized y.cls ∈ gaW) (w5 : Cond.code y bytes maxL retf ∈ gaW)
    (hd : y.name ≠ "<init>" ∧ (parseMethodDescriptor y.desc).map (fun d => d.parameters.length) = some nP) (hRm : rm.frames + 1 ≤ R.frames ∧ 8 + (maxL + 11) + rm.locals ≤ R.locals)
    (hc : vwCl[ci]? = some (C, T, N)) (hci : ci < 100) (hb : h b = some (ci, fs)) (hnp : As.length = nP) (hst : st0 = As.reverse ++ .ref b :: st) (hcat : (st.map fun v => v.category).sum ≤ 8) (d : decode cc pc = .ok (.invokespecial index, 3)) (hk : rm.cells ≤ k) (hj : rm.slots ≤ j) (hn : pc + 3 = n) (hX : ∀ E h', X2 E h' → gaO p l e R s m args below meth c G nL Z pc lv E h' (k - rm.cells) (j - rm.slots))
    (kk : ∀ v h', Q2 v h' → gaP p l e R s m args below meth c G nL Z n lv (v.toList ++ st) h' (k - rm.cells) (j - rm.slots)) : gaP p l e R s m args below meth c G nL Z pc lv st0 h k j := by
  subst hn
  subst hst
  intro H locs ls cells slots hR hS hL h1 h2
  exact gaAfter V (vx_runSU (As := As) (rest := st) (V.2.2.2.2.2.2.2.2.2.1.1.1 ci _ hc).2 ⟨V.1, V.2.1, V.2.2.1, V.2.2.2.1, V.2.2.2.2.1⟩ hM (va_cwSU nP V.2.2.2.2.1 (gaIn (by unfold va_wsSU; exact gaIn1 w1 (gaIn1 w6 (gaIn1 w7 (gaIn1 w2 (gaIn1 w4 (gaIn1 w5 gaIn0))))))) rfl rfl rfl hd hRm) ⟨gaBlind _, gaRecv V hR hc hci hb, gaPre V hR hS _⟩ rfl hnp hL.1 rfl (lv_room hcat) d ⟨by omega, by omega⟩) hS hL h1 h2 hk hj hX kk
/-- throw new E("text") -/
theorem g_throw (hT : ∀ x ∈ c.exceptionTable.toList, False) (V : gaV p l s m args meth c G cc own nL gaW ret nm) {cls text : String} {names : List String} {ik is ic sa : Nat} (hcls : Bundle.fit cls = true) (hnames : ∀ n ∈ names, Bundle.fit n = true)
    (w1 : Cond.classLink own ik cls ∈ gaW) (w2 : Cond.initialized cls ∈ gaW) (hstr : (own, is, text, sa) ∈ gaStrs) (hat1 : ∀ w ∈ (vx_atS own ic cls names).filter goodWord, w ∈ gaW) (hat2 : ∀ w ∈ (vx_atS own ic cls names).filter (fun w => !goodWord w), w ∈ gaNests)
    (hgood : ∀ w ∈ Cond.classLink own ik cls :: Cond.initialized cls :: vx_atS own ic cls names, vx_ot w = true)
    (d0 : decode cc pc = .ok (.new ik, 3)) (d3 : decode cc (pc + 3) = .ok (.dup, 1)) (d4 : decode cc (pc + 4) = .ok (.ldc_w is, 3)) (d7 : decode cc (pc + 7) = .ok (.invokespecial ic, 3)) (d10 : decode cc (pc + 10) = .ok (.athrow, 1))
    (hRf : names.length + 3 < R.frames) (hRl : (st.map fun v => v.category).sum + (13 * (names.length + 1) + 43) ≤ R.locals) (hk : 1 ≤ k) (hj : 6 ≤ j) (hX : X cls h) : gaP p l e R s m args below meth c G nL (gaZ below G Q X args s R) pc lv st h k j := by
  intro H locs ls cells slots hR hS hL h1 h2
  have hts := V.2.2.2.2.1
  have hF := V.2.2.2.2.2.2.2.2.2.1
  have hstr9 := hF.2.2.2.2.2.1 _ hstr
  dsimp only at hstr9
  refine vx_throwSW V.1 V.2.1 V.2.2.2.2.2.2.2.2.2.2 V.2.2.2.1 hcls hnames (hts _ w1) (hts _ w2) hstr9 (vx_hat (fun w hw => hts w (hat1 w hw)) (fun w hw => hat2 w hw) (fun w hw => va_Nw.use (gaNest_tab (gaNests_ok w hw)) (hF.2.2.2.2.2.2.1 w hw))) hgood hF.2.2.2.2.1.1 hF.2.2.2.2.1.2 hS (by rw [V.2.2.1]; exact hL.1) d0 d3 d4 d7 d10 (fun x hx => (hT x hx).elim) hRf hRl (by omega) (by omega) V.2.2.2.2.2.2.1 ?_ hS.2.2 (by omega) (by omega)
  intro t hal hz hq
  refine ⟨h, hX, (hR.kept hq).moved hal, Nat.le_trans hS.1 hz, fun q q1 q2 => (hq q (Nat.lt_of_lt_of_le q1 hS.1)).trans (hS.2.1 q q1 q2)⟩
theorem g_start {l : Launch} {G : gaG} {y : MethodName} {cc : ByteArray} {nL : Nat} {ret : Option FieldType} {rm : Room} {av : List Value} {h : gaH} {Q : Option Value → gaH → Prop} {X : String → gaH → Prop} (hy : plainName y.cls = true) (hst : l.stackTraces = false) (hav : (lg_sl av).length ≤ nL) {lv : List (Option Value)} (hlv : ∀ (i : Nat) (v : Value), lv[i]? = some (some v) → (i, v) ∈ lv_args 0 av) (w : Cond.code y cc nL ret ∈ gaW)
    (body : ∀ (p : Program) (e : Env) (s : State) (m : MethodId) (args : Array Value) (below : List Frame) (meth : Method) (c : Code), gaV p l s m args meth c G cc y.cls nL gaW ret y.name → (∀ x ∈ c.exceptionTable.toList, False) → gaP p l e rm s m args below meth c G nL (gaZ below G Q X args s rm) 0 lv [] h rm.cells rm.slots) : gaC l G y (gaM y cc nL ret) rm av h Q X := by
  refine vx_ofW (cc := cc) (maxL := nL) (ret := ret) hy rfl ?_
  intro p e s m args below meth c s₁ B hml htab hv
  obtain ⟨rfl, hR, hF⟩ := hv
  have hts := atoms_spec (ws := gaM y cc nL ret) B.pre
  have hle := lv_entry av (n := nL) hav
  rw [lg_entry_eq]
  exact body p e s m _ below meth c ⟨B.exec, B.bytes, hml, findClass_of_methodNamed B.named, fun w hw => hts w (List.mem_cons_of_mem _ hw), B.returns, B.notSynchronized, trivial, (name_of_methodNamed B.named B.method).1, hF, hst⟩ htab s.heap [] _ 0 0 hR va_S.rf ⟨hle.1, hle.2.1, fun i v hi => hle.2.2 (i, v) (hlv i v hi)⟩ (Nat.le_of_eq (Nat.zero_add _)) (Nat.le_of_eq (Nat.zero_add _))
end GAU
/-! Whole numbers in the place of the machine's ints; the words of weakest preconditions over abstract heaps. -/
abbrev gi (x : Int) : Value := .int (Int32.ofInt x)
abbrev gR (x : Int) : Prop := -2147483648 ≤ x ∧ x ≤ 2147483647
theorem gi_lt {x y : Int} (hx : gR x) (hy : gR y) : (Int32.ofInt x < Int32.ofInt y) = (x < y) := propext (Int32.ofInt_lt_iff_lt hx.1 hx.2 hy.1 hy.2)
theorem gi_le {x y : Int} (hx : gR x) (hy : gR y) : (Int32.ofInt x ≤ Int32.ofInt y) = (x ≤ y) := propext (Int32.ofInt_le_iff_le hx.1 hx.2 hy.1 hy.2)
theorem gi_to {x : Int} (hx : gR x) : (Int32.ofInt x).toInt = x := Int32.toInt_ofInt_of_le hx.1 (by have := hx.2; omega)
theorem gi_eq {x y : Int} (hx : gR x) (hy : gR y) : (Int32.ofInt x = Int32.ofInt y) = (x = y) := propext ⟨fun q => by rw [← gi_to hx, ← gi_to hy, q], fun q => by rw [q]⟩
theorem gi_0 : (0 : Int32) = Int32.ofInt 0 := rfl
theorem gi_clamp {x : Int} (h0 : 0 ≤ x) (h1 : x ≤ 2147483647) : (Int32.ofInt x).toNatClampNeg = x.toNat := Int32.toNatClampNeg_ofInt_of_le (by omega) (by omega)
theorem gi_nn {x : Int} (h0 : 0 ≤ x) (h1 : x ≤ 2147483647) : ¬ Int32.ofInt x < 0 := by rw [gi_0, gi_lt ⟨by omega, h1⟩ ⟨by decide, by decide⟩]; omega
theorem gi_len (n : Nat) : Int32.ofNat n = Int32.ofInt (n : Int) := Int32.ofInt_eq_ofNat.symm
def gAnd (x y : Int) : Int := (Int32.ofInt x &&& Int32.ofInt y).toInt
def gOr (x y : Int) : Int := (Int32.ofInt x ||| Int32.ofInt y).toInt
def gShl (x y : Int) : Int := (Int32.ofInt x <<< (Int32.ofInt y &&& 31)).toInt
def gShr (x y : Int) : Int := (Int32.ofInt x >>> (Int32.ofInt y &&& 31)).toInt
def gUshr (x y : Int) : Int := (((Int32.ofInt x).toUInt32 >>> ((Int32.ofInt y).toUInt32 &&& Int32.toUInt32 31)).toInt32).toInt
def gDiv (x y : Int) : Int := (Int32.ofInt x / Int32.ofInt y).toInt
def gRem (x y : Int) : Int := (Int32.ofInt x - Int32.ofInt x / Int32.ofInt y * Int32.ofInt y).toInt
def gI2b (x : Int) : Int := ((Int32.ofInt x).toInt8.toInt32).toInt
def gI2c (x : Int) : Int := (((Int32.ofInt x).toUInt32 % 65536).toInt32).toInt
def gI2l (x : Int) : Int64 := (Int32.ofInt x).toInt64
theorem gi_back (x : Int32) : Int32.ofInt x.toInt = x := Int32.ofInt_toInt x
theorem gR_toInt (x : Int32) : gR x.toInt := ⟨Int32.le_toInt x, by have := Int32.toInt_lt x; omega⟩
def gI (h : gaH) (a ci f : Nat) (K : Int → Prop) : Prop := ∃ fs x, h a = some (ci, fs) ∧ fs[f]? = some (gi x) ∧ K x
def gA (h : gaH) (a ci f : Nat) (K : Nat → Prop) : Prop := ∃ fs x, h a = some (ci, fs) ∧ fs[f]? = some (.ref x) ∧ K x
def gL (h : gaH) (a ci f : Nat) (K : Int64 → Prop) : Prop := ∃ fs x, h a = some (ci, fs) ∧ fs[f]? = some (.long x) ∧ K x
def gPF (h : gaH) (a ci f : Nat) (v : Value) (K : gaH → Prop) : Prop := ∃ fs, h a = some (ci, fs) ∧ f < fs.length ∧ K (gaUp h a (ci, fs.set f v))
def gLI (h : gaH) (a t : Nat) (i : Int) (K : Int → Prop) : Prop := ∃ t' vs x, h a = some (t', vs) ∧ (t' = t ∨ t' = t + 1000) ∧ 0 ≤ i ∧ i ≤ 2147483647 ∧ vs[i.toNat]? = some (gi x) ∧ K x
def gLA (h : gaH) (a t : Nat) (i : Int) (K : Nat → Prop) : Prop := ∃ vs x, h a = some (t, vs) ∧ 0 ≤ i ∧ i ≤ 2147483647 ∧ vs[i.toNat]? = some (.ref x) ∧ K x
def gSI (h : gaH) (a t : Nat) (i : Int) (v : Value) (K : gaH → Prop) : Prop := ∃ vs, h a = some (t, vs) ∧ 0 ≤ i ∧ i ≤ 2147483647 ∧ i.toNat < vs.length ∧ K (gaUp h a (t, vs.set i.toNat v))
def gAL (h : gaH) (a t : Nat) (K : Int → Prop) : Prop := ∃ t' vs, h a = some (t', vs) ∧ (t' = t ∨ t' = t + 1000) ∧ K (vs.length : Int)
def gNA (h : gaH) (t : Nat) (v : Value) (x : Int) (c s : Nat) (K : Nat → gaH → Nat → Nat → Prop) : Prop := 0 ≤ x ∧ x ≤ 100000 ∧ 1 ≤ c ∧ x.toNat ≤ s ∧ ∀ a : Nat, h a = none → ∃ c2 s2, c2 = c - 1 ∧ s2 = s - x.toNat ∧ K a (gaUp h a (t, List.replicate x.toNat v)) c2 s2
def gNO (h : gaH) (ci n : Nat) (fs : List Value) (c s : Nat) (K : Nat → gaH → Nat → Nat → Prop) : Prop := 1 ≤ c ∧ n ≤ s ∧ ∀ a : Nat, h a = none → ∃ c2 s2, c2 = c - 1 ∧ s2 = s - n ∧ K a (gaUp h a (ci, fs)) c2 s2
def gHas (h : gaH) (a ci : Nat) : Prop := ∃ fs, h a = some (ci, fs)
def gQi (Q : Int → gaH → Prop) : Option Value → gaH → Prop := fun v h => ∃ r : Int, v = some (gi r) ∧ Q r h
def gQl (Q : Int64 → gaH → Prop) : Option Value → gaH → Prop := fun v h => ∃ r : Int64, v = some (.long r) ∧ Q r h
def gQa (Q : Nat → gaH → Prop) : Option Value → gaH → Prop := fun v h => ∃ r : Nat, v = some (.ref r) ∧ Q r h
def gQv (Q : gaH → Prop) : Option Value → gaH → Prop := fun v h => v = none ∧ Q h
theorem ga_t {c : Prop} [Decidable c] {A B : Prop} (q : c) (hw : if c then A else B) : A := by rwa [if_pos q] at hw
theorem ga_f {c : Prop} [Decidable c] {A B : Prop} (q : ¬ c) (hw : if c then A else B) : B := by rwa [if_neg q] at hw
theorem ga_bool {x : Int} (h : x = 0 ∨ x = 1) : narrow .boolean (gi x) = gi x := by rcases h with rfl | rfl <;> rfl
theorem ga_cat {L : List Value} (h : Nat.ble ((L.map fun v => v.category).sum) 8 = true) : (L.map fun v => v.category).sum ≤ 8 := Nat.le_of_ble_eq_true h
def gaArgs : List Value → List (Option Value)
  | [] => []
  | v :: vs => some v :: (if v.category = 2 then none :: gaArgs vs else gaArgs vs)
theorem gaArgs_mem : ∀ (av : List Value) (i j : Nat) (v : Value), (gaArgs av)[j]? = some (some v) → (i + j, v) ∈ lv_args i av
  | [], i, j, v, hq => by simp [gaArgs] at hq
  | w :: vs, i, j, v, hq => by
    unfold gaArgs at hq
    unfold lv_args
    cases j with
    | zero =>
      rw [List.getElem?_cons_zero] at hq
      cases hq
      exact List.mem_cons_self
    | succ j =>
      rw [List.getElem?_cons_succ] at hq
      refine List.mem_cons_of_mem _ ?_
      by_cases hc : w.category = 2
      · rw [if_pos hc] at hq ⊢
        cases j with
        | zero => rw [List.getElem?_cons_zero] at hq; cases hq
        | succ j =>
          rw [List.getElem?_cons_succ] at hq
          have := gaArgs_mem vs (i + 2) j v hq
          rwa [show i + 2 + j = i + (j + 1 + 1) by omega] at this
      · rw [if_neg hc] at hq ⊢
        have := gaArgs_mem vs (i + 1) j v hq
        rwa [show i + 1 + j = i + (j + 1) by omega] at this
theorem gaArgs_pad {av : List Value} {z : Nat} {lv : List (Option Value)} (hlv : gaArgs av ++ List.replicate z none = lv) : ∀ (i : Nat) (v : Value), lv[i]? = some (some v) → (i, v) ∈ lv_args 0 av := by
  subst hlv
  intro i v hq
  by_cases hl : i < (gaArgs av).length
  · rw [List.getElem?_append_left hl] at hq
    have := gaArgs_mem av 0 i v hq
    rwa [Nat.zero_add] at this
  · rw [List.getElem?_append_right (by omega)] at hq
    have := List.mem_of_getElem? hq
    have := List.eq_of_mem_replicate this
    cases this
section GAW
variable {p : Program} {l : Launch} {e : Env} {R : Room} {s : State} {m : MethodId} {args : Array Value} {below : List Frame} {meth : Method} {c : Code} {G : gaG} {cc : ByteArray} {own : String} {nL : Nat} {ws : List Cond} {ret : Option FieldType} {nm : String} {Q : Option Value → gaH → Prop} {X : String → gaH → Prop} {Z : State → Prop}
variable {pc n : Nat} {lv : List (Option Value)} {st : List Value} {h : gaH} {k j : Nat}
theorem gi_iadd (V : gaV p l s m args meth c G cc own nL ws ret nm) {x y : Int} (d : decode cc pc = .ok (.iadd, 1))  (hn : pc + 1 = n)
    (kk : gaP p l e R s m args below meth c G nL Z n lv (.int (Int32.ofInt (x + y)) :: st) h k j) : gaP p l e R s m args below meth c G nL Z pc lv (.int (Int32.ofInt y) :: .int (Int32.ofInt x) :: st) h k j := g_iadd V d hn (by rw [← Int32.ofInt_add]; exact kk)
theorem gi_isub (V : gaV p l s m args meth c G cc own nL ws ret nm) {x y : Int} (d : decode cc pc = .ok (.isub, 1))  (hn : pc + 1 = n)
    (kk : gaP p l e R s m args below meth c G nL Z n lv (.int (Int32.ofInt (x - y)) :: st) h k j) : gaP p l e R s m args below meth c G nL Z pc lv (.int (Int32.ofInt y) :: .int (Int32.ofInt x) :: st) h k j := g_isub V d hn (by rw [← Int32.ofInt_sub]; exact kk)
theorem gi_imul (V : gaV p l s m args meth c G cc own nL ws ret nm) {x y : Int} (d : decode cc pc = .ok (.imul, 1))  (hn : pc + 1 = n)
    (kk : gaP p l e R s m args below meth c G nL Z n lv (.int (Int32.ofInt (x * y)) :: st) h k j) : gaP p l e R s m args below meth c G nL Z pc lv (.int (Int32.ofInt y) :: .int (Int32.ofInt x) :: st) h k j := g_imul V d hn (by rw [← Int32.ofInt_mul]; exact kk)
theorem gi_iand (V : gaV p l s m args meth c G cc own nL ws ret nm) {x y : Int} (d : decode cc pc = .ok (.iand, 1))  (hn : pc + 1 = n)
    (kk : gaP p l e R s m args below meth c G nL Z n lv (.int (Int32.ofInt (gAnd x y)) :: st) h k j) : gaP p l e R s m args below meth c G nL Z pc lv (.int (Int32.ofInt y) :: .int (Int32.ofInt x) :: st) h k j := g_iand V d hn (by unfold gAnd at kk; rw [gi_back] at kk; exact kk)
theorem gi_ior (V : gaV p l s m args meth c G cc own nL ws ret nm) {x y : Int} (d : decode cc pc = .ok (.ior, 1))  (hn : pc + 1 = n)
    (kk : gaP p l e R s m args below meth c G nL Z n lv (.int (Int32.ofInt (gOr x y)) :: st) h k j) : gaP p l e R s m args below meth c G nL Z pc lv (.int (Int32.ofInt y) :: .int (Int32.ofInt x) :: st) h k j := g_ior V d hn (by unfold gOr at kk; rw [gi_back] at kk; exact kk)
theorem gi_ishl (V : gaV p l s m args meth c G cc own nL ws ret nm) {x y : Int} (d : decode cc pc = .ok (.ishl, 1))  (hn : pc + 1 = n)
    (kk : gaP p l e R s m args below meth c G nL Z n lv (.int (Int32.ofInt (gShl x y)) :: st) h k j) : gaP p l e R s m args below meth c G nL Z pc lv (.int (Int32.ofInt y) :: .int (Int32.ofInt x) :: st) h k j := g_ishl V d hn (by unfold gShl at kk; rw [gi_back] at kk; exact kk)
theorem gi_ishr (V : gaV p l s m args meth c G cc own nL ws ret nm) {x y : Int} (d : decode cc pc = .ok (.ishr, 1))  (hn : pc + 1 = n)
    (kk : gaP p l e R s m args below meth c G nL Z n lv (.int (Int32.ofInt (gShr x y)) :: st) h k j) : gaP p l e R s m args below meth c G nL Z pc lv (.int (Int32.ofInt y) :: .int (Int32.ofInt x) :: st) h k j := g_ishr V d hn (by unfold gShr at kk; rw [gi_back] at kk; exact kk)
theorem gi_iushr (V : gaV p l s m args meth c G cc own nL ws ret nm) {x y : Int} (d : decode cc pc = .ok (.iushr, 1))  (hn : pc + 1 = n)
    (kk : gaP p l e R s m args below meth c G nL Z n lv (.int (Int32.ofInt (gUshr x y)) :: st) h k j) : gaP p l e R s m args below meth c G nL Z pc lv (.int (Int32.ofInt y) :: .int (Int32.ofInt x) :: st) h k j := g_iushr V d hn (by unfold gUshr at kk; rw [gi_back] at kk; exact kk)
theorem gi_idiv (V : gaV p l s m args meth c G cc own nL ws ret nm) {x y : Int} (d : decode cc pc = .ok (.idiv, 1)) (hy : gR y) (h0 : ¬ y = 0) (hn : pc + 1 = n)
    (kk : gaP p l e R s m args below meth c G nL Z n lv (.int (Int32.ofInt (gDiv x y)) :: st) h k j) : gaP p l e R s m args below meth c G nL Z pc lv (.int (Int32.ofInt y) :: .int (Int32.ofInt x) :: st) h k j := g_idiv V d (by rw [gi_0, gi_eq hy ⟨by decide, by decide⟩]; exact h0) hn (by unfold gDiv at kk; rw [gi_back] at kk; exact kk)
theorem gi_irem (V : gaV p l s m args meth c G cc own nL ws ret nm) {x y : Int} (d : decode cc pc = .ok (.irem, 1)) (hy : gR y) (h0 : ¬ y = 0) (hn : pc + 1 = n)
    (kk : gaP p l e R s m args below meth c G nL Z n lv (.int (Int32.ofInt (gRem x y)) :: st) h k j) : gaP p l e R s m args below meth c G nL Z pc lv (.int (Int32.ofInt y) :: .int (Int32.ofInt x) :: st) h k j := g_irem V d (by rw [gi_0, gi_eq hy ⟨by decide, by decide⟩]; exact h0) hn (by unfold gRem at kk; rw [gi_back] at kk; exact kk)
theorem gi_ineg (V : gaV p l s m args meth c G cc own nL ws ret nm) {x : Int} (d : decode cc pc = .ok (.ineg, 1)) (hn : pc + 1 = n)
    (kk : gaP p l e R s m args below meth c G nL Z n lv (.int (Int32.ofInt (-x)) :: st) h k j) : gaP p l e R s m args below meth c G nL Z pc lv (.int (Int32.ofInt x) :: st) h k j := g_ineg V d hn (by rw [← Int32.neg_ofInt] at kk; exact kk)
theorem gi_i2b (V : gaV p l s m args meth c G cc own nL ws ret nm) {x : Int} (d : decode cc pc = .ok (.i2b, 1)) (hn : pc + 1 = n)
    (kk : gaP p l e R s m args below meth c G nL Z n lv (.int (Int32.ofInt (gI2b x)) :: st) h k j) : gaP p l e R s m args below meth c G nL Z pc lv (.int (Int32.ofInt x) :: st) h k j := g_i2b V d hn (by unfold gI2b at kk; rw [gi_back] at kk; exact kk)
theorem gi_i2c (V : gaV p l s m args meth c G cc own nL ws ret nm) {x : Int} (d : decode cc pc = .ok (.i2c, 1)) (hn : pc + 1 = n)
    (kk : gaP p l e R s m args below meth c G nL Z n lv (.int (Int32.ofInt (gI2c x)) :: st) h k j) : gaP p l e R s m args below meth c G nL Z pc lv (.int (Int32.ofInt x) :: st) h k j := g_i2c V d hn (by unfold gI2c at kk; rw [gi_back] at kk; exact kk)
theorem gi_i2l (V : gaV p l s m args meth c G cc own nL ws ret nm) {x : Int} (d : decode cc pc = .ok (.i2l, 1)) (hn : pc + 1 = n)
    (kk : gaP p l e R s m args below meth c G nL Z n lv (.long (gI2l x) :: st) h k j) : gaP p l e R s m args below meth c G nL Z pc lv (.int (Int32.ofInt x) :: st) h k j := g_i2l V d hn kk
theorem gi_iinc (V : gaV p l s m args meth c G cc own nL ws ret nm) {i : Nat} {q x : Int} {lv2 : List (Option Value)} (d : decode cc pc = .ok (.iinc i q, 3)) (hi : i < nL) (hl : lv[i]? = some (some (.int (Int32.ofInt x)))) (hok : gaOk lv i = true) (hlv : lv.set i (some (.int (Int32.ofInt (x + q)))) = lv2) (hn : pc + 3 = n)
    (kk : gaP p l e R s m args below meth c G nL Z n lv2 st h k j) : gaP p l e R s m args below meth c G nL Z pc lv st h k j := g_iinc V d hi hl rfl hok (by rw [← Int32.ofInt_add]; exact hlv) hn kk
theorem gi_if_eq (V : gaV p l s m args meth c G cc own nL ws ret nm) {x : Int} {off : Int} {t : Nat} (d : decode cc pc = .ok (.ifCond .eq off, 3)) (ht : (pc : Int) + off = (t : Int)) (hn : pc + 3 = n) (hx : gR x)
    (kt : x = 0 → gaP p l e R s m args below meth c G nL Z t lv st h k j) (kf : ¬ (x = 0) → gaP p l e R s m args below meth c G nL Z n lv st h k j) : gaP p l e R s m args below meth c G nL Z pc lv (.int (Int32.ofInt x) :: st) h k j := by
  have h00 : gR 0 := ⟨by decide, by decide⟩
  refine g_if_eq V d ht hn (fun q => kt ?_) (fun q => kf ?_) <;> (rw [gi_0, gi_eq hx h00] at q; exact q)
theorem gi_if_ne (V : gaV p l s m args meth c G cc own nL ws ret nm) {x : Int} {off : Int} {t : Nat} (d : decode cc pc = .ok (.ifCond .ne off, 3)) (ht : (pc : Int) + off = (t : Int)) (hn : pc + 3 = n) (hx : gR x)
    (kt : ¬ x = 0 → gaP p l e R s m args below meth c G nL Z t lv st h k j) (kf : x = 0 → gaP p l e R s m args below meth c G nL Z n lv st h k j) : gaP p l e R s m args below meth c G nL Z pc lv (.int (Int32.ofInt x) :: st) h k j := by
  have h00 : gR 0 := ⟨by decide, by decide⟩
  refine g_if_ne V d ht hn (fun q => kt ?_) (fun q => kf ?_) <;> (rw [gi_0, gi_eq hx h00] at q; exact q)
theorem gi_if_lt (V : gaV p l s m args meth c G cc own nL ws ret nm) {x : Int} {off : Int} {t : Nat} (d : decode cc pc = .ok (.ifCond .lt off, 3)) (ht : (pc : Int) + off = (t : Int)) (hn : pc + 3 = n) (hx : gR x)
    (kt : x < 0 → gaP p l e R s m args below meth c G nL Z t lv st h k j) (kf : ¬ (x < 0) → gaP p l e R s m args below meth c G nL Z n lv st h k j) : gaP p l e R s m args below meth c G nL Z pc lv (.int (Int32.ofInt x) :: st) h k j := by
  have h00 : gR 0 := ⟨by decide, by decide⟩
  refine g_if_lt V d ht hn (fun q => kt ?_) (fun q => kf ?_) <;> (rw [gi_0, gi_lt hx h00] at q; exact q)
theorem gi_if_ge (V : gaV p l s m args meth c G cc own nL ws ret nm) {x : Int} {off : Int} {t : Nat} (d : decode cc pc = .ok (.ifCond .ge off, 3)) (ht : (pc : Int) + off = (t : Int)) (hn : pc + 3 = n) (hx : gR x)
    (kt : 0 ≤ x → gaP p l e R s m args below meth c G nL Z t lv st h k j) (kf : ¬ (0 ≤ x) → gaP p l e R s m args below meth c G nL Z n lv st h k j) : gaP p l e R s m args below meth c G nL Z pc lv (.int (Int32.ofInt x) :: st) h k j := by
  have h00 : gR 0 := ⟨by decide, by decide⟩
  refine g_if_ge V d ht hn (fun q => kt ?_) (fun q => kf ?_) <;> (rw [gi_0, gi_le h00 hx] at q; exact q)
theorem gi_if_gt (V : gaV p l s m args meth c G cc own nL ws ret nm) {x : Int} {off : Int} {t : Nat} (d : decode cc pc = .ok (.ifCond .gt off, 3)) (ht : (pc : Int) + off = (t : Int)) (hn : pc + 3 = n) (hx : gR x)
    (kt : 0 < x → gaP p l e R s m args below meth c G nL Z t lv st h k j) (kf : ¬ (0 < x) → gaP p l e R s m args below meth c G nL Z n lv st h k j) : gaP p l e R s m args below meth c G nL Z pc lv (.int (Int32.ofInt x) :: st) h k j := by
  have h00 : gR 0 := ⟨by decide, by decide⟩
  refine g_if_gt V d ht hn (fun q => kt ?_) (fun q => kf ?_) <;> (rw [gi_0, gi_lt h00 hx] at q; exact q)
theorem gi_if_le (V : gaV p l s m args meth c G cc own nL ws ret nm) {x : Int} {off : Int} {t : Nat} (d : decode cc pc = .ok (.ifCond .le off, 3)) (ht : (pc : Int) + off = (t : Int)) (hn : pc + 3 = n) (hx : gR x)
    (kt : x ≤ 0 → gaP p l e R s m args below meth c G nL Z t lv st h k j) (kf : ¬ (x ≤ 0) → gaP p l e R s m args below meth c G nL Z n lv st h k j) : gaP p l e R s m args below meth c G nL Z pc lv (.int (Int32.ofInt x) :: st) h k j := by
  have h00 : gR 0 := ⟨by decide, by decide⟩
  refine g_if_le V d ht hn (fun q => kt ?_) (fun q => kf ?_) <;> (rw [gi_0, gi_le hx h00] at q; exact q)
theorem gi_icmp_eq (V : gaV p l s m args meth c G cc own nL ws ret nm) {x y : Int} {off : Int} {t : Nat} (d : decode cc pc = .ok (.if_icmp .eq off, 3)) (ht : (pc : Int) + off = (t : Int)) (hn : pc + 3 = n) (hx : gR x) (hy : gR y)
    (kt : x = y → gaP p l e R s m args below meth c G nL Z t lv st h k j) (kf : ¬ (x = y) → gaP p l e R s m args below meth c G nL Z n lv st h k j) : gaP p l e R s m args below meth c G nL Z pc lv (.int (Int32.ofInt y) :: .int (Int32.ofInt x) :: st) h k j := by
  refine g_icmp_eq V d ht hn (fun q => kt ?_) (fun q => kf ?_) <;> (rw [gi_eq hx hy] at q; exact q)
theorem gi_icmp_ne (V : gaV p l s m args meth c G cc own nL ws ret nm) {x y : Int} {off : Int} {t : Nat} (d : decode cc pc = .ok (.if_icmp .ne off, 3)) (ht : (pc : Int) + off = (t : Int)) (hn : pc + 3 = n) (hx : gR x) (hy : gR y)
    (kt : ¬ x = y → gaP p l e R s m args below meth c G nL Z t lv st h k j) (kf : x = y → gaP p l e R s m args below meth c G nL Z n lv st h k j) : gaP p l e R s m args below meth c G nL Z pc lv (.int (Int32.ofInt y) :: .int (Int32.ofInt x) :: st) h k j := by
  refine g_icmp_ne V d ht hn (fun q => kt ?_) (fun q => kf ?_) <;> (rw [gi_eq hx hy] at q; exact q)
theorem gi_icmp_lt (V : gaV p l s m args meth c G cc own nL ws ret nm) {x y : Int} {off : Int} {t : Nat} (d : decode cc pc = .ok (.if_icmp .lt off, 3)) (ht : (pc : Int) + off = (t : Int)) (hn : pc + 3 = n) (hx : gR x) (hy : gR y)
    (kt : x < y → gaP p l e R s m args below meth c G nL Z t lv st h k j) (kf : ¬ (x < y) → gaP p l e R s m args below meth c G nL Z n lv st h k j) : gaP p l e R s m args below meth c G nL Z pc lv (.int (Int32.ofInt y) :: .int (Int32.ofInt x) :: st) h k j := by
  refine g_icmp_lt V d ht hn (fun q => kt ?_) (fun q => kf ?_) <;> (rw [gi_lt hx hy] at q; exact q)
theorem gi_icmp_ge (V : gaV p l s m args meth c G cc own nL ws ret nm) {x y : Int} {off : Int} {t : Nat} (d : decode cc pc = .ok (.if_icmp .ge off, 3)) (ht : (pc : Int) + off = (t : Int)) (hn : pc + 3 = n) (hx : gR x) (hy : gR y)
    (kt : y ≤ x → gaP p l e R s m args below meth c G nL Z t lv st h k j) (kf : ¬ (y ≤ x) → gaP p l e R s m args below meth c G nL Z n lv st h k j) : gaP p l e R s m args below meth c G nL Z pc lv (.int (Int32.ofInt y) :: .int (Int32.ofInt x) :: st) h k j := by
  refine g_icmp_ge V d ht hn (fun q => kt ?_) (fun q => kf ?_) <;> (rw [gi_le hy hx] at q; exact q)
theorem gi_icmp_gt (V : gaV p l s m args meth c G cc own nL ws ret nm) {x y : Int} {off : Int} {t : Nat} (d : decode cc pc = .ok (.if_icmp .gt off, 3)) (ht : (pc : Int) + off = (t : Int)) (hn : pc + 3 = n) (hx : gR x) (hy : gR y)
    (kt : y < x → gaP p l e R s m args below meth c G nL Z t lv st h k j) (kf : ¬ (y < x) → gaP p l e R s m args below meth c G nL Z n lv st h k j) : gaP p l e R s m args below meth c G nL Z pc lv (.int (Int32.ofInt y) :: .int (Int32.ofInt x) :: st) h k j := by
  refine g_icmp_gt V d ht hn (fun q => kt ?_) (fun q => kf ?_) <;> (rw [gi_lt hy hx] at q; exact q)
theorem gi_icmp_le (V : gaV p l s m args meth c G cc own nL ws ret nm) {x y : Int} {off : Int} {t : Nat} (d : decode cc pc = .ok (.if_icmp .le off, 3)) (ht : (pc : Int) + off = (t : Int)) (hn : pc + 3 = n) (hx : gR x) (hy : gR y)
    (kt : x ≤ y → gaP p l e R s m args below meth c G nL Z t lv st h k j) (kf : ¬ (x ≤ y) → gaP p l e R s m args below meth c G nL Z n lv st h k j) : gaP p l e R s m args below meth c G nL Z pc lv (.int (Int32.ofInt y) :: .int (Int32.ofInt x) :: st) h k j := by
  refine g_icmp_le V d ht hn (fun q => kt ?_) (fun q => kf ?_) <;> (rw [gi_le hx hy] at q; exact q)
theorem gi_iaload (V : gaV p l s m args meth c G cc own nL ws ret nm) {a t : Nat} {vs : List Value} {i x : Int} (ha : h a = some (t, vs)) (ht : t = 102 ∨ t = 102 + 1000) (h0 : 0 ≤ i) (h9 : i ≤ 2147483647) (hv : vs[i.toNat]? = some (gi x)) (d : decode cc pc = .ok (.iaload, 1)) (hn : pc + 1 = n)
    (kk : gaP p l e R s m args below meth c G nL Z n lv (gi x :: st) h k j) : gaP p l e R s m args below meth c G nL Z pc lv (gi i :: .ref a :: st) h k j := g_iaload V ha ht (gi_nn h0 h9) (by rw [gi_clamp h0 h9]; exact hv) d hn kk
theorem gi_baloadZ (V : gaV p l s m args meth c G cc own nL ws ret nm) {a t : Nat} {vs : List Value} {i x : Int} (ha : h a = some (t, vs)) (ht : t = 100 ∨ t = 100 + 1000) (h0 : 0 ≤ i) (h9 : i ≤ 2147483647) (hv : vs[i.toNat]? = some (gi x)) (d : decode cc pc = .ok (.baload, 1)) (hn : pc + 1 = n)
    (kk : gaP p l e R s m args below meth c G nL Z n lv (gi x :: st) h k j) : gaP p l e R s m args below meth c G nL Z pc lv (gi i :: .ref a :: st) h k j := g_baloadZ V ha ht (gi_nn h0 h9) (by rw [gi_clamp h0 h9]; exact hv) d hn kk
theorem gi_baloadB (V : gaV p l s m args meth c G cc own nL ws ret nm) {a t : Nat} {vs : List Value} {i x : Int} (ha : h a = some (t, vs)) (ht : t = 101 ∨ t = 101 + 1000) (h0 : 0 ≤ i) (h9 : i ≤ 2147483647) (hv : vs[i.toNat]? = some (gi x)) (d : decode cc pc = .ok (.baload, 1)) (hn : pc + 1 = n)
    (kk : gaP p l e R s m args below meth c G nL Z n lv (gi x :: st) h k j) : gaP p l e R s m args below meth c G nL Z pc lv (gi i :: .ref a :: st) h k j := g_baloadB V ha ht (gi_nn h0 h9) (by rw [gi_clamp h0 h9]; exact hv) d hn kk
theorem gi_aaload (V : gaV p l s m args meth c G cc own nL ws ret nm) {a t b : Nat} {vs : List Value} {i : Int} (ha : h a = some (t, vs)) (ht : t = 110 ∨ t = 111 ∨ t = 112) (h0 : 0 ≤ i) (h9 : i ≤ 2147483647) (hv : vs[i.toNat]? = some (.ref b)) (d : decode cc pc = .ok (.aaload, 1)) (hn : pc + 1 = n)
    (kk : gaP p l e R s m args below meth c G nL Z n lv (.ref b :: st) h k j) : gaP p l e R s m args below meth c G nL Z pc lv (gi i :: .ref a :: st) h k j := g_aaload V ha ht (gi_nn h0 h9) (by rw [gi_clamp h0 h9]; exact hv) d hn kk
theorem gi_arraylength (V : gaV p l s m args meth c G cc own nL ws ret nm) {a t t0 : Nat} {vs : List Value} (hT : gaT t0) (ha : h a = some (t, vs)) (ht : t = t0 ∨ t = t0 + 1000) (d : decode cc pc = .ok (.arraylength, 1)) (hn : pc + 1 = n)
    (kk : gaP p l e R s m args below meth c G nL Z n lv (gi (vs.length : Int) :: st) h k j) : gaP p l e R s m args below meth c G nL Z pc lv (.ref a :: st) h k j := g_arraylength V ha hT ht d hn (by rw [gi_len]; exact kk)
theorem gi_iastore (V : gaV p l s m args meth c G cc own nL ws ret nm) {a : Nat} {vs : List Value} {i x : Int} (ha : h a = some (102, vs)) (h0 : 0 ≤ i) (h9 : i ≤ 2147483647) (hi : i.toNat < vs.length) (d : decode cc pc = .ok (.iastore, 1)) (hn : pc + 1 = n)
    (kk : gaP p l e R s m args below meth c G nL Z n lv st (gaUp h a (102, vs.set i.toNat (gi x))) k j) : gaP p l e R s m args below meth c G nL Z pc lv (gi x :: gi i :: .ref a :: st) h k j := g_iastore V ha (gi_nn h0 h9) (by rw [gi_clamp h0 h9]; exact hi) d hn (by rw [gi_clamp h0 h9]; exact kk)
theorem gi_bastoreZ (V : gaV p l s m args meth c G cc own nL ws ret nm) {a : Nat} {vs : List Value} {i x : Int} (hb : narrow .boolean (gi x) = gi x) (ha : h a = some (100, vs)) (h0 : 0 ≤ i) (h9 : i ≤ 2147483647) (hi : i.toNat < vs.length) (d : decode cc pc = .ok (.bastore, 1)) (hn : pc + 1 = n)
    (kk : gaP p l e R s m args below meth c G nL Z n lv st (gaUp h a (100, vs.set i.toNat (gi x))) k j) : gaP p l e R s m args below meth c G nL Z pc lv (gi x :: gi i :: .ref a :: st) h k j := g_bastoreZ V ha (gi_nn h0 h9) (by rw [gi_clamp h0 h9]; exact hi) d hn (by rw [gi_clamp h0 h9, hb]; exact kk)
theorem gi_bastoreB (V : gaV p l s m args meth c G cc own nL ws ret nm) {a : Nat} {vs : List Value} {i x : Int} (hb : narrow .byte (gi x) = gi x) (ha : h a = some (101, vs)) (h0 : 0 ≤ i) (h9 : i ≤ 2147483647) (hi : i.toNat < vs.length) (d : decode cc pc = .ok (.bastore, 1)) (hn : pc + 1 = n)
    (kk : gaP p l e R s m args below meth c G nL Z n lv st (gaUp h a (101, vs.set i.toNat (gi x))) k j) : gaP p l e R s m args below meth c G nL Z pc lv (gi x :: gi i :: .ref a :: st) h k j := g_bastoreB V ha (gi_nn h0 h9) (by rw [gi_clamp h0 h9]; exact hi) d hn (by rw [gi_clamp h0 h9, hb]; exact kk)
theorem gi_newarray (V : gaV p l s m args meth c G cc own nL ws ret nm) {atype : ArrayType} {t : Nat} (hT : t = 100 ∨ t = 101 ∨ t = 102) (hty : newarray.typeOf atype = gaTy t) (harr : Cond.arrayClass (newarray.typeOf atype) ∈ ws) {x : Int} (h0 : 0 ≤ x) (hb : x ≤ 100000) (d : decode cc pc = .ok (.newarray atype, 2)) (hn : pc + 2 = n) (hk : 1 ≤ k) (hj : x.toNat ≤ j)
    (kk : ∀ a : Nat, h a = none → gaP p l e R s m args below meth c G nL Z n lv (.ref a :: st) (gaUp h a (t, List.replicate x.toNat (gi 0))) (k - 1) (j - x.toNat)) : gaP p l e R s m args below meth c G nL Z pc lv (gi x :: st) h k j := by
  have e := gi_clamp h0 (show x ≤ 2147483647 by omega)
  refine g_newarray V hT hty harr (gi_nn h0 (by omega)) (by rw [e]; omega) d hn hk (by rw [e]; exact hj) ?_
  rw [e]
  exact kk
theorem gi_anewarray (V : gaV p l s m args meth c G cc own nL ws ret nm) {t index : Nat} (hT : t = 110 ∨ t = 111) (hcl : Cond.classLink own index (gaCn t) ∈ ws) {x : Int} (h0 : 0 ≤ x) (hb : x ≤ 100000) (d : decode cc pc = .ok (.anewarray index, 3)) (hn : pc + 3 = n) (hk : 1 ≤ k) (hj : x.toNat ≤ j)
    (kk : ∀ a : Nat, h a = none → gaP p l e R s m args below meth c G nL Z n lv (.ref a :: st) (gaUp h a (t, List.replicate x.toNat .null)) (k - 1) (j - x.toNat)) : gaP p l e R s m args below meth c G nL Z pc lv (gi x :: st) h k j := by
  have e := gi_clamp h0 (show x ≤ 2147483647 by omega)
  refine g_anewarray V hT hcl (gi_nn h0 (by omega)) (by rw [e]; omega) d hn hk (by rw [e]; exact hj) ?_
  rw [e]
  exact kk
theorem gi_anewarrayA (V : gaV p l s m args meth c G cc own nL ws ret nm) {index : Nat} (hcl : Cond.classLink own index "[I" ∈ ws) {x : Int} (h0 : 0 ≤ x) (hb : x ≤ 100000) (d : decode cc pc = .ok (.anewarray index, 3)) (hn : pc + 3 = n) (hk : 1 ≤ k) (hj : x.toNat ≤ j)
    (kk : ∀ a : Nat, h a = none → gaP p l e R s m args below meth c G nL Z n lv (.ref a :: st) (gaUp h a (112, List.replicate x.toNat .null)) (k - 1) (j - x.toNat)) : gaP p l e R s m args below meth c G nL Z pc lv (gi x :: st) h k j := by
  have e := gi_clamp h0 (show x ≤ 2147483647 by omega)
  refine g_anewarrayA V hcl (gi_nn h0 (by omega)) (by rw [e]; omega) d hn hk (by rw [e]; exact hj) ?_
  rw [e]
  exact kk
theorem gi_aastoreO (V : gaV p l s m args meth c G cc own nL ws ret nm) {a b t ci N : Nat} {T : u_T} {vs : List Value} {i : Int} (hT : t = 110 ∨ t = 111) (hc : vwCl[ci]? = some (gaCn t, T, N)) (hci : ci < 100) (ha : h a = some (t, vs)) (hv : gHas h b ci) (h0 : 0 ≤ i) (h9 : i ≤ 2147483647) (hi : i.toNat < vs.length) (d : decode cc pc = .ok (.aastore, 1)) (hn : pc + 1 = n)
    (kk : gaP p l e R s m args below meth c G nL Z n lv st (gaUp h a (t, vs.set i.toNat (.ref b))) k j) : gaP p l e R s m args below meth c G nL Z pc lv (.ref b :: gi i :: .ref a :: st) h k j := by
  obtain ⟨fs, hv⟩ := hv
  exact g_aastoreO V hT hc hci ha hv (gi_nn h0 h9) (by rw [gi_clamp h0 h9]; exact hi) d hn (by rw [gi_clamp h0 h9]; exact kk)
theorem ga_asg (vm : Vm) (c : ClassId) : vm.assignable c c = true := by
  show vm.assignableAux (255 + 1) c c = true
  rw [Vm.assignableAux]
  simp
theorem gi_aastoreA (V : gaV p l s m args meth c G cc own nL ws ret nm) {a b : Nat} {vs : List Value} {i : Int} (ha : h a = some (112, vs)) (hv : gHas h b 102) (h0 : 0 ≤ i) (h9 : i ≤ 2147483647) (hi : i.toNat < vs.length) (d : decode cc pc = .ok (.aastore, 1)) (hn : pc + 1 = n)
    (kk : gaP p l e R s m args below meth c G nL Z n lv st (gaUp h a (112, vs.set i.toNat (.ref b))) k j) : gaP p l e R s m args below meth c G nL Z pc lv (.ref b :: gi i :: .ref a :: st) h k j := by
  obtain ⟨fs, hv⟩ := hv
  exact g_aastoreA V (ga_asg _ _) ha hv (gi_nn h0 h9) (by rw [gi_clamp h0 h9]; exact hi) d hn (by rw [gi_clamp h0 h9]; exact kk)
theorem gi_mmax (V : gaV p l s m args meth c G cc own nL ws ret nm) {index : Nat} (hlink : Cond.methodLink own index Lib.Math.max.name ∈ ws) (hstat : Cond.static Lib.Math.max.name ∈ ws) (hini : Cond.initialized "java/lang/Math" ∈ ws) (hcode : Cond.code Lib.Math.max.name Lib.Math.max.code 2 (some .int) ∈ ws) (hfr : 1 ≤ R.frames) (hlo : 24 ≤ R.locals) (hcat : (st.map fun v => v.category).sum ≤ 8) {x y : Int} (hx : gR x) (hy : gR y) (d : decode cc pc = .ok (.invokestatic index, 3)) (hn : pc + 3 = n)
    (kk : gaP p l e R s m args below meth c G nL Z n lv (gi (max x y) :: st) h k j) : gaP p l e R s m args below meth c G nL Z pc lv (gi y :: gi x :: st) h k j := by
  subst hn
  intro H locs ls cells slots hR hS hL h1 h2
  have hts := V.2.2.2.2.1
  have key := kk H locs ls cells slots hR hS hL h1 h2
  refine va_mmax V.1 V.2.1 (by rw [V.2.2.1]; exact hL.1.symm) V.2.2.2.1 (hts _ hlink) (hts _ hstat) (hts _ hini) (hts _ hcode) hfr (by omega) (by omega) (by omega) d ?_
  have e9 : (if Int32.ofInt x < Int32.ofInt y then Int32.ofInt y else Int32.ofInt x) = Int32.ofInt (max x y) := by
    simp only [gi_lt hx hy, gi_lt hy hx]
    by_cases hq : x < y
    · rw [if_pos hq]; congr 1; omega
    · rw [if_neg hq]; congr 1; omega
  rw [e9]
  exact key
theorem gi_mmin (V : gaV p l s m args meth c G cc own nL ws ret nm) {index : Nat} (hlink : Cond.methodLink own index Lib.Math.min.name ∈ ws) (hstat : Cond.static Lib.Math.min.name ∈ ws) (hini : Cond.initialized "java/lang/Math" ∈ ws) (hcode : Cond.code Lib.Math.min.name Lib.Math.min.code 2 (some .int) ∈ ws) (hfr : 1 ≤ R.frames) (hlo : 24 ≤ R.locals) (hcat : (st.map fun v => v.category).sum ≤ 8) {x y : Int} (hx : gR x) (hy : gR y) (d : decode cc pc = .ok (.invokestatic index, 3)) (hn : pc + 3 = n)
    (kk : gaP p l e R s m args below meth c G nL Z n lv (gi (min x y) :: st) h k j) : gaP p l e R s m args below meth c G nL Z pc lv (gi y :: gi x :: st) h k j := by
  subst hn
  intro H locs ls cells slots hR hS hL h1 h2
  have hts := V.2.2.2.2.1
  have key := kk H locs ls cells slots hR hS hL h1 h2
  refine va_mmin V.1 V.2.1 (by rw [V.2.2.1]; exact hL.1.symm) V.2.2.2.1 (hts _ hlink) (hts _ hstat) (hts _ hini) (hts _ hcode) hfr (by omega) (by omega) (by omega) d ?_
  have e9 : (if Int32.ofInt y < Int32.ofInt x then Int32.ofInt y else Int32.ofInt x) = Int32.ofInt (min x y) := by
    simp only [gi_lt hx hy, gi_lt hy hx]
    by_cases hq : y < x
    · rw [if_pos hq]; congr 1; omega
    · rw [if_neg hq]; congr 1; omega
  rw [e9]
  exact key
theorem ga_re {k2 j2 : Nat} (e2 : k2 = k) (e3 : j2 = j) (kk : gaP p l e R s m args below meth c G nL Z pc lv st h k2 j2) : gaP p l e R s m args below meth c G nL Z pc lv st h k j := by
  subst e2; subst e3; exact kk
theorem gaO_re {E : String} {k2 j2 : Nat} (e2 : k2 = k) (e3 : j2 = j) (kk : gaO p l e R s m args below meth c G nL Z pc lv E h k2 j2) : gaO p l e R s m args below meth c G nL Z pc lv E h k j := by
  subst e2; subst e3; exact kk
theorem g_stk {st2 : List Value} {k2 j2 : Nat} (e1 : st = st2) (e2 : k = k2) (e3 : j = j2) (kk : gaP p l e R s m args below meth c G nL Z pc lv st2 h k2 j2) : gaP p l e R s m args below meth c G nL Z pc lv st h k j := by
  subst e1; subst e2; subst e3; exact kk
theorem ga_ki {Q2 : Int → gaH → Prop} {k2 j2 : Nat} (kk : ∀ r h', Q2 r h' → gaP p l e R s m args below meth c G nL Z n lv (gi r :: st) h' k2 j2) : ∀ v h', gQi Q2 v h' → gaP p l e R s m args below meth c G nL Z n lv (v.toList ++ st) h' k2 j2 := by
  rintro v h' ⟨r, rfl, hq⟩
  exact kk r h' hq
theorem ga_kl {Q2 : Int64 → gaH → Prop} {k2 j2 : Nat} (kk : ∀ r h', Q2 r h' → gaP p l e R s m args below meth c G nL Z n lv (.long r :: st) h' k2 j2) : ∀ v h', gQl Q2 v h' → gaP p l e R s m args below meth c G nL Z n lv (v.toList ++ st) h' k2 j2 := by
  rintro v h' ⟨r, rfl, hq⟩
  exact kk r h' hq
theorem ga_ka {Q2 : Nat → gaH → Prop} {k2 j2 : Nat} (kk : ∀ r h', Q2 r h' → gaP p l e R s m args below meth c G nL Z n lv (.ref r :: st) h' k2 j2) : ∀ v h', gQa Q2 v h' → gaP p l e R s m args below meth c G nL Z n lv (v.toList ++ st) h' k2 j2 := by
  rintro v h' ⟨r, rfl, hq⟩
  exact kk r h' hq
theorem ga_kv {Q2 : gaH → Prop} {k2 j2 : Nat} (kk : ∀ h', Q2 h' → gaP p l e R s m args below meth c G nL Z n lv st h' k2 j2) : ∀ v h', gQv Q2 v h' → gaP p l e R s m args below meth c G nL Z n lv (v.toList ++ st) h' k2 j2 := by
  rintro v h' ⟨rfl, hq⟩
  exact kk h' hq
theorem gaV.nt (V : gaV p l s m args meth c G cc own nL ws ret nm) : l.stackTraces = false := V.2.2.2.2.2.2.2.2.2.2
theorem gaV.z0 (V : gaV p l s m args meth c G cc own nL ws ret nm) : va_Z RX0 "CODES_FOR_A" "[I" (.ref (G.2.2.2 0)) (gaA G) s s.heap := V.2.2.2.2.2.2.2.2.2.1.2.2.2.1.1
theorem gaV.z1 (V : gaV p l s m args meth c G cc own nL ws ret nm) : va_Z RJ0 "COMPACT_STRINGS" "Z" (gi 1) (gaA G) s s.heap := V.2.2.2.2.2.2.2.2.2.1.2.2.2.1.2.1
theorem gaV.z2 (V : gaV p l s m args meth c G cc own nL ws ret nm) : va_Z RJ6 "DigitOnes" "[B" (.ref (G.2.2.2 1)) (gaA G) s s.heap := V.2.2.2.2.2.2.2.2.2.1.2.2.2.1.2.2.1
theorem gaV.z3 (V : gaV p l s m args meth c G cc own nL ws ret nm) : va_Z RJ6 "DigitTens" "[B" (.ref (G.2.2.2 2)) (gaA G) s s.heap := V.2.2.2.2.2.2.2.2.2.1.2.2.2.1.2.2.2
end GAW
/-! Two longs held against each other. -/
def gCmp (x y : Int64) : Int := (lg_cmp x y).toInt
theorem gCmp_self (x : Int64) : gCmp x x = 0 := by simp [gCmp, lg_cmp]
theorem gCmp_R (x y : Int64) : gR (gCmp x y) := gR_toInt _
section GLC
variable {p : Program} {l : Launch} {e : Env} {R : Room} {s : State} {m : MethodId} {args : Array Value} {below : List Frame} {meth : Method} {c : Code} {G : gaG} {cc : ByteArray} {own : String} {nL : Nat} {ws : List Cond} {ret : Option FieldType} {nm : String} {Z : State → Prop}
variable {pc n : Nat} {lv : List (Option Value)} {st : List Value} {h : gaH} {k j : Nat}
theorem gi_lcmp (V : gaV p l s m args meth c G cc own nL ws ret nm) {x y : Int64} (d : decode cc pc = .ok (.lcmp, 1)) (hn : pc + 1 = n)
    (kk : gaP p l e R s m args below meth c G nL Z n lv (.int (Int32.ofInt (gCmp x y)) :: st) h k j) : gaP p l e R s m args below meth c G nL Z pc lv (.long y :: .long x :: st) h k j := by
  subst hn
  unfold gCmp at kk
  rw [gi_back] at kk
  intro H locs ls cells slots hR hS hL h1 h2
  exact W.lcmp V.1 V.2.1 d (kk H locs ls cells slots hR hS hL h1 h2)
end GLC
section GLE
variable {p : Program} {l : Launch} {e : Env} {R : Room} {s : State} {m : MethodId} {args : Array Value} {below : List Frame} {meth : Method} {c : Code} {G : gaG} {cc : ByteArray} {own : String} {nL : Nat} {ws : List Cond} {ret : Option FieldType} {nm : String} {Z : State → Prop}
variable {pc n : Nat} {lv : List (Option Value)} {st : List Value} {h : gaH} {k j : Nat}
theorem gi_icmp_eqF (V : gaV p l s m args meth c G cc own nL ws ret nm) {x y : Int} {off : Int} {t : Nat} (d : decode cc pc = .ok (.if_icmp .eq off, 3)) (ht : (pc : Int) + off = (t : Int)) (q : x = y)
    (kt : gaP p l e R s m args below meth c G nL Z t lv st h k j) : gaP p l e R s m args below meth c G nL Z pc lv (.int (Int32.ofInt y) :: .int (Int32.ofInt x) :: st) h k j :=
  g_icmp_eq V d ht rfl (fun _ => kt) (fun z => absurd (congrArg Int32.ofInt q) z)
end GLE
theorem hin_RJ0 : ∀ w ∈ u_ws RJ0 TJ0 4, w ∈ gaW := by
  intro w hw
  obtain ⟨k, hk, rfl⟩ := List.mem_map.mp hw
  have hk := List.mem_range.mp hk
  match k, hk with
  | 0, _ => exact ww_5_36
  | 1, _ => exact ww_5_38
  | 2, _ => exact ww_5_40
  | 3, _ => exact ww_5_42
  | n + 4, hk => omega
theorem hdf_RJ0 : ∀ q, q < 4 → defaultValue (tyJ0 q) = vp_V ([.null, gi 0, gi 0, gi 0]) q := by
  intro q hq
  match q, hq with
  | 0, _ => rfl
  | 1, _ => rfl
  | 2, _ => rfl
  | 3, _ => rfl
  | n + 4, hk => omega
theorem hin_RJ4 : ∀ w ∈ u_ws RJ4 TJ4 4, w ∈ gaW := by
  intro w hw
  obtain ⟨k, hk, rfl⟩ := List.mem_map.mp hw
  have hk := List.mem_range.mp hk
  match k, hk with
  | 0, _ => exact ww_4_47
  | 1, _ => exact ww_4_49
  | 2, _ => exact ww_4_51
  | 3, _ => exact ww_4_53
  | n + 4, hk => omega
theorem hdf_RJ4 : ∀ q, q < 4 → defaultValue (tyJ4 q) = vp_V ([.null, gi 0, gi 0, gi 0]) q := by
  intro q hq
  match q, hq with
  | 0, _ => rfl
  | 1, _ => rfl
  | 2, _ => rfl
  | 3, _ => rfl
  | n + 4, hk => omega
theorem hin_RX0 : ∀ w ∈ u_ws RX0 TX0 4, w ∈ gaW := by
  intro w hw
  obtain ⟨k, hk, rfl⟩ := List.mem_map.mp hw
  have hk := List.mem_range.mp hk
  match k, hk with
  | 0, _ => exact ww_1_100
  | 1, _ => exact ww_1_102
  | 2, _ => exact ww_1_104
  | 3, _ => exact ww_1_106
  | n + 4, hk => omega
theorem hdf_RX0 : ∀ q, q < 4 → defaultValue (tyX0 q) = vp_V ([.null, gi 0, .null, .null]) q := by
  intro q hq
  match q, hq with
  | 0, _ => rfl
  | 1, _ => rfl
  | 2, _ => rfl
  | 3, _ => rfl
  | n + 4, hk => omega
theorem hin_RX2 : ∀ w ∈ u_ws RX2 TX2 3, w ∈ gaW := by
  intro w hw
  obtain ⟨k, hk, rfl⟩ := List.mem_map.mp hw
  have hk := List.mem_range.mp hk
  match k, hk with
  | 0, _ => exact ww_1_66
  | 1, _ => exact ww_1_68
  | 2, _ => exact ww_1_70
  | n + 3, hk => omega
theorem hdf_RX2 : ∀ q, q < 3 → defaultValue (tyX2 q) = vp_V ([.null, .null, .null]) q := by
  intro q hq
  match q, hq with
  | 0, _ => rfl
  | 1, _ => rfl
  | 2, _ => rfl
  | n + 3, hk => omega
theorem hin_RX4 : ∀ w ∈ u_ws RX4 TX4 2, w ∈ gaW := by
  intro w hw
  obtain ⟨k, hk, rfl⟩ := List.mem_map.mp hw
  have hk := List.mem_range.mp hk
  match k, hk with
  | 0, _ => exact ww_1_57
  | 1, _ => exact ww_1_59
  | n + 2, hk => omega
theorem hdf_RX4 : ∀ q, q < 2 → defaultValue (tyX4 q) = vp_V ([.null, gi 0]) q := by
  intro q hq
  match q, hq with
  | 0, _ => rfl
  | 1, _ => rfl
  | n + 2, hk => omega
theorem hin_RX5 : ∀ w ∈ u_ws RX5 TX5 9, w ∈ gaW := by
  intro w hw
  obtain ⟨k, hk, rfl⟩ := List.mem_map.mp hw
  have hk := List.mem_range.mp hk
  match k, hk with
  | 0, _ => exact ww_1_119
  | 1, _ => exact ww_1_121
  | 2, _ => exact ww_1_123
  | 3, _ => exact ww_1_125
  | 4, _ => exact ww_1_127
  | 5, _ => exact ww_1_129
  | 6, _ => exact ww_1_131
  | 7, _ => exact ww_1_133
  | 8, _ => exact ww_1_135
  | n + 9, hk => omega
theorem hdf_RX5 : ∀ q, q < 9 → defaultValue (tyX5 q) = vp_V ([.null, .null, .null, .null, .null, gi 0, gi 0, gi 0, gi 0]) q := by
  intro q hq
  match q, hq with
  | 0, _ => rfl
  | 1, _ => rfl
  | 2, _ => rfl
  | 3, _ => rfl
  | 4, _ => rfl
  | 5, _ => rfl
  | 6, _ => rfl
  | 7, _ => rfl
  | 8, _ => rfl
  | n + 9, hk => omega
theorem hin_RX6 : ∀ w ∈ u_ws RX6 TX6 2, w ∈ gaW := by
  intro w hw
  obtain ⟨k, hk, rfl⟩ := List.mem_map.mp hw
  have hk := List.mem_range.mp hk
  match k, hk with
  | 0, _ => exact ww_2_200
  | 1, _ => exact ww_2_202
  | n + 2, hk => omega
theorem hdf_RX6 : ∀ q, q < 2 → defaultValue (tyX6 q) = vp_V ([.long 0, .null]) q := by
  intro q hq
  match q, hq with
  | 0, _ => rfl
  | 1, _ => rfl
  | n + 2, hk => omega
theorem hin_RX7 : ∀ w ∈ u_ws RX7 TX7 8, w ∈ gaW := by
  intro w hw
  obtain ⟨k, hk, rfl⟩ := List.mem_map.mp hw
  have hk := List.mem_range.mp hk
  match k, hk with
  | 0, _ => exact ww_5_189
  | 1, _ => exact ww_5_191
  | 2, _ => exact ww_5_193
  | 3, _ => exact ww_5_195
  | 4, _ => exact ww_5_197
  | 5, _ => exact ww_5_199
  | 6, _ => exact ww_5_201
  | 7, _ => exact ww_5_203
  | n + 8, hk => omega
theorem hdf_RX7 : ∀ q, q < 8 → defaultValue (tyX7 q) = vp_V ([.null, .null, .null, gi 0, gi 0, gi 0, gi 0, gi 0]) q := by
  intro q hq
  match q, hq with
  | 0, _ => rfl
  | 1, _ => rfl
  | 2, _ => rfl
  | 3, _ => rfl
  | 4, _ => rfl
  | 5, _ => rfl
  | 6, _ => rfl
  | 7, _ => rfl
  | n + 8, hk => omega
theorem hpl_RJ0 : plainName RJ0 = true := by decide +kernel
theorem hpl_RJ1 : plainName RJ1 = true := by decide +kernel
theorem hpl_RJ4 : plainName RJ4 = true := by decide +kernel
theorem hpl_RJ5 : plainName RJ5 = true := by decide +kernel
theorem hpl_RJ6 : plainName RJ6 = true := by decide +kernel
theorem hpl_RJ7 : plainName RJ7 = true := by decide +kernel
theorem hpl_RJ8 : plainName RJ8 = true := by decide +kernel
theorem hpl_RL : plainName RL = true := by decide +kernel
theorem hpl_RX0 : plainName RX0 = true := by decide +kernel
theorem hpl_RX1 : plainName RX1 = true := by decide +kernel
theorem hpl_RX2 : plainName RX2 = true := by decide +kernel
theorem hpl_RX3 : plainName RX3 = true := by decide +kernel
theorem hpl_RX4 : plainName RX4 = true := by decide +kernel
theorem hpl_RX5 : plainName RX5 = true := by decide +kernel
theorem hpl_RX6 : plainName RX6 = true := by decide +kernel
theorem hpl_RX7 : plainName RX7 = true := by decide +kernel
def gCall (C S c s : Nat) (K : Nat → Nat → Prop) : Prop := C ≤ c ∧ S ≤ s ∧ ∃ c2 s2, c2 = c - C ∧ s2 = s - S ∧ K c2 s2
abbrev gxNames : List String := ["java/lang/RuntimeException", "java/lang/Exception"]
theorem hfit_N : ∀ n ∈ gxNames, Bundle.fit n = true := by decide +kernel
/-- one walk along a list: whether another one lies in it, in its order -/
def gaSub : List Cond → List Cond → Bool
  | [], _ => true
  | _ :: _, [] => false
  | a :: l, b :: m => if a = b then gaSub l m else gaSub (a :: l) m
theorem gaSub_mem : ∀ (m l : List Cond), gaSub l m = true → ∀ w ∈ l, w ∈ m
  | _, [], _, _, hw => absurd hw List.not_mem_nil
  | [], _ :: _, h, _, _ => absurd (show false = true from h) Bool.false_ne_true
  | b :: m, a :: l, h, w, hw => by
    have h' : (if a = b then gaSub l m else gaSub (a :: l) m) = true := h
    by_cases q : a = b
    · rw [if_pos q] at h'
      rcases List.mem_cons.mp hw with z | z
      · exact List.mem_cons.mpr (Or.inl (z.trans q))
      · exact List.mem_cons_of_mem _ (gaSub_mem m l h' w z)
    · rw [if_neg q] at h'
      exact List.mem_cons_of_mem _ (gaSub_mem m (a :: l) h' w hw)
def gaHat : List Cond := [Cond.selects "java/lang/Throwable" ⟨"java/lang/Throwable", "fillInStackTrace", "(I)Ljava/lang/Throwable;"⟩ ⟨"java/lang/Throwable", "fillInStackTrace", "(I)Ljava/lang/Throwable;"⟩, Cond.initialized "java/lang/Throwable", Cond.initialized "java/lang/Exception", Cond.initialized "java/lang/RuntimeException", Cond.initialized "java/lang/IndexOutOfBoundsException", Cond.initialized "java/lang/IllegalArgumentException", Cond.initialized "java/lang/IllegalStateException", Cond.methodLink "Wordgarden" 1 ⟨"java/lang/Object", "<init>", "()V"⟩, Cond.instanceMethod ⟨"java/lang/Object", "<init>", "()V"⟩, Cond.code ⟨"java/lang/Object", "<init>", "()V"⟩ object_method_1_code 1 (none : Option Jvm.ClassFile.FieldType), Cond.methodLink "Wordgarden$Rule" 3 ⟨"java/lang/Object", "<init>", "()V"⟩, Cond.methodLink "Wordgarden$Word" 3 ⟨"java/lang/Object", "<init>", "()V"⟩, Cond.methodLink "Wordgarden$Growth" 3 ⟨"java/lang/Object", "<init>", "()V"⟩, Cond.classLink "Wordgarden" 285 "java/lang/IndexOutOfBoundsException", Cond.instantiable "java/lang/IndexOutOfBoundsException" 6, Cond.selects "java/lang/IndexOutOfBoundsException" ⟨"java/lang/Throwable", "fillInStackTrace", "(I)Ljava/lang/Throwable;"⟩ ⟨"java/lang/Throwable", "fillInStackTrace", "(I)Ljava/lang/Throwable;"⟩, Cond.selects "java/lang/IndexOutOfBoundsException" ⟨"java/lang/Throwable", "fillInStackTrace", "()Ljava/lang/Throwable;"⟩ ⟨"java/lang/Throwable", "fillInStackTrace", "()Ljava/lang/Throwable;"⟩, Cond.lays "java/lang/IndexOutOfBoundsException" "java/lang/Throwable" "cause" "Ljava/lang/Throwable;", Cond.lays "java/lang/Throwable" "java/lang/Throwable" "cause" "Ljava/lang/Throwable;", Cond.lays "java/lang/IndexOutOfBoundsException" "java/lang/Throwable" "stackTrace" "[Ljava/lang/StackTraceElement;", Cond.lays "java/lang/Throwable" "java/lang/Throwable" "stackTrace" "[Ljava/lang/StackTraceElement;", Cond.lays "java/lang/IndexOutOfBoundsException" "java/lang/Throwable" "suppressedExceptions" "Ljava/util/List;", Cond.lays "java/lang/Throwable" "java/lang/Throwable" "suppressedExceptions" "Ljava/util/List;", Cond.lays "java/lang/IndexOutOfBoundsException" "java/lang/Throwable" "detailMessage" "Ljava/lang/String;", Cond.lays "java/lang/Throwable" "java/lang/Throwable" "detailMessage" "Ljava/lang/String;", Cond.lays "java/lang/IndexOutOfBoundsException" "java/lang/Throwable" "backtrace" "Ljava/lang/Object;", Cond.lays "java/lang/Throwable" "java/lang/Throwable" "backtrace" "Ljava/lang/Object;", Cond.fieldLink "java/lang/Throwable" 198 "java/lang/Throwable" "backtrace" "Ljava/lang/Object;", Cond.superclass "java/lang/Throwable" "java/lang/Object", Cond.instanceMethod ⟨"java/lang/Throwable", "<init>", "()V"⟩, Cond.code ⟨"java/lang/Throwable", "<init>", "()V"⟩ prog_24_method_1_code 1 (none : Option Jvm.ClassFile.FieldType), Cond.methodLink "java/lang/Throwable" 1 ⟨"java/lang/Object", "<init>", "()V"⟩, Cond.fieldLink "java/lang/Throwable" 13 "java/lang/Throwable" "UNASSIGNED_STACK" "[Ljava/lang/StackTraceElement;", Cond.fieldLink "java/lang/Throwable" 20 "java/lang/Throwable" "SUPPRESSED_SENTINEL" "Ljava/util/List;", Cond.methodLink "java/lang/Throwable" 27 ⟨"java/lang/Throwable", "fillInStackTrace", "()Ljava/lang/Throwable;"⟩, Cond.instanceMethod ⟨"java/lang/Throwable", "fillInStackTrace", "()Ljava/lang/Throwable;"⟩, Cond.sameMethod "java/lang/Throwable" "java/lang/Throwable" "fillInStackTrace" "()Ljava/lang/Throwable;", Cond.selects "java/lang/IllegalArgumentException" ⟨"java/lang/Throwable", "fillInStackTrace", "()Ljava/lang/Throwable;"⟩ ⟨"java/lang/Throwable", "fillInStackTrace", "()Ljava/lang/Throwable;"⟩, Cond.selects "java/lang/IllegalStateException" ⟨"java/lang/Throwable", "fillInStackTrace", "()Ljava/lang/Throwable;"⟩ ⟨"java/lang/Throwable", "fillInStackTrace", "()Ljava/lang/Throwable;"⟩, Cond.codeSync ⟨"java/lang/Throwable", "fillInStackTrace", "()Ljava/lang/Throwable;"⟩ prog_24_method_18_code 1 (some (.object "java/lang/Throwable")), Cond.methodLink "java/lang/Throwable" 202 ⟨"java/lang/Throwable", "fillInStackTrace", "(I)Ljava/lang/Throwable;"⟩, Cond.instanceMethod ⟨"java/lang/Throwable", "fillInStackTrace", "(I)Ljava/lang/Throwable;"⟩, Cond.instantiable "java/lang/Throwable" 6, Cond.native ⟨"java/lang/Throwable", "fillInStackTrace", "(I)Ljava/lang/Throwable;"⟩, Cond.methodLink "Wordgarden" 289 ⟨"java/lang/IndexOutOfBoundsException", "<init>", "(Ljava/lang/String;)V"⟩, Cond.instanceMethod ⟨"java/lang/IndexOutOfBoundsException", "<init>", "(Ljava/lang/String;)V"⟩, Cond.code ⟨"java/lang/IndexOutOfBoundsException", "<init>", "(Ljava/lang/String;)V"⟩ prog_15_method_2_code 2 (none : Option Jvm.ClassFile.FieldType), Cond.methodLink "java/lang/IndexOutOfBoundsException" 7 ⟨"java/lang/RuntimeException", "<init>", "(Ljava/lang/String;)V"⟩, Cond.instanceMethod ⟨"java/lang/RuntimeException", "<init>", "(Ljava/lang/String;)V"⟩, Cond.code ⟨"java/lang/RuntimeException", "<init>", "(Ljava/lang/String;)V"⟩ prog_18_method_2_code 2 (none : Option Jvm.ClassFile.FieldType), Cond.methodLink "java/lang/RuntimeException" 7 ⟨"java/lang/Exception", "<init>", "(Ljava/lang/String;)V"⟩, Cond.instanceMethod ⟨"java/lang/Exception", "<init>", "(Ljava/lang/String;)V"⟩, Cond.code ⟨"java/lang/Exception", "<init>", "(Ljava/lang/String;)V"⟩ prog_12_method_2_code 2 (none : Option Jvm.ClassFile.FieldType), Cond.methodLink "java/lang/Exception" 7 ⟨"java/lang/Throwable", "<init>", "(Ljava/lang/String;)V"⟩, Cond.instanceMethod ⟨"java/lang/Throwable", "<init>", "(Ljava/lang/String;)V"⟩, Cond.code ⟨"java/lang/Throwable", "<init>", "(Ljava/lang/String;)V"⟩ prog_24_method_2_code 2 (none : Option Jvm.ClassFile.FieldType), Cond.fieldLink "java/lang/Throwable" 198 "java/lang/Throwable" "backtrace" "Ljava/lang/Object;", Cond.fieldLink "java/lang/Throwable" 31 "java/lang/Throwable" "detailMessage" "Ljava/lang/String;", Cond.fieldLink "java/lang/Throwable" 7 "java/lang/Throwable" "cause" "Ljava/lang/Throwable;", Cond.fieldLink "java/lang/Throwable" 17 "java/lang/Throwable" "stackTrace" "[Ljava/lang/StackTraceElement;", Cond.fieldLink "java/lang/Throwable" 24 "java/lang/Throwable" "suppressedExceptions" "Ljava/util/List;", Cond.lays "java/lang/IndexOutOfBoundsException" "java/lang/Throwable" "depth" "I", Cond.superclass "java/lang/IndexOutOfBoundsException" "java/lang/RuntimeException", Cond.classLink "Wordgarden" 296 "java/lang/IllegalArgumentException", Cond.instantiable "java/lang/IllegalArgumentException" 6, Cond.selects "java/lang/IllegalArgumentException" ⟨"java/lang/Throwable", "fillInStackTrace", "(I)Ljava/lang/Throwable;"⟩ ⟨"java/lang/Throwable", "fillInStackTrace", "(I)Ljava/lang/Throwable;"⟩, Cond.lays "java/lang/IllegalArgumentException" "java/lang/Throwable" "cause" "Ljava/lang/Throwable;", Cond.lays "java/lang/IllegalArgumentException" "java/lang/Throwable" "stackTrace" "[Ljava/lang/StackTraceElement;", Cond.lays "java/lang/IllegalArgumentException" "java/lang/Throwable" "suppressedExceptions" "Ljava/util/List;", Cond.lays "java/lang/IllegalArgumentException" "java/lang/Throwable" "detailMessage" "Ljava/lang/String;", Cond.lays "java/lang/IllegalArgumentException" "java/lang/Throwable" "backtrace" "Ljava/lang/Object;", Cond.methodLink "Wordgarden" 300 ⟨"java/lang/IllegalArgumentException", "<init>", "(Ljava/lang/String;)V"⟩, Cond.instanceMethod ⟨"java/lang/IllegalArgumentException", "<init>", "(Ljava/lang/String;)V"⟩, Cond.code ⟨"java/lang/IllegalArgumentException", "<init>", "(Ljava/lang/String;)V"⟩ prog_13_method_2_code 2 (none : Option Jvm.ClassFile.FieldType), Cond.methodLink "java/lang/IllegalArgumentException" 7 ⟨"java/lang/RuntimeException", "<init>", "(Ljava/lang/String;)V"⟩, Cond.lays "java/lang/IllegalArgumentException" "java/lang/Throwable" "depth" "I", Cond.superclass "java/lang/IllegalArgumentException" "java/lang/RuntimeException", Cond.methodLink "WordgardenLaw$Out" 1 ⟨"java/lang/Object", "<init>", "()V"⟩, Cond.classLink "WordgardenLaw" 19 "java/lang/IndexOutOfBoundsException", Cond.classLink "WordgardenLaw" 21 "java/lang/IllegalArgumentException", Cond.classLink "WordgardenLaw" 69 "java/lang/IllegalStateException", Cond.classLink "Wordgarden" 301 "java/lang/IllegalStateException", Cond.instantiable "java/lang/IllegalStateException" 6, Cond.selects "java/lang/IllegalStateException" ⟨"java/lang/Throwable", "fillInStackTrace", "(I)Ljava/lang/Throwable;"⟩ ⟨"java/lang/Throwable", "fillInStackTrace", "(I)Ljava/lang/Throwable;"⟩, Cond.lays "java/lang/IllegalStateException" "java/lang/Throwable" "cause" "Ljava/lang/Throwable;", Cond.lays "java/lang/IllegalStateException" "java/lang/Throwable" "stackTrace" "[Ljava/lang/StackTraceElement;", Cond.lays "java/lang/IllegalStateException" "java/lang/Throwable" "suppressedExceptions" "Ljava/util/List;", Cond.lays "java/lang/IllegalStateException" "java/lang/Throwable" "detailMessage" "Ljava/lang/String;", Cond.lays "java/lang/IllegalStateException" "java/lang/Throwable" "backtrace" "Ljava/lang/Object;", Cond.methodLink "Wordgarden" 305 ⟨"java/lang/IllegalStateException", "<init>", "(Ljava/lang/String;)V"⟩, Cond.instanceMethod ⟨"java/lang/IllegalStateException", "<init>", "(Ljava/lang/String;)V"⟩, Cond.code ⟨"java/lang/IllegalStateException", "<init>", "(Ljava/lang/String;)V"⟩ prog_14_method_2_code 2 (none : Option Jvm.ClassFile.FieldType), Cond.methodLink "java/lang/IllegalStateException" 7 ⟨"java/lang/RuntimeException", "<init>", "(Ljava/lang/String;)V"⟩, Cond.lays "java/lang/IllegalStateException" "java/lang/Throwable" "depth" "I", Cond.superclass "java/lang/IllegalStateException" "java/lang/RuntimeException", Cond.methodLink "java/lang/AbstractStringBuilder" 3 ⟨"java/lang/Object", "<init>", "()V"⟩, Cond.methodLink "java/lang/String" 1 ⟨"java/lang/Object", "<init>", "()V"⟩, Cond.classLink "java/util/Arrays" 43 "java/lang/IllegalArgumentException", Cond.methodLink "java/util/Arrays" 65 ⟨"java/lang/IllegalArgumentException", "<init>", "(Ljava/lang/String;)V"⟩, Cond.methodLink "WordgardenModel" 1 ⟨"java/lang/Object", "<init>", "()V"⟩, Cond.sameMethod "java/lang/Throwable" "java/lang/Throwable" "fillInStackTrace" "(I)Ljava/lang/Throwable;"]
theorem gaHat_sub : gaSub gaHat lw_tbl = true := by decide +kernel
theorem hfit_O : Bundle.fit "java/lang/IndexOutOfBoundsException" = true := by decide +kernel
theorem hat1_O : ∀ w ∈ (vx_atS RX5 289 "java/lang/IndexOutOfBoundsException" gxNames).filter goodWord, w ∈ gaW := fun w hw => gaW_of (gaSub_mem _ _ gaHat_sub w ((by decide +kernel : ∀ w ∈ (vx_atS RX5 289 "java/lang/IndexOutOfBoundsException" gxNames).filter goodWord, w ∈ gaHat) w hw)) (List.mem_filter.mp hw).2
theorem hat2_O : ∀ w ∈ (vx_atS RX5 289 "java/lang/IndexOutOfBoundsException" gxNames).filter (fun w => !goodWord w), w ∈ gaNests := by decide +kernel
theorem hgood_O : ∀ w ∈ Cond.classLink RX5 285 "java/lang/IndexOutOfBoundsException" :: Cond.initialized "java/lang/IndexOutOfBoundsException" :: vx_atS RX5 289 "java/lang/IndexOutOfBoundsException" gxNames, vx_ot w = true := by decide +kernel
theorem hfit_A : Bundle.fit "java/lang/IllegalArgumentException" = true := by decide +kernel
theorem hat1_A : ∀ w ∈ (vx_atS RX5 300 "java/lang/IllegalArgumentException" gxNames).filter goodWord, w ∈ gaW := fun w hw => gaW_of (gaSub_mem _ _ gaHat_sub w ((by decide +kernel : ∀ w ∈ (vx_atS RX5 300 "java/lang/IllegalArgumentException" gxNames).filter goodWord, w ∈ gaHat) w hw)) (List.mem_filter.mp hw).2
theorem hat2_A : ∀ w ∈ (vx_atS RX5 300 "java/lang/IllegalArgumentException" gxNames).filter (fun w => !goodWord w), w ∈ gaNests := by decide +kernel
theorem hgood_A : ∀ w ∈ Cond.classLink RX5 296 "java/lang/IllegalArgumentException" :: Cond.initialized "java/lang/IllegalArgumentException" :: vx_atS RX5 300 "java/lang/IllegalArgumentException" gxNames, vx_ot w = true := by decide +kernel
theorem hfit_S : Bundle.fit "java/lang/IllegalStateException" = true := by decide +kernel
theorem hat1_S : ∀ w ∈ (vx_atS RX5 305 "java/lang/IllegalStateException" gxNames).filter goodWord, w ∈ gaW := fun w hw => gaW_of (gaSub_mem _ _ gaHat_sub w ((by decide +kernel : ∀ w ∈ (vx_atS RX5 305 "java/lang/IllegalStateException" gxNames).filter goodWord, w ∈ gaHat) w hw)) (List.mem_filter.mp hw).2
theorem hat2_S : ∀ w ∈ (vx_atS RX5 305 "java/lang/IllegalStateException" gxNames).filter (fun w => !goodWord w), w ∈ gaNests := by decide +kernel
theorem hgood_S : ∀ w ∈ Cond.classLink RX5 301 "java/lang/IllegalStateException" :: Cond.initialized "java/lang/IllegalStateException" :: vx_atS RX5 305 "java/lang/IllegalStateException" gxNames, vx_ot w = true := by decide +kernel
/-! What the JDK's own methods ask for beside: a text of the class, copies of byte arrays, casts. -/
def gCL (h : gaH) (a t : Nat) (c s : Nat) (K : Nat → gaH → Nat → Nat → Prop) : Prop := ∃ vs : List Value, h a = some (t, vs) ∧ (∀ v ∈ vs, fits (gaTy t) v = true) ∧ 1 ≤ c ∧ vs.length ≤ s ∧ ∀ q : Nat, h q = none → ∃ c2 s2, c2 = c - 1 ∧ s2 = s - vs.length ∧ K q (gaUp h q (t, vs)) c2 s2
/-- what lies at a place behind a copy -/
def gCi (vs ws : List Value) (sp dp n i : Nat) : Option Value := if dp ≤ i ∧ i < dp + n then vs[sp + (i - dp)]? else ws[i]?
/-- what is copied is told by its length, by what its values are, and place by place -/
def gCP (h : gaH) (a0 a t : Nat) (sp dp n : Int) (K : gaH → Prop) : Prop := ∃ vs ws : List Value, h a0 = some (t, vs) ∧ h a = some (t, ws) ∧ 0 ≤ sp ∧ 0 ≤ dp ∧ 0 ≤ n ∧ sp + n ≤ 2147483647 ∧ dp + n ≤ 2147483647 ∧ sp + n ≤ (vs.length : Int) ∧ dp + n ≤ (ws.length : Int) ∧ (∀ v ∈ vs, fits (gaTy t) v = true) ∧ ∀ us : List Value, us.length = ws.length → ((∀ v ∈ us, v ∈ vs ∨ v ∈ ws) ∧ ∀ i, us[i]? = gCi vs ws sp.toNat dp.toNat n.toNat i) → K (gaUp h a (t, us))
theorem ga_pairs : ∀ (xs : List (Value × Nat)) (c : Cell) (at_ : Nat) (P : Value → Prop), (∀ v ∈ c.slots.toList, P v) → (∀ q ∈ xs, P q.1) → ∀ v ∈ (c.storePairs at_ xs).slots.toList, P v
  | [], c, at_, P, h1, h2 => h1
  | x :: xs, c, at_, P, h1, h2 => by
    show ∀ v ∈ ((c.setSlot (at_ + x.2) x.1).storePairs at_ xs).slots.toList, P v
    refine ga_pairs xs _ at_ P ?_ (fun q hq => h2 q (List.mem_cons_of_mem _ hq))
    intro v hv
    have e : (c.setSlot (at_ + x.2) x.1).slots.toList = c.slots.toList.set (at_ + x.2) x.1 := by simp [Cell.setSlot]
    rw [e] at hv
    rcases List.mem_or_eq_of_mem_set hv with q | q
    · exact h1 v q
    · rw [q]; exact h2 x List.mem_cons_self
theorem ga_pairs_at : ∀ (ws : List Value) (j : Nat) (c : Cell) (at_ i : Nat), at_ + j + ws.length ≤ c.slots.size → (c.storePairs at_ (ws.zipIdx j)).slots.toList[i]? = if at_ + j ≤ i ∧ i < at_ + j + ws.length then ws[i - (at_ + j)]? else c.slots.toList[i]?
  | [], j, c, at_, i, _ => by
    rw [if_neg (by rw [List.length_nil]; omega)]
    rfl
  | w :: ws, j, c, at_, i, h => by
    show ((c.setSlot (at_ + j) w).storePairs at_ (ws.zipIdx (j + 1))).slots.toList[i]? = _
    simp only [List.length_cons] at h ⊢
    have e : (c.setSlot (at_ + j) w).slots.toList = c.slots.toList.set (at_ + j) w := by simp [Cell.setSlot]
    have es : (c.setSlot (at_ + j) w).slots.size = c.slots.size := by simp [Cell.setSlot]
    rw [ga_pairs_at ws (j + 1) _ at_ i (by rw [es]; omega), e]
    by_cases q : i = at_ + j
    · subst q
      rw [if_neg (by omega), if_pos (by omega), Nat.sub_self, List.getElem?_set_self (by simp; omega)]
      rfl
    · rw [List.getElem?_set_ne (Ne.symm q)]
      by_cases q2 : at_ + j + 1 ≤ i ∧ i < at_ + j + 1 + ws.length
      · rw [if_pos (by omega), if_pos (by omega)]
        obtain ⟨d, rfl⟩ : ∃ d, i = at_ + j + 1 + d := ⟨i - (at_ + j + 1), by omega⟩
        rw [show at_ + j + 1 + d - (at_ + (j + 1)) = d by omega, show at_ + j + 1 + d - (at_ + j) = d + 1 by omega]
        rfl
      · rw [if_neg (by omega), if_neg (by omega)]
section GAJ
variable {p : Program} {l : Launch} {e : Env} {R : Room} {s : State} {m : MethodId} {args : Array Value} {below : List Frame} {meth : Method} {c : Code} {G : gaG} {cc : ByteArray} {own : String} {nL : Nat} {ret : Option FieldType} {nm : String} {Z : State → Prop}
variable {pc n : Nat} {lv : List (Option Value)} {st : List Value} {h : gaH} {k j : Nat}
theorem g_ldcS (V : gaV p l s m args meth c G cc own nL gaW ret nm) {i sa : Nat} {text : String} (hstr : (own, i, text, sa) ∈ gaStrs) (d : decode cc pc = .ok (.ldc i, 2)) (hn : pc + 2 = n)
    (kk : gaP p l e R s m args below meth c G nL Z n lv (.ref (G.2.2.2 sa) :: st) h k j) : gaP p l e R s m args below meth c G nL Z pc lv st h k j := by
  subst hn
  intro H locs ls cells slots hR hS hL h1 h2
  exact va_ldcS V.1 V.2.1 V.2.2.2.1 (V.2.2.2.2.2.2.2.2.2.1.2.2.2.2.2.1 _ hstr) d (kk H locs ls cells slots hR hS hL h1 h2)
theorem g_clone (V : gaV p l s m args meth c G cc own nL gaW ret nm) {index a : Nat} {vs : List Value} (w1 : Cond.methodLink own index ⟨"[B", "clone", "()Ljava/lang/Object;"⟩ ∈ gaW) (w2 : Cond.sameMethod "[B" "java/lang/Object" "clone" "()Ljava/lang/Object;" ∈ gaW)
    (w3 : Cond.native ⟨"java/lang/Object", "clone", "()Ljava/lang/Object;"⟩ ∈ gaW) (w4 : Cond.instanceMethod ⟨"java/lang/Object", "clone", "()Ljava/lang/Object;"⟩ ∈ gaW) (w5 : Cond.selects "[B" ⟨"[B", "clone", "()Ljava/lang/Object;"⟩ ⟨"java/lang/Object", "clone", "()Ljava/lang/Object;"⟩ ∈ gaW)
    (w6 : Cond.castable "[B" "java/lang/Cloneable" ∈ gaNests) (hfr : 1 ≤ R.frames) (hlo : 40 ≤ R.locals) (hcat : (st.map fun v => v.category).sum ≤ 8)
    (ha : h a = some (101, vs)) (hfit : ∀ v ∈ vs, fits (gaTy 101) v = true) (d : decode cc pc = .ok (.invokevirtual index, 3)) (hn : pc + 3 = n) (hk : 1 ≤ k) (hj : vs.length ≤ j)
    (kk : ∀ q : Nat, h q = none → gaP p l e R s m args below meth c G nL Z n lv (.ref q :: st) (gaUp h q (101, vs)) (k - 1) (j - vs.length)) : gaP p l e R s m args below meth c G nL Z pc lv (.ref a :: st) h k j := by
  subst hn
  intro H locs ls cells slots hR hS hL h1 h2
  have hts := V.2.2.2.2.1
  have hF := V.2.2.2.2.2.2.2.2.2.1
  obtain ⟨g1, hB⟩ := hR.mine ha (by decide) (by decide)
  obtain ⟨kA, comp, f1, f2, f3, f4⟩ := hF.2.1 101 (by simp [gaT])
  have f1 : s.vm.findClass "[B" = some (G.2.1 101) := f1
  obtain ⟨c0, t0, q1, q2, q3⟩ := Cond.castable_spec (va_Nw.use (A := args) rfl (hF.2.2.2.2.2.2.1 _ w6))
  cases f1.symm.trans q1
  intro T hT X
  obtain ⟨vm', X', stp⟩ := X.cloneArray V.1 V.2.2.2.1 (hts _ w1) (hts _ w2) (hts _ w3) (hts _ w4) (hts _ w5) (a := a) (cell := { cls := G.2.1 101, slots := vs.toArray, vm := .none }) (by rw [hT]; exact g1) (fun k h => by cases h) (fun h => by cases h) f1 q2 q3
    (fun i v hv => by
      obtain ⟨kB, hkB, heB⟩ := X.warmed.alike.2.2 _ _ f2
      have hkk : kB.kind = .array comp (gaTy 101) := by rw [heB]; exact f3
      have hm : v ∈ vs := by
        have := List.mem_of_getElem? (l := vs) (i := i) (a := v) (by simpa using hv)
        exact this
      simpa [State.fitsSlot, State.slotType?, hkB, hkk] using hfit v hm)
    (g := F0 m pc ls (.ref a :: st)) rfl (by show ls.size = _; rw [V.2.2.1]; exact hL.1) rfl (by rw [V.2.1]; exact d) hfr (by show 2 * 0 + _ + 14 ≤ _; omega) (by omega) (by show slots + vs.toArray.size ≤ _; simp; omega) (hloader := Vm.clonesLoader_of_array f2 f3)
  obtain ⟨t, b1, b2⟩ := kk H.size hR.fresh (H.push { cls := G.2.1 101, slots := vs.toArray, vm := .none }) locs ls (cells + 1) (slots + vs.length) (hR.set (show 101 < 1000 by decide) (hF.le hS) ⟨fun q => by dsimp only at q; omega, fun _ => by simp⟩ (fun q _ hq => by rw [Array.getElem?_push, if_neg (Nat.ne_of_lt hq)]))
    (hS.grow (by simp) (fun q hq => by rw [Array.getElem?_push, if_neg (Nat.ne_of_lt hq)])) hL (by omega) (by omega) ((T.setVm vm').pushCell { cls := G.2.1 101, slots := vs.toArray }) (by show T.heap.push _ = _; rw [hT]) X'
  exact ⟨t, stp t (by rw [hT]; exact b1), b2⟩
theorem g_castB (V : gaV p l s m args meth c G cc own nL gaW ret nm) {index a : Nat} {vs : List Value} (w1 : Cond.classLink own index "[B" ∈ gaW) (ha : h a = some (101, vs)) (d : decode cc pc = .ok (.checkcast index, 3)) (hn : pc + 3 = n)
    (kk : gaP p l e R s m args below meth c G nL Z n lv (.ref a :: st) h k j) : gaP p l e R s m args below meth c G nL Z pc lv (.ref a :: st) h k j := by
  subst hn
  intro H locs ls cells slots hR hS hL h1 h2
  have hts := V.2.2.2.2.1
  have hF := V.2.2.2.2.2.2.2.2.2.1
  obtain ⟨g1, hB⟩ := hR.mine ha (by decide) (by decide)
  obtain ⟨kA, comp, f1, f2, f3, f4⟩ := hF.2.1 101 (by simp [gaT])
  have f1 : s.vm.findClass "[B" = some (G.2.1 101) := f1
  intro T hT X
  obtain ⟨vm', X', stp⟩ := X.checkcastYes V.1 V.2.2.2.1 (hts _ w1) (by rw [hT]; exact g1) rfl f1 (ga_asg _ _) (g := F0 m pc ls (.ref a :: st)) rfl rfl (by rw [V.2.1]; exact d)
  obtain ⟨t, a1, b1⟩ := kk H locs ls cells slots hR hS hL h1 h2 (T.setVm vm') hT X'
  exact ⟨t, stp t a1, b1⟩
theorem ga_le3 {a b c : Nat} (h1 : a ≤ 8) (h2 : b ≤ 50) (h3 : 60 ≤ c) : 2 * 0 + a + b ≤ c := by omega
theorem ga_nfw : nativeFrameWords "java/lang/System" "arraycopy" 5 + 11 ≤ 50 := by decide +kernel
theorem g_acopy (V : gaV p l s m args meth c G cc own nL gaW ret nm) {index a0 a : Nat} {vs xs : List Value} {sp dp m0 : Int} (w1 : Cond.methodLink own index arraycopyName ∈ gaW) (w2 : Cond.native arraycopyName ∈ gaW) (w3 : Cond.static arraycopyName ∈ gaW) (w4 : Cond.initialized "java/lang/System" ∈ gaW)
    (hfr : 1 ≤ R.frames) (hlo : 60 ≤ R.locals) (hcat : (st.map fun v => v.category).sum ≤ 8) (hne : a0 ≠ a) (ha0 : h a0 = some (101, vs)) (ha : h a = some (101, xs)) (z1 : 0 ≤ sp) (z2 : 0 ≤ dp) (z3 : 0 ≤ m0) (z4 : sp + m0 ≤ 2147483647) (z5 : dp + m0 ≤ 2147483647) (z6 : sp + m0 ≤ (vs.length : Int)) (z7 : dp + m0 ≤ (xs.length : Int))
    (hfit : ∀ v ∈ vs, fits (gaTy 101) v = true) (d : decode cc pc = .ok (.invokestatic index, 3)) (hn : pc + 3 = n)
    (kk : ∀ us : List Value, us.length = xs.length → ((∀ v ∈ us, v ∈ vs ∨ v ∈ xs) ∧ ∀ i, us[i]? = gCi vs xs sp.toNat dp.toNat m0.toNat i) → gaP p l e R s m args below meth c G nL Z n lv st (gaUp h a (101, us)) k j) : gaP p l e R s m args below meth c G nL Z pc lv (gi m0 :: gi dp :: .ref a :: gi sp :: .ref a0 :: st) h k j := by
  subst hn
  intro H locs ls cells slots hR hS hL h1 h2
  have hts := V.2.2.2.2.1
  have hF := V.2.2.2.2.2.2.2.2.2.1
  obtain ⟨g0, hB0⟩ := hR.mine ha0 (by decide) (by decide)
  obtain ⟨g1, hB⟩ := hR.mine ha (by decide) (by decide)
  obtain ⟨kA, comp, f1, f2, f3, f4⟩ := hF.2.1 101 (by simp [gaT])
  have e1 := gi_clamp z1 (show sp ≤ 2147483647 by omega)
  have e2 := gi_clamp z2 (show dp ≤ 2147483647 by omega)
  have e3 := gi_clamp z3 (show m0 ≤ 2147483647 by omega)
  have i1 := gi_to (show gR sp from ⟨by omega, by omega⟩)
  have i2 := gi_to (show gR dp from ⟨by omega, by omega⟩)
  have i3 := gi_to (show gR m0 from ⟨by omega, by omega⟩)
  have hin : ∀ i, i < m0.toNat → vs.toArray.getD (sp.toNat + i) .null ∈ vs := by
    intro i hi
    have hlt : sp.toNat + i < vs.length := by omega
    rw [Array.getD_eq_getD_getElem?, List.getElem?_toArray, List.getElem?_eq_getElem hlt]
    exact List.getElem_mem hlt
  intro T hT X
  obtain ⟨vm', X', stp⟩ := X.arraycopy V.1 V.2.2.2.1 (hts _ w1) (hts _ w2) (hts _ w3) (hts _ w4) (src := a0) (dst := a) (cs := { cls := G.2.1 101, slots := vs.toArray, vm := .none }) (cd := { cls := G.2.1 101, slots := xs.toArray, vm := .none }) (srcPos := Int32.ofInt sp) (destPos := Int32.ofInt dp) (n := Int32.ofInt m0)
    (by rw [hT]; exact g0) (by rw [hT]; exact g1) (fun _ h => by cases h) (fun _ h => by cases h) (fun h => by cases h) (fun h => by cases h) f2 f2 f3 f3 (by decide) (gi_nn z1 (by omega)) (gi_nn z2 (by omega)) (gi_nn z3 (by omega))
    (by rw [i1, i3]; show ¬ _ > ((vs.toArray.size : Nat) : Int); simp; omega) (by rw [i2, i3]; show ¬ _ > ((xs.toArray.size : Nat) : Int); simp; omega)
    (fun vm₁ _ i hi => by
      rw [e3] at hi
      rw [e1]
      have hm := hin i hi
      have hf := hfit _ hm
      refine ⟨hf, ?_⟩
      show State.takes _ _ (vs.toArray.getD (sp.toNat + i) .null)
      generalize vs.toArray.getD (sp.toNat + i) .null = v at hf
      cases v <;> first | exact trivial | (exfalso; revert hf; simp [gaTy, fits]))
    (g := F0 m pc ls (gi m0 :: gi dp :: .ref a :: gi sp :: .ref a0 :: st)) rfl (by show ls.size = _; rw [V.2.2.1]; exact hL.1) (rest := st) rfl (by rw [V.2.1]; exact d) hfr (ga_le3 hcat ga_nfw hlo)
  obtain ⟨u1, u2, u3, u4, u5⟩ := Cell.storePairs_facts { cls := G.2.1 101, slots := xs.toArray, vm := .none } (Int32.ofInt dp).toNatClampNeg (({ cls := G.2.1 101, slots := vs.toArray, vm := .none } : Cell).stretch (Int32.ofInt sp).toNatClampNeg (Int32.ofInt m0).toNatClampNeg).zipIdx
  have hcell : copied { cls := G.2.1 101, slots := vs.toArray, vm := .none } { cls := G.2.1 101, slots := xs.toArray, vm := .none } (Int32.ofInt sp) (Int32.ofInt dp) (Int32.ofInt m0) = ({ cls := G.2.1 101, slots := xs.toArray, vm := .none } : Cell).storePairs (Int32.ofInt dp).toNatClampNeg (({ cls := G.2.1 101, slots := vs.toArray, vm := .none } : Cell).stretch (Int32.ofInt sp).toNatClampNeg (Int32.ofInt m0).toNatClampNeg).zipIdx := rfl
  have hall : ∀ v ∈ (({ cls := G.2.1 101, slots := xs.toArray, vm := .none } : Cell).storePairs (Int32.ofInt dp).toNatClampNeg (({ cls := G.2.1 101, slots := vs.toArray, vm := .none } : Cell).stretch (Int32.ofInt sp).toNatClampNeg (Int32.ofInt m0).toNatClampNeg).zipIdx).slots.toList, v ∈ vs ∨ v ∈ xs := by
    refine ga_pairs _ _ _ (fun v => v ∈ vs ∨ v ∈ xs) (fun v hv => Or.inr (by simpa using hv)) ?_
    rintro ⟨v, i⟩ hq
    have hv := List.fst_mem_of_mem_zipIdx hq
    unfold Cell.stretch at hv
    obtain ⟨i2, hi2, rfl⟩ := List.mem_map.mp hv
    have := List.mem_range.mp hi2
    rw [e3] at this
    rw [e1]
    exact Or.inl (hin i2 this)
  have hat : ∀ i, (({ cls := G.2.1 101, slots := xs.toArray, vm := .none } : Cell).storePairs (Int32.ofInt dp).toNatClampNeg (({ cls := G.2.1 101, slots := vs.toArray, vm := .none } : Cell).stretch (Int32.ofInt sp).toNatClampNeg (Int32.ofInt m0).toNatClampNeg).zipIdx).slots.toList[i]? = gCi vs xs sp.toNat dp.toNat m0.toNat i := by
    intro i
    have hl : (({ cls := G.2.1 101, slots := vs.toArray, vm := .none } : Cell).stretch (Int32.ofInt sp).toNatClampNeg (Int32.ofInt m0).toNatClampNeg).length = m0.toNat := by
      unfold Cell.stretch
      rw [List.length_map, List.length_range, e3]
    rw [ga_pairs_at _ 0 _ _ i (by rw [hl, e2]; show _ ≤ xs.toArray.size; simp; omega), hl, e2]
    show (if dp.toNat + 0 ≤ i ∧ i < dp.toNat + 0 + m0.toNat then _ else xs[i]?) = _
    unfold gCi
    by_cases q : dp.toNat ≤ i ∧ i < dp.toNat + m0.toNat
    · rw [if_pos (by omega), if_pos q]
      unfold Cell.stretch
      rw [List.getElem?_map, List.getElem?_range (by rw [e3]; omega), e1]
      show some (vs.toArray.getD (sp.toNat + (i - (dp.toNat + 0))) .null) = _
      have hlt : sp.toNat + (i - dp.toNat) < vs.length := by omega
      rw [Nat.add_zero, Array.getD_eq_getD_getElem?, List.getElem?_toArray, List.getElem?_eq_getElem hlt]
      rfl
    · rw [if_neg (by omega), if_neg q]
  rw [hcell] at X' stp
  generalize ({ cls := G.2.1 101, slots := xs.toArray, vm := .none } : Cell).storePairs (Int32.ofInt dp).toNatClampNeg (({ cls := G.2.1 101, slots := vs.toArray, vm := .none } : Cell).stretch (Int32.ofInt sp).toNatClampNeg (Int32.ofInt m0).toNatClampNeg).zipIdx = cn at X' stp u1 u2 u3 u4 u5 hall hat
  have hcn : cn = { cls := G.2.1 101, slots := cn.slots.toList.toArray, vm := .none } := by
    cases cn
    simp at u1 u2 u4 u5
    subst u1 u2 u4 u5
    rfl
  have hlen : cn.slots.toList.length = xs.length := by simpa using u3
  have hl : a < H.size := (Array.getElem?_eq_some_iff.mp g1).1
  have oq : ∀ q : Nat, q ≠ a → (H.setIfInBounds a cn)[q]? = H[q]? := fun q hq => by simp [Array.getElem?_setIfInBounds, Ne.symm hq]
  obtain ⟨t, b1, b2⟩ := kk cn.slots.toList hlen ⟨hall, hat⟩ (H.setIfInBounds a cn) _ ls cells slots (hR.set (show 101 < 1000 by decide) hB ⟨fun q => by dsimp only at q; omega, fun _ => by rw [← hcn]; simp [Array.getElem?_setIfInBounds, hl]⟩ (fun q hq _ => oq q hq))
    ⟨by simp; exact hS.1, fun q q1 q2 => by
      rw [oq q (fun e9 => q2 (by rw [e9]; exact hB))]
      exact hS.2.1 q q1 q2, fun q hq => by
      rcases List.mem_append.mp hq with h | h
      · exact hS.2.2 q h
      · obtain ⟨z, -, hz⟩ := List.mem_map.mp h
        rw [← hz]
        exact hB⟩ hL h1 h2 _ (by show T.heap.setIfInBounds a cn = _; rw [hT]) X'
  exact ⟨t, stp t b1, b2⟩
theorem g_instO (V : gaV p l s m args meth c G cc own nL gaW ret nm) {C : String} {T : u_T} {N ci index a : Nat} {fs : List Value} (w1 : Cond.classLink own index C ∈ gaW) (hc : vwCl[ci]? = some (C, T, N)) (hci : ci < 100) (ha : h a = some (ci, fs)) (d : decode cc pc = .ok (.instanceof index, 3)) (hn : pc + 3 = n)
    (kk : gaP p l e R s m args below meth c G nL Z n lv (gi 1 :: st) h k j) : gaP p l e R s m args below meth c G nL Z pc lv (.ref a :: st) h k j := by
  subst hn
  intro H locs ls cells slots hR hS hL h1 h2
  exact va_instE V.1 V.2.1 V.2.2.2.1 (V.2.2.2.2.1 _ w1) (gaRecv V hR hc hci ha) d (kk H locs ls cells slots hR hS hL h1 h2)
theorem g_castO (V : gaV p l s m args meth c G cc own nL gaW ret nm) {C : String} {T : u_T} {N ci index a : Nat} {fs : List Value} (w1 : Cond.classLink own index C ∈ gaW) (hc : vwCl[ci]? = some (C, T, N)) (hci : ci < 100) (ha : h a = some (ci, fs)) (d : decode cc pc = .ok (.checkcast index, 3)) (hn : pc + 3 = n)
    (kk : gaP p l e R s m args below meth c G nL Z n lv (.ref a :: st) h k j) : gaP p l e R s m args below meth c G nL Z pc lv (.ref a :: st) h k j := by
  subst hn
  intro H locs ls cells slots hR hS hL h1 h2
  exact va_castE V.1 V.2.1 V.2.2.2.1 (V.2.2.2.2.1 _ w1) (gaRecv V hR hc hci ha) d (kk H locs ls cells slots hR hS hL h1 h2)
theorem g_acmp_ne (V : gaV p l s m args meth c G cc own nL gaW ret nm) {x y : Nat} {off : Int} {t : Nat} (d : decode cc pc = .ok (.if_acmp .ne off, 3)) (ht : (pc : Int) + off = (t : Int)) (kt : ¬ x = y → gaP p l e R s m args below meth c G nL Z t lv st h k j) (kf : x = y → gaP p l e R s m args below meth c G nL Z (pc + 3) lv st h k j) : gaP p l e R s m args below meth c G nL Z pc lv (.ref y :: .ref x :: st) h k j := by
  intro H locs ls cells slots hR hS hL h1 h2
  exact lv_acmp_ne (rx := some x) (ry := some y) V.1 V.2.1 d ht (fun q => kt (fun e => q (by rw [e])) H locs ls cells slots hR hS hL h1 h2) (fun q => kf (Option.some.inj q) H locs ls cells slots hR hS hL h1 h2)
/-- a method of the class above that the receiver's class has made anew -/
theorem g_callO (V : gaV p l s m args meth c G cc own nL gaW ret nm) {x y : MethodName} {C owner : String} {T : u_T} {N ci b index maxL nP : Nat} {fs : List Value} {bytes : ByteArray} {retf : Option FieldType} {rm : Room} {As st0 : List Value} {Q2 : Option Value → gaH → Prop} {X2 : String → gaH → Prop} {b0 : ByteArray} {m0 : Nat} {r0 : Option FieldType}
    (hM : gaC l G y (gaM y bytes maxL retf) rm (.ref b :: As) h Q2 X2) (w1 : Cond.methodLink own index x ∈ gaW) (w6 : Cond.sameMethod x.cls owner x.name x.desc ∈ gaW) (w8 : Cond.instanceMethod ⟨owner, x.name, x.desc⟩ ∈ gaW) (w2 : Cond.instanceMethod y ∈ gaW) (w3 : Cond.selects C x y ∈ gaW) (w4 : Cond.initialized y.cls ∈ gaW) (w5 : Cond.code y bytes maxL retf ∈ gaW) (w7 : Cond.code ⟨owner, x.name, x.desc⟩ b0 m0 r0 ∈ gaW)
    (hd : owner ≠ "java/lang/invoke/MethodHandle" ∧ owner ≠ "java/lang/invoke/VarHandle" ∧ (parseMethodDescriptor x.desc).map (fun d => d.parameters.length) = some nP) (hRm : rm.frames + 1 ≤ R.frames ∧ 8 + (maxL + 11) + rm.locals ≤ R.locals)
    (hc : vwCl[ci]? = some (C, T, N)) (hci : ci < 100) (hb : h b = some (ci, fs)) (hnp : As.length = nP) (hst : st0 = As.reverse ++ .ref b :: st) (hcat : (st.map fun v => v.category).sum ≤ 8) (d : decode cc pc = .ok (.invokevirtual index, 3)) (hk : rm.cells ≤ k) (hj : rm.slots ≤ j) (hn : pc + 3 = n) (hX : ∀ E h', X2 E h' → gaO p l e R s m args below meth c G nL Z pc lv E h' (k - rm.cells) (j - rm.slots))
    (kk : ∀ v h', Q2 v h' → gaP p l e R s m args below meth c G nL Z n lv (v.toList ++ st) h' (k - rm.cells) (j - rm.slots)) : gaP p l e R s m args below meth c G nL Z pc lv st0 h k j := by
  subst hn
  subst hst
  intro H locs ls cells slots hR hS hL h1 h2
  exact gaAfter V (vx_runU (As := As) (rest := st) ⟨V.1, V.2.1, V.2.2.1, V.2.2.2.1, V.2.2.2.2.1⟩ hM (va_cwO nP V.2.2.2.2.1 (gaIn (by unfold va_wsO; exact gaIn1 w1 (gaIn1 w6 (gaIn1 w8 (gaIn1 w3 (gaIn1 w2 (gaIn1 w4 (gaIn1 w5 gaIn0)))))))) rfl rfl rfl w7 hd hRm) ⟨gaBlind _, gaRecv V hR hc hci hb, gaPre V hR hS _⟩ rfl hnp hL.1 rfl (lv_room hcat) d ⟨by omega, by omega⟩) hS hL h1 h2 hk hj hX kk
end GAJ
section GAL
variable {p : Program} {l : Launch} {e : Env} {R : Room} {s : State} {m : MethodId} {args : Array Value} {below : List Frame} {meth : Method} {c : Code} {G : gaG} {cc : ByteArray} {own : String} {nL : Nat} {ws : List Cond} {ret : Option FieldType} {nm : String} {Z : State → Prop}
variable {pc n : Nat} {lv : List (Option Value)} {st : List Value} {h : gaH} {k j : Nat}
/-- a method with a table of exceptions: its words -/
abbrev gaMW (y : MethodName) (cc : ByteArray) (nL : Nat) (ret : Option FieldType) (hh : List (Nat × Nat × Nat × Nat)) : List Cond := .codeWith y cc nL ret hh :: gaW
theorem gaO_catch (V : gaV p l s m args meth c G cc own nL gaW ret nm) {E name : String} {tb : List ExceptionTableEntry} (hT : c.exceptionTable.toList = tb) (pre : List ExceptionTableEntry) (x : ExceptionTableEntry) (suf : List ExceptionTableEntry) (hsplit : tb = pre ++ x :: suf)
    (hpass : ∀ z ∈ pre, z.catchType ≠ 0 ∧ ∃ nm : String, Cond.classLink own z.catchType nm ∈ gaW ∧ (E, nm) ∈ gaNcs) (hx : covers x pc = true) (h0 : x.catchType ≠ 0) (hlink : Cond.classLink own x.catchType name ∈ gaW) (hcast : Cond.castable E name ∈ gaNests)
    {t : Nat} (ht : x.handlerPc = t) (kk : ∀ q : Nat, gaP p l e R s m args below meth c G nL Z t lv [.ref q] h k j) : gaO p l e R s m args below meth c G nL Z pc lv E h k j := by
  subst ht
  intro H locs ls rest cells slots q ce hR hS hL h1 h2 hce hcv hcl
  have hts := V.2.2.2.2.1
  have hF := V.2.2.2.2.2.2.2.2.2.1
  exact vx_catch V.2.2.2.1 pre x suf (hT.trans hsplit) (fun z hz => by
    obtain ⟨z0, nm9, z1, z2⟩ := hpass z hz
    exact Or.inr ⟨z0, nm9, hts _ z1, hF.2.2.2.2.2.2.2.1 _ z2⟩) hx h0 (hts _ hlink) (va_Nw.use rfl (hF.2.2.2.2.2.2.1 _ hcast)) hce hcv hcl (kk q H locs ls cells slots hR hS hL h1 h2)
theorem g_startW {l : Launch} {G : gaG} {y : MethodName} {cc : ByteArray} {nL : Nat} {ret : Option FieldType} {hh : List (Nat × Nat × Nat × Nat)} {rm : Room} {av : List Value} {h : gaH} {Q : Option Value → gaH → Prop} {X : String → gaH → Prop} (hy : plainName y.cls = true) (hst : l.stackTraces = false) (hav : (lg_sl av).length ≤ nL) {lv : List (Option Value)} (hlv : ∀ (i : Nat) (v : Value), lv[i]? = some (some v) → (i, v) ∈ lv_args 0 av) (w : Cond.codeWith y cc nL ret hh ∈ gaW)
    (body : ∀ (p : Program) (e : Env) (s : State) (m : MethodId) (args : Array Value) (below : List Frame) (meth : Method) (c : Code), gaV p l s m args meth c G cc y.cls nL gaW ret y.name → c.exceptionTable.toList = tableOf hh → gaP p l e rm s m args below meth c G nL (gaZ below G Q X args s rm) 0 lv [] h rm.cells rm.slots) : gaC l G y (gaMW y cc nL ret hh) rm av h Q X := by
  refine vx_ofWH (cc := cc) (maxL := nL) (ret := ret) (hh := hh) hy rfl ?_
  intro p e s m args below meth c s₁ B hml hv
  obtain ⟨rfl, hR, hF⟩ := hv
  have hts := atoms_spec (ws := gaMW y cc nL ret hh) B.pre
  have htab := vx_table (x := y) B (hts _ List.mem_cons_self)
  have hle := lv_entry av (n := nL) hav
  rw [lg_entry_eq]
  exact body p e s m _ below meth c ⟨B.exec, B.bytes, hml, findClass_of_methodNamed B.named, fun w hw => hts w (List.mem_cons_of_mem _ hw), B.returns, B.notSynchronized, trivial, (name_of_methodNamed B.named B.method).1, hF, hst⟩ htab s.heap [] _ 0 0 hR va_S.rf ⟨hle.1, hle.2.1, fun i v hi => hle.2.2 (i, v) (hlv i v hi)⟩ (Nat.le_of_eq (Nat.zero_add _)) (Nat.le_of_eq (Nat.zero_add _))
theorem g_callSX (V : gaV p l s m args meth c G cc own nL gaW ret nm) {y : MethodName} {index maxL nP : Nat} {bytes : ByteArray} {retf : Option FieldType} {hh : List (Nat × Nat × Nat × Nat)} {rm : Room} {As st0 : List Value} {Q2 : Option Value → gaH → Prop} {X2 : String → gaH → Prop}
    (hM : gaC l G y (gaMW y bytes maxL retf hh) rm As h Q2 X2) (w1 : Cond.methodLink own index y ∈ gaW) (w2 : Cond.static y ∈ gaW) (w4 : Cond.initialized y.cls ∈ gaW) (w5 : Cond.codeWith y bytes maxL retf hh ∈ gaW)
    (hd : y.cls ≠ "java/lang/invoke/MethodHandle" ∧ y.cls ≠ "java/lang/invoke/VarHandle" ∧ (parseMethodDescriptor y.desc).map (fun d => d.parameters.length) = some nP) (hRm : rm.frames + 1 ≤ R.frames ∧ 8 + (maxL + 11) + rm.locals ≤ R.locals)
    (hnp : As.length = nP) (hst : st0 = As.reverse ++ st) (hcat : (st.map fun v => v.category).sum ≤ 8) (d : decode cc pc = .ok (.invokestatic index, 3)) (hk : rm.cells ≤ k) (hj : rm.slots ≤ j) (hn : pc + 3 = n) (hX : ∀ E h', X2 E h' → gaO p l e R s m args below meth c G nL Z pc lv E h' (k - rm.cells) (j - rm.slots))
    (kk : ∀ v h', Q2 v h' → gaP p l e R s m args below meth c G nL Z n lv (v.toList ++ st) h' (k - rm.cells) (j - rm.slots)) : gaP p l e R s m args below meth c G nL Z pc lv st0 h k j := by
  subst hn
  subst hst
  intro H locs ls cells slots hR hS hL h1 h2
  exact gaAfter V (vx_runSX (As := As) (rest := st) ⟨V.1, V.2.1, V.2.2.1, V.2.2.2.1, V.2.2.2.2.1⟩ hM (vx_cwSW nP V.2.2.2.2.1 (gaIn (by unfold va_wsS; exact gaIn1 w1 (gaIn1 w2 (gaIn1 w4 (gaIn1 w5 gaIn0))))) rfl rfl rfl hd hRm) ⟨gaBlind _, gaPre V hR hS _⟩ rfl hnp hL.1 rfl (lv_room hcat) d ⟨by omega, by omega⟩) hS hL h1 h2 hk hj hX kk
theorem g_pop2 (V : gaV p l s m args meth c G cc own nL ws ret nm) {v : Value} (d : decode cc pc = .ok (.pop2, 1)) (hv : v.category = 2) (hn : pc + 1 = n)
    (kk : gaP p l e R s m args below meth c G nL Z n lv st h k j) : gaP p l e R s m args below meth c G nL Z pc lv (v :: st) h k j := by
  subst hn
  intro H locs ls cells slots hR hS hL h1 h2
  exact lv_pop2_2 V.1 V.2.1 d hv (kk H locs ls cells slots hR hS hL h1 h2)
theorem gi_tableIn (V : gaV p l s m args meth c G cc own nL ws ret nm) {dflt lo hi : Int} {offs : Array Int} {len : Nat} {x v : Int} {off : Int} {t : Nat} (d : decode cc pc = .ok (.tableswitch dflt lo hi offs, len)) (hx : gR x) (hv : x = v) (h3 : ¬ v < lo) (h4 : ¬ hi < v) (ho : offs[(v - lo).toNat]? = some off) (ht : (pc : Int) + off = (t : Int))
    (kk : gaP p l e R s m args below meth c G nL Z t lv st h k j) : gaP p l e R s m args below meth c G nL Z pc lv (gi x :: st) h k j := by
  subst hv
  have e := gi_to hx
  exact g_tableIn V d (by rw [e]; exact h3) (by rw [e]; exact h4) (by rw [e]; exact ho) ht kk
theorem gi_tableOut (V : gaV p l s m args meth c G cc own nL ws ret nm) {dflt lo hi : Int} {offs : Array Int} {len : Nat} {x : Int} {t : Nat} (d : decode cc pc = .ok (.tableswitch dflt lo hi offs, len)) (hx : gR x) (h3 : x < lo ∨ hi < x) (ht : (pc : Int) + dflt = (t : Int))
    (kk : gaP p l e R s m args below meth c G nL Z t lv st h k j) : gaP p l e R s m args below meth c G nL Z pc lv (gi x :: st) h k j := by
  have e := gi_to hx
  exact g_tableOut V d (by rw [e]; exact h3) ht kk
theorem ga_none : ∀ E h', (fun (_ : String) (_ : gaH) => False) E h' → gaO p l e R s m args below meth c G nL Z pc lv E h' k j := fun _ _ hx => hx.elim
end GAL
