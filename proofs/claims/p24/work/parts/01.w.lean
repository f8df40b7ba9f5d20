/-! The words of the tables that a method may ask for, by their places. -/
def gaSel : List Cond := [Cond.selects "java/lang/StringBuilder" ⟨"java/lang/AbstractStringBuilder", "ensureCapacityInternal", "(I)V"⟩ ⟨"java/lang/AbstractStringBuilder", "ensureCapacityInternal", "(I)V"⟩, Cond.selects "java/lang/StringBuilder" ⟨"java/lang/AbstractStringBuilder", "newCapacity", "(I)I"⟩ ⟨"java/lang/AbstractStringBuilder", "newCapacity", "(I)I"⟩]
def gaW : List Cond := (gaSel ++ lw_tbl).filter goodWord
theorem gaW_of {w : Cond} (h : w ∈ lw_tbl) (g : goodWord w = true) : w ∈ gaW := List.mem_filter.mpr ⟨List.mem_append_right _ h, g⟩
theorem gaW_in {w : Cond} (h : w ∈ tables_1) (g : goodWord w = true) : w ∈ gaW := gaW_of (List.mem_append_right _ h) g
theorem gaW_good {w : Cond} (h : w ∈ gaW) : (w.onTables && w.keeps) = true ∨ ∃ ty, w = .arrayClass ty := good_of_word (List.mem_filter.mp h).2
theorem gaW_hts {args : Array Value} {s : State} (h0 : ∀ w ∈ gaSel, w.before args s = true) (h : ∀ w ∈ lw_tbl, w.before args s = true) : ∀ w ∈ gaW, w.before args s = true := fun w hw => (List.mem_append.mp (List.mem_filter.mp hw).1).elim (h0 w) (h w)
theorem gaW_sel {q : MethodName × Nat} (h : q ∈ lw_privs) : Cond.selects q.1.cls q.1 q.1 ∈ gaW := gaW_of (List.mem_append_left _ (List.mem_map.mpr ⟨q, h, rfl⟩)) rfl
theorem gaW_t1 {w : Cond} (h : w ∈ tables_1_1) (g : goodWord w = true) : w ∈ gaW := gaW_in (List.mem_append_left _ h) g
theorem gaW_t2 {w : Cond} (h : w ∈ tables_1_2) (g : goodWord w = true) : w ∈ gaW := gaW_in (List.mem_append_right _ (List.mem_append_left _ h)) g
theorem gaW_t3 {w : Cond} (h : w ∈ tables_1_3) (g : goodWord w = true) : w ∈ gaW := gaW_in (List.mem_append_right _ (List.mem_append_right _ (List.mem_append_left _ h))) g
theorem gaW_t4 {w : Cond} (h : w ∈ tables_1_4) (g : goodWord w = true) : w ∈ gaW := gaW_in (List.mem_append_right _ (List.mem_append_right _ (List.mem_append_right _ (List.mem_append_left _ h)))) g
theorem gaW_t5 {w : Cond} (h : w ∈ tables_1_5) (g : goodWord w = true) : w ∈ gaW := gaW_in (List.mem_append_right _ (List.mem_append_right _ (List.mem_append_right _ (List.mem_append_right _ (List.mem_append_left _ h))))) g
theorem gaW_t6 {w : Cond} (h : w ∈ tables_1_6) (g : goodWord w = true) : w ∈ gaW := gaW_in (List.mem_append_right _ (List.mem_append_right _ (List.mem_append_right _ (List.mem_append_right _ (List.mem_append_right _ (List.mem_append_left _ h)))))) g
theorem gaW_t7 {w : Cond} (h : w ∈ tables_1_7) (g : goodWord w = true) : w ∈ gaW := gaW_in (List.mem_append_right _ (List.mem_append_right _ (List.mem_append_right _ (List.mem_append_right _ (List.mem_append_right _ (List.mem_append_right _ (h))))))) g
theorem gaW_p1 {q : MethodName × Nat} (h : q ∈ lw_privs_1) : Cond.selects q.1.cls q.1 q.1 ∈ gaW := gaW_sel (List.mem_append_left _ h)
theorem gaW_p2 {q : MethodName × Nat} (h : q ∈ lw_privs_2) : Cond.selects q.1.cls q.1 q.1 ∈ gaW := gaW_sel (List.mem_append_right _ (List.mem_append_left _ h))
theorem gaW_p3 {q : MethodName × Nat} (h : q ∈ lw_privs_3) : Cond.selects q.1.cls q.1 q.1 ∈ gaW := gaW_sel (List.mem_append_right _ (List.mem_append_right _ (h)))
theorem wq_0 : Cond.selects "java/lang/StringBuilder" ⟨"java/lang/AbstractStringBuilder", "ensureCapacityInternal", "(I)V"⟩ ⟨"java/lang/AbstractStringBuilder", "ensureCapacityInternal", "(I)V"⟩ ∈ gaW := List.mem_filter.mpr ⟨List.mem_append_left _ (List.mem_of_getElem? (i := 0) rfl), rfl⟩
theorem wq_1 : Cond.selects "java/lang/StringBuilder" ⟨"java/lang/AbstractStringBuilder", "newCapacity", "(I)I"⟩ ⟨"java/lang/AbstractStringBuilder", "newCapacity", "(I)I"⟩ ∈ gaW := List.mem_filter.mpr ⟨List.mem_append_left _ (List.mem_of_getElem? (i := 1) rfl), rfl⟩
theorem ww_1_0 : Cond.initialized "WordgardenLaw" ∈ gaW := gaW_t1 (List.mem_of_getElem? (i := 0) rfl) rfl
theorem ww_1_1 : Cond.initialized "Wordgarden" ∈ gaW := gaW_t1 (List.mem_of_getElem? (i := 1) rfl) rfl
theorem ww_1_2 : Cond.initialized "Wordgarden$Rule" ∈ gaW := gaW_t1 (List.mem_of_getElem? (i := 2) rfl) rfl
theorem ww_1_3 : Cond.initialized "Wordgarden$Word" ∈ gaW := gaW_t1 (List.mem_of_getElem? (i := 3) rfl) rfl
theorem ww_1_4 : Cond.initialized "Wordgarden$Growth" ∈ gaW := gaW_t1 (List.mem_of_getElem? (i := 4) rfl) rfl
theorem ww_1_5 : Cond.initialized "WordgardenModel" ∈ gaW := gaW_t1 (List.mem_of_getElem? (i := 5) rfl) rfl
theorem ww_1_6 : Cond.initialized "WordgardenLaw$Out" ∈ gaW := gaW_t1 (List.mem_of_getElem? (i := 6) rfl) rfl
theorem ww_1_7 : Cond.initialized "java/lang/Throwable" ∈ gaW := gaW_t1 (List.mem_of_getElem? (i := 7) rfl) rfl
theorem ww_1_8 : Cond.initialized "java/lang/Exception" ∈ gaW := gaW_t1 (List.mem_of_getElem? (i := 8) rfl) rfl
theorem ww_1_9 : Cond.initialized "java/lang/RuntimeException" ∈ gaW := gaW_t1 (List.mem_of_getElem? (i := 9) rfl) rfl
theorem ww_1_10 : Cond.initialized "java/lang/IndexOutOfBoundsException" ∈ gaW := gaW_t1 (List.mem_of_getElem? (i := 10) rfl) rfl
theorem ww_1_11 : Cond.initialized "java/lang/IllegalArgumentException" ∈ gaW := gaW_t1 (List.mem_of_getElem? (i := 11) rfl) rfl
theorem ww_1_12 : Cond.initialized "Wordgarden$Reading" ∈ gaW := gaW_t1 (List.mem_of_getElem? (i := 12) rfl) rfl
theorem ww_1_13 : Cond.initialized "java/lang/Math" ∈ gaW := gaW_t1 (List.mem_of_getElem? (i := 13) rfl) rfl
theorem ww_1_14 : Cond.initialized "java/lang/Integer" ∈ gaW := gaW_t1 (List.mem_of_getElem? (i := 14) rfl) rfl
theorem ww_1_15 : Cond.initialized "java/lang/IllegalStateException" ∈ gaW := gaW_t1 (List.mem_of_getElem? (i := 15) rfl) rfl
theorem ww_1_16 : Cond.initialized "Wordgarden$Twos" ∈ gaW := gaW_t1 (List.mem_of_getElem? (i := 16) rfl) rfl
theorem ww_1_17 : Cond.initialized "java/lang/AbstractStringBuilder" ∈ gaW := gaW_t1 (List.mem_of_getElem? (i := 17) rfl) rfl
theorem ww_1_18 : Cond.initialized "java/lang/StringBuilder" ∈ gaW := gaW_t1 (List.mem_of_getElem? (i := 18) rfl) rfl
theorem ww_1_19 : Cond.initialized "java/lang/String" ∈ gaW := gaW_t1 (List.mem_of_getElem? (i := 19) rfl) rfl
theorem ww_1_20 : Cond.initialized "java/lang/StringUTF16" ∈ gaW := gaW_t1 (List.mem_of_getElem? (i := 20) rfl) rfl
theorem ww_1_21 : Cond.initialized "jdk/internal/util/ArraysSupport" ∈ gaW := gaW_t1 (List.mem_of_getElem? (i := 21) rfl) rfl
theorem ww_1_22 : Cond.initialized "java/util/Arrays" ∈ gaW := gaW_t1 (List.mem_of_getElem? (i := 22) rfl) rfl
theorem ww_1_23 : Cond.initialized "java/lang/System" ∈ gaW := gaW_t1 (List.mem_of_getElem? (i := 23) rfl) rfl
theorem ww_1_24 : Cond.initialized "java/lang/StringLatin1" ∈ gaW := gaW_t1 (List.mem_of_getElem? (i := 24) rfl) rfl
theorem ww_1_25 : Cond.initialized "jdk/internal/util/Preconditions" ∈ gaW := gaW_t1 (List.mem_of_getElem? (i := 25) rfl) rfl
theorem ww_1_26 : Cond.classLink "WordgardenLaw" 8 "Wordgarden" ∈ gaW := gaW_t1 (List.mem_of_getElem? (i := 26) rfl) rfl
theorem ww_1_27 : Cond.instantiable "Wordgarden" 9 ∈ gaW := gaW_t1 (List.mem_of_getElem? (i := 27) rfl) rfl
theorem ww_1_28 : Cond.methodLink "WordgardenLaw" 167 ⟨"Wordgarden", "<init>", "()V"⟩ ∈ gaW := gaW_t1 (List.mem_of_getElem? (i := 28) rfl) rfl
theorem ww_1_29 : Cond.instanceMethod ⟨"Wordgarden", "<init>", "()V"⟩ ∈ gaW := gaW_t1 (List.mem_of_getElem? (i := 29) rfl) rfl
theorem ww_1_30 : Cond.code ⟨"Wordgarden", "<init>", "()V"⟩ prog_1_method_1_code 2 (none : Option Jvm.ClassFile.FieldType) ∈ gaW := gaW_t1 (List.mem_of_getElem? (i := 30) rfl) rfl
theorem ww_1_31 : Cond.methodLink "Wordgarden" 1 ⟨"java/lang/Object", "<init>", "()V"⟩ ∈ gaW := gaW_t1 (List.mem_of_getElem? (i := 31) rfl) rfl
theorem ww_1_32 : Cond.instanceMethod ⟨"java/lang/Object", "<init>", "()V"⟩ ∈ gaW := gaW_t1 (List.mem_of_getElem? (i := 32) rfl) rfl
theorem ww_1_33 : Cond.code ⟨"java/lang/Object", "<init>", "()V"⟩ object_method_1_code 1 (none : Option Jvm.ClassFile.FieldType) ∈ gaW := gaW_t1 (List.mem_of_getElem? (i := 33) rfl) rfl
theorem ww_1_34 : Cond.classLink "Wordgarden" 9 "Wordgarden$Word" ∈ gaW := gaW_t1 (List.mem_of_getElem? (i := 34) rfl) rfl
theorem ww_1_36 : Cond.classLink "Wordgarden" 15 "Wordgarden$Growth" ∈ gaW := gaW_t1 (List.mem_of_getElem? (i := 36) rfl) rfl
theorem ww_1_38 : Cond.classLink "Wordgarden" 21 "Wordgarden$Rule" ∈ gaW := gaW_t1 (List.mem_of_getElem? (i := 38) rfl) rfl
theorem ww_1_39 : Cond.instantiable "Wordgarden$Rule" 3 ∈ gaW := gaW_t1 (List.mem_of_getElem? (i := 39) rfl) rfl
theorem ww_1_41 : Cond.instanceMethod ⟨"Wordgarden$Rule", "<init>", "()V"⟩ ∈ gaW := gaW_t1 (List.mem_of_getElem? (i := 41) rfl) rfl
theorem ww_1_42 : Cond.code ⟨"Wordgarden$Rule", "<init>", "()V"⟩ prog_4_method_1_code 1 (none : Option Jvm.ClassFile.FieldType) ∈ gaW := gaW_t1 (List.mem_of_getElem? (i := 42) rfl) rfl
theorem ww_1_43 : Cond.methodLink "Wordgarden$Rule" 3 ⟨"java/lang/Object", "<init>", "()V"⟩ ∈ gaW := gaW_t1 (List.mem_of_getElem? (i := 43) rfl) rfl
theorem ww_1_44 : Cond.classLink "Wordgarden$Rule" 9 "Wordgarden$Word" ∈ gaW := gaW_t1 (List.mem_of_getElem? (i := 44) rfl) rfl
theorem ww_1_45 : Cond.instantiable "Wordgarden$Word" 2 ∈ gaW := gaW_t1 (List.mem_of_getElem? (i := 45) rfl) rfl
theorem ww_1_47 : Cond.instanceMethod ⟨"Wordgarden$Word", "<init>", "()V"⟩ ∈ gaW := gaW_t1 (List.mem_of_getElem? (i := 47) rfl) rfl
theorem ww_1_48 : Cond.code ⟨"Wordgarden$Word", "<init>", "()V"⟩ prog_6_method_1_code 1 (none : Option Jvm.ClassFile.FieldType) ∈ gaW := gaW_t1 (List.mem_of_getElem? (i := 48) rfl) rfl
theorem ww_1_49 : Cond.methodLink "Wordgarden$Word" 3 ⟨"java/lang/Object", "<init>", "()V"⟩ ∈ gaW := gaW_t1 (List.mem_of_getElem? (i := 49) rfl) rfl
theorem ww_1_50 : Cond.fieldLink "Wordgarden$Word" 9 "Wordgarden$Word" "signs" "[Z" ∈ gaW := gaW_t1 (List.mem_of_getElem? (i := 50) rfl) rfl
theorem ww_1_54 : Cond.fieldLink "Wordgarden$Word" 15 "Wordgarden$Word" "many" "I" ∈ gaW := gaW_t1 (List.mem_of_getElem? (i := 54) rfl) rfl
theorem ww_1_57 : Cond.laysFinal "Wordgarden$Word" "Wordgarden$Word" "signs" "[Z" ∈ gaW := gaW_t1 (List.mem_of_getElem? (i := 57) rfl) rfl
theorem ww_1_59 : Cond.lays "Wordgarden$Word" "Wordgarden$Word" "many" "I" ∈ gaW := gaW_t1 (List.mem_of_getElem? (i := 59) rfl) rfl
theorem ww_1_61 : Cond.superclass "Wordgarden$Word" "java/lang/Object" ∈ gaW := gaW_t1 (List.mem_of_getElem? (i := 61) rfl) rfl
theorem ww_1_62 : Cond.arrayClass .boolean ∈ gaW := gaW_t1 (List.mem_of_getElem? (i := 62) rfl) rfl
theorem ww_1_63 : Cond.fieldLink "Wordgarden$Rule" 12 "Wordgarden$Rule" "forA" "LWordgarden$Word;" ∈ gaW := gaW_t1 (List.mem_of_getElem? (i := 63) rfl) rfl
theorem ww_1_64 : Cond.fieldLink "Wordgarden$Rule" 18 "Wordgarden$Rule" "forB" "LWordgarden$Word;" ∈ gaW := gaW_t1 (List.mem_of_getElem? (i := 64) rfl) rfl
theorem ww_1_65 : Cond.fieldLink "Wordgarden$Rule" 21 "Wordgarden$Rule" "isImageFrom" "[Z" ∈ gaW := gaW_t1 (List.mem_of_getElem? (i := 65) rfl) rfl
theorem ww_1_66 : Cond.laysFinal "Wordgarden$Rule" "Wordgarden$Rule" "forA" "LWordgarden$Word;" ∈ gaW := gaW_t1 (List.mem_of_getElem? (i := 66) rfl) rfl
theorem ww_1_68 : Cond.laysFinal "Wordgarden$Rule" "Wordgarden$Rule" "forB" "LWordgarden$Word;" ∈ gaW := gaW_t1 (List.mem_of_getElem? (i := 68) rfl) rfl
theorem ww_1_70 : Cond.laysFinal "Wordgarden$Rule" "Wordgarden$Rule" "isImageFrom" "[Z" ∈ gaW := gaW_t1 (List.mem_of_getElem? (i := 70) rfl) rfl
theorem ww_1_72 : Cond.superclass "Wordgarden$Rule" "java/lang/Object" ∈ gaW := gaW_t1 (List.mem_of_getElem? (i := 72) rfl) rfl
theorem ww_1_74 : Cond.instantiable "Wordgarden$Growth" 4 ∈ gaW := gaW_t1 (List.mem_of_getElem? (i := 74) rfl) rfl
theorem ww_1_75 : Cond.methodLink "Wordgarden" 36 ⟨"Wordgarden$Growth", "<init>", "()V"⟩ ∈ gaW := gaW_t1 (List.mem_of_getElem? (i := 75) rfl) rfl
theorem ww_1_76 : Cond.instanceMethod ⟨"Wordgarden$Growth", "<init>", "()V"⟩ ∈ gaW := gaW_t1 (List.mem_of_getElem? (i := 76) rfl) rfl
theorem ww_1_77 : Cond.code ⟨"Wordgarden$Growth", "<init>", "()V"⟩ prog_2_method_1_code 1 (none : Option Jvm.ClassFile.FieldType) ∈ gaW := gaW_t1 (List.mem_of_getElem? (i := 77) rfl) rfl
theorem ww_1_78 : Cond.methodLink "Wordgarden$Growth" 3 ⟨"java/lang/Object", "<init>", "()V"⟩ ∈ gaW := gaW_t1 (List.mem_of_getElem? (i := 78) rfl) rfl
theorem ww_1_79 : Cond.classLink "Wordgarden$Growth" 15 "Wordgarden$Word" ∈ gaW := gaW_t1 (List.mem_of_getElem? (i := 79) rfl) rfl
theorem ww_1_81 : Cond.methodLink "Wordgarden$Growth" 25 ⟨"Wordgarden$Growth", "begin", "()V"⟩ ∈ gaW := gaW_t1 (List.mem_of_getElem? (i := 81) rfl) rfl
theorem ww_1_82 : Cond.instanceMethod ⟨"Wordgarden$Growth", "begin", "()V"⟩ ∈ gaW := gaW_t1 (List.mem_of_getElem? (i := 82) rfl) rfl
theorem ww_1_83 : Cond.selects "Wordgarden$Growth" ⟨"Wordgarden$Growth", "begin", "()V"⟩ ⟨"Wordgarden$Growth", "begin", "()V"⟩ ∈ gaW := gaW_t1 (List.mem_of_getElem? (i := 83) rfl) rfl
theorem ww_1_84 : Cond.code ⟨"Wordgarden$Growth", "begin", "()V"⟩ prog_2_method_2_code 1 (none : Option Jvm.ClassFile.FieldType) ∈ gaW := gaW_t1 (List.mem_of_getElem? (i := 84) rfl) rfl
theorem ww_1_85 : Cond.methodLink "Wordgarden$Growth" 32 ⟨"Wordgarden$Word", "clear", "()V"⟩ ∈ gaW := gaW_t1 (List.mem_of_getElem? (i := 85) rfl) rfl
theorem ww_1_86 : Cond.instanceMethod ⟨"Wordgarden$Word", "clear", "()V"⟩ ∈ gaW := gaW_t1 (List.mem_of_getElem? (i := 86) rfl) rfl
theorem ww_1_87 : Cond.selects "Wordgarden$Word" ⟨"Wordgarden$Word", "clear", "()V"⟩ ⟨"Wordgarden$Word", "clear", "()V"⟩ ∈ gaW := gaW_t1 (List.mem_of_getElem? (i := 87) rfl) rfl
theorem ww_1_88 : Cond.code ⟨"Wordgarden$Word", "clear", "()V"⟩ prog_6_method_4_code 1 (none : Option Jvm.ClassFile.FieldType) ∈ gaW := gaW_t1 (List.mem_of_getElem? (i := 88) rfl) rfl
theorem ww_1_89 : Cond.methodLink "Wordgarden$Growth" 35 ⟨"Wordgarden$Word", "add", "(Z)V"⟩ ∈ gaW := gaW_t1 (List.mem_of_getElem? (i := 89) rfl) rfl
theorem ww_1_90 : Cond.instanceMethod ⟨"Wordgarden$Word", "add", "(Z)V"⟩ ∈ gaW := gaW_t1 (List.mem_of_getElem? (i := 90) rfl) rfl
theorem ww_1_91 : Cond.selects "Wordgarden$Word" ⟨"Wordgarden$Word", "add", "(Z)V"⟩ ⟨"Wordgarden$Word", "add", "(Z)V"⟩ ∈ gaW := gaW_t1 (List.mem_of_getElem? (i := 91) rfl) rfl
theorem ww_1_92 : Cond.code ⟨"Wordgarden$Word", "add", "(Z)V"⟩ prog_6_method_5_code 2 (none : Option Jvm.ClassFile.FieldType) ∈ gaW := gaW_t1 (List.mem_of_getElem? (i := 92) rfl) rfl
theorem ww_1_93 : Cond.fieldLink "Wordgarden$Growth" 9 "Wordgarden$Growth" "turnRow" "[I" ∈ gaW := gaW_t1 (List.mem_of_getElem? (i := 93) rfl) rfl
theorem ww_1_94 : Cond.fieldLink "Wordgarden$Growth" 28 "Wordgarden$Growth" "turnCount" "I" ∈ gaW := gaW_t1 (List.mem_of_getElem? (i := 94) rfl) rfl
theorem ww_1_96 : Cond.fieldLink "Wordgarden$Growth" 18 "Wordgarden$Growth" "elder" "LWordgarden$Word;" ∈ gaW := gaW_t1 (List.mem_of_getElem? (i := 96) rfl) rfl
theorem ww_1_98 : Cond.fieldLink "Wordgarden$Growth" 22 "Wordgarden$Growth" "younger" "LWordgarden$Word;" ∈ gaW := gaW_t1 (List.mem_of_getElem? (i := 98) rfl) rfl
theorem ww_1_100 : Cond.laysFinal "Wordgarden$Growth" "Wordgarden$Growth" "turnRow" "[I" ∈ gaW := gaW_t1 (List.mem_of_getElem? (i := 100) rfl) rfl
theorem ww_1_102 : Cond.lays "Wordgarden$Growth" "Wordgarden$Growth" "turnCount" "I" ∈ gaW := gaW_t1 (List.mem_of_getElem? (i := 102) rfl) rfl
theorem ww_1_104 : Cond.laysFinal "Wordgarden$Growth" "Wordgarden$Growth" "elder" "LWordgarden$Word;" ∈ gaW := gaW_t1 (List.mem_of_getElem? (i := 104) rfl) rfl
theorem ww_1_106 : Cond.laysFinal "Wordgarden$Growth" "Wordgarden$Growth" "younger" "LWordgarden$Word;" ∈ gaW := gaW_t1 (List.mem_of_getElem? (i := 106) rfl) rfl
theorem ww_1_108 : Cond.superclass "Wordgarden$Growth" "java/lang/Object" ∈ gaW := gaW_t1 (List.mem_of_getElem? (i := 108) rfl) rfl
theorem ww_1_109 : Cond.arrayClass .int ∈ gaW := gaW_t1 (List.mem_of_getElem? (i := 109) rfl) rfl
theorem ww_1_110 : Cond.fieldLink "Wordgarden" 11 "Wordgarden" "sheets" "[LWordgarden$Word;" ∈ gaW := gaW_t1 (List.mem_of_getElem? (i := 110) rfl) rfl
theorem ww_1_111 : Cond.fieldLink "Wordgarden" 17 "Wordgarden" "growths" "[LWordgarden$Growth;" ∈ gaW := gaW_t1 (List.mem_of_getElem? (i := 111) rfl) rfl
theorem ww_1_112 : Cond.fieldLink "Wordgarden" 24 "Wordgarden" "rule" "LWordgarden$Rule;" ∈ gaW := gaW_t1 (List.mem_of_getElem? (i := 112) rfl) rfl
theorem ww_1_113 : Cond.fieldLink "Wordgarden" 29 "Wordgarden" "bench" "LWordgarden$Word;" ∈ gaW := gaW_t1 (List.mem_of_getElem? (i := 113) rfl) rfl
theorem ww_1_114 : Cond.fieldLink "Wordgarden" 33 "Wordgarden" "secondBench" "LWordgarden$Word;" ∈ gaW := gaW_t1 (List.mem_of_getElem? (i := 114) rfl) rfl
theorem ww_1_115 : Cond.fieldLink "Wordgarden" 248 "Wordgarden" "sheetActs" "I" ∈ gaW := gaW_t1 (List.mem_of_getElem? (i := 115) rfl) rfl
theorem ww_1_116 : Cond.fieldLink "Wordgarden" 251 "Wordgarden" "growthActs" "I" ∈ gaW := gaW_t1 (List.mem_of_getElem? (i := 116) rfl) rfl
theorem ww_1_117 : Cond.fieldLink "Wordgarden" 254 "Wordgarden" "refusals" "I" ∈ gaW := gaW_t1 (List.mem_of_getElem? (i := 117) rfl) rfl
theorem ww_1_118 : Cond.fieldLink "Wordgarden" 257 "Wordgarden" "knocks" "I" ∈ gaW := gaW_t1 (List.mem_of_getElem? (i := 118) rfl) rfl
theorem ww_1_119 : Cond.laysFinal "Wordgarden" "Wordgarden" "sheets" "[LWordgarden$Word;" ∈ gaW := gaW_t1 (List.mem_of_getElem? (i := 119) rfl) rfl
theorem ww_1_121 : Cond.laysFinal "Wordgarden" "Wordgarden" "growths" "[LWordgarden$Growth;" ∈ gaW := gaW_t1 (List.mem_of_getElem? (i := 121) rfl) rfl
theorem ww_1_123 : Cond.laysFinal "Wordgarden" "Wordgarden" "rule" "LWordgarden$Rule;" ∈ gaW := gaW_t1 (List.mem_of_getElem? (i := 123) rfl) rfl
theorem ww_1_125 : Cond.laysFinal "Wordgarden" "Wordgarden" "bench" "LWordgarden$Word;" ∈ gaW := gaW_t1 (List.mem_of_getElem? (i := 125) rfl) rfl
theorem ww_1_127 : Cond.laysFinal "Wordgarden" "Wordgarden" "secondBench" "LWordgarden$Word;" ∈ gaW := gaW_t1 (List.mem_of_getElem? (i := 127) rfl) rfl
theorem ww_1_129 : Cond.lays "Wordgarden" "Wordgarden" "sheetActs" "I" ∈ gaW := gaW_t1 (List.mem_of_getElem? (i := 129) rfl) rfl
theorem ww_1_131 : Cond.lays "Wordgarden" "Wordgarden" "growthActs" "I" ∈ gaW := gaW_t1 (List.mem_of_getElem? (i := 131) rfl) rfl
theorem ww_1_133 : Cond.lays "Wordgarden" "Wordgarden" "refusals" "I" ∈ gaW := gaW_t1 (List.mem_of_getElem? (i := 133) rfl) rfl
theorem ww_1_135 : Cond.lays "Wordgarden" "Wordgarden" "knocks" "I" ∈ gaW := gaW_t1 (List.mem_of_getElem? (i := 135) rfl) rfl
theorem ww_1_137 : Cond.superclass "Wordgarden" "java/lang/Object" ∈ gaW := gaW_t1 (List.mem_of_getElem? (i := 137) rfl) rfl
theorem ww_1_138 : Cond.methodLink "WordgardenLaw" 316 ⟨"Wordgarden", "knock", "()I"⟩ ∈ gaW := gaW_t1 (List.mem_of_getElem? (i := 138) rfl) rfl
theorem ww_1_139 : Cond.instanceMethod ⟨"Wordgarden", "knock", "()I"⟩ ∈ gaW := gaW_t1 (List.mem_of_getElem? (i := 139) rfl) rfl
theorem ww_1_140 : Cond.selects "Wordgarden" ⟨"Wordgarden", "knock", "()I"⟩ ⟨"Wordgarden", "knock", "()I"⟩ ∈ gaW := gaW_t1 (List.mem_of_getElem? (i := 140) rfl) rfl
theorem ww_1_141 : Cond.code ⟨"Wordgarden", "knock", "()I"⟩ prog_1_method_46_code 1 (some .int) ∈ gaW := gaW_t1 (List.mem_of_getElem? (i := 141) rfl) rfl
theorem ww_1_142 : Cond.methodLink "WordgardenLaw" 320 ⟨"Wordgarden", "isSound", "()Z"⟩ ∈ gaW := gaW_t1 (List.mem_of_getElem? (i := 142) rfl) rfl
theorem ww_1_143 : Cond.instanceMethod ⟨"Wordgarden", "isSound", "()Z"⟩ ∈ gaW := gaW_t1 (List.mem_of_getElem? (i := 143) rfl) rfl
theorem ww_1_144 : Cond.selects "Wordgarden" ⟨"Wordgarden", "isSound", "()Z"⟩ ⟨"Wordgarden", "isSound", "()Z"⟩ ∈ gaW := gaW_t1 (List.mem_of_getElem? (i := 144) rfl) rfl
theorem ww_1_145 : Cond.code ⟨"Wordgarden", "isSound", "()Z"⟩ prog_1_method_47_code 2 (some .boolean) ∈ gaW := gaW_t1 (List.mem_of_getElem? (i := 145) rfl) rfl
theorem ww_1_146 : Cond.methodLink "Wordgarden" 260 ⟨"Wordgarden", "isSheetSound", "(I)Z"⟩ ∈ gaW := gaW_t1 (List.mem_of_getElem? (i := 146) rfl) rfl
theorem ww_1_148 : Cond.instanceMethod ⟨"Wordgarden", "isSheetSound", "(I)Z"⟩ ∈ gaW := gaW_t1 (List.mem_of_getElem? (i := 148) rfl) rfl
theorem ww_1_149 : Cond.code ⟨"Wordgarden", "isSheetSound", "(I)Z"⟩ prog_1_method_63_code 3 (some .boolean) ∈ gaW := gaW_t1 (List.mem_of_getElem? (i := 149) rfl) rfl
theorem ww_1_150 : Cond.methodLink "Wordgarden" 37 ⟨"Wordgarden", "wordOf", "(I)LWordgarden$Word;"⟩ ∈ gaW := gaW_t1 (List.mem_of_getElem? (i := 150) rfl) rfl
theorem ww_1_152 : Cond.instanceMethod ⟨"Wordgarden", "wordOf", "(I)LWordgarden$Word;"⟩ ∈ gaW := gaW_t1 (List.mem_of_getElem? (i := 152) rfl) rfl
theorem ww_1_153 : Cond.code ⟨"Wordgarden", "wordOf", "(I)LWordgarden$Word;"⟩ prog_1_method_49_code 2 (some (.object "Wordgarden$Word")) ∈ gaW := gaW_t1 (List.mem_of_getElem? (i := 153) rfl) rfl
theorem ww_1_154 : Cond.classLink "Wordgarden" 285 "java/lang/IndexOutOfBoundsException" ∈ gaW := gaW_t1 (List.mem_of_getElem? (i := 154) rfl) rfl
theorem ww_1_155 : Cond.instantiable "java/lang/IndexOutOfBoundsException" 6 ∈ gaW := gaW_t1 (List.mem_of_getElem? (i := 155) rfl) rfl
theorem ww_1_163 : Cond.selects "java/lang/IndexOutOfBoundsException" ⟨"java/lang/Throwable", "fillInStackTrace", "(I)Ljava/lang/Throwable;"⟩ ⟨"java/lang/Throwable", "fillInStackTrace", "(I)Ljava/lang/Throwable;"⟩ ∈ gaW := gaW_t1 (List.mem_of_getElem? (i := 163) rfl) rfl
theorem ww_1_164 : Cond.selects "java/lang/IndexOutOfBoundsException" ⟨"java/lang/Throwable", "fillInStackTrace", "()Ljava/lang/Throwable;"⟩ ⟨"java/lang/Throwable", "fillInStackTrace", "()Ljava/lang/Throwable;"⟩ ∈ gaW := gaW_t1 (List.mem_of_getElem? (i := 164) rfl) rfl
theorem ww_1_165 : Cond.lays "java/lang/IndexOutOfBoundsException" "java/lang/Throwable" "cause" "Ljava/lang/Throwable;" ∈ gaW := gaW_t1 (List.mem_of_getElem? (i := 165) rfl) rfl
theorem ww_1_166 : Cond.lays "java/lang/Throwable" "java/lang/Throwable" "cause" "Ljava/lang/Throwable;" ∈ gaW := gaW_t1 (List.mem_of_getElem? (i := 166) rfl) rfl
theorem ww_1_167 : Cond.lays "java/lang/IndexOutOfBoundsException" "java/lang/Throwable" "stackTrace" "[Ljava/lang/StackTraceElement;" ∈ gaW := gaW_t1 (List.mem_of_getElem? (i := 167) rfl) rfl
theorem ww_1_168 : Cond.lays "java/lang/Throwable" "java/lang/Throwable" "stackTrace" "[Ljava/lang/StackTraceElement;" ∈ gaW := gaW_t1 (List.mem_of_getElem? (i := 168) rfl) rfl
theorem ww_1_169 : Cond.lays "java/lang/IndexOutOfBoundsException" "java/lang/Throwable" "suppressedExceptions" "Ljava/util/List;" ∈ gaW := gaW_t1 (List.mem_of_getElem? (i := 169) rfl) rfl
theorem ww_1_170 : Cond.lays "java/lang/Throwable" "java/lang/Throwable" "suppressedExceptions" "Ljava/util/List;" ∈ gaW := gaW_t1 (List.mem_of_getElem? (i := 170) rfl) rfl
theorem ww_1_171 : Cond.lays "java/lang/IndexOutOfBoundsException" "java/lang/Throwable" "detailMessage" "Ljava/lang/String;" ∈ gaW := gaW_t1 (List.mem_of_getElem? (i := 171) rfl) rfl
theorem ww_1_172 : Cond.lays "java/lang/Throwable" "java/lang/Throwable" "detailMessage" "Ljava/lang/String;" ∈ gaW := gaW_t1 (List.mem_of_getElem? (i := 172) rfl) rfl
theorem ww_1_173 : Cond.lays "java/lang/IndexOutOfBoundsException" "java/lang/Throwable" "backtrace" "Ljava/lang/Object;" ∈ gaW := gaW_t1 (List.mem_of_getElem? (i := 173) rfl) rfl
theorem ww_1_174 : Cond.lays "java/lang/Throwable" "java/lang/Throwable" "backtrace" "Ljava/lang/Object;" ∈ gaW := gaW_t1 (List.mem_of_getElem? (i := 174) rfl) rfl
theorem ww_1_175 : Cond.fieldLink "java/lang/Throwable" 198 "java/lang/Throwable" "backtrace" "Ljava/lang/Object;" ∈ gaW := gaW_t1 (List.mem_of_getElem? (i := 175) rfl) rfl
theorem ww_1_176 : Cond.superclass "java/lang/Throwable" "java/lang/Object" ∈ gaW := gaW_t1 (List.mem_of_getElem? (i := 176) rfl) rfl
theorem ww_1_177 : Cond.instanceMethod ⟨"java/lang/Throwable", "<init>", "()V"⟩ ∈ gaW := gaW_t1 (List.mem_of_getElem? (i := 177) rfl) rfl
theorem ww_1_178 : Cond.code ⟨"java/lang/Throwable", "<init>", "()V"⟩ prog_24_method_1_code 1 (none : Option Jvm.ClassFile.FieldType) ∈ gaW := gaW_t1 (List.mem_of_getElem? (i := 178) rfl) rfl
theorem ww_1_179 : Cond.methodLink "java/lang/Throwable" 1 ⟨"java/lang/Object", "<init>", "()V"⟩ ∈ gaW := gaW_t1 (List.mem_of_getElem? (i := 179) rfl) rfl
theorem ww_1_180 : Cond.fieldLink "java/lang/Throwable" 13 "java/lang/Throwable" "UNASSIGNED_STACK" "[Ljava/lang/StackTraceElement;" ∈ gaW := gaW_t1 (List.mem_of_getElem? (i := 180) rfl) rfl
theorem ww_1_182 : Cond.fieldLink "java/lang/Throwable" 20 "java/lang/Throwable" "SUPPRESSED_SENTINEL" "Ljava/util/List;" ∈ gaW := gaW_t1 (List.mem_of_getElem? (i := 182) rfl) rfl
theorem ww_1_184 : Cond.methodLink "java/lang/Throwable" 27 ⟨"java/lang/Throwable", "fillInStackTrace", "()Ljava/lang/Throwable;"⟩ ∈ gaW := gaW_t1 (List.mem_of_getElem? (i := 184) rfl) rfl
theorem ww_1_185 : Cond.instanceMethod ⟨"java/lang/Throwable", "fillInStackTrace", "()Ljava/lang/Throwable;"⟩ ∈ gaW := gaW_t1 (List.mem_of_getElem? (i := 185) rfl) rfl
theorem ww_1_186 : Cond.sameMethod "java/lang/Throwable" "java/lang/Throwable" "fillInStackTrace" "()Ljava/lang/Throwable;" ∈ gaW := gaW_t1 (List.mem_of_getElem? (i := 186) rfl) rfl
theorem ww_1_187 : Cond.selects "java/lang/IllegalArgumentException" ⟨"java/lang/Throwable", "fillInStackTrace", "()Ljava/lang/Throwable;"⟩ ⟨"java/lang/Throwable", "fillInStackTrace", "()Ljava/lang/Throwable;"⟩ ∈ gaW := gaW_t1 (List.mem_of_getElem? (i := 187) rfl) rfl
theorem ww_1_188 : Cond.selects "java/lang/IllegalStateException" ⟨"java/lang/Throwable", "fillInStackTrace", "()Ljava/lang/Throwable;"⟩ ⟨"java/lang/Throwable", "fillInStackTrace", "()Ljava/lang/Throwable;"⟩ ∈ gaW := gaW_t1 (List.mem_of_getElem? (i := 188) rfl) rfl
theorem ww_1_189 : Cond.codeSync ⟨"java/lang/Throwable", "fillInStackTrace", "()Ljava/lang/Throwable;"⟩ prog_24_method_18_code 1 (some (.object "java/lang/Throwable")) ∈ gaW := gaW_t1 (List.mem_of_getElem? (i := 189) rfl) rfl
theorem ww_1_190 : Cond.methodLink "java/lang/Throwable" 202 ⟨"java/lang/Throwable", "fillInStackTrace", "(I)Ljava/lang/Throwable;"⟩ ∈ gaW := gaW_t1 (List.mem_of_getElem? (i := 190) rfl) rfl
theorem ww_1_192 : Cond.instanceMethod ⟨"java/lang/Throwable", "fillInStackTrace", "(I)Ljava/lang/Throwable;"⟩ ∈ gaW := gaW_t1 (List.mem_of_getElem? (i := 192) rfl) rfl
theorem ww_1_193 : Cond.instantiable "java/lang/Throwable" 6 ∈ gaW := gaW_t1 (List.mem_of_getElem? (i := 193) rfl) rfl
theorem ww_1_194 : Cond.native ⟨"java/lang/Throwable", "fillInStackTrace", "(I)Ljava/lang/Throwable;"⟩ ∈ gaW := gaW_t1 (List.mem_of_getElem? (i := 194) rfl) rfl
theorem ww_1_196 : Cond.methodLink "Wordgarden" 289 ⟨"java/lang/IndexOutOfBoundsException", "<init>", "(Ljava/lang/String;)V"⟩ ∈ gaW := gaW_t1 (List.mem_of_getElem? (i := 196) rfl) rfl
theorem ww_1_197 : Cond.instanceMethod ⟨"java/lang/IndexOutOfBoundsException", "<init>", "(Ljava/lang/String;)V"⟩ ∈ gaW := gaW_t1 (List.mem_of_getElem? (i := 197) rfl) rfl
theorem ww_1_198 : Cond.code ⟨"java/lang/IndexOutOfBoundsException", "<init>", "(Ljava/lang/String;)V"⟩ prog_15_method_2_code 2 (none : Option Jvm.ClassFile.FieldType) ∈ gaW := gaW_t1 (List.mem_of_getElem? (i := 198) rfl) rfl
theorem ww_1_199 : Cond.methodLink "java/lang/IndexOutOfBoundsException" 7 ⟨"java/lang/RuntimeException", "<init>", "(Ljava/lang/String;)V"⟩ ∈ gaW := gaW_t1 (List.mem_of_getElem? (i := 199) rfl) rfl
theorem ww_1_200 : Cond.instanceMethod ⟨"java/lang/RuntimeException", "<init>", "(Ljava/lang/String;)V"⟩ ∈ gaW := gaW_t1 (List.mem_of_getElem? (i := 200) rfl) rfl
theorem ww_1_201 : Cond.code ⟨"java/lang/RuntimeException", "<init>", "(Ljava/lang/String;)V"⟩ prog_18_method_2_code 2 (none : Option Jvm.ClassFile.FieldType) ∈ gaW := gaW_t1 (List.mem_of_getElem? (i := 201) rfl) rfl
theorem ww_1_202 : Cond.methodLink "java/lang/RuntimeException" 7 ⟨"java/lang/Exception", "<init>", "(Ljava/lang/String;)V"⟩ ∈ gaW := gaW_t1 (List.mem_of_getElem? (i := 202) rfl) rfl
theorem ww_1_203 : Cond.instanceMethod ⟨"java/lang/Exception", "<init>", "(Ljava/lang/String;)V"⟩ ∈ gaW := gaW_t1 (List.mem_of_getElem? (i := 203) rfl) rfl
theorem ww_1_204 : Cond.code ⟨"java/lang/Exception", "<init>", "(Ljava/lang/String;)V"⟩ prog_12_method_2_code 2 (none : Option Jvm.ClassFile.FieldType) ∈ gaW := gaW_t1 (List.mem_of_getElem? (i := 204) rfl) rfl
theorem ww_1_205 : Cond.methodLink "java/lang/Exception" 7 ⟨"java/lang/Throwable", "<init>", "(Ljava/lang/String;)V"⟩ ∈ gaW := gaW_t1 (List.mem_of_getElem? (i := 205) rfl) rfl
theorem ww_1_206 : Cond.instanceMethod ⟨"java/lang/Throwable", "<init>", "(Ljava/lang/String;)V"⟩ ∈ gaW := gaW_t1 (List.mem_of_getElem? (i := 206) rfl) rfl
theorem ww_1_207 : Cond.code ⟨"java/lang/Throwable", "<init>", "(Ljava/lang/String;)V"⟩ prog_24_method_2_code 2 (none : Option Jvm.ClassFile.FieldType) ∈ gaW := gaW_t1 (List.mem_of_getElem? (i := 207) rfl) rfl
theorem ww_1_208 : Cond.fieldLink "java/lang/Throwable" 198 "java/lang/Throwable" "backtrace" "Ljava/lang/Object;" ∈ gaW := gaW_t1 (List.mem_of_getElem? (i := 208) rfl) rfl
theorem ww_1_209 : Cond.fieldLink "java/lang/Throwable" 31 "java/lang/Throwable" "detailMessage" "Ljava/lang/String;" ∈ gaW := gaW_t1 (List.mem_of_getElem? (i := 209) rfl) rfl
theorem ww_1_210 : Cond.fieldLink "java/lang/Throwable" 7 "java/lang/Throwable" "cause" "Ljava/lang/Throwable;" ∈ gaW := gaW_t1 (List.mem_of_getElem? (i := 210) rfl) rfl
theorem ww_1_211 : Cond.fieldLink "java/lang/Throwable" 17 "java/lang/Throwable" "stackTrace" "[Ljava/lang/StackTraceElement;" ∈ gaW := gaW_t1 (List.mem_of_getElem? (i := 211) rfl) rfl
theorem ww_1_212 : Cond.fieldLink "java/lang/Throwable" 24 "java/lang/Throwable" "suppressedExceptions" "Ljava/util/List;" ∈ gaW := gaW_t1 (List.mem_of_getElem? (i := 212) rfl) rfl
theorem ww_1_217 : Cond.lays "java/lang/IndexOutOfBoundsException" "java/lang/Throwable" "depth" "I" ∈ gaW := gaW_t1 (List.mem_of_getElem? (i := 217) rfl) rfl
theorem ww_1_220 : Cond.superclass "java/lang/IndexOutOfBoundsException" "java/lang/RuntimeException" ∈ gaW := gaW_t1 (List.mem_of_getElem? (i := 220) rfl) rfl
theorem ww_1_221 : Cond.arrayClass .byte ∈ gaW := gaW_t1 (List.mem_of_getElem? (i := 221) rfl) rfl
theorem ww_1_222 : Cond.methodLink "Wordgarden" 101 ⟨"Wordgarden$Word", "takeTurned", "(LWordgarden$Word;)V"⟩ ∈ gaW := gaW_t1 (List.mem_of_getElem? (i := 222) rfl) rfl
theorem ww_1_223 : Cond.instanceMethod ⟨"Wordgarden$Word", "takeTurned", "(LWordgarden$Word;)V"⟩ ∈ gaW := gaW_t1 (List.mem_of_getElem? (i := 223) rfl) rfl
theorem ww_1_224 : Cond.selects "Wordgarden$Word" ⟨"Wordgarden$Word", "takeTurned", "(LWordgarden$Word;)V"⟩ ⟨"Wordgarden$Word", "takeTurned", "(LWordgarden$Word;)V"⟩ ∈ gaW := gaW_t1 (List.mem_of_getElem? (i := 224) rfl) rfl
theorem ww_1_225 : Cond.code ⟨"Wordgarden$Word", "takeTurned", "(LWordgarden$Word;)V"⟩ prog_6_method_8_code 3 (none : Option Jvm.ClassFile.FieldType) ∈ gaW := gaW_t1 (List.mem_of_getElem? (i := 225) rfl) rfl
theorem ww_1_226 : Cond.methodLink "Wordgarden$Word" 31 ⟨"Wordgarden$Word", "clear", "()V"⟩ ∈ gaW := gaW_t1 (List.mem_of_getElem? (i := 226) rfl) rfl
theorem ww_1_227 : Cond.methodLink "Wordgarden$Word" 19 ⟨"Wordgarden$Word", "isUp", "(I)Z"⟩ ∈ gaW := gaW_t1 (List.mem_of_getElem? (i := 227) rfl) rfl
theorem ww_1_228 : Cond.instanceMethod ⟨"Wordgarden$Word", "isUp", "(I)Z"⟩ ∈ gaW := gaW_t1 (List.mem_of_getElem? (i := 228) rfl) rfl
theorem ww_1_229 : Cond.selects "Wordgarden$Word" ⟨"Wordgarden$Word", "isUp", "(I)Z"⟩ ⟨"Wordgarden$Word", "isUp", "(I)Z"⟩ ∈ gaW := gaW_t1 (List.mem_of_getElem? (i := 229) rfl) rfl
theorem ww_1_230 : Cond.code ⟨"Wordgarden$Word", "isUp", "(I)Z"⟩ prog_6_method_2_code 2 (some .boolean) ∈ gaW := gaW_t1 (List.mem_of_getElem? (i := 230) rfl) rfl
theorem ww_1_231 : Cond.methodLink "Wordgarden$Word" 23 ⟨"Wordgarden$Word", "add", "(Z)V"⟩ ∈ gaW := gaW_t1 (List.mem_of_getElem? (i := 231) rfl) rfl
theorem ww_1_232 : Cond.methodLink "Wordgarden" 311 ⟨"Wordgarden", "count", "(IZ)I"⟩ ∈ gaW := gaW_t1 (List.mem_of_getElem? (i := 232) rfl) rfl
theorem ww_1_233 : Cond.instanceMethod ⟨"Wordgarden", "count", "(IZ)I"⟩ ∈ gaW := gaW_t1 (List.mem_of_getElem? (i := 233) rfl) rfl
theorem ww_1_234 : Cond.selects "Wordgarden" ⟨"Wordgarden", "count", "(IZ)I"⟩ ⟨"Wordgarden", "count", "(IZ)I"⟩ ∈ gaW := gaW_t1 (List.mem_of_getElem? (i := 234) rfl) rfl
theorem ww_1_235 : Cond.code ⟨"Wordgarden", "count", "(IZ)I"⟩ prog_1_method_26_code 5 (some .int) ∈ gaW := gaW_t1 (List.mem_of_getElem? (i := 235) rfl) rfl
theorem ww_1_236 : Cond.methodLink "Wordgarden" 108 ⟨"Wordgarden$Reading", "upsOf", "(LWordgarden$Word;)I"⟩ ∈ gaW := gaW_t1 (List.mem_of_getElem? (i := 236) rfl) rfl
theorem ww_1_237 : Cond.static ⟨"Wordgarden$Reading", "upsOf", "(LWordgarden$Word;)I"⟩ ∈ gaW := gaW_t1 (List.mem_of_getElem? (i := 237) rfl) rfl
theorem ww_1_238 : Cond.code ⟨"Wordgarden$Reading", "upsOf", "(LWordgarden$Word;)I"⟩ prog_3_method_5_code 3 (some .int) ∈ gaW := gaW_t1 (List.mem_of_getElem? (i := 238) rfl) rfl
theorem ww_1_239 : Cond.methodLink "Wordgarden$Reading" 18 ⟨"Wordgarden$Word", "isUp", "(I)Z"⟩ ∈ gaW := gaW_t1 (List.mem_of_getElem? (i := 239) rfl) rfl
theorem ww_2_0 : Cond.methodLink "Wordgarden" 195 ⟨"Wordgarden$Reading", "orderOf", "(LWordgarden$Word;LWordgarden$Word;)I"⟩ ∈ gaW := gaW_t2 (List.mem_of_getElem? (i := 0) rfl) rfl
theorem ww_2_1 : Cond.static ⟨"Wordgarden$Reading", "orderOf", "(LWordgarden$Word;LWordgarden$Word;)I"⟩ ∈ gaW := gaW_t2 (List.mem_of_getElem? (i := 1) rfl) rfl
theorem ww_2_2 : Cond.code ⟨"Wordgarden$Reading", "orderOf", "(LWordgarden$Word;LWordgarden$Word;)I"⟩ prog_3_method_7_code 4 (some .int) ∈ gaW := gaW_t2 (List.mem_of_getElem? (i := 2) rfl) rfl
theorem ww_2_3 : Cond.methodLink "Wordgarden$Reading" 36 ⟨"java/lang/Math", "min", "(II)I"⟩ ∈ gaW := gaW_t2 (List.mem_of_getElem? (i := 3) rfl) rfl
theorem ww_2_4 : Cond.static ⟨"java/lang/Math", "min", "(II)I"⟩ ∈ gaW := gaW_t2 (List.mem_of_getElem? (i := 4) rfl) rfl
theorem ww_2_5 : Cond.code ⟨"java/lang/Math", "min", "(II)I"⟩ prog_17_method_69_code 2 (some .int) ∈ gaW := gaW_t2 (List.mem_of_getElem? (i := 5) rfl) rfl
theorem ww_2_6 : Cond.methodLink "Wordgarden$Reading" 42 ⟨"java/lang/Integer", "compare", "(II)I"⟩ ∈ gaW := gaW_t2 (List.mem_of_getElem? (i := 6) rfl) rfl
theorem ww_2_7 : Cond.static ⟨"java/lang/Integer", "compare", "(II)I"⟩ ∈ gaW := gaW_t2 (List.mem_of_getElem? (i := 7) rfl) rfl
theorem ww_2_8 : Cond.code ⟨"java/lang/Integer", "compare", "(II)I"⟩ prog_16_method_40_code 2 (some .int) ∈ gaW := gaW_t2 (List.mem_of_getElem? (i := 8) rfl) rfl
theorem ww_2_9 : Cond.methodLink "Wordgarden" 263 ⟨"Wordgarden", "isGrowthSound", "(I)Z"⟩ ∈ gaW := gaW_t2 (List.mem_of_getElem? (i := 9) rfl) rfl
theorem ww_2_11 : Cond.instanceMethod ⟨"Wordgarden", "isGrowthSound", "(I)Z"⟩ ∈ gaW := gaW_t2 (List.mem_of_getElem? (i := 11) rfl) rfl
theorem ww_2_12 : Cond.code ⟨"Wordgarden", "isGrowthSound", "(I)Z"⟩ prog_1_method_64_code 7 (some .boolean) ∈ gaW := gaW_t2 (List.mem_of_getElem? (i := 12) rfl) rfl
theorem ww_2_13 : Cond.methodLink "Wordgarden" 140 ⟨"Wordgarden", "growthOf", "(I)LWordgarden$Growth;"⟩ ∈ gaW := gaW_t2 (List.mem_of_getElem? (i := 13) rfl) rfl
theorem ww_2_15 : Cond.instanceMethod ⟨"Wordgarden", "growthOf", "(I)LWordgarden$Growth;"⟩ ∈ gaW := gaW_t2 (List.mem_of_getElem? (i := 15) rfl) rfl
theorem ww_2_16 : Cond.code ⟨"Wordgarden", "growthOf", "(I)LWordgarden$Growth;"⟩ prog_1_method_50_code 2 (some (.object "Wordgarden$Growth")) ∈ gaW := gaW_t2 (List.mem_of_getElem? (i := 16) rfl) rfl
theorem ww_2_18 : Cond.methodLink "Wordgarden" 147 ⟨"Wordgarden$Growth", "layByRules", "(LWordgarden$Word;LWordgarden$Word;LWordgarden$Rule;)V"⟩ ∈ gaW := gaW_t2 (List.mem_of_getElem? (i := 18) rfl) rfl
theorem ww_2_19 : Cond.instanceMethod ⟨"Wordgarden$Growth", "layByRules", "(LWordgarden$Word;LWordgarden$Word;LWordgarden$Rule;)V"⟩ ∈ gaW := gaW_t2 (List.mem_of_getElem? (i := 19) rfl) rfl
theorem ww_2_20 : Cond.selects "Wordgarden$Growth" ⟨"Wordgarden$Growth", "layByRules", "(LWordgarden$Word;LWordgarden$Word;LWordgarden$Rule;)V"⟩ ⟨"Wordgarden$Growth", "layByRules", "(LWordgarden$Word;LWordgarden$Word;LWordgarden$Rule;)V"⟩ ∈ gaW := gaW_t2 (List.mem_of_getElem? (i := 20) rfl) rfl
theorem ww_2_21 : Cond.code ⟨"Wordgarden$Growth", "layByRules", "(LWordgarden$Word;LWordgarden$Word;LWordgarden$Rule;)V"⟩ prog_2_method_7_code 5 (none : Option Jvm.ClassFile.FieldType) ∈ gaW := gaW_t2 (List.mem_of_getElem? (i := 21) rfl) rfl
theorem ww_2_22 : Cond.methodLink "Wordgarden$Growth" 50 ⟨"Wordgarden$Growth", "turnAt", "(I)I"⟩ ∈ gaW := gaW_t2 (List.mem_of_getElem? (i := 22) rfl) rfl
theorem ww_2_23 : Cond.instanceMethod ⟨"Wordgarden$Growth", "turnAt", "(I)I"⟩ ∈ gaW := gaW_t2 (List.mem_of_getElem? (i := 23) rfl) rfl
theorem ww_2_24 : Cond.selects "Wordgarden$Growth" ⟨"Wordgarden$Growth", "turnAt", "(I)I"⟩ ⟨"Wordgarden$Growth", "turnAt", "(I)I"⟩ ∈ gaW := gaW_t2 (List.mem_of_getElem? (i := 24) rfl) rfl
theorem ww_2_25 : Cond.code ⟨"Wordgarden$Growth", "turnAt", "(I)I"⟩ prog_2_method_4_code 2 (some .int) ∈ gaW := gaW_t2 (List.mem_of_getElem? (i := 25) rfl) rfl
theorem ww_2_26 : Cond.methodLink "Wordgarden$Growth" 54 ⟨"Wordgarden$Growth", "codeForA", "(I)I"⟩ ∈ gaW := gaW_t2 (List.mem_of_getElem? (i := 26) rfl) rfl
theorem ww_2_27 : Cond.static ⟨"Wordgarden$Growth", "codeForA", "(I)I"⟩ ∈ gaW := gaW_t2 (List.mem_of_getElem? (i := 27) rfl) rfl
theorem ww_2_28 : Cond.code ⟨"Wordgarden$Growth", "codeForA", "(I)I"⟩ prog_2_method_8_code 1 (some .int) ∈ gaW := gaW_t2 (List.mem_of_getElem? (i := 28) rfl) rfl
theorem ww_2_29 : Cond.fieldLink "Wordgarden$Growth" 66 "Wordgarden$Growth" "CODES_FOR_A" "[I" ∈ gaW := gaW_t2 (List.mem_of_getElem? (i := 29) rfl) rfl
theorem ww_2_31 : Cond.methodLink "Wordgarden$Growth" 57 ⟨"Wordgarden$Rule", "take", "(II)V"⟩ ∈ gaW := gaW_t2 (List.mem_of_getElem? (i := 31) rfl) rfl
theorem ww_2_32 : Cond.instanceMethod ⟨"Wordgarden$Rule", "take", "(II)V"⟩ ∈ gaW := gaW_t2 (List.mem_of_getElem? (i := 32) rfl) rfl
theorem ww_2_33 : Cond.selects "Wordgarden$Rule" ⟨"Wordgarden$Rule", "take", "(II)V"⟩ ⟨"Wordgarden$Rule", "take", "(II)V"⟩ ∈ gaW := gaW_t2 (List.mem_of_getElem? (i := 33) rfl) rfl
theorem ww_2_34 : Cond.code ⟨"Wordgarden$Rule", "take", "(II)V"⟩ prog_4_method_2_code 3 (none : Option Jvm.ClassFile.FieldType) ∈ gaW := gaW_t2 (List.mem_of_getElem? (i := 34) rfl) rfl
theorem ww_2_35 : Cond.methodLink "Wordgarden$Rule" 25 ⟨"Wordgarden$Word", "takeCode", "(I)V"⟩ ∈ gaW := gaW_t2 (List.mem_of_getElem? (i := 35) rfl) rfl
theorem ww_2_36 : Cond.instanceMethod ⟨"Wordgarden$Word", "takeCode", "(I)V"⟩ ∈ gaW := gaW_t2 (List.mem_of_getElem? (i := 36) rfl) rfl
theorem ww_2_37 : Cond.selects "Wordgarden$Word" ⟨"Wordgarden$Word", "takeCode", "(I)V"⟩ ⟨"Wordgarden$Word", "takeCode", "(I)V"⟩ ∈ gaW := gaW_t2 (List.mem_of_getElem? (i := 37) rfl) rfl
theorem ww_2_38 : Cond.code ⟨"Wordgarden$Word", "takeCode", "(I)V"⟩ prog_6_method_9_code 5 (none : Option Jvm.ClassFile.FieldType) ∈ gaW := gaW_t2 (List.mem_of_getElem? (i := 38) rfl) rfl
theorem ww_2_39 : Cond.methodLink "Wordgarden$Growth" 62 ⟨"Wordgarden$Rule", "layImage", "(LWordgarden$Word;LWordgarden$Word;)V"⟩ ∈ gaW := gaW_t2 (List.mem_of_getElem? (i := 39) rfl) rfl
theorem ww_2_40 : Cond.instanceMethod ⟨"Wordgarden$Rule", "layImage", "(LWordgarden$Word;LWordgarden$Word;)V"⟩ ∈ gaW := gaW_t2 (List.mem_of_getElem? (i := 40) rfl) rfl
theorem ww_2_41 : Cond.selects "Wordgarden$Rule" ⟨"Wordgarden$Rule", "layImage", "(LWordgarden$Word;LWordgarden$Word;)V"⟩ ⟨"Wordgarden$Rule", "layImage", "(LWordgarden$Word;LWordgarden$Word;)V"⟩ ∈ gaW := gaW_t2 (List.mem_of_getElem? (i := 41) rfl) rfl
theorem ww_2_42 : Cond.code ⟨"Wordgarden$Rule", "layImage", "(LWordgarden$Word;LWordgarden$Word;)V"⟩ prog_4_method_5_code 5 (none : Option Jvm.ClassFile.FieldType) ∈ gaW := gaW_t2 (List.mem_of_getElem? (i := 42) rfl) rfl
theorem ww_2_43 : Cond.methodLink "Wordgarden$Rule" 43 ⟨"Wordgarden$Word", "clear", "()V"⟩ ∈ gaW := gaW_t2 (List.mem_of_getElem? (i := 43) rfl) rfl
theorem ww_2_44 : Cond.methodLink "Wordgarden$Rule" 46 ⟨"Wordgarden$Word", "isUp", "(I)Z"⟩ ∈ gaW := gaW_t2 (List.mem_of_getElem? (i := 44) rfl) rfl
theorem ww_2_45 : Cond.methodLink "Wordgarden$Rule" 50 ⟨"Wordgarden$Word", "addPart", "(LWordgarden$Word;II)V"⟩ ∈ gaW := gaW_t2 (List.mem_of_getElem? (i := 45) rfl) rfl
theorem ww_2_46 : Cond.instanceMethod ⟨"Wordgarden$Word", "addPart", "(LWordgarden$Word;II)V"⟩ ∈ gaW := gaW_t2 (List.mem_of_getElem? (i := 46) rfl) rfl
theorem ww_2_47 : Cond.selects "Wordgarden$Word" ⟨"Wordgarden$Word", "addPart", "(LWordgarden$Word;II)V"⟩ ⟨"Wordgarden$Word", "addPart", "(LWordgarden$Word;II)V"⟩ ∈ gaW := gaW_t2 (List.mem_of_getElem? (i := 47) rfl) rfl
theorem ww_2_48 : Cond.code ⟨"Wordgarden$Word", "addPart", "(LWordgarden$Word;II)V"⟩ prog_6_method_6_code 5 (none : Option Jvm.ClassFile.FieldType) ∈ gaW := gaW_t2 (List.mem_of_getElem? (i := 48) rfl) rfl
theorem ww_2_49 : Cond.methodLink "Wordgarden$Growth" 46 ⟨"Wordgarden$Word", "take", "(LWordgarden$Word;)V"⟩ ∈ gaW := gaW_t2 (List.mem_of_getElem? (i := 49) rfl) rfl
theorem ww_2_50 : Cond.instanceMethod ⟨"Wordgarden$Word", "take", "(LWordgarden$Word;)V"⟩ ∈ gaW := gaW_t2 (List.mem_of_getElem? (i := 50) rfl) rfl
theorem ww_2_51 : Cond.selects "Wordgarden$Word" ⟨"Wordgarden$Word", "take", "(LWordgarden$Word;)V"⟩ ⟨"Wordgarden$Word", "take", "(LWordgarden$Word;)V"⟩ ∈ gaW := gaW_t2 (List.mem_of_getElem? (i := 51) rfl) rfl
theorem ww_2_52 : Cond.code ⟨"Wordgarden$Word", "take", "(LWordgarden$Word;)V"⟩ prog_6_method_7_code 3 (none : Option Jvm.ClassFile.FieldType) ∈ gaW := gaW_t2 (List.mem_of_getElem? (i := 52) rfl) rfl
theorem ww_2_53 : Cond.methodLink "Wordgarden$Word" 27 ⟨"Wordgarden$Word", "put", "(IZ)V"⟩ ∈ gaW := gaW_t2 (List.mem_of_getElem? (i := 53) rfl) rfl
theorem ww_2_54 : Cond.instanceMethod ⟨"Wordgarden$Word", "put", "(IZ)V"⟩ ∈ gaW := gaW_t2 (List.mem_of_getElem? (i := 54) rfl) rfl
theorem ww_2_55 : Cond.selects "Wordgarden$Word" ⟨"Wordgarden$Word", "put", "(IZ)V"⟩ ⟨"Wordgarden$Word", "put", "(IZ)V"⟩ ∈ gaW := gaW_t2 (List.mem_of_getElem? (i := 55) rfl) rfl
theorem ww_2_56 : Cond.code ⟨"Wordgarden$Word", "put", "(IZ)V"⟩ prog_6_method_3_code 3 (none : Option Jvm.ClassFile.FieldType) ∈ gaW := gaW_t2 (List.mem_of_getElem? (i := 56) rfl) rfl
theorem ww_2_57 : Cond.methodLink "Wordgarden" 151 ⟨"Wordgarden$Growth", "layByLine", "(LWordgarden$Word;)V"⟩ ∈ gaW := gaW_t2 (List.mem_of_getElem? (i := 57) rfl) rfl
theorem ww_2_58 : Cond.instanceMethod ⟨"Wordgarden$Growth", "layByLine", "(LWordgarden$Word;)V"⟩ ∈ gaW := gaW_t2 (List.mem_of_getElem? (i := 58) rfl) rfl
theorem ww_2_59 : Cond.selects "Wordgarden$Growth" ⟨"Wordgarden$Growth", "layByLine", "(LWordgarden$Word;)V"⟩ ⟨"Wordgarden$Growth", "layByLine", "(LWordgarden$Word;)V"⟩ ∈ gaW := gaW_t2 (List.mem_of_getElem? (i := 59) rfl) rfl
theorem ww_2_60 : Cond.code ⟨"Wordgarden$Growth", "layByLine", "(LWordgarden$Word;)V"⟩ prog_2_method_9_code 10 (none : Option Jvm.ClassFile.FieldType) ∈ gaW := gaW_t2 (List.mem_of_getElem? (i := 60) rfl) rfl
theorem ww_2_62 : Cond.static ⟨"Wordgarden", "isUpOnLine", "(IIII)Z"⟩ ∈ gaW := gaW_t2 (List.mem_of_getElem? (i := 62) rfl) rfl
theorem ww_2_63 : Cond.code ⟨"Wordgarden", "isUpOnLine", "(IIII)Z"⟩ prog_1_method_62_code 4 (some .boolean) ∈ gaW := gaW_t2 (List.mem_of_getElem? (i := 63) rfl) rfl
theorem ww_2_64 : Cond.methodLink "Wordgarden$Growth" 73 ⟨"Wordgarden$Growth", "addLineEnd", "(LWordgarden$Word;)V"⟩ ∈ gaW := gaW_t2 (List.mem_of_getElem? (i := 64) rfl) rfl
theorem ww_2_66 : Cond.instanceMethod ⟨"Wordgarden$Growth", "addLineEnd", "(LWordgarden$Word;)V"⟩ ∈ gaW := gaW_t2 (List.mem_of_getElem? (i := 66) rfl) rfl
theorem ww_2_67 : Cond.code ⟨"Wordgarden$Growth", "addLineEnd", "(LWordgarden$Word;)V"⟩ prog_2_method_10_code 3 (none : Option Jvm.ClassFile.FieldType) ∈ gaW := gaW_t2 (List.mem_of_getElem? (i := 67) rfl) rfl
theorem ww_2_68 : Cond.methodLink "Wordgarden" 315 ⟨"Wordgarden", "cross", "(I)I"⟩ ∈ gaW := gaW_t2 (List.mem_of_getElem? (i := 68) rfl) rfl
theorem ww_2_69 : Cond.instanceMethod ⟨"Wordgarden", "cross", "(I)I"⟩ ∈ gaW := gaW_t2 (List.mem_of_getElem? (i := 69) rfl) rfl
theorem ww_2_70 : Cond.selects "Wordgarden" ⟨"Wordgarden", "cross", "(I)I"⟩ ⟨"Wordgarden", "cross", "(I)I"⟩ ∈ gaW := gaW_t2 (List.mem_of_getElem? (i := 70) rfl) rfl
theorem ww_2_71 : Cond.code ⟨"Wordgarden", "cross", "(I)I"⟩ prog_1_method_43_code 3 (some .int) ∈ gaW := gaW_t2 (List.mem_of_getElem? (i := 71) rfl) rfl
theorem ww_2_72 : Cond.methodLink "Wordgarden" 318 ⟨"Wordgarden", "alike", "(I)I"⟩ ∈ gaW := gaW_t2 (List.mem_of_getElem? (i := 72) rfl) rfl
theorem ww_2_73 : Cond.instanceMethod ⟨"Wordgarden", "alike", "(I)I"⟩ ∈ gaW := gaW_t2 (List.mem_of_getElem? (i := 73) rfl) rfl
theorem ww_2_74 : Cond.selects "Wordgarden" ⟨"Wordgarden", "alike", "(I)I"⟩ ⟨"Wordgarden", "alike", "(I)I"⟩ ∈ gaW := gaW_t2 (List.mem_of_getElem? (i := 74) rfl) rfl
theorem ww_2_75 : Cond.code ⟨"Wordgarden", "alike", "(I)I"⟩ prog_1_method_44_code 3 (some .int) ∈ gaW := gaW_t2 (List.mem_of_getElem? (i := 75) rfl) rfl
theorem ww_2_76 : Cond.methodLink "Wordgarden" 245 ⟨"Wordgarden$Reading", "firstUnlikeJoined", "(LWordgarden$Word;LWordgarden$Word;)I"⟩ ∈ gaW := gaW_t2 (List.mem_of_getElem? (i := 76) rfl) rfl
theorem ww_2_77 : Cond.static ⟨"Wordgarden$Reading", "firstUnlikeJoined", "(LWordgarden$Word;LWordgarden$Word;)I"⟩ ∈ gaW := gaW_t2 (List.mem_of_getElem? (i := 77) rfl) rfl
theorem ww_2_78 : Cond.code ⟨"Wordgarden$Reading", "firstUnlikeJoined", "(LWordgarden$Word;LWordgarden$Word;)I"⟩ prog_3_method_21_code 3 (some .int) ∈ gaW := gaW_t2 (List.mem_of_getElem? (i := 78) rfl) rfl
theorem ww_2_79 : Cond.methodLink "Wordgarden$Reading" 76 ⟨"Wordgarden$Reading", "isUpJoined", "(LWordgarden$Word;LWordgarden$Word;I)Z"⟩ ∈ gaW := gaW_t2 (List.mem_of_getElem? (i := 79) rfl) rfl
theorem ww_2_80 : Cond.static ⟨"Wordgarden$Reading", "isUpJoined", "(LWordgarden$Word;LWordgarden$Word;I)Z"⟩ ∈ gaW := gaW_t2 (List.mem_of_getElem? (i := 80) rfl) rfl
theorem ww_2_81 : Cond.code ⟨"Wordgarden$Reading", "isUpJoined", "(LWordgarden$Word;LWordgarden$Word;I)Z"⟩ prog_3_method_22_code 3 (some .boolean) ∈ gaW := gaW_t2 (List.mem_of_getElem? (i := 81) rfl) rfl
theorem ww_2_82 : Cond.methodLink "WordgardenLaw" 325 ⟨"Wordgarden", "digest", "()J"⟩ ∈ gaW := gaW_t2 (List.mem_of_getElem? (i := 82) rfl) rfl
theorem ww_2_83 : Cond.instanceMethod ⟨"Wordgarden", "digest", "()J"⟩ ∈ gaW := gaW_t2 (List.mem_of_getElem? (i := 83) rfl) rfl
theorem ww_2_84 : Cond.selects "Wordgarden" ⟨"Wordgarden", "digest", "()J"⟩ ⟨"Wordgarden", "digest", "()J"⟩ ∈ gaW := gaW_t2 (List.mem_of_getElem? (i := 84) rfl) rfl
theorem ww_2_85 : Cond.code ⟨"Wordgarden", "digest", "()J"⟩ prog_1_method_48_code 4 (some .long) ∈ gaW := gaW_t2 (List.mem_of_getElem? (i := 85) rfl) rfl
theorem ww_2_86 : Cond.constantLong "Wordgarden" 266 (7979 : Int64) ∈ gaW := gaW_t2 (List.mem_of_getElem? (i := 86) rfl) rfl
theorem ww_2_87 : Cond.methodLink "Wordgarden" 268 ⟨"Wordgarden", "digestSheet", "(JI)J"⟩ ∈ gaW := gaW_t2 (List.mem_of_getElem? (i := 87) rfl) rfl
theorem ww_2_89 : Cond.instanceMethod ⟨"Wordgarden", "digestSheet", "(JI)J"⟩ ∈ gaW := gaW_t2 (List.mem_of_getElem? (i := 89) rfl) rfl
theorem ww_2_90 : Cond.code ⟨"Wordgarden", "digestSheet", "(JI)J"⟩ prog_1_method_66_code 8 (some .long) ∈ gaW := gaW_t2 (List.mem_of_getElem? (i := 90) rfl) rfl
theorem ww_2_91 : Cond.methodLink "Wordgarden" 278 ⟨"Wordgarden", "digestWith", "(JJ)J"⟩ ∈ gaW := gaW_t2 (List.mem_of_getElem? (i := 91) rfl) rfl
theorem ww_2_92 : Cond.static ⟨"Wordgarden", "digestWith", "(JJ)J"⟩ ∈ gaW := gaW_t2 (List.mem_of_getElem? (i := 92) rfl) rfl
theorem ww_2_93 : Cond.code ⟨"Wordgarden", "digestWith", "(JJ)J"⟩ prog_1_method_65_code 4 (some .long) ∈ gaW := gaW_t2 (List.mem_of_getElem? (i := 93) rfl) rfl
theorem ww_2_94 : Cond.constantLong "Wordgarden" 321 (31 : Int64) ∈ gaW := gaW_t2 (List.mem_of_getElem? (i := 94) rfl) rfl
theorem ww_2_95 : Cond.methodLink "Wordgarden" 71 ⟨"Wordgarden$Word", "isUp", "(I)Z"⟩ ∈ gaW := gaW_t2 (List.mem_of_getElem? (i := 95) rfl) rfl
theorem ww_2_96 : Cond.constantLong "Wordgarden" 323 (2 : Int64) ∈ gaW := gaW_t2 (List.mem_of_getElem? (i := 96) rfl) rfl
theorem ww_2_97 : Cond.methodLink "Wordgarden" 325 ⟨"Wordgarden", "isMirrored", "(I)Z"⟩ ∈ gaW := gaW_t2 (List.mem_of_getElem? (i := 97) rfl) rfl
theorem ww_2_98 : Cond.instanceMethod ⟨"Wordgarden", "isMirrored", "(I)Z"⟩ ∈ gaW := gaW_t2 (List.mem_of_getElem? (i := 98) rfl) rfl
theorem ww_2_99 : Cond.selects "Wordgarden" ⟨"Wordgarden", "isMirrored", "(I)Z"⟩ ⟨"Wordgarden", "isMirrored", "(I)Z"⟩ ∈ gaW := gaW_t2 (List.mem_of_getElem? (i := 99) rfl) rfl
theorem ww_2_100 : Cond.code ⟨"Wordgarden", "isMirrored", "(I)Z"⟩ prog_1_method_30_code 3 (some .boolean) ∈ gaW := gaW_t2 (List.mem_of_getElem? (i := 100) rfl) rfl
theorem ww_2_101 : Cond.methodLink "Wordgarden" 198 ⟨"Wordgarden$Reading", "isMirroredPart", "(LWordgarden$Word;II)Z"⟩ ∈ gaW := gaW_t2 (List.mem_of_getElem? (i := 101) rfl) rfl
theorem ww_2_102 : Cond.static ⟨"Wordgarden$Reading", "isMirroredPart", "(LWordgarden$Word;II)Z"⟩ ∈ gaW := gaW_t2 (List.mem_of_getElem? (i := 102) rfl) rfl
theorem ww_2_103 : Cond.code ⟨"Wordgarden$Reading", "isMirroredPart", "(LWordgarden$Word;II)Z"⟩ prog_3_method_9_code 4 (some .boolean) ∈ gaW := gaW_t2 (List.mem_of_getElem? (i := 103) rfl) rfl
theorem ww_2_104 : Cond.methodLink "Wordgarden" 79 ⟨"Wordgarden", "oneIf", "(Z)I"⟩ ∈ gaW := gaW_t2 (List.mem_of_getElem? (i := 104) rfl) rfl
theorem ww_2_105 : Cond.static ⟨"Wordgarden", "oneIf", "(Z)I"⟩ ∈ gaW := gaW_t2 (List.mem_of_getElem? (i := 105) rfl) rfl
theorem ww_2_106 : Cond.code ⟨"Wordgarden", "oneIf", "(Z)I"⟩ prog_1_method_54_code 1 (some .int) ∈ gaW := gaW_t2 (List.mem_of_getElem? (i := 106) rfl) rfl
theorem ww_2_107 : Cond.methodLink "Wordgarden" 328 ⟨"Wordgarden", "times", "(I)I"⟩ ∈ gaW := gaW_t2 (List.mem_of_getElem? (i := 107) rfl) rfl
theorem ww_2_108 : Cond.instanceMethod ⟨"Wordgarden", "times", "(I)I"⟩ ∈ gaW := gaW_t2 (List.mem_of_getElem? (i := 108) rfl) rfl
theorem ww_2_109 : Cond.selects "Wordgarden" ⟨"Wordgarden", "times", "(I)I"⟩ ⟨"Wordgarden", "times", "(I)I"⟩ ∈ gaW := gaW_t2 (List.mem_of_getElem? (i := 109) rfl) rfl
theorem ww_2_110 : Cond.code ⟨"Wordgarden", "times", "(I)I"⟩ prog_1_method_33_code 2 (some .int) ∈ gaW := gaW_t2 (List.mem_of_getElem? (i := 110) rfl) rfl
theorem ww_2_111 : Cond.methodLink "Wordgarden" 209 ⟨"Wordgarden$Reading", "timesOf", "(LWordgarden$Word;)I"⟩ ∈ gaW := gaW_t2 (List.mem_of_getElem? (i := 111) rfl) rfl
theorem ww_2_112 : Cond.static ⟨"Wordgarden$Reading", "timesOf", "(LWordgarden$Word;)I"⟩ ∈ gaW := gaW_t2 (List.mem_of_getElem? (i := 112) rfl) rfl
theorem ww_2_113 : Cond.code ⟨"Wordgarden$Reading", "timesOf", "(LWordgarden$Word;)I"⟩ prog_3_method_14_code 3 (some .int) ∈ gaW := gaW_t2 (List.mem_of_getElem? (i := 113) rfl) rfl
theorem ww_2_114 : Cond.methodLink "Wordgarden$Reading" 66 ⟨"Wordgarden$Reading", "timesWith", "(LWordgarden$Word;I)I"⟩ ∈ gaW := gaW_t2 (List.mem_of_getElem? (i := 114) rfl) rfl
theorem ww_2_115 : Cond.static ⟨"Wordgarden$Reading", "timesWith", "(LWordgarden$Word;I)I"⟩ ∈ gaW := gaW_t2 (List.mem_of_getElem? (i := 115) rfl) rfl
theorem ww_2_116 : Cond.code ⟨"Wordgarden$Reading", "timesWith", "(LWordgarden$Word;I)I"⟩ prog_3_method_15_code 5 (some .int) ∈ gaW := gaW_t2 (List.mem_of_getElem? (i := 116) rfl) rfl
theorem ww_2_117 : Cond.methodLink "Wordgarden$Reading" 47 ⟨"java/lang/Math", "max", "(II)I"⟩ ∈ gaW := gaW_t2 (List.mem_of_getElem? (i := 117) rfl) rfl
theorem ww_2_118 : Cond.static ⟨"java/lang/Math", "max", "(II)I"⟩ ∈ gaW := gaW_t2 (List.mem_of_getElem? (i := 118) rfl) rfl
theorem ww_2_119 : Cond.code ⟨"java/lang/Math", "max", "(II)I"⟩ prog_17_method_65_code 2 (some .int) ∈ gaW := gaW_t2 (List.mem_of_getElem? (i := 119) rfl) rfl
theorem ww_2_120 : Cond.methodLink "Wordgarden" 331 ⟨"Wordgarden", "overlaps", "(I)I"⟩ ∈ gaW := gaW_t2 (List.mem_of_getElem? (i := 120) rfl) rfl
theorem ww_2_121 : Cond.instanceMethod ⟨"Wordgarden", "overlaps", "(I)I"⟩ ∈ gaW := gaW_t2 (List.mem_of_getElem? (i := 121) rfl) rfl
theorem ww_2_122 : Cond.selects "Wordgarden" ⟨"Wordgarden", "overlaps", "(I)I"⟩ ⟨"Wordgarden", "overlaps", "(I)I"⟩ ∈ gaW := gaW_t2 (List.mem_of_getElem? (i := 122) rfl) rfl
theorem ww_2_123 : Cond.code ⟨"Wordgarden", "overlaps", "(I)I"⟩ prog_1_method_34_code 2 (some .int) ∈ gaW := gaW_t2 (List.mem_of_getElem? (i := 123) rfl) rfl
theorem ww_2_124 : Cond.methodLink "Wordgarden" 212 ⟨"Wordgarden$Reading", "overlapsOf", "(LWordgarden$Word;)I"⟩ ∈ gaW := gaW_t2 (List.mem_of_getElem? (i := 124) rfl) rfl
theorem ww_2_125 : Cond.static ⟨"Wordgarden$Reading", "overlapsOf", "(LWordgarden$Word;)I"⟩ ∈ gaW := gaW_t2 (List.mem_of_getElem? (i := 125) rfl) rfl
theorem ww_2_126 : Cond.code ⟨"Wordgarden$Reading", "overlapsOf", "(LWordgarden$Word;)I"⟩ prog_3_method_16_code 4 (some .int) ∈ gaW := gaW_t2 (List.mem_of_getElem? (i := 126) rfl) rfl
theorem ww_2_127 : Cond.methodLink "Wordgarden$Reading" 70 ⟨"Wordgarden$Reading", "isOverlap", "(LWordgarden$Word;II)Z"⟩ ∈ gaW := gaW_t2 (List.mem_of_getElem? (i := 127) rfl) rfl
theorem ww_2_128 : Cond.static ⟨"Wordgarden$Reading", "isOverlap", "(LWordgarden$Word;II)Z"⟩ ∈ gaW := gaW_t2 (List.mem_of_getElem? (i := 128) rfl) rfl
theorem ww_2_129 : Cond.code ⟨"Wordgarden$Reading", "isOverlap", "(LWordgarden$Word;II)Z"⟩ prog_3_method_17_code 4 (some .boolean) ∈ gaW := gaW_t2 (List.mem_of_getElem? (i := 129) rfl) rfl
theorem ww_2_130 : Cond.methodLink "Wordgarden" 334 ⟨"Wordgarden", "folds", "(I)I"⟩ ∈ gaW := gaW_t2 (List.mem_of_getElem? (i := 130) rfl) rfl
theorem ww_2_131 : Cond.instanceMethod ⟨"Wordgarden", "folds", "(I)I"⟩ ∈ gaW := gaW_t2 (List.mem_of_getElem? (i := 131) rfl) rfl
theorem ww_2_132 : Cond.selects "Wordgarden" ⟨"Wordgarden", "folds", "(I)I"⟩ ⟨"Wordgarden", "folds", "(I)I"⟩ ∈ gaW := gaW_t2 (List.mem_of_getElem? (i := 132) rfl) rfl
theorem ww_2_133 : Cond.code ⟨"Wordgarden", "folds", "(I)I"⟩ prog_1_method_36_code 2 (some .int) ∈ gaW := gaW_t2 (List.mem_of_getElem? (i := 133) rfl) rfl
theorem ww_2_134 : Cond.methodLink "Wordgarden" 218 ⟨"Wordgarden$Reading", "foldsOf", "(LWordgarden$Word;)I"⟩ ∈ gaW := gaW_t2 (List.mem_of_getElem? (i := 134) rfl) rfl
theorem ww_2_135 : Cond.static ⟨"Wordgarden$Reading", "foldsOf", "(LWordgarden$Word;)I"⟩ ∈ gaW := gaW_t2 (List.mem_of_getElem? (i := 135) rfl) rfl
theorem ww_2_136 : Cond.code ⟨"Wordgarden$Reading", "foldsOf", "(LWordgarden$Word;)I"⟩ prog_3_method_19_code 3 (some .int) ∈ gaW := gaW_t2 (List.mem_of_getElem? (i := 136) rfl) rfl
theorem ww_2_137 : Cond.methodLink "Wordgarden$Reading" 73 ⟨"Wordgarden$Reading", "isMirroredPart", "(LWordgarden$Word;II)Z"⟩ ∈ gaW := gaW_t2 (List.mem_of_getElem? (i := 137) rfl) rfl
theorem ww_2_138 : Cond.methodLink "Wordgarden" 337 ⟨"Wordgarden", "least", "(I)I"⟩ ∈ gaW := gaW_t2 (List.mem_of_getElem? (i := 138) rfl) rfl
theorem ww_2_139 : Cond.instanceMethod ⟨"Wordgarden", "least", "(I)I"⟩ ∈ gaW := gaW_t2 (List.mem_of_getElem? (i := 139) rfl) rfl
theorem ww_2_140 : Cond.selects "Wordgarden" ⟨"Wordgarden", "least", "(I)I"⟩ ⟨"Wordgarden", "least", "(I)I"⟩ ∈ gaW := gaW_t2 (List.mem_of_getElem? (i := 140) rfl) rfl
theorem ww_2_141 : Cond.code ⟨"Wordgarden", "least", "(I)I"⟩ prog_1_method_37_code 2 (some .int) ∈ gaW := gaW_t2 (List.mem_of_getElem? (i := 141) rfl) rfl
theorem ww_2_142 : Cond.methodLink "Wordgarden" 221 ⟨"Wordgarden$Reading", "leastOf", "(LWordgarden$Word;)I"⟩ ∈ gaW := gaW_t2 (List.mem_of_getElem? (i := 142) rfl) rfl
theorem ww_2_143 : Cond.static ⟨"Wordgarden$Reading", "leastOf", "(LWordgarden$Word;)I"⟩ ∈ gaW := gaW_t2 (List.mem_of_getElem? (i := 143) rfl) rfl
theorem ww_2_144 : Cond.code ⟨"Wordgarden$Reading", "leastOf", "(LWordgarden$Word;)I"⟩ prog_3_method_20_code 3 (some .int) ∈ gaW := gaW_t2 (List.mem_of_getElem? (i := 144) rfl) rfl
theorem ww_2_145 : Cond.methodLink "Wordgarden$Reading" 58 ⟨"Wordgarden$Reading", "ringOrder", "(LWordgarden$Word;III)I"⟩ ∈ gaW := gaW_t2 (List.mem_of_getElem? (i := 145) rfl) rfl
theorem ww_2_146 : Cond.static ⟨"Wordgarden$Reading", "ringOrder", "(LWordgarden$Word;III)I"⟩ ∈ gaW := gaW_t2 (List.mem_of_getElem? (i := 146) rfl) rfl
theorem ww_2_147 : Cond.code ⟨"Wordgarden$Reading", "ringOrder", "(LWordgarden$Word;III)I"⟩ prog_3_method_8_code 6 (some .int) ∈ gaW := gaW_t2 (List.mem_of_getElem? (i := 147) rfl) rfl
theorem ww_2_148 : Cond.methodLink "Wordgarden$Reading" 30 ⟨"Wordgarden$Reading", "isUpOnRing", "(LWordgarden$Word;I)Z"⟩ ∈ gaW := gaW_t2 (List.mem_of_getElem? (i := 148) rfl) rfl
theorem ww_2_149 : Cond.static ⟨"Wordgarden$Reading", "isUpOnRing", "(LWordgarden$Word;I)Z"⟩ ∈ gaW := gaW_t2 (List.mem_of_getElem? (i := 149) rfl) rfl
theorem ww_2_150 : Cond.code ⟨"Wordgarden$Reading", "isUpOnRing", "(LWordgarden$Word;I)Z"⟩ prog_3_method_3_code 2 (some .boolean) ∈ gaW := gaW_t2 (List.mem_of_getElem? (i := 150) rfl) rfl
theorem ww_2_151 : Cond.methodLink "Wordgarden" 272 ⟨"Wordgarden", "digestGrowth", "(JI)J"⟩ ∈ gaW := gaW_t2 (List.mem_of_getElem? (i := 151) rfl) rfl
theorem ww_2_153 : Cond.instanceMethod ⟨"Wordgarden", "digestGrowth", "(JI)J"⟩ ∈ gaW := gaW_t2 (List.mem_of_getElem? (i := 153) rfl) rfl
theorem ww_2_154 : Cond.code ⟨"Wordgarden", "digestGrowth", "(JI)J"⟩ prog_1_method_67_code 8 (some .long) ∈ gaW := gaW_t2 (List.mem_of_getElem? (i := 154) rfl) rfl
theorem ww_2_155 : Cond.methodLink "Wordgarden" 227 ⟨"Wordgarden$Growth", "turnAt", "(I)I"⟩ ∈ gaW := gaW_t2 (List.mem_of_getElem? (i := 155) rfl) rfl
theorem ww_2_156 : Cond.methodLink "Wordgarden" 340 ⟨"Wordgarden", "size", "(IZ)I"⟩ ∈ gaW := gaW_t2 (List.mem_of_getElem? (i := 156) rfl) rfl
theorem ww_2_157 : Cond.instanceMethod ⟨"Wordgarden", "size", "(IZ)I"⟩ ∈ gaW := gaW_t2 (List.mem_of_getElem? (i := 157) rfl) rfl
theorem ww_2_158 : Cond.selects "Wordgarden" ⟨"Wordgarden", "size", "(IZ)I"⟩ ⟨"Wordgarden", "size", "(IZ)I"⟩ ∈ gaW := gaW_t2 (List.mem_of_getElem? (i := 158) rfl) rfl
theorem ww_2_159 : Cond.code ⟨"Wordgarden", "size", "(IZ)I"⟩ prog_1_method_41_code 3 (some .int) ∈ gaW := gaW_t2 (List.mem_of_getElem? (i := 159) rfl) rfl
theorem ww_2_160 : Cond.methodLink "Wordgarden" 238 ⟨"Wordgarden$Growth", "wordBy", "(Z)LWordgarden$Word;"⟩ ∈ gaW := gaW_t2 (List.mem_of_getElem? (i := 160) rfl) rfl
theorem ww_2_161 : Cond.instanceMethod ⟨"Wordgarden$Growth", "wordBy", "(Z)LWordgarden$Word;"⟩ ∈ gaW := gaW_t2 (List.mem_of_getElem? (i := 161) rfl) rfl
theorem ww_2_162 : Cond.selects "Wordgarden$Growth" ⟨"Wordgarden$Growth", "wordBy", "(Z)LWordgarden$Word;"⟩ ⟨"Wordgarden$Growth", "wordBy", "(Z)LWordgarden$Word;"⟩ ∈ gaW := gaW_t2 (List.mem_of_getElem? (i := 162) rfl) rfl
theorem ww_2_163 : Cond.code ⟨"Wordgarden$Growth", "wordBy", "(Z)LWordgarden$Word;"⟩ prog_2_method_3_code 2 (some (.object "Wordgarden$Word")) ∈ gaW := gaW_t2 (List.mem_of_getElem? (i := 163) rfl) rfl
theorem ww_2_164 : Cond.methodLink "Wordgarden" 343 ⟨"Wordgarden", "ups", "(IZ)I"⟩ ∈ gaW := gaW_t2 (List.mem_of_getElem? (i := 164) rfl) rfl
theorem ww_2_165 : Cond.instanceMethod ⟨"Wordgarden", "ups", "(IZ)I"⟩ ∈ gaW := gaW_t2 (List.mem_of_getElem? (i := 165) rfl) rfl
theorem ww_2_166 : Cond.selects "Wordgarden" ⟨"Wordgarden", "ups", "(IZ)I"⟩ ⟨"Wordgarden", "ups", "(IZ)I"⟩ ∈ gaW := gaW_t2 (List.mem_of_getElem? (i := 166) rfl) rfl
theorem ww_2_167 : Cond.code ⟨"Wordgarden", "ups", "(IZ)I"⟩ prog_1_method_42_code 3 (some .int) ∈ gaW := gaW_t2 (List.mem_of_getElem? (i := 167) rfl) rfl
theorem ww_2_168 : Cond.methodLink "Wordgarden" 275 ⟨"Wordgarden", "house", "(I)I"⟩ ∈ gaW := gaW_t2 (List.mem_of_getElem? (i := 168) rfl) rfl
theorem ww_2_169 : Cond.instanceMethod ⟨"Wordgarden", "house", "(I)I"⟩ ∈ gaW := gaW_t2 (List.mem_of_getElem? (i := 169) rfl) rfl
theorem ww_2_170 : Cond.selects "Wordgarden" ⟨"Wordgarden", "house", "(I)I"⟩ ⟨"Wordgarden", "house", "(I)I"⟩ ∈ gaW := gaW_t2 (List.mem_of_getElem? (i := 170) rfl) rfl
theorem ww_2_171 : Cond.code ⟨"Wordgarden", "house", "(I)I"⟩ prog_1_method_45_code 2 (some .int) ∈ gaW := gaW_t2 (List.mem_of_getElem? (i := 171) rfl) rfl
theorem ww_2_172 : Cond.methodLink "Wordgarden" 42 ⟨"Wordgarden", "needArgument", "(Z)V"⟩ ∈ gaW := gaW_t2 (List.mem_of_getElem? (i := 172) rfl) rfl
theorem ww_2_173 : Cond.static ⟨"Wordgarden", "needArgument", "(Z)V"⟩ ∈ gaW := gaW_t2 (List.mem_of_getElem? (i := 173) rfl) rfl
theorem ww_2_174 : Cond.code ⟨"Wordgarden", "needArgument", "(Z)V"⟩ prog_1_method_52_code 1 (none : Option Jvm.ClassFile.FieldType) ∈ gaW := gaW_t2 (List.mem_of_getElem? (i := 174) rfl) rfl
theorem ww_2_175 : Cond.classLink "Wordgarden" 296 "java/lang/IllegalArgumentException" ∈ gaW := gaW_t2 (List.mem_of_getElem? (i := 175) rfl) rfl
theorem ww_2_176 : Cond.instantiable "java/lang/IllegalArgumentException" 6 ∈ gaW := gaW_t2 (List.mem_of_getElem? (i := 176) rfl) rfl
theorem ww_2_178 : Cond.selects "java/lang/IllegalArgumentException" ⟨"java/lang/Throwable", "fillInStackTrace", "(I)Ljava/lang/Throwable;"⟩ ⟨"java/lang/Throwable", "fillInStackTrace", "(I)Ljava/lang/Throwable;"⟩ ∈ gaW := gaW_t2 (List.mem_of_getElem? (i := 178) rfl) rfl
theorem ww_2_179 : Cond.lays "java/lang/IllegalArgumentException" "java/lang/Throwable" "cause" "Ljava/lang/Throwable;" ∈ gaW := gaW_t2 (List.mem_of_getElem? (i := 179) rfl) rfl
theorem ww_2_180 : Cond.lays "java/lang/IllegalArgumentException" "java/lang/Throwable" "stackTrace" "[Ljava/lang/StackTraceElement;" ∈ gaW := gaW_t2 (List.mem_of_getElem? (i := 180) rfl) rfl
theorem ww_2_181 : Cond.lays "java/lang/IllegalArgumentException" "java/lang/Throwable" "suppressedExceptions" "Ljava/util/List;" ∈ gaW := gaW_t2 (List.mem_of_getElem? (i := 181) rfl) rfl
theorem ww_2_182 : Cond.lays "java/lang/IllegalArgumentException" "java/lang/Throwable" "detailMessage" "Ljava/lang/String;" ∈ gaW := gaW_t2 (List.mem_of_getElem? (i := 182) rfl) rfl
theorem ww_2_183 : Cond.lays "java/lang/IllegalArgumentException" "java/lang/Throwable" "backtrace" "Ljava/lang/Object;" ∈ gaW := gaW_t2 (List.mem_of_getElem? (i := 183) rfl) rfl
theorem ww_2_185 : Cond.methodLink "Wordgarden" 300 ⟨"java/lang/IllegalArgumentException", "<init>", "(Ljava/lang/String;)V"⟩ ∈ gaW := gaW_t2 (List.mem_of_getElem? (i := 185) rfl) rfl
theorem ww_2_186 : Cond.instanceMethod ⟨"java/lang/IllegalArgumentException", "<init>", "(Ljava/lang/String;)V"⟩ ∈ gaW := gaW_t2 (List.mem_of_getElem? (i := 186) rfl) rfl
theorem ww_2_187 : Cond.code ⟨"java/lang/IllegalArgumentException", "<init>", "(Ljava/lang/String;)V"⟩ prog_13_method_2_code 2 (none : Option Jvm.ClassFile.FieldType) ∈ gaW := gaW_t2 (List.mem_of_getElem? (i := 187) rfl) rfl
theorem ww_2_188 : Cond.methodLink "java/lang/IllegalArgumentException" 7 ⟨"java/lang/RuntimeException", "<init>", "(Ljava/lang/String;)V"⟩ ∈ gaW := gaW_t2 (List.mem_of_getElem? (i := 188) rfl) rfl
theorem ww_2_189 : Cond.lays "java/lang/IllegalArgumentException" "java/lang/Throwable" "depth" "I" ∈ gaW := gaW_t2 (List.mem_of_getElem? (i := 189) rfl) rfl
theorem ww_2_190 : Cond.superclass "java/lang/IllegalArgumentException" "java/lang/RuntimeException" ∈ gaW := gaW_t2 (List.mem_of_getElem? (i := 190) rfl) rfl
theorem ww_2_191 : Cond.methodLink "Wordgarden" 282 ⟨"Wordgarden", "isSound", "()Z"⟩ ∈ gaW := gaW_t2 (List.mem_of_getElem? (i := 191) rfl) rfl
theorem ww_2_192 : Cond.classLink "WordgardenLaw" 14 "WordgardenLaw$Out" ∈ gaW := gaW_t2 (List.mem_of_getElem? (i := 192) rfl) rfl
theorem ww_2_193 : Cond.instantiable "WordgardenLaw$Out" 2 ∈ gaW := gaW_t2 (List.mem_of_getElem? (i := 193) rfl) rfl
theorem ww_2_195 : Cond.instanceMethod ⟨"WordgardenLaw$Out", "<init>", "()V"⟩ ∈ gaW := gaW_t2 (List.mem_of_getElem? (i := 195) rfl) rfl
theorem ww_2_196 : Cond.code ⟨"WordgardenLaw$Out", "<init>", "()V"⟩ prog_8_method_1_code 1 (none : Option Jvm.ClassFile.FieldType) ∈ gaW := gaW_t2 (List.mem_of_getElem? (i := 196) rfl) rfl
theorem ww_2_197 : Cond.methodLink "WordgardenLaw$Out" 1 ⟨"java/lang/Object", "<init>", "()V"⟩ ∈ gaW := gaW_t2 (List.mem_of_getElem? (i := 197) rfl) rfl
theorem ww_2_200 : Cond.lays "WordgardenLaw$Out" "WordgardenLaw$Out" "n" "J" ∈ gaW := gaW_t2 (List.mem_of_getElem? (i := 200) rfl) rfl
theorem ww_2_202 : Cond.lays "WordgardenLaw$Out" "WordgardenLaw$Out" "s" "Ljava/lang/String;" ∈ gaW := gaW_t2 (List.mem_of_getElem? (i := 202) rfl) rfl
theorem ww_2_204 : Cond.superclass "WordgardenLaw$Out" "java/lang/Object" ∈ gaW := gaW_t2 (List.mem_of_getElem? (i := 204) rfl) rfl
theorem ww_2_205 : Cond.methodLink "WordgardenLaw" 172 ⟨"WordgardenLaw", "write", "(LWordgarden;IILWordgardenLaw$Out;)I"⟩ ∈ gaW := gaW_t2 (List.mem_of_getElem? (i := 205) rfl) rfl
theorem ww_2_206 : Cond.static ⟨"WordgardenLaw", "write", "(LWordgarden;IILWordgardenLaw$Out;)I"⟩ ∈ gaW := gaW_t2 (List.mem_of_getElem? (i := 206) rfl) rfl
theorem ww_2_207 : Cond.codeWith ⟨"WordgardenLaw", "write", "(LWordgarden;IILWordgardenLaw$Out;)I"⟩ method_2_code 5 (some .int) [(0, 11, 14, 19), (0, 11, 18, 21)] ∈ gaW := gaW_t2 (List.mem_of_getElem? (i := 207) rfl) rfl
theorem ww_2_208 : Cond.classLink "WordgardenLaw" 19 "java/lang/IndexOutOfBoundsException" ∈ gaW := gaW_t2 (List.mem_of_getElem? (i := 208) rfl) rfl
theorem ww_2_209 : Cond.classLink "WordgardenLaw" 21 "java/lang/IllegalArgumentException" ∈ gaW := gaW_t2 (List.mem_of_getElem? (i := 209) rfl) rfl
theorem ww_2_210 : Cond.methodLink "WordgardenLaw" 7 ⟨"Wordgarden", "write", "(II)I"⟩ ∈ gaW := gaW_t2 (List.mem_of_getElem? (i := 210) rfl) rfl
theorem ww_2_211 : Cond.instanceMethod ⟨"Wordgarden", "write", "(II)I"⟩ ∈ gaW := gaW_t2 (List.mem_of_getElem? (i := 211) rfl) rfl
theorem ww_2_212 : Cond.selects "Wordgarden" ⟨"Wordgarden", "write", "(II)I"⟩ ⟨"Wordgarden", "write", "(II)I"⟩ ∈ gaW := gaW_t2 (List.mem_of_getElem? (i := 212) rfl) rfl
theorem ww_2_213 : Cond.code ⟨"Wordgarden", "write", "(II)I"⟩ prog_1_method_2_code 4 (some .int) ∈ gaW := gaW_t2 (List.mem_of_getElem? (i := 213) rfl) rfl
theorem ww_2_214 : Cond.constant "Wordgarden" 41 (65535) ∈ gaW := gaW_t2 (List.mem_of_getElem? (i := 214) rfl) rfl
theorem ww_2_215 : Cond.methodLink "Wordgarden" 46 ⟨"Wordgarden$Word", "takeCode", "(I)V"⟩ ∈ gaW := gaW_t2 (List.mem_of_getElem? (i := 215) rfl) rfl
theorem ww_2_216 : Cond.methodLink "Wordgarden" 54 ⟨"Wordgarden", "sheetActDone", "(I)I"⟩ ∈ gaW := gaW_t2 (List.mem_of_getElem? (i := 216) rfl) rfl
theorem ww_2_218 : Cond.instanceMethod ⟨"Wordgarden", "sheetActDone", "(I)I"⟩ ∈ gaW := gaW_t2 (List.mem_of_getElem? (i := 218) rfl) rfl
theorem ww_2_219 : Cond.code ⟨"Wordgarden", "sheetActDone", "(I)I"⟩ prog_1_method_55_code 2 (some .int) ∈ gaW := gaW_t2 (List.mem_of_getElem? (i := 219) rfl) rfl
theorem ww_2_220 : Cond.methodLink "WordgardenLaw" 178 ⟨"WordgardenLaw", "append", "(LWordgarden;IILWordgardenLaw$Out;)I"⟩ ∈ gaW := gaW_t2 (List.mem_of_getElem? (i := 220) rfl) rfl
theorem ww_2_221 : Cond.static ⟨"WordgardenLaw", "append", "(LWordgarden;IILWordgardenLaw$Out;)I"⟩ ∈ gaW := gaW_t2 (List.mem_of_getElem? (i := 221) rfl) rfl
theorem ww_2_222 : Cond.codeWith ⟨"WordgardenLaw", "append", "(LWordgarden;IILWordgardenLaw$Out;)I"⟩ method_3_code 5 (some .int) [(0, 11, 14, 19)] ∈ gaW := gaW_t2 (List.mem_of_getElem? (i := 222) rfl) rfl
theorem ww_2_223 : Cond.methodLink "WordgardenLaw" 23 ⟨"Wordgarden", "append", "(II)I"⟩ ∈ gaW := gaW_t2 (List.mem_of_getElem? (i := 223) rfl) rfl
theorem ww_2_224 : Cond.instanceMethod ⟨"Wordgarden", "append", "(II)I"⟩ ∈ gaW := gaW_t2 (List.mem_of_getElem? (i := 224) rfl) rfl
theorem ww_2_225 : Cond.selects "Wordgarden" ⟨"Wordgarden", "append", "(II)I"⟩ ⟨"Wordgarden", "append", "(II)I"⟩ ∈ gaW := gaW_t2 (List.mem_of_getElem? (i := 225) rfl) rfl
theorem ww_2_226 : Cond.code ⟨"Wordgarden", "append", "(II)I"⟩ prog_1_method_3_code 4 (some .int) ∈ gaW := gaW_t2 (List.mem_of_getElem? (i := 226) rfl) rfl
theorem ww_2_227 : Cond.methodLink "Wordgarden" 58 ⟨"Wordgarden", "exchangePart", "(LWordgarden$Word;IILWordgarden$Word;)I"⟩ ∈ gaW := gaW_t2 (List.mem_of_getElem? (i := 227) rfl) rfl
theorem ww_2_229 : Cond.instanceMethod ⟨"Wordgarden", "exchangePart", "(LWordgarden$Word;IILWordgarden$Word;)I"⟩ ∈ gaW := gaW_t2 (List.mem_of_getElem? (i := 229) rfl) rfl
theorem ww_2_230 : Cond.code ⟨"Wordgarden", "exchangePart", "(LWordgarden$Word;IILWordgarden$Word;)I"⟩ prog_1_method_58_code 5 (some .int) ∈ gaW := gaW_t2 (List.mem_of_getElem? (i := 230) rfl) rfl
theorem ww_2_231 : Cond.methodLink "Wordgarden" 121 ⟨"Wordgarden", "refuse", "()I"⟩ ∈ gaW := gaW_t2 (List.mem_of_getElem? (i := 231) rfl) rfl
theorem ww_2_233 : Cond.instanceMethod ⟨"Wordgarden", "refuse", "()I"⟩ ∈ gaW := gaW_t2 (List.mem_of_getElem? (i := 233) rfl) rfl
theorem ww_2_234 : Cond.code ⟨"Wordgarden", "refuse", "()I"⟩ prog_1_method_57_code 1 (some .int) ∈ gaW := gaW_t2 (List.mem_of_getElem? (i := 234) rfl) rfl
theorem ww_2_235 : Cond.methodLink "Wordgarden" 65 ⟨"Wordgarden$Word", "clear", "()V"⟩ ∈ gaW := gaW_t2 (List.mem_of_getElem? (i := 235) rfl) rfl
theorem ww_2_236 : Cond.methodLink "Wordgarden" 93 ⟨"Wordgarden$Word", "addPart", "(LWordgarden$Word;II)V"⟩ ∈ gaW := gaW_t2 (List.mem_of_getElem? (i := 236) rfl) rfl
theorem ww_2_237 : Cond.methodLink "Wordgarden" 97 ⟨"Wordgarden$Word", "take", "(LWordgarden$Word;)V"⟩ ∈ gaW := gaW_t2 (List.mem_of_getElem? (i := 237) rfl) rfl
theorem ww_2_238 : Cond.methodLink "WordgardenLaw" 181 ⟨"WordgardenLaw", "insertSign", "(LWordgarden;IIZLWordgardenLaw$Out;)I"⟩ ∈ gaW := gaW_t2 (List.mem_of_getElem? (i := 238) rfl) rfl
theorem ww_2_239 : Cond.static ⟨"WordgardenLaw", "insertSign", "(LWordgarden;IIZLWordgardenLaw$Out;)I"⟩ ∈ gaW := gaW_t2 (List.mem_of_getElem? (i := 239) rfl) rfl
theorem ww_3_0 : Cond.codeWith ⟨"WordgardenLaw", "insertSign", "(LWordgarden;IIZLWordgardenLaw$Out;)I"⟩ method_4_code 6 (some .int) [(0, 13, 16, 19)] ∈ gaW := gaW_t3 (List.mem_of_getElem? (i := 0) rfl) rfl
theorem ww_3_1 : Cond.methodLink "WordgardenLaw" 26 ⟨"Wordgarden", "insertSign", "(IIZ)I"⟩ ∈ gaW := gaW_t3 (List.mem_of_getElem? (i := 1) rfl) rfl
theorem ww_3_2 : Cond.instanceMethod ⟨"Wordgarden", "insertSign", "(IIZ)I"⟩ ∈ gaW := gaW_t3 (List.mem_of_getElem? (i := 2) rfl) rfl
theorem ww_3_3 : Cond.selects "Wordgarden" ⟨"Wordgarden", "insertSign", "(IIZ)I"⟩ ⟨"Wordgarden", "insertSign", "(IIZ)I"⟩ ∈ gaW := gaW_t3 (List.mem_of_getElem? (i := 3) rfl) rfl
theorem ww_3_4 : Cond.code ⟨"Wordgarden", "insertSign", "(IIZ)I"⟩ prog_1_method_4_code 5 (some .int) ∈ gaW := gaW_t3 (List.mem_of_getElem? (i := 4) rfl) rfl
theorem ww_3_5 : Cond.methodLink "Wordgarden" 62 ⟨"Wordgarden", "needIndex", "(Z)V"⟩ ∈ gaW := gaW_t3 (List.mem_of_getElem? (i := 5) rfl) rfl
theorem ww_3_6 : Cond.static ⟨"Wordgarden", "needIndex", "(Z)V"⟩ ∈ gaW := gaW_t3 (List.mem_of_getElem? (i := 6) rfl) rfl
theorem ww_3_7 : Cond.code ⟨"Wordgarden", "needIndex", "(Z)V"⟩ prog_1_method_51_code 1 (none : Option Jvm.ClassFile.FieldType) ∈ gaW := gaW_t3 (List.mem_of_getElem? (i := 7) rfl) rfl
theorem ww_3_9 : Cond.methodLink "Wordgarden" 68 ⟨"Wordgarden$Word", "add", "(Z)V"⟩ ∈ gaW := gaW_t3 (List.mem_of_getElem? (i := 9) rfl) rfl
theorem ww_3_10 : Cond.methodLink "WordgardenLaw" 185 ⟨"WordgardenLaw", "insertSheet", "(LWordgarden;IIILWordgardenLaw$Out;)I"⟩ ∈ gaW := gaW_t3 (List.mem_of_getElem? (i := 10) rfl) rfl
theorem ww_3_11 : Cond.static ⟨"WordgardenLaw", "insertSheet", "(LWordgarden;IIILWordgardenLaw$Out;)I"⟩ ∈ gaW := gaW_t3 (List.mem_of_getElem? (i := 11) rfl) rfl
theorem ww_3_12 : Cond.codeWith ⟨"WordgardenLaw", "insertSheet", "(LWordgarden;IIILWordgardenLaw$Out;)I"⟩ method_5_code 6 (some .int) [(0, 13, 16, 19)] ∈ gaW := gaW_t3 (List.mem_of_getElem? (i := 12) rfl) rfl
theorem ww_3_13 : Cond.methodLink "WordgardenLaw" 30 ⟨"Wordgarden", "insertSheet", "(III)I"⟩ ∈ gaW := gaW_t3 (List.mem_of_getElem? (i := 13) rfl) rfl
theorem ww_3_14 : Cond.instanceMethod ⟨"Wordgarden", "insertSheet", "(III)I"⟩ ∈ gaW := gaW_t3 (List.mem_of_getElem? (i := 14) rfl) rfl
theorem ww_3_15 : Cond.selects "Wordgarden" ⟨"Wordgarden", "insertSheet", "(III)I"⟩ ⟨"Wordgarden", "insertSheet", "(III)I"⟩ ∈ gaW := gaW_t3 (List.mem_of_getElem? (i := 15) rfl) rfl
theorem ww_3_16 : Cond.code ⟨"Wordgarden", "insertSheet", "(III)I"⟩ prog_1_method_5_code 6 (some .int) ∈ gaW := gaW_t3 (List.mem_of_getElem? (i := 16) rfl) rfl
theorem ww_3_17 : Cond.methodLink "WordgardenLaw" 189 ⟨"WordgardenLaw", "setSign", "(LWordgarden;IIZLWordgardenLaw$Out;)I"⟩ ∈ gaW := gaW_t3 (List.mem_of_getElem? (i := 17) rfl) rfl
theorem ww_3_18 : Cond.static ⟨"WordgardenLaw", "setSign", "(LWordgarden;IIZLWordgardenLaw$Out;)I"⟩ ∈ gaW := gaW_t3 (List.mem_of_getElem? (i := 18) rfl) rfl
theorem ww_3_19 : Cond.codeWith ⟨"WordgardenLaw", "setSign", "(LWordgarden;IIZLWordgardenLaw$Out;)I"⟩ method_6_code 6 (some .int) [(0, 13, 16, 19)] ∈ gaW := gaW_t3 (List.mem_of_getElem? (i := 19) rfl) rfl
theorem ww_3_20 : Cond.methodLink "WordgardenLaw" 34 ⟨"Wordgarden", "setSign", "(IIZ)I"⟩ ∈ gaW := gaW_t3 (List.mem_of_getElem? (i := 20) rfl) rfl
theorem ww_3_21 : Cond.instanceMethod ⟨"Wordgarden", "setSign", "(IIZ)I"⟩ ∈ gaW := gaW_t3 (List.mem_of_getElem? (i := 21) rfl) rfl
theorem ww_3_22 : Cond.selects "Wordgarden" ⟨"Wordgarden", "setSign", "(IIZ)I"⟩ ⟨"Wordgarden", "setSign", "(IIZ)I"⟩ ∈ gaW := gaW_t3 (List.mem_of_getElem? (i := 22) rfl) rfl
theorem ww_3_23 : Cond.code ⟨"Wordgarden", "setSign", "(IIZ)I"⟩ prog_1_method_6_code 6 (some .int) ∈ gaW := gaW_t3 (List.mem_of_getElem? (i := 23) rfl) rfl
theorem ww_3_24 : Cond.methodLink "Wordgarden" 75 ⟨"Wordgarden$Word", "put", "(IZ)V"⟩ ∈ gaW := gaW_t3 (List.mem_of_getElem? (i := 24) rfl) rfl
theorem ww_3_25 : Cond.methodLink "WordgardenLaw" 192 ⟨"WordgardenLaw", "removeSign", "(LWordgarden;IILWordgardenLaw$Out;)I"⟩ ∈ gaW := gaW_t3 (List.mem_of_getElem? (i := 25) rfl) rfl
theorem ww_3_26 : Cond.static ⟨"WordgardenLaw", "removeSign", "(LWordgarden;IILWordgardenLaw$Out;)I"⟩ ∈ gaW := gaW_t3 (List.mem_of_getElem? (i := 26) rfl) rfl
theorem ww_3_27 : Cond.codeWith ⟨"WordgardenLaw", "removeSign", "(LWordgarden;IILWordgardenLaw$Out;)I"⟩ method_7_code 5 (some .int) [(0, 11, 14, 19)] ∈ gaW := gaW_t3 (List.mem_of_getElem? (i := 27) rfl) rfl
theorem ww_3_28 : Cond.methodLink "WordgardenLaw" 37 ⟨"Wordgarden", "removeSign", "(II)I"⟩ ∈ gaW := gaW_t3 (List.mem_of_getElem? (i := 28) rfl) rfl
theorem ww_3_29 : Cond.instanceMethod ⟨"Wordgarden", "removeSign", "(II)I"⟩ ∈ gaW := gaW_t3 (List.mem_of_getElem? (i := 29) rfl) rfl
theorem ww_3_30 : Cond.selects "Wordgarden" ⟨"Wordgarden", "removeSign", "(II)I"⟩ ⟨"Wordgarden", "removeSign", "(II)I"⟩ ∈ gaW := gaW_t3 (List.mem_of_getElem? (i := 30) rfl) rfl
theorem ww_3_31 : Cond.code ⟨"Wordgarden", "removeSign", "(II)I"⟩ prog_1_method_7_code 4 (some .int) ∈ gaW := gaW_t3 (List.mem_of_getElem? (i := 31) rfl) rfl
theorem ww_3_32 : Cond.methodLink "Wordgarden" 83 ⟨"Wordgarden", "takeOut", "(LWordgarden$Word;II)I"⟩ ∈ gaW := gaW_t3 (List.mem_of_getElem? (i := 32) rfl) rfl
theorem ww_3_34 : Cond.instanceMethod ⟨"Wordgarden", "takeOut", "(LWordgarden$Word;II)I"⟩ ∈ gaW := gaW_t3 (List.mem_of_getElem? (i := 34) rfl) rfl
theorem ww_3_35 : Cond.code ⟨"Wordgarden", "takeOut", "(LWordgarden$Word;II)I"⟩ prog_1_method_59_code 5 (some .int) ∈ gaW := gaW_t3 (List.mem_of_getElem? (i := 35) rfl) rfl
theorem ww_3_36 : Cond.methodLink "Wordgarden" 306 ⟨"Wordgarden$Reading", "upsInPart", "(LWordgarden$Word;II)I"⟩ ∈ gaW := gaW_t3 (List.mem_of_getElem? (i := 36) rfl) rfl
theorem ww_3_37 : Cond.static ⟨"Wordgarden$Reading", "upsInPart", "(LWordgarden$Word;II)I"⟩ ∈ gaW := gaW_t3 (List.mem_of_getElem? (i := 37) rfl) rfl
theorem ww_3_38 : Cond.code ⟨"Wordgarden$Reading", "upsInPart", "(LWordgarden$Word;II)I"⟩ prog_3_method_4_code 5 (some .int) ∈ gaW := gaW_t3 (List.mem_of_getElem? (i := 38) rfl) rfl
theorem ww_3_39 : Cond.methodLink "WordgardenLaw" 195 ⟨"WordgardenLaw", "remove", "(LWordgarden;IIILWordgardenLaw$Out;)I"⟩ ∈ gaW := gaW_t3 (List.mem_of_getElem? (i := 39) rfl) rfl
theorem ww_3_40 : Cond.static ⟨"WordgardenLaw", "remove", "(LWordgarden;IIILWordgardenLaw$Out;)I"⟩ ∈ gaW := gaW_t3 (List.mem_of_getElem? (i := 40) rfl) rfl
theorem ww_3_41 : Cond.codeWith ⟨"WordgardenLaw", "remove", "(LWordgarden;IIILWordgardenLaw$Out;)I"⟩ method_8_code 6 (some .int) [(0, 13, 16, 19)] ∈ gaW := gaW_t3 (List.mem_of_getElem? (i := 41) rfl) rfl
theorem ww_3_42 : Cond.methodLink "WordgardenLaw" 40 ⟨"Wordgarden", "remove", "(III)I"⟩ ∈ gaW := gaW_t3 (List.mem_of_getElem? (i := 42) rfl) rfl
theorem ww_3_43 : Cond.instanceMethod ⟨"Wordgarden", "remove", "(III)I"⟩ ∈ gaW := gaW_t3 (List.mem_of_getElem? (i := 43) rfl) rfl
theorem ww_3_44 : Cond.selects "Wordgarden" ⟨"Wordgarden", "remove", "(III)I"⟩ ⟨"Wordgarden", "remove", "(III)I"⟩ ∈ gaW := gaW_t3 (List.mem_of_getElem? (i := 44) rfl) rfl
theorem ww_3_45 : Cond.code ⟨"Wordgarden", "remove", "(III)I"⟩ prog_1_method_8_code 5 (some .int) ∈ gaW := gaW_t3 (List.mem_of_getElem? (i := 45) rfl) rfl
theorem ww_3_46 : Cond.methodLink "WordgardenLaw" 198 ⟨"WordgardenLaw", "replace", "(LWordgarden;IIIILWordgardenLaw$Out;)I"⟩ ∈ gaW := gaW_t3 (List.mem_of_getElem? (i := 46) rfl) rfl
theorem ww_3_47 : Cond.static ⟨"WordgardenLaw", "replace", "(LWordgarden;IIIILWordgardenLaw$Out;)I"⟩ ∈ gaW := gaW_t3 (List.mem_of_getElem? (i := 47) rfl) rfl
theorem ww_3_48 : Cond.codeWith ⟨"WordgardenLaw", "replace", "(LWordgarden;IIIILWordgardenLaw$Out;)I"⟩ method_9_code 7 (some .int) [(0, 15, 18, 19)] ∈ gaW := gaW_t3 (List.mem_of_getElem? (i := 48) rfl) rfl
theorem ww_3_49 : Cond.methodLink "WordgardenLaw" 43 ⟨"Wordgarden", "replace", "(IIII)I"⟩ ∈ gaW := gaW_t3 (List.mem_of_getElem? (i := 49) rfl) rfl
theorem ww_3_50 : Cond.instanceMethod ⟨"Wordgarden", "replace", "(IIII)I"⟩ ∈ gaW := gaW_t3 (List.mem_of_getElem? (i := 50) rfl) rfl
theorem ww_3_51 : Cond.selects "Wordgarden" ⟨"Wordgarden", "replace", "(IIII)I"⟩ ⟨"Wordgarden", "replace", "(IIII)I"⟩ ∈ gaW := gaW_t3 (List.mem_of_getElem? (i := 51) rfl) rfl
theorem ww_3_52 : Cond.code ⟨"Wordgarden", "replace", "(IIII)I"⟩ prog_1_method_9_code 7 (some .int) ∈ gaW := gaW_t3 (List.mem_of_getElem? (i := 52) rfl) rfl
theorem ww_3_53 : Cond.methodLink "WordgardenLaw" 202 ⟨"WordgardenLaw", "cutTo", "(LWordgarden;IILWordgardenLaw$Out;)I"⟩ ∈ gaW := gaW_t3 (List.mem_of_getElem? (i := 53) rfl) rfl
theorem ww_3_54 : Cond.static ⟨"WordgardenLaw", "cutTo", "(LWordgarden;IILWordgardenLaw$Out;)I"⟩ ∈ gaW := gaW_t3 (List.mem_of_getElem? (i := 54) rfl) rfl
theorem ww_3_55 : Cond.codeWith ⟨"WordgardenLaw", "cutTo", "(LWordgarden;IILWordgardenLaw$Out;)I"⟩ method_10_code 5 (some .int) [(0, 11, 14, 19), (0, 11, 18, 21)] ∈ gaW := gaW_t3 (List.mem_of_getElem? (i := 55) rfl) rfl
theorem ww_3_56 : Cond.methodLink "WordgardenLaw" 47 ⟨"Wordgarden", "cutTo", "(II)I"⟩ ∈ gaW := gaW_t3 (List.mem_of_getElem? (i := 56) rfl) rfl
theorem ww_3_57 : Cond.instanceMethod ⟨"Wordgarden", "cutTo", "(II)I"⟩ ∈ gaW := gaW_t3 (List.mem_of_getElem? (i := 57) rfl) rfl
theorem ww_3_58 : Cond.selects "Wordgarden" ⟨"Wordgarden", "cutTo", "(II)I"⟩ ⟨"Wordgarden", "cutTo", "(II)I"⟩ ∈ gaW := gaW_t3 (List.mem_of_getElem? (i := 58) rfl) rfl
theorem ww_3_59 : Cond.code ⟨"Wordgarden", "cutTo", "(II)I"⟩ prog_1_method_10_code 6 (some .int) ∈ gaW := gaW_t3 (List.mem_of_getElem? (i := 59) rfl) rfl
theorem ww_3_60 : Cond.methodLink "Wordgarden" 87 ⟨"java/lang/Math", "min", "(II)I"⟩ ∈ gaW := gaW_t3 (List.mem_of_getElem? (i := 60) rfl) rfl
theorem ww_3_61 : Cond.methodLink "WordgardenLaw" 205 ⟨"WordgardenLaw", "turn", "(LWordgarden;ILWordgardenLaw$Out;)I"⟩ ∈ gaW := gaW_t3 (List.mem_of_getElem? (i := 61) rfl) rfl
theorem ww_3_62 : Cond.static ⟨"WordgardenLaw", "turn", "(LWordgarden;ILWordgardenLaw$Out;)I"⟩ ∈ gaW := gaW_t3 (List.mem_of_getElem? (i := 62) rfl) rfl
theorem ww_3_63 : Cond.codeWith ⟨"WordgardenLaw", "turn", "(LWordgarden;ILWordgardenLaw$Out;)I"⟩ method_11_code 4 (some .int) [(0, 10, 13, 19)] ∈ gaW := gaW_t3 (List.mem_of_getElem? (i := 63) rfl) rfl
theorem ww_3_64 : Cond.methodLink "WordgardenLaw" 50 ⟨"Wordgarden", "turn", "(I)I"⟩ ∈ gaW := gaW_t3 (List.mem_of_getElem? (i := 64) rfl) rfl
theorem ww_3_65 : Cond.instanceMethod ⟨"Wordgarden", "turn", "(I)I"⟩ ∈ gaW := gaW_t3 (List.mem_of_getElem? (i := 65) rfl) rfl
theorem ww_3_66 : Cond.selects "Wordgarden" ⟨"Wordgarden", "turn", "(I)I"⟩ ⟨"Wordgarden", "turn", "(I)I"⟩ ∈ gaW := gaW_t3 (List.mem_of_getElem? (i := 66) rfl) rfl
theorem ww_3_67 : Cond.code ⟨"Wordgarden", "turn", "(I)I"⟩ prog_1_method_11_code 3 (some .int) ∈ gaW := gaW_t3 (List.mem_of_getElem? (i := 67) rfl) rfl
theorem ww_3_68 : Cond.methodLink "Wordgarden" 104 ⟨"Wordgarden", "settle", "(LWordgarden$Word;LWordgarden$Word;)I"⟩ ∈ gaW := gaW_t3 (List.mem_of_getElem? (i := 68) rfl) rfl
theorem ww_3_70 : Cond.instanceMethod ⟨"Wordgarden", "settle", "(LWordgarden$Word;LWordgarden$Word;)I"⟩ ∈ gaW := gaW_t3 (List.mem_of_getElem? (i := 70) rfl) rfl
theorem ww_3_71 : Cond.code ⟨"Wordgarden", "settle", "(LWordgarden$Word;LWordgarden$Word;)I"⟩ prog_1_method_60_code 4 (some .int) ∈ gaW := gaW_t3 (List.mem_of_getElem? (i := 71) rfl) rfl
theorem ww_3_72 : Cond.methodLink "WordgardenLaw" 209 ⟨"WordgardenLaw", "exchange", "(LWordgarden;ILWordgardenLaw$Out;)I"⟩ ∈ gaW := gaW_t3 (List.mem_of_getElem? (i := 72) rfl) rfl
theorem ww_3_73 : Cond.static ⟨"WordgardenLaw", "exchange", "(LWordgarden;ILWordgardenLaw$Out;)I"⟩ ∈ gaW := gaW_t3 (List.mem_of_getElem? (i := 73) rfl) rfl
theorem ww_3_74 : Cond.codeWith ⟨"WordgardenLaw", "exchange", "(LWordgarden;ILWordgardenLaw$Out;)I"⟩ method_12_code 4 (some .int) [(0, 10, 13, 19)] ∈ gaW := gaW_t3 (List.mem_of_getElem? (i := 74) rfl) rfl
theorem ww_3_75 : Cond.methodLink "WordgardenLaw" 54 ⟨"Wordgarden", "exchange", "(I)I"⟩ ∈ gaW := gaW_t3 (List.mem_of_getElem? (i := 75) rfl) rfl
theorem ww_3_76 : Cond.instanceMethod ⟨"Wordgarden", "exchange", "(I)I"⟩ ∈ gaW := gaW_t3 (List.mem_of_getElem? (i := 76) rfl) rfl
theorem ww_3_77 : Cond.selects "Wordgarden" ⟨"Wordgarden", "exchange", "(I)I"⟩ ⟨"Wordgarden", "exchange", "(I)I"⟩ ∈ gaW := gaW_t3 (List.mem_of_getElem? (i := 77) rfl) rfl
theorem ww_3_78 : Cond.code ⟨"Wordgarden", "exchange", "(I)I"⟩ prog_1_method_12_code 4 (some .int) ∈ gaW := gaW_t3 (List.mem_of_getElem? (i := 78) rfl) rfl
theorem ww_3_79 : Cond.methodLink "WordgardenLaw" 212 ⟨"WordgardenLaw", "rotate", "(LWordgarden;IILWordgardenLaw$Out;)I"⟩ ∈ gaW := gaW_t3 (List.mem_of_getElem? (i := 79) rfl) rfl
theorem ww_3_80 : Cond.static ⟨"WordgardenLaw", "rotate", "(LWordgarden;IILWordgardenLaw$Out;)I"⟩ ∈ gaW := gaW_t3 (List.mem_of_getElem? (i := 80) rfl) rfl
theorem ww_3_81 : Cond.codeWith ⟨"WordgardenLaw", "rotate", "(LWordgarden;IILWordgardenLaw$Out;)I"⟩ method_13_code 5 (some .int) [(0, 11, 14, 19), (0, 11, 18, 21)] ∈ gaW := gaW_t3 (List.mem_of_getElem? (i := 81) rfl) rfl
theorem ww_3_82 : Cond.methodLink "WordgardenLaw" 57 ⟨"Wordgarden", "rotate", "(II)I"⟩ ∈ gaW := gaW_t3 (List.mem_of_getElem? (i := 82) rfl) rfl
theorem ww_3_83 : Cond.instanceMethod ⟨"Wordgarden", "rotate", "(II)I"⟩ ∈ gaW := gaW_t3 (List.mem_of_getElem? (i := 83) rfl) rfl
theorem ww_3_84 : Cond.selects "Wordgarden" ⟨"Wordgarden", "rotate", "(II)I"⟩ ⟨"Wordgarden", "rotate", "(II)I"⟩ ∈ gaW := gaW_t3 (List.mem_of_getElem? (i := 84) rfl) rfl
theorem ww_3_85 : Cond.code ⟨"Wordgarden", "rotate", "(II)I"⟩ prog_1_method_13_code 4 (some .int) ∈ gaW := gaW_t3 (List.mem_of_getElem? (i := 85) rfl) rfl
theorem ww_3_86 : Cond.methodLink "WordgardenLaw" 215 ⟨"WordgardenLaw", "copy", "(LWordgarden;IILWordgardenLaw$Out;)I"⟩ ∈ gaW := gaW_t3 (List.mem_of_getElem? (i := 86) rfl) rfl
theorem ww_3_87 : Cond.static ⟨"WordgardenLaw", "copy", "(LWordgarden;IILWordgardenLaw$Out;)I"⟩ ∈ gaW := gaW_t3 (List.mem_of_getElem? (i := 87) rfl) rfl
theorem ww_3_88 : Cond.codeWith ⟨"WordgardenLaw", "copy", "(LWordgarden;IILWordgardenLaw$Out;)I"⟩ method_14_code 5 (some .int) [(0, 11, 14, 19)] ∈ gaW := gaW_t3 (List.mem_of_getElem? (i := 88) rfl) rfl
theorem ww_3_89 : Cond.methodLink "WordgardenLaw" 60 ⟨"Wordgarden", "copy", "(II)I"⟩ ∈ gaW := gaW_t3 (List.mem_of_getElem? (i := 89) rfl) rfl
theorem ww_3_90 : Cond.instanceMethod ⟨"Wordgarden", "copy", "(II)I"⟩ ∈ gaW := gaW_t3 (List.mem_of_getElem? (i := 90) rfl) rfl
theorem ww_3_91 : Cond.selects "Wordgarden" ⟨"Wordgarden", "copy", "(II)I"⟩ ⟨"Wordgarden", "copy", "(II)I"⟩ ∈ gaW := gaW_t3 (List.mem_of_getElem? (i := 91) rfl) rfl
theorem ww_3_92 : Cond.code ⟨"Wordgarden", "copy", "(II)I"⟩ prog_1_method_14_code 4 (some .int) ∈ gaW := gaW_t3 (List.mem_of_getElem? (i := 92) rfl) rfl
theorem ww_3_93 : Cond.methodLink "WordgardenLaw" 218 ⟨"WordgardenLaw", "apply", "(LWordgarden;IIILWordgardenLaw$Out;)I"⟩ ∈ gaW := gaW_t3 (List.mem_of_getElem? (i := 93) rfl) rfl
theorem ww_3_94 : Cond.static ⟨"WordgardenLaw", "apply", "(LWordgarden;IIILWordgardenLaw$Out;)I"⟩ ∈ gaW := gaW_t3 (List.mem_of_getElem? (i := 94) rfl) rfl
theorem ww_3_95 : Cond.codeWith ⟨"WordgardenLaw", "apply", "(LWordgarden;IIILWordgardenLaw$Out;)I"⟩ method_15_code 6 (some .int) [(0, 13, 16, 19), (0, 13, 20, 21)] ∈ gaW := gaW_t3 (List.mem_of_getElem? (i := 95) rfl) rfl
theorem ww_3_96 : Cond.methodLink "WordgardenLaw" 63 ⟨"Wordgarden", "apply", "(III)I"⟩ ∈ gaW := gaW_t3 (List.mem_of_getElem? (i := 96) rfl) rfl
theorem ww_3_97 : Cond.instanceMethod ⟨"Wordgarden", "apply", "(III)I"⟩ ∈ gaW := gaW_t3 (List.mem_of_getElem? (i := 97) rfl) rfl
theorem ww_3_98 : Cond.selects "Wordgarden" ⟨"Wordgarden", "apply", "(III)I"⟩ ⟨"Wordgarden", "apply", "(III)I"⟩ ∈ gaW := gaW_t3 (List.mem_of_getElem? (i := 98) rfl) rfl
theorem ww_3_99 : Cond.code ⟨"Wordgarden", "apply", "(III)I"⟩ prog_1_method_15_code 5 (some .int) ∈ gaW := gaW_t3 (List.mem_of_getElem? (i := 99) rfl) rfl
theorem ww_3_100 : Cond.methodLink "Wordgarden" 114 ⟨"Wordgarden", "takeRule", "(II)V"⟩ ∈ gaW := gaW_t3 (List.mem_of_getElem? (i := 100) rfl) rfl
theorem ww_3_102 : Cond.instanceMethod ⟨"Wordgarden", "takeRule", "(II)V"⟩ ∈ gaW := gaW_t3 (List.mem_of_getElem? (i := 102) rfl) rfl
theorem ww_3_103 : Cond.code ⟨"Wordgarden", "takeRule", "(II)V"⟩ prog_1_method_61_code 3 (none : Option Jvm.ClassFile.FieldType) ∈ gaW := gaW_t3 (List.mem_of_getElem? (i := 103) rfl) rfl
theorem ww_3_104 : Cond.methodLink "Wordgarden" 309 ⟨"Wordgarden$Rule", "take", "(II)V"⟩ ∈ gaW := gaW_t3 (List.mem_of_getElem? (i := 104) rfl) rfl
theorem ww_3_105 : Cond.methodLink "Wordgarden" 118 ⟨"Wordgarden$Rule", "imageLength", "(LWordgarden$Word;)I"⟩ ∈ gaW := gaW_t3 (List.mem_of_getElem? (i := 105) rfl) rfl
theorem ww_3_106 : Cond.instanceMethod ⟨"Wordgarden$Rule", "imageLength", "(LWordgarden$Word;)I"⟩ ∈ gaW := gaW_t3 (List.mem_of_getElem? (i := 106) rfl) rfl
theorem ww_3_107 : Cond.selects "Wordgarden$Rule" ⟨"Wordgarden$Rule", "imageLength", "(LWordgarden$Word;)I"⟩ ⟨"Wordgarden$Rule", "imageLength", "(LWordgarden$Word;)I"⟩ ∈ gaW := gaW_t3 (List.mem_of_getElem? (i := 107) rfl) rfl
theorem ww_3_108 : Cond.code ⟨"Wordgarden$Rule", "imageLength", "(LWordgarden$Word;)I"⟩ prog_4_method_4_code 3 (some .int) ∈ gaW := gaW_t3 (List.mem_of_getElem? (i := 108) rfl) rfl
theorem ww_3_109 : Cond.methodLink "Wordgarden$Rule" 35 ⟨"Wordgarden$Reading", "upsOf", "(LWordgarden$Word;)I"⟩ ∈ gaW := gaW_t3 (List.mem_of_getElem? (i := 109) rfl) rfl
theorem ww_3_110 : Cond.methodLink "Wordgarden" 125 ⟨"Wordgarden$Rule", "layImage", "(LWordgarden$Word;LWordgarden$Word;)V"⟩ ∈ gaW := gaW_t3 (List.mem_of_getElem? (i := 110) rfl) rfl
theorem ww_3_111 : Cond.methodLink "WordgardenLaw" 221 ⟨"WordgardenLaw", "undo", "(LWordgarden;IIILWordgardenLaw$Out;)I"⟩ ∈ gaW := gaW_t3 (List.mem_of_getElem? (i := 111) rfl) rfl
theorem ww_3_112 : Cond.static ⟨"WordgardenLaw", "undo", "(LWordgarden;IIILWordgardenLaw$Out;)I"⟩ ∈ gaW := gaW_t3 (List.mem_of_getElem? (i := 112) rfl) rfl
theorem ww_3_113 : Cond.codeWith ⟨"WordgardenLaw", "undo", "(LWordgarden;IIILWordgardenLaw$Out;)I"⟩ method_16_code 6 (some .int) [(0, 13, 16, 19), (0, 13, 20, 21), (0, 13, 24, 69)] ∈ gaW := gaW_t3 (List.mem_of_getElem? (i := 113) rfl) rfl
theorem ww_3_114 : Cond.classLink "WordgardenLaw" 69 "java/lang/IllegalStateException" ∈ gaW := gaW_t3 (List.mem_of_getElem? (i := 114) rfl) rfl
theorem ww_3_115 : Cond.methodLink "WordgardenLaw" 66 ⟨"Wordgarden", "undo", "(III)I"⟩ ∈ gaW := gaW_t3 (List.mem_of_getElem? (i := 115) rfl) rfl
theorem ww_3_116 : Cond.instanceMethod ⟨"Wordgarden", "undo", "(III)I"⟩ ∈ gaW := gaW_t3 (List.mem_of_getElem? (i := 116) rfl) rfl
theorem ww_3_117 : Cond.selects "Wordgarden" ⟨"Wordgarden", "undo", "(III)I"⟩ ⟨"Wordgarden", "undo", "(III)I"⟩ ∈ gaW := gaW_t3 (List.mem_of_getElem? (i := 117) rfl) rfl
theorem ww_3_118 : Cond.code ⟨"Wordgarden", "undo", "(III)I"⟩ prog_1_method_16_code 5 (some .int) ∈ gaW := gaW_t3 (List.mem_of_getElem? (i := 118) rfl) rfl
theorem ww_3_119 : Cond.methodLink "Wordgarden" 129 ⟨"Wordgarden$Rule", "keepsApart", "()Z"⟩ ∈ gaW := gaW_t3 (List.mem_of_getElem? (i := 119) rfl) rfl
theorem ww_3_120 : Cond.instanceMethod ⟨"Wordgarden$Rule", "keepsApart", "()Z"⟩ ∈ gaW := gaW_t3 (List.mem_of_getElem? (i := 120) rfl) rfl
theorem ww_3_121 : Cond.selects "Wordgarden$Rule" ⟨"Wordgarden$Rule", "keepsApart", "()Z"⟩ ⟨"Wordgarden$Rule", "keepsApart", "()Z"⟩ ∈ gaW := gaW_t3 (List.mem_of_getElem? (i := 121) rfl) rfl
theorem ww_3_122 : Cond.code ⟨"Wordgarden$Rule", "keepsApart", "()Z"⟩ prog_4_method_3_code 1 (some .boolean) ∈ gaW := gaW_t3 (List.mem_of_getElem? (i := 122) rfl) rfl
theorem ww_3_123 : Cond.methodLink "Wordgarden$Rule" 29 ⟨"Wordgarden$Reading", "firstUnlikeJoined", "(LWordgarden$Word;LWordgarden$Word;)I"⟩ ∈ gaW := gaW_t3 (List.mem_of_getElem? (i := 123) rfl) rfl
theorem ww_3_124 : Cond.methodLink "Wordgarden" 133 ⟨"Wordgarden", "needState", "(Z)V"⟩ ∈ gaW := gaW_t3 (List.mem_of_getElem? (i := 124) rfl) rfl
theorem ww_3_125 : Cond.static ⟨"Wordgarden", "needState", "(Z)V"⟩ ∈ gaW := gaW_t3 (List.mem_of_getElem? (i := 125) rfl) rfl
theorem ww_3_126 : Cond.code ⟨"Wordgarden", "needState", "(Z)V"⟩ prog_1_method_53_code 1 (none : Option Jvm.ClassFile.FieldType) ∈ gaW := gaW_t3 (List.mem_of_getElem? (i := 126) rfl) rfl
theorem ww_3_127 : Cond.classLink "Wordgarden" 301 "java/lang/IllegalStateException" ∈ gaW := gaW_t3 (List.mem_of_getElem? (i := 127) rfl) rfl
theorem ww_3_128 : Cond.instantiable "java/lang/IllegalStateException" 6 ∈ gaW := gaW_t3 (List.mem_of_getElem? (i := 128) rfl) rfl
theorem ww_3_130 : Cond.selects "java/lang/IllegalStateException" ⟨"java/lang/Throwable", "fillInStackTrace", "(I)Ljava/lang/Throwable;"⟩ ⟨"java/lang/Throwable", "fillInStackTrace", "(I)Ljava/lang/Throwable;"⟩ ∈ gaW := gaW_t3 (List.mem_of_getElem? (i := 130) rfl) rfl
theorem ww_3_131 : Cond.lays "java/lang/IllegalStateException" "java/lang/Throwable" "cause" "Ljava/lang/Throwable;" ∈ gaW := gaW_t3 (List.mem_of_getElem? (i := 131) rfl) rfl
theorem ww_3_132 : Cond.lays "java/lang/IllegalStateException" "java/lang/Throwable" "stackTrace" "[Ljava/lang/StackTraceElement;" ∈ gaW := gaW_t3 (List.mem_of_getElem? (i := 132) rfl) rfl
theorem ww_3_133 : Cond.lays "java/lang/IllegalStateException" "java/lang/Throwable" "suppressedExceptions" "Ljava/util/List;" ∈ gaW := gaW_t3 (List.mem_of_getElem? (i := 133) rfl) rfl
theorem ww_3_134 : Cond.lays "java/lang/IllegalStateException" "java/lang/Throwable" "detailMessage" "Ljava/lang/String;" ∈ gaW := gaW_t3 (List.mem_of_getElem? (i := 134) rfl) rfl
theorem ww_3_135 : Cond.lays "java/lang/IllegalStateException" "java/lang/Throwable" "backtrace" "Ljava/lang/Object;" ∈ gaW := gaW_t3 (List.mem_of_getElem? (i := 135) rfl) rfl
theorem ww_3_137 : Cond.methodLink "Wordgarden" 305 ⟨"java/lang/IllegalStateException", "<init>", "(Ljava/lang/String;)V"⟩ ∈ gaW := gaW_t3 (List.mem_of_getElem? (i := 137) rfl) rfl
theorem ww_3_138 : Cond.instanceMethod ⟨"java/lang/IllegalStateException", "<init>", "(Ljava/lang/String;)V"⟩ ∈ gaW := gaW_t3 (List.mem_of_getElem? (i := 138) rfl) rfl
theorem ww_3_139 : Cond.code ⟨"java/lang/IllegalStateException", "<init>", "(Ljava/lang/String;)V"⟩ prog_14_method_2_code 2 (none : Option Jvm.ClassFile.FieldType) ∈ gaW := gaW_t3 (List.mem_of_getElem? (i := 139) rfl) rfl
theorem ww_3_140 : Cond.methodLink "java/lang/IllegalStateException" 7 ⟨"java/lang/RuntimeException", "<init>", "(Ljava/lang/String;)V"⟩ ∈ gaW := gaW_t3 (List.mem_of_getElem? (i := 140) rfl) rfl
theorem ww_3_141 : Cond.lays "java/lang/IllegalStateException" "java/lang/Throwable" "depth" "I" ∈ gaW := gaW_t3 (List.mem_of_getElem? (i := 141) rfl) rfl
theorem ww_3_142 : Cond.superclass "java/lang/IllegalStateException" "java/lang/RuntimeException" ∈ gaW := gaW_t3 (List.mem_of_getElem? (i := 142) rfl) rfl
theorem ww_3_143 : Cond.methodLink "Wordgarden" 136 ⟨"Wordgarden$Rule", "layOrigin", "(LWordgarden$Word;LWordgarden$Word;)Z"⟩ ∈ gaW := gaW_t3 (List.mem_of_getElem? (i := 143) rfl) rfl
theorem ww_3_144 : Cond.instanceMethod ⟨"Wordgarden$Rule", "layOrigin", "(LWordgarden$Word;LWordgarden$Word;)Z"⟩ ∈ gaW := gaW_t3 (List.mem_of_getElem? (i := 144) rfl) rfl
theorem ww_3_145 : Cond.selects "Wordgarden$Rule" ⟨"Wordgarden$Rule", "layOrigin", "(LWordgarden$Word;LWordgarden$Word;)Z"⟩ ⟨"Wordgarden$Rule", "layOrigin", "(LWordgarden$Word;LWordgarden$Word;)Z"⟩ ∈ gaW := gaW_t3 (List.mem_of_getElem? (i := 145) rfl) rfl
theorem ww_3_146 : Cond.code ⟨"Wordgarden$Rule", "layOrigin", "(LWordgarden$Word;LWordgarden$Word;)Z"⟩ prog_4_method_6_code 6 (some .boolean) ∈ gaW := gaW_t3 (List.mem_of_getElem? (i := 146) rfl) rfl
theorem ww_3_147 : Cond.methodLink "Wordgarden$Rule" 54 ⟨"Wordgarden$Rule", "markImages", "(LWordgarden$Word;)V"⟩ ∈ gaW := gaW_t3 (List.mem_of_getElem? (i := 147) rfl) rfl
theorem ww_3_149 : Cond.instanceMethod ⟨"Wordgarden$Rule", "markImages", "(LWordgarden$Word;)V"⟩ ∈ gaW := gaW_t3 (List.mem_of_getElem? (i := 149) rfl) rfl
theorem ww_3_150 : Cond.code ⟨"Wordgarden$Rule", "markImages", "(LWordgarden$Word;)V"⟩ prog_4_method_7_code 3 (none : Option Jvm.ClassFile.FieldType) ∈ gaW := gaW_t3 (List.mem_of_getElem? (i := 150) rfl) rfl
theorem ww_3_151 : Cond.methodLink "Wordgarden$Rule" 61 ⟨"Wordgarden$Rule", "goesOn", "(LWordgarden$Word;ILWordgarden$Word;)Z"⟩ ∈ gaW := gaW_t3 (List.mem_of_getElem? (i := 151) rfl) rfl
theorem ww_3_153 : Cond.instanceMethod ⟨"Wordgarden$Rule", "goesOn", "(LWordgarden$Word;ILWordgarden$Word;)Z"⟩ ∈ gaW := gaW_t3 (List.mem_of_getElem? (i := 153) rfl) rfl
theorem ww_3_154 : Cond.code ⟨"Wordgarden$Rule", "goesOn", "(LWordgarden$Word;ILWordgarden$Word;)Z"⟩ prog_4_method_9_code 4 (some .boolean) ∈ gaW := gaW_t3 (List.mem_of_getElem? (i := 154) rfl) rfl
theorem ww_3_155 : Cond.methodLink "Wordgarden$Rule" 69 ⟨"Wordgarden$Reading", "standsAt", "(LWordgarden$Word;ILWordgarden$Word;)Z"⟩ ∈ gaW := gaW_t3 (List.mem_of_getElem? (i := 155) rfl) rfl
theorem ww_3_156 : Cond.static ⟨"Wordgarden$Reading", "standsAt", "(LWordgarden$Word;ILWordgarden$Word;)Z"⟩ ∈ gaW := gaW_t3 (List.mem_of_getElem? (i := 156) rfl) rfl
theorem ww_3_157 : Cond.code ⟨"Wordgarden$Reading", "standsAt", "(LWordgarden$Word;ILWordgarden$Word;)Z"⟩ prog_3_method_6_code 4 (some .boolean) ∈ gaW := gaW_t3 (List.mem_of_getElem? (i := 157) rfl) rfl
theorem ww_3_158 : Cond.methodLink "Wordgarden$Rule" 58 ⟨"Wordgarden$Rule", "isMarked", "(I)Z"⟩ ∈ gaW := gaW_t3 (List.mem_of_getElem? (i := 158) rfl) rfl
theorem ww_3_160 : Cond.instanceMethod ⟨"Wordgarden$Rule", "isMarked", "(I)Z"⟩ ∈ gaW := gaW_t3 (List.mem_of_getElem? (i := 160) rfl) rfl
theorem ww_3_161 : Cond.code ⟨"Wordgarden$Rule", "isMarked", "(I)Z"⟩ prog_4_method_8_code 2 (some .boolean) ∈ gaW := gaW_t3 (List.mem_of_getElem? (i := 161) rfl) rfl
theorem ww_3_162 : Cond.methodLink "Wordgarden$Rule" 65 ⟨"Wordgarden$Word", "add", "(Z)V"⟩ ∈ gaW := gaW_t3 (List.mem_of_getElem? (i := 162) rfl) rfl
theorem ww_3_163 : Cond.methodLink "WordgardenLaw" 224 ⟨"WordgardenLaw", "lay", "(LWordgarden;IIILWordgardenLaw$Out;)I"⟩ ∈ gaW := gaW_t3 (List.mem_of_getElem? (i := 163) rfl) rfl
theorem ww_3_164 : Cond.static ⟨"WordgardenLaw", "lay", "(LWordgarden;IIILWordgardenLaw$Out;)I"⟩ ∈ gaW := gaW_t3 (List.mem_of_getElem? (i := 164) rfl) rfl
theorem ww_3_165 : Cond.codeWith ⟨"WordgardenLaw", "lay", "(LWordgarden;IIILWordgardenLaw$Out;)I"⟩ method_17_code 6 (some .int) [(0, 13, 16, 19), (0, 13, 20, 21)] ∈ gaW := gaW_t3 (List.mem_of_getElem? (i := 165) rfl) rfl
theorem ww_3_166 : Cond.methodLink "WordgardenLaw" 71 ⟨"Wordgarden", "lay", "(III)I"⟩ ∈ gaW := gaW_t3 (List.mem_of_getElem? (i := 166) rfl) rfl
theorem ww_3_167 : Cond.instanceMethod ⟨"Wordgarden", "lay", "(III)I"⟩ ∈ gaW := gaW_t3 (List.mem_of_getElem? (i := 167) rfl) rfl
theorem ww_3_168 : Cond.selects "Wordgarden" ⟨"Wordgarden", "lay", "(III)I"⟩ ⟨"Wordgarden", "lay", "(III)I"⟩ ∈ gaW := gaW_t3 (List.mem_of_getElem? (i := 168) rfl) rfl
theorem ww_3_169 : Cond.code ⟨"Wordgarden", "lay", "(III)I"⟩ prog_1_method_17_code 6 (some .int) ∈ gaW := gaW_t3 (List.mem_of_getElem? (i := 169) rfl) rfl
theorem ww_3_170 : Cond.methodLink "WordgardenLaw" 227 ⟨"WordgardenLaw", "twos", "(LWordgarden;IIILWordgardenLaw$Out;)I"⟩ ∈ gaW := gaW_t3 (List.mem_of_getElem? (i := 170) rfl) rfl
theorem ww_3_171 : Cond.static ⟨"WordgardenLaw", "twos", "(LWordgarden;IIILWordgardenLaw$Out;)I"⟩ ∈ gaW := gaW_t3 (List.mem_of_getElem? (i := 171) rfl) rfl
theorem ww_3_172 : Cond.codeWith ⟨"WordgardenLaw", "twos", "(LWordgarden;IIILWordgardenLaw$Out;)I"⟩ method_18_code 6 (some .int) [(0, 13, 16, 19), (0, 13, 20, 21)] ∈ gaW := gaW_t3 (List.mem_of_getElem? (i := 172) rfl) rfl
theorem ww_3_173 : Cond.methodLink "WordgardenLaw" 74 ⟨"Wordgarden", "twos", "(III)I"⟩ ∈ gaW := gaW_t3 (List.mem_of_getElem? (i := 173) rfl) rfl
theorem ww_3_174 : Cond.instanceMethod ⟨"Wordgarden", "twos", "(III)I"⟩ ∈ gaW := gaW_t3 (List.mem_of_getElem? (i := 174) rfl) rfl
theorem ww_3_175 : Cond.selects "Wordgarden" ⟨"Wordgarden", "twos", "(III)I"⟩ ⟨"Wordgarden", "twos", "(III)I"⟩ ∈ gaW := gaW_t3 (List.mem_of_getElem? (i := 175) rfl) rfl
theorem ww_3_176 : Cond.code ⟨"Wordgarden", "twos", "(III)I"⟩ prog_1_method_18_code 5 (some .int) ∈ gaW := gaW_t3 (List.mem_of_getElem? (i := 176) rfl) rfl
theorem ww_3_177 : Cond.methodLink "Wordgarden" 154 ⟨"Wordgarden$Twos", "layByRule", "(ILWordgarden$Word;LWordgarden$Word;LWordgarden$Rule;)V"⟩ ∈ gaW := gaW_t3 (List.mem_of_getElem? (i := 177) rfl) rfl
theorem ww_3_178 : Cond.static ⟨"Wordgarden$Twos", "layByRule", "(ILWordgarden$Word;LWordgarden$Word;LWordgarden$Rule;)V"⟩ ∈ gaW := gaW_t3 (List.mem_of_getElem? (i := 178) rfl) rfl
theorem ww_3_179 : Cond.code ⟨"Wordgarden$Twos", "layByRule", "(ILWordgarden$Word;LWordgarden$Word;LWordgarden$Rule;)V"⟩ prog_5_method_2_code 5 (none : Option Jvm.ClassFile.FieldType) ∈ gaW := gaW_t3 (List.mem_of_getElem? (i := 179) rfl) rfl
theorem ww_3_180 : Cond.methodLink "Wordgarden$Twos" 9 ⟨"Wordgarden$Rule", "take", "(II)V"⟩ ∈ gaW := gaW_t3 (List.mem_of_getElem? (i := 180) rfl) rfl
theorem ww_3_181 : Cond.methodLink "Wordgarden$Twos" 15 ⟨"Wordgarden$Word", "clear", "()V"⟩ ∈ gaW := gaW_t3 (List.mem_of_getElem? (i := 181) rfl) rfl
theorem ww_3_182 : Cond.methodLink "Wordgarden$Twos" 20 ⟨"Wordgarden$Word", "add", "(Z)V"⟩ ∈ gaW := gaW_t3 (List.mem_of_getElem? (i := 182) rfl) rfl
theorem ww_3_183 : Cond.methodLink "Wordgarden$Twos" 24 ⟨"Wordgarden$Rule", "layImage", "(LWordgarden$Word;LWordgarden$Word;)V"⟩ ∈ gaW := gaW_t3 (List.mem_of_getElem? (i := 183) rfl) rfl
theorem ww_3_184 : Cond.methodLink "Wordgarden$Twos" 28 ⟨"Wordgarden$Word", "take", "(LWordgarden$Word;)V"⟩ ∈ gaW := gaW_t3 (List.mem_of_getElem? (i := 184) rfl) rfl
theorem ww_3_185 : Cond.methodLink "Wordgarden" 160 ⟨"Wordgarden$Twos", "layByCopies", "(ILWordgarden$Word;)V"⟩ ∈ gaW := gaW_t3 (List.mem_of_getElem? (i := 185) rfl) rfl
theorem ww_3_186 : Cond.static ⟨"Wordgarden$Twos", "layByCopies", "(ILWordgarden$Word;)V"⟩ ∈ gaW := gaW_t3 (List.mem_of_getElem? (i := 186) rfl) rfl
theorem ww_3_187 : Cond.code ⟨"Wordgarden$Twos", "layByCopies", "(ILWordgarden$Word;)V"⟩ prog_5_method_3_code 5 (none : Option Jvm.ClassFile.FieldType) ∈ gaW := gaW_t3 (List.mem_of_getElem? (i := 187) rfl) rfl
theorem ww_3_188 : Cond.methodLink "Wordgarden$Twos" 35 ⟨"Wordgarden$Word", "isUp", "(I)Z"⟩ ∈ gaW := gaW_t3 (List.mem_of_getElem? (i := 188) rfl) rfl
theorem ww_3_189 : Cond.methodLink "Wordgarden" 164 ⟨"Wordgarden$Twos", "laySignBySign", "(ILWordgarden$Word;)V"⟩ ∈ gaW := gaW_t3 (List.mem_of_getElem? (i := 189) rfl) rfl
theorem ww_3_190 : Cond.static ⟨"Wordgarden$Twos", "laySignBySign", "(ILWordgarden$Word;)V"⟩ ∈ gaW := gaW_t3 (List.mem_of_getElem? (i := 190) rfl) rfl
theorem ww_3_191 : Cond.code ⟨"Wordgarden$Twos", "laySignBySign", "(ILWordgarden$Word;)V"⟩ prog_5_method_4_code 3 (none : Option Jvm.ClassFile.FieldType) ∈ gaW := gaW_t3 (List.mem_of_getElem? (i := 191) rfl) rfl
theorem ww_3_192 : Cond.methodLink "Wordgarden$Twos" 39 ⟨"java/lang/Integer", "bitCount", "(I)I"⟩ ∈ gaW := gaW_t3 (List.mem_of_getElem? (i := 192) rfl) rfl
theorem ww_3_193 : Cond.static ⟨"java/lang/Integer", "bitCount", "(I)I"⟩ ∈ gaW := gaW_t3 (List.mem_of_getElem? (i := 193) rfl) rfl
theorem ww_3_194 : Cond.code ⟨"java/lang/Integer", "bitCount", "(I)I"⟩ prog_16_method_49_code 1 (some .int) ∈ gaW := gaW_t3 (List.mem_of_getElem? (i := 194) rfl) rfl
theorem ww_3_195 : Cond.constant "java/lang/Integer" 265 (1431655765) ∈ gaW := gaW_t3 (List.mem_of_getElem? (i := 195) rfl) rfl
theorem ww_3_196 : Cond.constant "java/lang/Integer" 266 (858993459) ∈ gaW := gaW_t3 (List.mem_of_getElem? (i := 196) rfl) rfl
theorem ww_3_197 : Cond.constant "java/lang/Integer" 267 (252645135) ∈ gaW := gaW_t3 (List.mem_of_getElem? (i := 197) rfl) rfl
theorem ww_3_198 : Cond.methodLink "WordgardenLaw" 230 ⟨"WordgardenLaw", "line", "(LWordgarden;IIIILWordgardenLaw$Out;)I"⟩ ∈ gaW := gaW_t3 (List.mem_of_getElem? (i := 198) rfl) rfl
theorem ww_3_199 : Cond.static ⟨"WordgardenLaw", "line", "(LWordgarden;IIIILWordgardenLaw$Out;)I"⟩ ∈ gaW := gaW_t3 (List.mem_of_getElem? (i := 199) rfl) rfl
theorem ww_3_200 : Cond.codeWith ⟨"WordgardenLaw", "line", "(LWordgarden;IIIILWordgardenLaw$Out;)I"⟩ method_19_code 7 (some .int) [(0, 15, 18, 19), (0, 15, 22, 21)] ∈ gaW := gaW_t3 (List.mem_of_getElem? (i := 200) rfl) rfl
theorem ww_3_201 : Cond.methodLink "WordgardenLaw" 77 ⟨"Wordgarden", "line", "(IIII)I"⟩ ∈ gaW := gaW_t3 (List.mem_of_getElem? (i := 201) rfl) rfl
theorem ww_3_202 : Cond.instanceMethod ⟨"Wordgarden", "line", "(IIII)I"⟩ ∈ gaW := gaW_t3 (List.mem_of_getElem? (i := 202) rfl) rfl
theorem ww_3_203 : Cond.selects "Wordgarden" ⟨"Wordgarden", "line", "(IIII)I"⟩ ⟨"Wordgarden", "line", "(IIII)I"⟩ ∈ gaW := gaW_t3 (List.mem_of_getElem? (i := 203) rfl) rfl
theorem ww_3_204 : Cond.code ⟨"Wordgarden", "line", "(IIII)I"⟩ prog_1_method_19_code 7 (some .int) ∈ gaW := gaW_t3 (List.mem_of_getElem? (i := 204) rfl) rfl
theorem ww_3_205 : Cond.methodLink "Wordgarden" 167 ⟨"Wordgarden", "isUpOnLine", "(IIII)Z"⟩ ∈ gaW := gaW_t3 (List.mem_of_getElem? (i := 205) rfl) rfl
theorem ww_3_206 : Cond.methodLink "WordgardenLaw" 233 ⟨"WordgardenLaw", "grow", "(LWordgarden;IILWordgardenLaw$Out;)I"⟩ ∈ gaW := gaW_t3 (List.mem_of_getElem? (i := 206) rfl) rfl
theorem ww_3_207 : Cond.static ⟨"WordgardenLaw", "grow", "(LWordgarden;IILWordgardenLaw$Out;)I"⟩ ∈ gaW := gaW_t3 (List.mem_of_getElem? (i := 207) rfl) rfl
theorem ww_3_208 : Cond.codeWith ⟨"WordgardenLaw", "grow", "(LWordgarden;IILWordgardenLaw$Out;)I"⟩ method_20_code 5 (some .int) [(0, 11, 14, 19), (0, 11, 18, 21)] ∈ gaW := gaW_t3 (List.mem_of_getElem? (i := 208) rfl) rfl
theorem ww_3_209 : Cond.methodLink "WordgardenLaw" 80 ⟨"Wordgarden", "grow", "(II)I"⟩ ∈ gaW := gaW_t3 (List.mem_of_getElem? (i := 209) rfl) rfl
theorem ww_3_210 : Cond.instanceMethod ⟨"Wordgarden", "grow", "(II)I"⟩ ∈ gaW := gaW_t3 (List.mem_of_getElem? (i := 210) rfl) rfl
theorem ww_3_211 : Cond.selects "Wordgarden" ⟨"Wordgarden", "grow", "(II)I"⟩ ⟨"Wordgarden", "grow", "(II)I"⟩ ∈ gaW := gaW_t3 (List.mem_of_getElem? (i := 211) rfl) rfl
theorem ww_3_212 : Cond.code ⟨"Wordgarden", "grow", "(II)I"⟩ prog_1_method_20_code 4 (some .int) ∈ gaW := gaW_t3 (List.mem_of_getElem? (i := 212) rfl) rfl
theorem ww_3_213 : Cond.methodLink "Wordgarden" 171 ⟨"Wordgarden$Growth", "goOn", "(ILWordgarden$Word;)Z"⟩ ∈ gaW := gaW_t3 (List.mem_of_getElem? (i := 213) rfl) rfl
theorem ww_3_214 : Cond.instanceMethod ⟨"Wordgarden$Growth", "goOn", "(ILWordgarden$Word;)Z"⟩ ∈ gaW := gaW_t3 (List.mem_of_getElem? (i := 214) rfl) rfl
theorem ww_3_215 : Cond.selects "Wordgarden$Growth" ⟨"Wordgarden$Growth", "goOn", "(ILWordgarden$Word;)Z"⟩ ⟨"Wordgarden$Growth", "goOn", "(ILWordgarden$Word;)Z"⟩ ∈ gaW := gaW_t3 (List.mem_of_getElem? (i := 215) rfl) rfl
theorem ww_3_216 : Cond.code ⟨"Wordgarden$Growth", "goOn", "(ILWordgarden$Word;)Z"⟩ prog_2_method_5_code 5 (some .boolean) ∈ gaW := gaW_t3 (List.mem_of_getElem? (i := 216) rfl) rfl
theorem ww_3_217 : Cond.methodLink "Wordgarden$Growth" 42 ⟨"Wordgarden$Word", "addPart", "(LWordgarden$Word;II)V"⟩ ∈ gaW := gaW_t3 (List.mem_of_getElem? (i := 217) rfl) rfl
theorem ww_3_218 : Cond.methodLink "Wordgarden" 175 ⟨"Wordgarden", "growthActDone", "(I)I"⟩ ∈ gaW := gaW_t3 (List.mem_of_getElem? (i := 218) rfl) rfl
theorem ww_3_220 : Cond.instanceMethod ⟨"Wordgarden", "growthActDone", "(I)I"⟩ ∈ gaW := gaW_t3 (List.mem_of_getElem? (i := 220) rfl) rfl
theorem ww_3_221 : Cond.code ⟨"Wordgarden", "growthActDone", "(I)I"⟩ prog_1_method_56_code 2 (some .int) ∈ gaW := gaW_t3 (List.mem_of_getElem? (i := 221) rfl) rfl
theorem ww_3_222 : Cond.methodLink "WordgardenLaw" 236 ⟨"WordgardenLaw", "shrink", "(LWordgarden;ILWordgardenLaw$Out;)I"⟩ ∈ gaW := gaW_t3 (List.mem_of_getElem? (i := 222) rfl) rfl
theorem ww_3_223 : Cond.static ⟨"WordgardenLaw", "shrink", "(LWordgarden;ILWordgardenLaw$Out;)I"⟩ ∈ gaW := gaW_t3 (List.mem_of_getElem? (i := 223) rfl) rfl
theorem ww_3_224 : Cond.codeWith ⟨"WordgardenLaw", "shrink", "(LWordgarden;ILWordgardenLaw$Out;)I"⟩ method_21_code 4 (some .int) [(0, 10, 13, 19), (0, 10, 16, 69)] ∈ gaW := gaW_t3 (List.mem_of_getElem? (i := 224) rfl) rfl
theorem ww_3_225 : Cond.methodLink "WordgardenLaw" 83 ⟨"Wordgarden", "shrink", "(I)I"⟩ ∈ gaW := gaW_t3 (List.mem_of_getElem? (i := 225) rfl) rfl
theorem ww_3_226 : Cond.instanceMethod ⟨"Wordgarden", "shrink", "(I)I"⟩ ∈ gaW := gaW_t3 (List.mem_of_getElem? (i := 226) rfl) rfl
theorem ww_3_227 : Cond.selects "Wordgarden" ⟨"Wordgarden", "shrink", "(I)I"⟩ ⟨"Wordgarden", "shrink", "(I)I"⟩ ∈ gaW := gaW_t3 (List.mem_of_getElem? (i := 227) rfl) rfl
theorem ww_3_228 : Cond.code ⟨"Wordgarden", "shrink", "(I)I"⟩ prog_1_method_21_code 3 (some .int) ∈ gaW := gaW_t3 (List.mem_of_getElem? (i := 228) rfl) rfl
theorem ww_3_229 : Cond.methodLink "Wordgarden" 181 ⟨"Wordgarden$Growth", "goBack", "(LWordgarden$Word;)I"⟩ ∈ gaW := gaW_t3 (List.mem_of_getElem? (i := 229) rfl) rfl
theorem ww_3_230 : Cond.instanceMethod ⟨"Wordgarden$Growth", "goBack", "(LWordgarden$Word;)I"⟩ ∈ gaW := gaW_t3 (List.mem_of_getElem? (i := 230) rfl) rfl
theorem ww_3_231 : Cond.selects "Wordgarden$Growth" ⟨"Wordgarden$Growth", "goBack", "(LWordgarden$Word;)I"⟩ ⟨"Wordgarden$Growth", "goBack", "(LWordgarden$Word;)I"⟩ ∈ gaW := gaW_t3 (List.mem_of_getElem? (i := 231) rfl) rfl
theorem ww_3_232 : Cond.code ⟨"Wordgarden$Growth", "goBack", "(LWordgarden$Word;)I"⟩ prog_2_method_6_code 3 (some .int) ∈ gaW := gaW_t3 (List.mem_of_getElem? (i := 232) rfl) rfl
theorem ww_3_233 : Cond.methodLink "WordgardenLaw" 239 ⟨"WordgardenLaw", "fresh", "(LWordgarden;ILWordgardenLaw$Out;)I"⟩ ∈ gaW := gaW_t3 (List.mem_of_getElem? (i := 233) rfl) rfl
theorem ww_3_234 : Cond.static ⟨"WordgardenLaw", "fresh", "(LWordgarden;ILWordgardenLaw$Out;)I"⟩ ∈ gaW := gaW_t3 (List.mem_of_getElem? (i := 234) rfl) rfl
theorem ww_3_235 : Cond.codeWith ⟨"WordgardenLaw", "fresh", "(LWordgarden;ILWordgardenLaw$Out;)I"⟩ method_22_code 4 (some .int) [(0, 10, 13, 19)] ∈ gaW := gaW_t3 (List.mem_of_getElem? (i := 235) rfl) rfl
theorem ww_3_236 : Cond.methodLink "WordgardenLaw" 86 ⟨"Wordgarden", "fresh", "(I)I"⟩ ∈ gaW := gaW_t3 (List.mem_of_getElem? (i := 236) rfl) rfl
theorem ww_3_237 : Cond.instanceMethod ⟨"Wordgarden", "fresh", "(I)I"⟩ ∈ gaW := gaW_t3 (List.mem_of_getElem? (i := 237) rfl) rfl
theorem ww_3_238 : Cond.selects "Wordgarden" ⟨"Wordgarden", "fresh", "(I)I"⟩ ⟨"Wordgarden", "fresh", "(I)I"⟩ ∈ gaW := gaW_t3 (List.mem_of_getElem? (i := 238) rfl) rfl
theorem ww_3_239 : Cond.code ⟨"Wordgarden", "fresh", "(I)I"⟩ prog_1_method_22_code 4 (some .int) ∈ gaW := gaW_t3 (List.mem_of_getElem? (i := 239) rfl) rfl
theorem ww_4_0 : Cond.methodLink "Wordgarden" 184 ⟨"Wordgarden$Growth", "begin", "()V"⟩ ∈ gaW := gaW_t4 (List.mem_of_getElem? (i := 0) rfl) rfl
theorem ww_4_1 : Cond.methodLink "WordgardenLaw" 242 ⟨"WordgardenLaw", "length", "(LWordgarden;ILWordgardenLaw$Out;)I"⟩ ∈ gaW := gaW_t4 (List.mem_of_getElem? (i := 1) rfl) rfl
theorem ww_4_2 : Cond.static ⟨"WordgardenLaw", "length", "(LWordgarden;ILWordgardenLaw$Out;)I"⟩ ∈ gaW := gaW_t4 (List.mem_of_getElem? (i := 2) rfl) rfl
theorem ww_4_3 : Cond.codeWith ⟨"WordgardenLaw", "length", "(LWordgarden;ILWordgardenLaw$Out;)I"⟩ method_23_code 4 (some .int) [(0, 10, 13, 19)] ∈ gaW := gaW_t4 (List.mem_of_getElem? (i := 3) rfl) rfl
theorem ww_4_4 : Cond.methodLink "WordgardenLaw" 89 ⟨"Wordgarden", "length", "(I)I"⟩ ∈ gaW := gaW_t4 (List.mem_of_getElem? (i := 4) rfl) rfl
theorem ww_4_5 : Cond.instanceMethod ⟨"Wordgarden", "length", "(I)I"⟩ ∈ gaW := gaW_t4 (List.mem_of_getElem? (i := 5) rfl) rfl
theorem ww_4_6 : Cond.selects "Wordgarden" ⟨"Wordgarden", "length", "(I)I"⟩ ⟨"Wordgarden", "length", "(I)I"⟩ ∈ gaW := gaW_t4 (List.mem_of_getElem? (i := 6) rfl) rfl
theorem ww_4_7 : Cond.code ⟨"Wordgarden", "length", "(I)I"⟩ prog_1_method_23_code 2 (some .int) ∈ gaW := gaW_t4 (List.mem_of_getElem? (i := 7) rfl) rfl
theorem ww_4_8 : Cond.methodLink "WordgardenLaw" 245 ⟨"WordgardenLaw", "isB", "(LWordgarden;IILWordgardenLaw$Out;)I"⟩ ∈ gaW := gaW_t4 (List.mem_of_getElem? (i := 8) rfl) rfl
theorem ww_4_9 : Cond.static ⟨"WordgardenLaw", "isB", "(LWordgarden;IILWordgardenLaw$Out;)I"⟩ ∈ gaW := gaW_t4 (List.mem_of_getElem? (i := 9) rfl) rfl
theorem ww_4_10 : Cond.codeWith ⟨"WordgardenLaw", "isB", "(LWordgarden;IILWordgardenLaw$Out;)I"⟩ method_24_code 5 (some .int) [(0, 18, 21, 19)] ∈ gaW := gaW_t4 (List.mem_of_getElem? (i := 10) rfl) rfl
theorem ww_4_11 : Cond.methodLink "WordgardenLaw" 92 ⟨"Wordgarden", "isB", "(II)Z"⟩ ∈ gaW := gaW_t4 (List.mem_of_getElem? (i := 11) rfl) rfl
theorem ww_4_12 : Cond.instanceMethod ⟨"Wordgarden", "isB", "(II)Z"⟩ ∈ gaW := gaW_t4 (List.mem_of_getElem? (i := 12) rfl) rfl
theorem ww_4_13 : Cond.selects "Wordgarden" ⟨"Wordgarden", "isB", "(II)Z"⟩ ⟨"Wordgarden", "isB", "(II)Z"⟩ ∈ gaW := gaW_t4 (List.mem_of_getElem? (i := 13) rfl) rfl
theorem ww_4_14 : Cond.code ⟨"Wordgarden", "isB", "(II)Z"⟩ prog_1_method_24_code 4 (some .boolean) ∈ gaW := gaW_t4 (List.mem_of_getElem? (i := 14) rfl) rfl
theorem ww_4_15 : Cond.methodLink "WordgardenLaw" 252 ⟨"WordgardenLaw", "text", "(LWordgarden;ILWordgardenLaw$Out;)I"⟩ ∈ gaW := gaW_t4 (List.mem_of_getElem? (i := 15) rfl) rfl
theorem ww_4_16 : Cond.static ⟨"WordgardenLaw", "text", "(LWordgarden;ILWordgardenLaw$Out;)I"⟩ ∈ gaW := gaW_t4 (List.mem_of_getElem? (i := 16) rfl) rfl
theorem ww_4_17 : Cond.codeWith ⟨"WordgardenLaw", "text", "(LWordgarden;ILWordgardenLaw$Out;)I"⟩ method_25_code 4 (some .int) [(0, 9, 12, 19)] ∈ gaW := gaW_t4 (List.mem_of_getElem? (i := 17) rfl) rfl
theorem ww_4_18 : Cond.methodLink "WordgardenLaw" 96 ⟨"Wordgarden", "text", "(I)Ljava/lang/String;"⟩ ∈ gaW := gaW_t4 (List.mem_of_getElem? (i := 18) rfl) rfl
theorem ww_4_19 : Cond.instanceMethod ⟨"Wordgarden", "text", "(I)Ljava/lang/String;"⟩ ∈ gaW := gaW_t4 (List.mem_of_getElem? (i := 19) rfl) rfl
theorem ww_4_20 : Cond.selects "Wordgarden" ⟨"Wordgarden", "text", "(I)Ljava/lang/String;"⟩ ⟨"Wordgarden", "text", "(I)Ljava/lang/String;"⟩ ∈ gaW := gaW_t4 (List.mem_of_getElem? (i := 20) rfl) rfl
theorem ww_4_21 : Cond.code ⟨"Wordgarden", "text", "(I)Ljava/lang/String;"⟩ prog_1_method_25_code 2 (some (.object "java/lang/String")) ∈ gaW := gaW_t4 (List.mem_of_getElem? (i := 21) rfl) rfl
theorem ww_4_22 : Cond.methodLink "Wordgarden" 187 ⟨"Wordgarden$Reading", "textOf", "(LWordgarden$Word;)Ljava/lang/String;"⟩ ∈ gaW := gaW_t4 (List.mem_of_getElem? (i := 22) rfl) rfl
theorem ww_4_23 : Cond.static ⟨"Wordgarden$Reading", "textOf", "(LWordgarden$Word;)Ljava/lang/String;"⟩ ∈ gaW := gaW_t4 (List.mem_of_getElem? (i := 23) rfl) rfl
theorem ww_4_24 : Cond.code ⟨"Wordgarden$Reading", "textOf", "(LWordgarden$Word;)Ljava/lang/String;"⟩ prog_3_method_2_code 3 (some (.object "java/lang/String")) ∈ gaW := gaW_t4 (List.mem_of_getElem? (i := 24) rfl) rfl
theorem ww_4_25 : Cond.classLink "Wordgarden$Reading" 9 "java/lang/StringBuilder" ∈ gaW := gaW_t4 (List.mem_of_getElem? (i := 25) rfl) rfl
theorem ww_4_26 : Cond.instantiable "java/lang/StringBuilder" 4 ∈ gaW := gaW_t4 (List.mem_of_getElem? (i := 26) rfl) rfl
theorem ww_4_27 : Cond.methodLink "Wordgarden$Reading" 11 ⟨"java/lang/StringBuilder", "<init>", "()V"⟩ ∈ gaW := gaW_t4 (List.mem_of_getElem? (i := 27) rfl) rfl
theorem ww_4_28 : Cond.instanceMethod ⟨"java/lang/StringBuilder", "<init>", "()V"⟩ ∈ gaW := gaW_t4 (List.mem_of_getElem? (i := 28) rfl) rfl
theorem ww_4_29 : Cond.code ⟨"java/lang/StringBuilder", "<init>", "()V"⟩ prog_20_method_1_code 1 (none : Option Jvm.ClassFile.FieldType) ∈ gaW := gaW_t4 (List.mem_of_getElem? (i := 29) rfl) rfl
theorem ww_4_30 : Cond.methodLink "java/lang/StringBuilder" 1 ⟨"java/lang/AbstractStringBuilder", "<init>", "(I)V"⟩ ∈ gaW := gaW_t4 (List.mem_of_getElem? (i := 30) rfl) rfl
theorem ww_4_31 : Cond.instanceMethod ⟨"java/lang/AbstractStringBuilder", "<init>", "(I)V"⟩ ∈ gaW := gaW_t4 (List.mem_of_getElem? (i := 31) rfl) rfl
theorem ww_4_32 : Cond.code ⟨"java/lang/AbstractStringBuilder", "<init>", "(I)V"⟩ prog_10_method_2_code 2 (none : Option Jvm.ClassFile.FieldType) ∈ gaW := gaW_t4 (List.mem_of_getElem? (i := 32) rfl) rfl
theorem ww_4_33 : Cond.methodLink "java/lang/AbstractStringBuilder" 3 ⟨"java/lang/Object", "<init>", "()V"⟩ ∈ gaW := gaW_t4 (List.mem_of_getElem? (i := 33) rfl) rfl
theorem ww_4_34 : Cond.fieldLink "java/lang/AbstractStringBuilder" 18 "java/lang/String" "COMPACT_STRINGS" "Z" ∈ gaW := gaW_t4 (List.mem_of_getElem? (i := 34) rfl) rfl
theorem ww_4_36 : Cond.methodLink "java/lang/AbstractStringBuilder" 26 ⟨"java/lang/StringUTF16", "newBytesFor", "(I)[B"⟩ ∈ gaW := gaW_t4 (List.mem_of_getElem? (i := 36) rfl) rfl
theorem ww_4_37 : Cond.static ⟨"java/lang/StringUTF16", "newBytesFor", "(I)[B"⟩ ∈ gaW := gaW_t4 (List.mem_of_getElem? (i := 37) rfl) rfl
theorem ww_4_38 : Cond.code ⟨"java/lang/StringUTF16", "newBytesFor", "(I)[B"⟩ prog_22_method_2_code 1 (some (.array .byte)) ∈ gaW := gaW_t4 (List.mem_of_getElem? (i := 38) rfl) rfl
theorem ww_4_39 : Cond.methodLink "java/lang/StringUTF16" 11 ⟨"java/lang/StringUTF16", "newBytesLength", "(I)I"⟩ ∈ gaW := gaW_t4 (List.mem_of_getElem? (i := 39) rfl) rfl
theorem ww_4_40 : Cond.static ⟨"java/lang/StringUTF16", "newBytesLength", "(I)I"⟩ ∈ gaW := gaW_t4 (List.mem_of_getElem? (i := 40) rfl) rfl
theorem ww_4_41 : Cond.code ⟨"java/lang/StringUTF16", "newBytesLength", "(I)I"⟩ prog_22_method_3_code 1 (some .int) ∈ gaW := gaW_t4 (List.mem_of_getElem? (i := 41) rfl) rfl
theorem ww_4_42 : Cond.constant "java/lang/StringUTF16" 20 (1073741823) ∈ gaW := gaW_t4 (List.mem_of_getElem? (i := 42) rfl) rfl
theorem ww_4_43 : Cond.fieldLink "java/lang/AbstractStringBuilder" 15 "java/lang/AbstractStringBuilder" "value" "[B" ∈ gaW := gaW_t4 (List.mem_of_getElem? (i := 43) rfl) rfl
theorem ww_4_44 : Cond.fieldLink "java/lang/AbstractStringBuilder" 22 "java/lang/AbstractStringBuilder" "coder" "B" ∈ gaW := gaW_t4 (List.mem_of_getElem? (i := 44) rfl) rfl
theorem ww_4_45 : Cond.fieldLink "java/lang/String" 1048 "java/lang/AbstractStringBuilder" "maybeLatin1" "Z" ∈ gaW := gaW_t4 (List.mem_of_getElem? (i := 45) rfl) rfl
theorem ww_4_46 : Cond.fieldLink "java/lang/AbstractStringBuilder" 79 "java/lang/AbstractStringBuilder" "count" "I" ∈ gaW := gaW_t4 (List.mem_of_getElem? (i := 46) rfl) rfl
theorem ww_4_47 : Cond.lays "java/lang/StringBuilder" "java/lang/AbstractStringBuilder" "value" "[B" ∈ gaW := gaW_t4 (List.mem_of_getElem? (i := 47) rfl) rfl
theorem ww_4_49 : Cond.lays "java/lang/StringBuilder" "java/lang/AbstractStringBuilder" "coder" "B" ∈ gaW := gaW_t4 (List.mem_of_getElem? (i := 49) rfl) rfl
theorem ww_4_51 : Cond.lays "java/lang/StringBuilder" "java/lang/AbstractStringBuilder" "maybeLatin1" "Z" ∈ gaW := gaW_t4 (List.mem_of_getElem? (i := 51) rfl) rfl
theorem ww_4_53 : Cond.lays "java/lang/StringBuilder" "java/lang/AbstractStringBuilder" "count" "I" ∈ gaW := gaW_t4 (List.mem_of_getElem? (i := 53) rfl) rfl
theorem ww_4_55 : Cond.superclass "java/lang/StringBuilder" "java/lang/AbstractStringBuilder" ∈ gaW := gaW_t4 (List.mem_of_getElem? (i := 55) rfl) rfl
theorem ww_4_56 : Cond.methodLink "Wordgarden$Reading" 22 ⟨"java/lang/StringBuilder", "append", "(C)Ljava/lang/StringBuilder;"⟩ ∈ gaW := gaW_t4 (List.mem_of_getElem? (i := 56) rfl) rfl
theorem ww_4_57 : Cond.instanceMethod ⟨"java/lang/StringBuilder", "append", "(C)Ljava/lang/StringBuilder;"⟩ ∈ gaW := gaW_t4 (List.mem_of_getElem? (i := 57) rfl) rfl
theorem ww_4_58 : Cond.selects "java/lang/StringBuilder" ⟨"java/lang/StringBuilder", "append", "(C)Ljava/lang/StringBuilder;"⟩ ⟨"java/lang/StringBuilder", "append", "(C)Ljava/lang/StringBuilder;"⟩ ∈ gaW := gaW_t4 (List.mem_of_getElem? (i := 58) rfl) rfl
theorem ww_4_59 : Cond.code ⟨"java/lang/StringBuilder", "append", "(C)Ljava/lang/StringBuilder;"⟩ prog_20_method_14_code 2 (some (.object "java/lang/StringBuilder")) ∈ gaW := gaW_t4 (List.mem_of_getElem? (i := 59) rfl) rfl
theorem ww_4_60 : Cond.methodLink "java/lang/StringBuilder" 50 ⟨"java/lang/AbstractStringBuilder", "append", "(C)Ljava/lang/AbstractStringBuilder;"⟩ ∈ gaW := gaW_t4 (List.mem_of_getElem? (i := 60) rfl) rfl
theorem ww_4_61 : Cond.instanceMethod ⟨"java/lang/AbstractStringBuilder", "append", "(C)Ljava/lang/AbstractStringBuilder;"⟩ ∈ gaW := gaW_t4 (List.mem_of_getElem? (i := 61) rfl) rfl
theorem ww_4_62 : Cond.code ⟨"java/lang/AbstractStringBuilder", "append", "(C)Ljava/lang/AbstractStringBuilder;"⟩ prog_10_method_31_code 2 (some (.object "java/lang/AbstractStringBuilder")) ∈ gaW := gaW_t4 (List.mem_of_getElem? (i := 62) rfl) rfl
theorem ww_4_63 : Cond.methodLink "java/lang/AbstractStringBuilder" 100 ⟨"java/lang/AbstractStringBuilder", "ensureCapacityInternal", "(I)V"⟩ ∈ gaW := gaW_t4 (List.mem_of_getElem? (i := 63) rfl) rfl
theorem ww_4_65 : Cond.instanceMethod ⟨"java/lang/AbstractStringBuilder", "ensureCapacityInternal", "(I)V"⟩ ∈ gaW := gaW_t4 (List.mem_of_getElem? (i := 65) rfl) rfl
theorem ww_4_66 : Cond.code ⟨"java/lang/AbstractStringBuilder", "ensureCapacityInternal", "(I)V"⟩ prog_10_method_9_code 3 (none : Option Jvm.ClassFile.FieldType) ∈ gaW := gaW_t4 (List.mem_of_getElem? (i := 66) rfl) rfl
theorem ww_4_67 : Cond.methodLink "java/lang/AbstractStringBuilder" 104 ⟨"java/lang/AbstractStringBuilder", "newCapacity", "(I)I"⟩ ∈ gaW := gaW_t4 (List.mem_of_getElem? (i := 67) rfl) rfl
theorem ww_4_69 : Cond.instanceMethod ⟨"java/lang/AbstractStringBuilder", "newCapacity", "(I)I"⟩ ∈ gaW := gaW_t4 (List.mem_of_getElem? (i := 69) rfl) rfl
theorem ww_4_70 : Cond.code ⟨"java/lang/AbstractStringBuilder", "newCapacity", "(I)I"⟩ prog_10_method_10_code 6 (some .int) ∈ gaW := gaW_t4 (List.mem_of_getElem? (i := 70) rfl) rfl
theorem ww_4_71 : Cond.methodLink "java/lang/AbstractStringBuilder" 114 ⟨"jdk/internal/util/ArraysSupport", "newLength", "(III)I"⟩ ∈ gaW := gaW_t4 (List.mem_of_getElem? (i := 71) rfl) rfl
theorem ww_4_72 : Cond.static ⟨"jdk/internal/util/ArraysSupport", "newLength", "(III)I"⟩ ∈ gaW := gaW_t4 (List.mem_of_getElem? (i := 72) rfl) rfl
theorem ww_4_73 : Cond.code ⟨"jdk/internal/util/ArraysSupport", "newLength", "(III)I"⟩ prog_26_method_27_code 4 (some .int) ∈ gaW := gaW_t4 (List.mem_of_getElem? (i := 73) rfl) rfl
theorem ww_4_74 : Cond.methodLink "jdk/internal/util/ArraysSupport" 194 ⟨"java/lang/Math", "max", "(II)I"⟩ ∈ gaW := gaW_t4 (List.mem_of_getElem? (i := 74) rfl) rfl
theorem ww_4_75 : Cond.constant "jdk/internal/util/ArraysSupport" 200 (2147483639) ∈ gaW := gaW_t4 (List.mem_of_getElem? (i := 75) rfl) rfl
theorem ww_4_76 : Cond.methodLink "jdk/internal/util/ArraysSupport" 201 ⟨"jdk/internal/util/ArraysSupport", "hugeLength", "(II)I"⟩ ∈ gaW := gaW_t4 (List.mem_of_getElem? (i := 76) rfl) rfl
theorem ww_4_77 : Cond.static ⟨"jdk/internal/util/ArraysSupport", "hugeLength", "(II)I"⟩ ∈ gaW := gaW_t4 (List.mem_of_getElem? (i := 77) rfl) rfl
theorem ww_4_78 : Cond.code ⟨"jdk/internal/util/ArraysSupport", "hugeLength", "(II)I"⟩ prog_26_method_28_code 3 (some .int) ∈ gaW := gaW_t4 (List.mem_of_getElem? (i := 78) rfl) rfl
theorem ww_4_79 : Cond.constant "java/lang/AbstractStringBuilder" 39 (2147483647) ∈ gaW := gaW_t4 (List.mem_of_getElem? (i := 79) rfl) rfl
theorem ww_4_80 : Cond.methodLink "java/lang/AbstractStringBuilder" 108 ⟨"java/util/Arrays", "copyOf", "([BI)[B"⟩ ∈ gaW := gaW_t4 (List.mem_of_getElem? (i := 80) rfl) rfl
theorem ww_4_81 : Cond.static ⟨"java/util/Arrays", "copyOf", "([BI)[B"⟩ ∈ gaW := gaW_t4 (List.mem_of_getElem? (i := 81) rfl) rfl
theorem ww_4_82 : Cond.code ⟨"java/util/Arrays", "copyOf", "([BI)[B"⟩ prog_25_method_121_code 3 (some (.array .byte)) ∈ gaW := gaW_t4 (List.mem_of_getElem? (i := 82) rfl) rfl
theorem ww_4_83 : Cond.methodLink "java/util/Arrays" 310 ⟨"[B", "clone", "()Ljava/lang/Object;"⟩ ∈ gaW := gaW_t4 (List.mem_of_getElem? (i := 83) rfl) rfl
theorem ww_4_84 : Cond.sameMethod "[B" "java/lang/Object" "clone" "()Ljava/lang/Object;" ∈ gaW := gaW_t4 (List.mem_of_getElem? (i := 84) rfl) rfl
theorem ww_4_85 : Cond.native ⟨"java/lang/Object", "clone", "()Ljava/lang/Object;"⟩ ∈ gaW := gaW_t4 (List.mem_of_getElem? (i := 85) rfl) rfl
theorem ww_4_86 : Cond.instanceMethod ⟨"java/lang/Object", "clone", "()Ljava/lang/Object;"⟩ ∈ gaW := gaW_t4 (List.mem_of_getElem? (i := 86) rfl) rfl
theorem ww_4_87 : Cond.selects "[B" ⟨"[B", "clone", "()Ljava/lang/Object;"⟩ ⟨"java/lang/Object", "clone", "()Ljava/lang/Object;"⟩ ∈ gaW := gaW_t4 (List.mem_of_getElem? (i := 87) rfl) rfl
theorem ww_4_89 : Cond.classLink "java/util/Arrays" 311 "[B" ∈ gaW := gaW_t4 (List.mem_of_getElem? (i := 89) rfl) rfl
theorem ww_4_90 : Cond.methodLink "java/util/Arrays" 304 ⟨"java/lang/Math", "min", "(II)I"⟩ ∈ gaW := gaW_t4 (List.mem_of_getElem? (i := 90) rfl) rfl
theorem ww_4_91 : Cond.methodLink "java/util/Arrays" 150 ⟨"java/lang/System", "arraycopy", "(Ljava/lang/Object;ILjava/lang/Object;II)V"⟩ ∈ gaW := gaW_t4 (List.mem_of_getElem? (i := 91) rfl) rfl
theorem ww_4_92 : Cond.static ⟨"java/lang/System", "arraycopy", "(Ljava/lang/Object;ILjava/lang/Object;II)V"⟩ ∈ gaW := gaW_t4 (List.mem_of_getElem? (i := 92) rfl) rfl
theorem ww_4_93 : Cond.native ⟨"java/lang/System", "arraycopy", "(Ljava/lang/Object;ILjava/lang/Object;II)V"⟩ ∈ gaW := gaW_t4 (List.mem_of_getElem? (i := 93) rfl) rfl
theorem ww_4_94 : Cond.methodLink "java/lang/AbstractStringBuilder" 83 ⟨"java/lang/AbstractStringBuilder", "isLatin1", "()Z"⟩ ∈ gaW := gaW_t4 (List.mem_of_getElem? (i := 94) rfl) rfl
theorem ww_4_95 : Cond.instanceMethod ⟨"java/lang/AbstractStringBuilder", "isLatin1", "()Z"⟩ ∈ gaW := gaW_t4 (List.mem_of_getElem? (i := 95) rfl) rfl
theorem ww_4_96 : Cond.sameMethod "java/lang/AbstractStringBuilder" "java/lang/AbstractStringBuilder" "isLatin1" "()Z" ∈ gaW := gaW_t4 (List.mem_of_getElem? (i := 96) rfl) rfl
theorem ww_4_97 : Cond.selects "java/lang/StringBuilder" ⟨"java/lang/AbstractStringBuilder", "isLatin1", "()Z"⟩ ⟨"java/lang/AbstractStringBuilder", "isLatin1", "()Z"⟩ ∈ gaW := gaW_t4 (List.mem_of_getElem? (i := 97) rfl) rfl
theorem ww_4_98 : Cond.code ⟨"java/lang/AbstractStringBuilder", "isLatin1", "()Z"⟩ prog_10_method_68_code 1 (some .boolean) ∈ gaW := gaW_t4 (List.mem_of_getElem? (i := 98) rfl) rfl
theorem ww_4_99 : Cond.methodLink "java/lang/AbstractStringBuilder" 191 ⟨"java/lang/StringLatin1", "canEncode", "(C)Z"⟩ ∈ gaW := gaW_t4 (List.mem_of_getElem? (i := 99) rfl) rfl
theorem ww_4_100 : Cond.static ⟨"java/lang/StringLatin1", "canEncode", "(C)Z"⟩ ∈ gaW := gaW_t4 (List.mem_of_getElem? (i := 100) rfl) rfl
theorem ww_4_101 : Cond.code ⟨"java/lang/StringLatin1", "canEncode", "(C)Z"⟩ prog_21_method_3_code 1 (some .boolean) ∈ gaW := gaW_t4 (List.mem_of_getElem? (i := 101) rfl) rfl
theorem ww_4_102 : Cond.methodLink "java/lang/AbstractStringBuilder" 195 ⟨"java/lang/AbstractStringBuilder", "inflate", "()V"⟩ ∈ gaW := gaW_t4 (List.mem_of_getElem? (i := 102) rfl) rfl
theorem ww_4_104 : Cond.instanceMethod ⟨"java/lang/AbstractStringBuilder", "inflate", "()V"⟩ ∈ gaW := gaW_t4 (List.mem_of_getElem? (i := 104) rfl) rfl
theorem ww_4_105 : Cond.code ⟨"java/lang/AbstractStringBuilder", "inflate", "()V"⟩ prog_10_method_11_code 2 (none : Option Jvm.ClassFile.FieldType) ∈ gaW := gaW_t4 (List.mem_of_getElem? (i := 105) rfl) rfl
theorem ww_4_106 : Cond.methodLink "java/lang/AbstractStringBuilder" 125 ⟨"java/lang/StringLatin1", "inflate", "([BI[BII)V"⟩ ∈ gaW := gaW_t4 (List.mem_of_getElem? (i := 106) rfl) rfl
theorem ww_4_107 : Cond.static ⟨"java/lang/StringLatin1", "inflate", "([BI[BII)V"⟩ ∈ gaW := gaW_t4 (List.mem_of_getElem? (i := 107) rfl) rfl
theorem ww_4_108 : Cond.code ⟨"java/lang/StringLatin1", "inflate", "([BI[BII)V"⟩ prog_21_method_50_code 5 (none : Option Jvm.ClassFile.FieldType) ∈ gaW := gaW_t4 (List.mem_of_getElem? (i := 108) rfl) rfl
theorem ww_4_109 : Cond.methodLink "java/lang/StringLatin1" 240 ⟨"java/lang/StringUTF16", "inflate", "([BI[BII)V"⟩ ∈ gaW := gaW_t4 (List.mem_of_getElem? (i := 109) rfl) rfl
theorem ww_4_110 : Cond.static ⟨"java/lang/StringUTF16", "inflate", "([BI[BII)V"⟩ ∈ gaW := gaW_t4 (List.mem_of_getElem? (i := 110) rfl) rfl
theorem ww_4_111 : Cond.code ⟨"java/lang/StringUTF16", "inflate", "([BI[BII)V"⟩ prog_22_method_86_code 6 (none : Option Jvm.ClassFile.FieldType) ∈ gaW := gaW_t4 (List.mem_of_getElem? (i := 111) rfl) rfl
theorem ww_4_112 : Cond.methodLink "java/lang/StringUTF16" 173 ⟨"java/lang/StringUTF16", "checkBoundsOffCount", "(II[B)V"⟩ ∈ gaW := gaW_t4 (List.mem_of_getElem? (i := 112) rfl) rfl
theorem ww_4_113 : Cond.static ⟨"java/lang/StringUTF16", "checkBoundsOffCount", "(II[B)V"⟩ ∈ gaW := gaW_t4 (List.mem_of_getElem? (i := 113) rfl) rfl
theorem ww_4_114 : Cond.code ⟨"java/lang/StringUTF16", "checkBoundsOffCount", "(II[B)V"⟩ prog_22_method_94_code 3 (none : Option Jvm.ClassFile.FieldType) ∈ gaW := gaW_t4 (List.mem_of_getElem? (i := 114) rfl) rfl
theorem ww_4_115 : Cond.methodLink "java/lang/StringUTF16" 48 ⟨"java/lang/StringUTF16", "length", "([B)I"⟩ ∈ gaW := gaW_t4 (List.mem_of_getElem? (i := 115) rfl) rfl
theorem ww_4_116 : Cond.static ⟨"java/lang/StringUTF16", "length", "([B)I"⟩ ∈ gaW := gaW_t4 (List.mem_of_getElem? (i := 116) rfl) rfl
theorem ww_4_117 : Cond.code ⟨"java/lang/StringUTF16", "length", "([B)I"⟩ prog_22_method_6_code 1 (some .int) ∈ gaW := gaW_t4 (List.mem_of_getElem? (i := 117) rfl) rfl
theorem ww_4_118 : Cond.methodLink "java/lang/StringUTF16" 419 ⟨"java/lang/String", "checkBoundsOffCount", "(III)I"⟩ ∈ gaW := gaW_t4 (List.mem_of_getElem? (i := 118) rfl) rfl
theorem ww_4_119 : Cond.static ⟨"java/lang/String", "checkBoundsOffCount", "(III)I"⟩ ∈ gaW := gaW_t4 (List.mem_of_getElem? (i := 119) rfl) rfl
theorem ww_4_120 : Cond.code ⟨"java/lang/String", "checkBoundsOffCount", "(III)I"⟩ prog_19_method_157_code 3 (some .int) ∈ gaW := gaW_t4 (List.mem_of_getElem? (i := 120) rfl) rfl
theorem ww_4_121 : Cond.fieldLink "java/lang/String" 1053 "jdk/internal/util/Preconditions" "SIOOBE_FORMATTER" "Ljava/util/function/BiFunction;" ∈ gaW := gaW_t4 (List.mem_of_getElem? (i := 121) rfl) rfl
theorem ww_4_123 : Cond.methodLink "java/lang/String" 1065 ⟨"jdk/internal/util/Preconditions", "checkFromIndexSize", "(IIILjava/util/function/BiFunction;)I"⟩ ∈ gaW := gaW_t4 (List.mem_of_getElem? (i := 123) rfl) rfl
theorem ww_4_124 : Cond.static ⟨"jdk/internal/util/Preconditions", "checkFromIndexSize", "(IIILjava/util/function/BiFunction;)I"⟩ ∈ gaW := gaW_t4 (List.mem_of_getElem? (i := 124) rfl) rfl
theorem ww_4_125 : Cond.code ⟨"jdk/internal/util/Preconditions", "checkFromIndexSize", "(IIILjava/util/function/BiFunction;)I"⟩ prog_27_method_13_code 4 (some .int) ∈ gaW := gaW_t4 (List.mem_of_getElem? (i := 125) rfl) rfl
theorem ww_4_126 : Cond.methodLink "java/lang/StringUTF16" 111 ⟨"java/lang/StringUTF16", "putChar", "([BII)V"⟩ ∈ gaW := gaW_t4 (List.mem_of_getElem? (i := 126) rfl) rfl
theorem ww_4_127 : Cond.static ⟨"java/lang/StringUTF16", "putChar", "([BII)V"⟩ ∈ gaW := gaW_t4 (List.mem_of_getElem? (i := 127) rfl) rfl
theorem ww_4_128 : Cond.code ⟨"java/lang/StringUTF16", "putChar", "([BII)V"⟩ prog_22_method_4_code 3 (none : Option Jvm.ClassFile.FieldType) ∈ gaW := gaW_t4 (List.mem_of_getElem? (i := 128) rfl) rfl
theorem ww_4_129 : Cond.fieldLink "java/lang/StringUTF16" 44 "java/lang/StringUTF16" "$assertionsDisabled" "Z" ∈ gaW := gaW_t4 (List.mem_of_getElem? (i := 129) rfl) rfl
theorem ww_4_131 : Cond.fieldLink "java/lang/StringUTF16" 59 "java/lang/StringUTF16" "HI_BYTE_SHIFT" "I" ∈ gaW := gaW_t4 (List.mem_of_getElem? (i := 131) rfl) rfl
theorem ww_4_133 : Cond.fieldLink "java/lang/StringUTF16" 63 "java/lang/StringUTF16" "LO_BYTE_SHIFT" "I" ∈ gaW := gaW_t4 (List.mem_of_getElem? (i := 133) rfl) rfl
theorem ww_4_135 : Cond.methodLink "java/lang/AbstractStringBuilder" 197 ⟨"java/lang/StringUTF16", "putCharSB", "([BII)V"⟩ ∈ gaW := gaW_t4 (List.mem_of_getElem? (i := 135) rfl) rfl
theorem ww_4_136 : Cond.static ⟨"java/lang/StringUTF16", "putCharSB", "([BII)V"⟩ ∈ gaW := gaW_t4 (List.mem_of_getElem? (i := 136) rfl) rfl
theorem ww_4_137 : Cond.code ⟨"java/lang/StringUTF16", "putCharSB", "([BII)V"⟩ prog_22_method_71_code 3 (none : Option Jvm.ClassFile.FieldType) ∈ gaW := gaW_t4 (List.mem_of_getElem? (i := 137) rfl) rfl
theorem ww_4_138 : Cond.methodLink "java/lang/StringUTF16" 67 ⟨"java/lang/StringUTF16", "checkIndex", "(I[B)V"⟩ ∈ gaW := gaW_t4 (List.mem_of_getElem? (i := 138) rfl) rfl
theorem ww_4_139 : Cond.static ⟨"java/lang/StringUTF16", "checkIndex", "(I[B)V"⟩ ∈ gaW := gaW_t4 (List.mem_of_getElem? (i := 139) rfl) rfl
theorem ww_4_140 : Cond.code ⟨"java/lang/StringUTF16", "checkIndex", "(I[B)V"⟩ prog_22_method_91_code 2 (none : Option Jvm.ClassFile.FieldType) ∈ gaW := gaW_t4 (List.mem_of_getElem? (i := 140) rfl) rfl
theorem ww_4_141 : Cond.methodLink "java/lang/StringUTF16" 414 ⟨"java/lang/String", "checkIndex", "(II)V"⟩ ∈ gaW := gaW_t4 (List.mem_of_getElem? (i := 141) rfl) rfl
theorem ww_4_142 : Cond.static ⟨"java/lang/String", "checkIndex", "(II)V"⟩ ∈ gaW := gaW_t4 (List.mem_of_getElem? (i := 142) rfl) rfl
theorem ww_4_143 : Cond.code ⟨"java/lang/String", "checkIndex", "(II)V"⟩ prog_19_method_155_code 2 (none : Option Jvm.ClassFile.FieldType) ∈ gaW := gaW_t4 (List.mem_of_getElem? (i := 143) rfl) rfl
theorem ww_4_144 : Cond.methodLink "java/lang/String" 1059 ⟨"jdk/internal/util/Preconditions", "checkIndex", "(IILjava/util/function/BiFunction;)I"⟩ ∈ gaW := gaW_t4 (List.mem_of_getElem? (i := 144) rfl) rfl
theorem ww_4_145 : Cond.static ⟨"jdk/internal/util/Preconditions", "checkIndex", "(IILjava/util/function/BiFunction;)I"⟩ ∈ gaW := gaW_t4 (List.mem_of_getElem? (i := 145) rfl) rfl
theorem ww_4_146 : Cond.code ⟨"jdk/internal/util/Preconditions", "checkIndex", "(IILjava/util/function/BiFunction;)I"⟩ prog_27_method_11_code 3 (some .int) ∈ gaW := gaW_t4 (List.mem_of_getElem? (i := 146) rfl) rfl
theorem ww_4_147 : Cond.methodLink "Wordgarden$Reading" 26 ⟨"java/lang/StringBuilder", "toString", "()Ljava/lang/String;"⟩ ∈ gaW := gaW_t4 (List.mem_of_getElem? (i := 147) rfl) rfl
theorem ww_4_148 : Cond.instanceMethod ⟨"java/lang/StringBuilder", "toString", "()Ljava/lang/String;"⟩ ∈ gaW := gaW_t4 (List.mem_of_getElem? (i := 148) rfl) rfl
theorem ww_4_149 : Cond.selects "java/lang/StringBuilder" ⟨"java/lang/StringBuilder", "toString", "()Ljava/lang/String;"⟩ ⟨"java/lang/StringBuilder", "toString", "()Ljava/lang/String;"⟩ ∈ gaW := gaW_t4 (List.mem_of_getElem? (i := 149) rfl) rfl
theorem ww_4_150 : Cond.code ⟨"java/lang/StringBuilder", "toString", "()Ljava/lang/String;"⟩ prog_20_method_42_code 1 (some (.object "java/lang/String")) ∈ gaW := gaW_t4 (List.mem_of_getElem? (i := 150) rfl) rfl
theorem ww_4_151 : Cond.classLink "java/lang/StringBuilder" 18 "java/lang/String" ∈ gaW := gaW_t4 (List.mem_of_getElem? (i := 151) rfl) rfl
theorem ww_4_152 : Cond.instantiable "java/lang/String" 4 ∈ gaW := gaW_t4 (List.mem_of_getElem? (i := 152) rfl) rfl
theorem ww_4_153 : Cond.methodLink "java/lang/StringBuilder" 137 ⟨"java/lang/String", "<init>", "(Ljava/lang/StringBuilder;)V"⟩ ∈ gaW := gaW_t4 (List.mem_of_getElem? (i := 153) rfl) rfl
theorem ww_4_154 : Cond.instanceMethod ⟨"java/lang/String", "<init>", "(Ljava/lang/StringBuilder;)V"⟩ ∈ gaW := gaW_t4 (List.mem_of_getElem? (i := 154) rfl) rfl
theorem ww_4_155 : Cond.code ⟨"java/lang/String", "<init>", "(Ljava/lang/StringBuilder;)V"⟩ prog_19_method_53_code 2 (none : Option Jvm.ClassFile.FieldType) ∈ gaW := gaW_t4 (List.mem_of_getElem? (i := 155) rfl) rfl
theorem ww_4_156 : Cond.methodLink "java/lang/String" 489 ⟨"java/lang/String", "<init>", "(Ljava/lang/AbstractStringBuilder;Ljava/lang/Void;)V"⟩ ∈ gaW := gaW_t4 (List.mem_of_getElem? (i := 156) rfl) rfl
theorem ww_4_157 : Cond.instanceMethod ⟨"java/lang/String", "<init>", "(Ljava/lang/AbstractStringBuilder;Ljava/lang/Void;)V"⟩ ∈ gaW := gaW_t4 (List.mem_of_getElem? (i := 157) rfl) rfl
theorem ww_4_158 : Cond.code ⟨"java/lang/String", "<init>", "(Ljava/lang/AbstractStringBuilder;Ljava/lang/Void;)V"⟩ prog_19_method_150_code 5 (none : Option Jvm.ClassFile.FieldType) ∈ gaW := gaW_t4 (List.mem_of_getElem? (i := 158) rfl) rfl
theorem ww_4_159 : Cond.methodLink "java/lang/String" 1 ⟨"java/lang/Object", "<init>", "()V"⟩ ∈ gaW := gaW_t4 (List.mem_of_getElem? (i := 159) rfl) rfl
theorem ww_4_160 : Cond.methodLink "java/lang/String" 552 ⟨"java/lang/AbstractStringBuilder", "getValue", "()[B"⟩ ∈ gaW := gaW_t4 (List.mem_of_getElem? (i := 160) rfl) rfl
theorem ww_4_161 : Cond.instanceMethod ⟨"java/lang/AbstractStringBuilder", "getValue", "()[B"⟩ ∈ gaW := gaW_t4 (List.mem_of_getElem? (i := 161) rfl) rfl
theorem ww_4_162 : Cond.sameMethod "java/lang/AbstractStringBuilder" "java/lang/AbstractStringBuilder" "getValue" "()[B" ∈ gaW := gaW_t4 (List.mem_of_getElem? (i := 162) rfl) rfl
theorem ww_4_163 : Cond.selects "java/lang/StringBuilder" ⟨"java/lang/AbstractStringBuilder", "getValue", "()[B"⟩ ⟨"java/lang/AbstractStringBuilder", "getValue", "()[B"⟩ ∈ gaW := gaW_t4 (List.mem_of_getElem? (i := 163) rfl) rfl
theorem ww_4_164 : Cond.code ⟨"java/lang/AbstractStringBuilder", "getValue", "()[B"⟩ prog_10_method_64_code 1 (some (.array .byte)) ∈ gaW := gaW_t4 (List.mem_of_getElem? (i := 164) rfl) rfl
theorem ww_4_165 : Cond.methodLink "java/lang/String" 549 ⟨"java/lang/AbstractStringBuilder", "length", "()I"⟩ ∈ gaW := gaW_t4 (List.mem_of_getElem? (i := 165) rfl) rfl
theorem ww_4_166 : Cond.instanceMethod ⟨"java/lang/AbstractStringBuilder", "length", "()I"⟩ ∈ gaW := gaW_t4 (List.mem_of_getElem? (i := 166) rfl) rfl
theorem ww_4_167 : Cond.sameMethod "java/lang/AbstractStringBuilder" "java/lang/AbstractStringBuilder" "length" "()I" ∈ gaW := gaW_t4 (List.mem_of_getElem? (i := 167) rfl) rfl
theorem ww_4_168 : Cond.selects "java/lang/StringBuilder" ⟨"java/lang/AbstractStringBuilder", "length", "()I"⟩ ⟨"java/lang/StringBuilder", "length", "()I"⟩ ∈ gaW := gaW_t4 (List.mem_of_getElem? (i := 168) rfl) rfl
theorem ww_4_169 : Cond.instanceMethod ⟨"java/lang/StringBuilder", "length", "()I"⟩ ∈ gaW := gaW_t4 (List.mem_of_getElem? (i := 169) rfl) rfl
theorem ww_4_170 : Cond.code ⟨"java/lang/StringBuilder", "length", "()I"⟩ prog_20_method_93_code 1 (some .int) ∈ gaW := gaW_t4 (List.mem_of_getElem? (i := 170) rfl) rfl
theorem ww_4_171 : Cond.methodLink "java/lang/StringBuilder" 343 ⟨"java/lang/AbstractStringBuilder", "length", "()I"⟩ ∈ gaW := gaW_t4 (List.mem_of_getElem? (i := 171) rfl) rfl
theorem ww_4_172 : Cond.code ⟨"java/lang/AbstractStringBuilder", "length", "()I"⟩ prog_10_method_6_code 1 (some .int) ∈ gaW := gaW_t4 (List.mem_of_getElem? (i := 172) rfl) rfl
theorem ww_4_173 : Cond.methodLink "java/lang/String" 1047 ⟨"java/lang/AbstractStringBuilder", "isLatin1", "()Z"⟩ ∈ gaW := gaW_t4 (List.mem_of_getElem? (i := 173) rfl) rfl
theorem ww_4_174 : Cond.methodLink "java/lang/String" 54 ⟨"java/util/Arrays", "copyOfRange", "([BII)[B"⟩ ∈ gaW := gaW_t4 (List.mem_of_getElem? (i := 174) rfl) rfl
theorem ww_4_175 : Cond.static ⟨"java/util/Arrays", "copyOfRange", "([BII)[B"⟩ ∈ gaW := gaW_t4 (List.mem_of_getElem? (i := 175) rfl) rfl
theorem ww_4_176 : Cond.code ⟨"java/util/Arrays", "copyOfRange", "([BII)[B"⟩ prog_25_method_132_code 3 (some (.array .byte)) ∈ gaW := gaW_t4 (List.mem_of_getElem? (i := 176) rfl) rfl
theorem ww_4_177 : Cond.methodLink "java/util/Arrays" 339 ⟨"java/util/Arrays", "copyOfRangeByte", "([BII)[B"⟩ ∈ gaW := gaW_t4 (List.mem_of_getElem? (i := 177) rfl) rfl
theorem ww_4_178 : Cond.static ⟨"java/util/Arrays", "copyOfRangeByte", "([BII)[B"⟩ ∈ gaW := gaW_t4 (List.mem_of_getElem? (i := 178) rfl) rfl
theorem ww_4_179 : Cond.code ⟨"java/util/Arrays", "copyOfRangeByte", "([BII)[B"⟩ prog_25_method_133_code 5 (some (.array .byte)) ∈ gaW := gaW_t4 (List.mem_of_getElem? (i := 179) rfl) rfl
theorem ww_4_180 : Cond.methodLink "java/util/Arrays" 343 ⟨"java/util/Arrays", "checkLength", "(II)V"⟩ ∈ gaW := gaW_t4 (List.mem_of_getElem? (i := 180) rfl) rfl
theorem ww_4_181 : Cond.static ⟨"java/util/Arrays", "checkLength", "(II)V"⟩ ∈ gaW := gaW_t4 (List.mem_of_getElem? (i := 181) rfl) rfl
theorem ww_4_182 : Cond.code ⟨"java/util/Arrays", "checkLength", "(II)V"⟩ prog_25_method_131_code 2 (none : Option Jvm.ClassFile.FieldType) ∈ gaW := gaW_t4 (List.mem_of_getElem? (i := 182) rfl) rfl
theorem ww_4_183 : Cond.classLink "java/util/Arrays" 43 "java/lang/IllegalArgumentException" ∈ gaW := gaW_t4 (List.mem_of_getElem? (i := 183) rfl) rfl
theorem ww_4_184 : Cond.classLink "java/util/Arrays" 45 "java/lang/StringBuilder" ∈ gaW := gaW_t4 (List.mem_of_getElem? (i := 184) rfl) rfl
theorem ww_4_185 : Cond.methodLink "java/util/Arrays" 47 ⟨"java/lang/StringBuilder", "<init>", "()V"⟩ ∈ gaW := gaW_t4 (List.mem_of_getElem? (i := 185) rfl) rfl
theorem ww_4_186 : Cond.methodLink "java/util/Arrays" 54 ⟨"java/lang/StringBuilder", "append", "(I)Ljava/lang/StringBuilder;"⟩ ∈ gaW := gaW_t4 (List.mem_of_getElem? (i := 186) rfl) rfl
theorem ww_4_187 : Cond.instanceMethod ⟨"java/lang/StringBuilder", "append", "(I)Ljava/lang/StringBuilder;"⟩ ∈ gaW := gaW_t4 (List.mem_of_getElem? (i := 187) rfl) rfl
theorem ww_4_188 : Cond.selects "java/lang/StringBuilder" ⟨"java/lang/StringBuilder", "append", "(I)Ljava/lang/StringBuilder;"⟩ ⟨"java/lang/StringBuilder", "append", "(I)Ljava/lang/StringBuilder;"⟩ ∈ gaW := gaW_t4 (List.mem_of_getElem? (i := 188) rfl) rfl
theorem ww_4_189 : Cond.code ⟨"java/lang/StringBuilder", "append", "(I)Ljava/lang/StringBuilder;"⟩ prog_20_method_15_code 2 (some (.object "java/lang/StringBuilder")) ∈ gaW := gaW_t4 (List.mem_of_getElem? (i := 189) rfl) rfl
theorem ww_4_190 : Cond.methodLink "java/lang/StringBuilder" 53 ⟨"java/lang/AbstractStringBuilder", "append", "(I)Ljava/lang/AbstractStringBuilder;"⟩ ∈ gaW := gaW_t4 (List.mem_of_getElem? (i := 190) rfl) rfl
theorem ww_4_191 : Cond.instanceMethod ⟨"java/lang/AbstractStringBuilder", "append", "(I)Ljava/lang/AbstractStringBuilder;"⟩ ∈ gaW := gaW_t4 (List.mem_of_getElem? (i := 191) rfl) rfl
theorem ww_4_192 : Cond.code ⟨"java/lang/AbstractStringBuilder", "append", "(I)Ljava/lang/AbstractStringBuilder;"⟩ prog_10_method_32_code 4 (some (.object "java/lang/AbstractStringBuilder")) ∈ gaW := gaW_t4 (List.mem_of_getElem? (i := 192) rfl) rfl
theorem ww_4_193 : Cond.methodLink "java/lang/AbstractStringBuilder" 245 ⟨"java/lang/Integer", "stringSize", "(I)I"⟩ ∈ gaW := gaW_t4 (List.mem_of_getElem? (i := 193) rfl) rfl
theorem ww_4_194 : Cond.static ⟨"java/lang/Integer", "stringSize", "(I)I"⟩ ∈ gaW := gaW_t4 (List.mem_of_getElem? (i := 194) rfl) rfl
theorem ww_4_195 : Cond.code ⟨"java/lang/Integer", "stringSize", "(I)I"⟩ prog_16_method_13_code 4 (some .int) ∈ gaW := gaW_t4 (List.mem_of_getElem? (i := 195) rfl) rfl
theorem ww_4_196 : Cond.methodLink "java/lang/AbstractStringBuilder" 248 ⟨"java/lang/Integer", "getChars", "(II[B)I"⟩ ∈ gaW := gaW_t4 (List.mem_of_getElem? (i := 196) rfl) rfl
theorem ww_4_197 : Cond.static ⟨"java/lang/Integer", "getChars", "(II[B)I"⟩ ∈ gaW := gaW_t4 (List.mem_of_getElem? (i := 197) rfl) rfl
theorem ww_4_198 : Cond.code ⟨"java/lang/Integer", "getChars", "(II[B)I"⟩ prog_16_method_12_code 7 (some .int) ∈ gaW := gaW_t4 (List.mem_of_getElem? (i := 198) rfl) rfl
theorem ww_4_199 : Cond.fieldLink "java/lang/Integer" 83 "java/lang/Integer" "DigitOnes" "[B" ∈ gaW := gaW_t4 (List.mem_of_getElem? (i := 199) rfl) rfl
theorem ww_4_201 : Cond.fieldLink "java/lang/Integer" 87 "java/lang/Integer" "DigitTens" "[B" ∈ gaW := gaW_t4 (List.mem_of_getElem? (i := 201) rfl) rfl
theorem ww_4_203 : Cond.methodLink "java/lang/AbstractStringBuilder" 251 ⟨"java/lang/StringUTF16", "getChars", "(III[B)I"⟩ ∈ gaW := gaW_t4 (List.mem_of_getElem? (i := 203) rfl) rfl
theorem ww_4_204 : Cond.static ⟨"java/lang/StringUTF16", "getChars", "(III[B)I"⟩ ∈ gaW := gaW_t4 (List.mem_of_getElem? (i := 204) rfl) rfl
theorem ww_4_205 : Cond.code ⟨"java/lang/StringUTF16", "getChars", "(III[B)I"⟩ prog_22_method_77_code 5 (some .int) ∈ gaW := gaW_t4 (List.mem_of_getElem? (i := 205) rfl) rfl
theorem ww_4_206 : Cond.methodLink "java/lang/StringUTF16" 96 ⟨"java/lang/StringUTF16", "checkBoundsBeginEnd", "(II[B)V"⟩ ∈ gaW := gaW_t4 (List.mem_of_getElem? (i := 206) rfl) rfl
theorem ww_4_207 : Cond.static ⟨"java/lang/StringUTF16", "checkBoundsBeginEnd", "(II[B)V"⟩ ∈ gaW := gaW_t4 (List.mem_of_getElem? (i := 207) rfl) rfl
theorem ww_4_208 : Cond.code ⟨"java/lang/StringUTF16", "checkBoundsBeginEnd", "(II[B)V"⟩ prog_22_method_93_code 3 (none : Option Jvm.ClassFile.FieldType) ∈ gaW := gaW_t4 (List.mem_of_getElem? (i := 208) rfl) rfl
theorem ww_4_209 : Cond.methodLink "java/lang/StringUTF16" 241 ⟨"java/lang/String", "checkBoundsBeginEnd", "(III)V"⟩ ∈ gaW := gaW_t4 (List.mem_of_getElem? (i := 209) rfl) rfl
theorem ww_4_210 : Cond.static ⟨"java/lang/String", "checkBoundsBeginEnd", "(III)V"⟩ ∈ gaW := gaW_t4 (List.mem_of_getElem? (i := 210) rfl) rfl
theorem ww_4_211 : Cond.code ⟨"java/lang/String", "checkBoundsBeginEnd", "(III)V"⟩ prog_19_method_158_code 3 (none : Option Jvm.ClassFile.FieldType) ∈ gaW := gaW_t4 (List.mem_of_getElem? (i := 211) rfl) rfl
theorem ww_4_212 : Cond.methodLink "java/lang/String" 1062 ⟨"jdk/internal/util/Preconditions", "checkFromToIndex", "(IIILjava/util/function/BiFunction;)I"⟩ ∈ gaW := gaW_t4 (List.mem_of_getElem? (i := 212) rfl) rfl
theorem ww_4_213 : Cond.static ⟨"jdk/internal/util/Preconditions", "checkFromToIndex", "(IIILjava/util/function/BiFunction;)I"⟩ ∈ gaW := gaW_t4 (List.mem_of_getElem? (i := 213) rfl) rfl
theorem ww_4_214 : Cond.code ⟨"jdk/internal/util/Preconditions", "checkFromToIndex", "(IIILjava/util/function/BiFunction;)I"⟩ prog_27_method_12_code 4 (some .int) ∈ gaW := gaW_t4 (List.mem_of_getElem? (i := 214) rfl) rfl
theorem ww_4_215 : Cond.methodLink "java/lang/StringUTF16" 393 ⟨"java/lang/StringUTF16", "getChars", "(II[B)I"⟩ ∈ gaW := gaW_t4 (List.mem_of_getElem? (i := 215) rfl) rfl
theorem ww_4_216 : Cond.static ⟨"java/lang/StringUTF16", "getChars", "(II[B)I"⟩ ∈ gaW := gaW_t4 (List.mem_of_getElem? (i := 216) rfl) rfl
theorem ww_4_217 : Cond.code ⟨"java/lang/StringUTF16", "getChars", "(II[B)I"⟩ prog_22_method_89_code 7 (some .int) ∈ gaW := gaW_t4 (List.mem_of_getElem? (i := 217) rfl) rfl
theorem ww_4_218 : Cond.fieldLink "java/lang/StringUTF16" 403 "java/lang/Integer" "DigitOnes" "[B" ∈ gaW := gaW_t4 (List.mem_of_getElem? (i := 218) rfl) rfl
theorem ww_4_219 : Cond.fieldLink "java/lang/StringUTF16" 407 "java/lang/Integer" "DigitTens" "[B" ∈ gaW := gaW_t4 (List.mem_of_getElem? (i := 219) rfl) rfl
theorem ww_4_221 : Cond.methodLink "java/util/Arrays" 50 ⟨"java/lang/StringBuilder", "append", "(Ljava/lang/String;)Ljava/lang/StringBuilder;"⟩ ∈ gaW := gaW_t4 (List.mem_of_getElem? (i := 221) rfl) rfl
theorem ww_4_222 : Cond.instanceMethod ⟨"java/lang/StringBuilder", "append", "(Ljava/lang/String;)Ljava/lang/StringBuilder;"⟩ ∈ gaW := gaW_t4 (List.mem_of_getElem? (i := 222) rfl) rfl
theorem ww_4_223 : Cond.selects "java/lang/StringBuilder" ⟨"java/lang/StringBuilder", "append", "(Ljava/lang/String;)Ljava/lang/StringBuilder;"⟩ ⟨"java/lang/StringBuilder", "append", "(Ljava/lang/String;)Ljava/lang/StringBuilder;"⟩ ∈ gaW := gaW_t4 (List.mem_of_getElem? (i := 223) rfl) rfl
theorem ww_4_224 : Cond.code ⟨"java/lang/StringBuilder", "append", "(Ljava/lang/String;)Ljava/lang/StringBuilder;"⟩ prog_20_method_7_code 2 (some (.object "java/lang/StringBuilder")) ∈ gaW := gaW_t4 (List.mem_of_getElem? (i := 224) rfl) rfl
theorem ww_4_225 : Cond.methodLink "java/lang/StringBuilder" 29 ⟨"java/lang/AbstractStringBuilder", "append", "(Ljava/lang/String;)Ljava/lang/AbstractStringBuilder;"⟩ ∈ gaW := gaW_t4 (List.mem_of_getElem? (i := 225) rfl) rfl
theorem ww_4_226 : Cond.instanceMethod ⟨"java/lang/AbstractStringBuilder", "append", "(Ljava/lang/String;)Ljava/lang/AbstractStringBuilder;"⟩ ∈ gaW := gaW_t4 (List.mem_of_getElem? (i := 226) rfl) rfl
theorem ww_4_227 : Cond.code ⟨"java/lang/AbstractStringBuilder", "append", "(Ljava/lang/String;)Ljava/lang/AbstractStringBuilder;"⟩ prog_10_method_22_code 3 (some (.object "java/lang/AbstractStringBuilder")) ∈ gaW := gaW_t4 (List.mem_of_getElem? (i := 227) rfl) rfl
theorem ww_4_228 : Cond.methodLink "java/lang/AbstractStringBuilder" 204 ⟨"java/lang/AbstractStringBuilder", "appendNull", "()Ljava/lang/AbstractStringBuilder;"⟩ ∈ gaW := gaW_t4 (List.mem_of_getElem? (i := 228) rfl) rfl
theorem ww_4_230 : Cond.instanceMethod ⟨"java/lang/AbstractStringBuilder", "appendNull", "()Ljava/lang/AbstractStringBuilder;"⟩ ∈ gaW := gaW_t4 (List.mem_of_getElem? (i := 230) rfl) rfl
theorem ww_4_231 : Cond.code ⟨"java/lang/AbstractStringBuilder", "appendNull", "()Ljava/lang/AbstractStringBuilder;"⟩ prog_10_method_26_code 3 (some (.object "java/lang/AbstractStringBuilder")) ∈ gaW := gaW_t4 (List.mem_of_getElem? (i := 231) rfl) rfl
theorem ww_4_232 : Cond.methodLink "java/lang/AbstractStringBuilder" 226 ⟨"java/lang/StringUTF16", "putCharsAt", "([BICCCC)I"⟩ ∈ gaW := gaW_t4 (List.mem_of_getElem? (i := 232) rfl) rfl
theorem ww_4_233 : Cond.static ⟨"java/lang/StringUTF16", "putCharsAt", "([BICCCC)I"⟩ ∈ gaW := gaW_t4 (List.mem_of_getElem? (i := 233) rfl) rfl
theorem ww_4_234 : Cond.code ⟨"java/lang/StringUTF16", "putCharsAt", "([BICCCC)I"⟩ prog_22_method_81_code 7 (some .int) ∈ gaW := gaW_t4 (List.mem_of_getElem? (i := 234) rfl) rfl
theorem ww_4_235 : Cond.methodLink "java/lang/AbstractStringBuilder" 32 ⟨"java/lang/String", "length", "()I"⟩ ∈ gaW := gaW_t4 (List.mem_of_getElem? (i := 235) rfl) rfl
theorem ww_4_236 : Cond.instanceMethod ⟨"java/lang/String", "length", "()I"⟩ ∈ gaW := gaW_t4 (List.mem_of_getElem? (i := 236) rfl) rfl
theorem ww_4_237 : Cond.selects "java/lang/String" ⟨"java/lang/String", "length", "()I"⟩ ⟨"java/lang/String", "length", "()I"⟩ ∈ gaW := gaW_t4 (List.mem_of_getElem? (i := 237) rfl) rfl
theorem ww_4_238 : Cond.code ⟨"java/lang/String", "length", "()I"⟩ prog_19_method_54_code 1 (some .int) ∈ gaW := gaW_t4 (List.mem_of_getElem? (i := 238) rfl) rfl
theorem ww_4_239 : Cond.methodLink "java/lang/String" 335 ⟨"java/lang/String", "coder", "()B"⟩ ∈ gaW := gaW_t4 (List.mem_of_getElem? (i := 239) rfl) rfl
theorem ww_5_0 : Cond.instanceMethod ⟨"java/lang/String", "coder", "()B"⟩ ∈ gaW := gaW_t5 (List.mem_of_getElem? (i := 0) rfl) rfl
theorem ww_5_1 : Cond.selects "java/lang/String" ⟨"java/lang/String", "coder", "()B"⟩ ⟨"java/lang/String", "coder", "()B"⟩ ∈ gaW := gaW_t5 (List.mem_of_getElem? (i := 1) rfl) rfl
theorem ww_5_2 : Cond.code ⟨"java/lang/String", "coder", "()B"⟩ prog_19_method_152_code 1 (some .byte) ∈ gaW := gaW_t5 (List.mem_of_getElem? (i := 2) rfl) rfl
theorem ww_5_3 : Cond.fieldLink "java/lang/String" 38 "java/lang/String" "COMPACT_STRINGS" "Z" ∈ gaW := gaW_t5 (List.mem_of_getElem? (i := 3) rfl) rfl
theorem ww_5_4 : Cond.methodLink "java/lang/AbstractStringBuilder" 208 ⟨"java/lang/AbstractStringBuilder", "putStringAt", "(ILjava/lang/String;)V"⟩ ∈ gaW := gaW_t5 (List.mem_of_getElem? (i := 4) rfl) rfl
theorem ww_5_6 : Cond.instanceMethod ⟨"java/lang/AbstractStringBuilder", "putStringAt", "(ILjava/lang/String;)V"⟩ ∈ gaW := gaW_t5 (List.mem_of_getElem? (i := 6) rfl) rfl
theorem ww_5_7 : Cond.code ⟨"java/lang/AbstractStringBuilder", "putStringAt", "(ILjava/lang/String;)V"⟩ prog_10_method_73_code 3 (none : Option Jvm.ClassFile.FieldType) ∈ gaW := gaW_t5 (List.mem_of_getElem? (i := 7) rfl) rfl
theorem ww_5_8 : Cond.methodLink "java/lang/AbstractStringBuilder" 397 ⟨"java/lang/AbstractStringBuilder", "inflateIfNeededFor", "(Ljava/lang/String;)V"⟩ ∈ gaW := gaW_t5 (List.mem_of_getElem? (i := 8) rfl) rfl
theorem ww_5_10 : Cond.instanceMethod ⟨"java/lang/AbstractStringBuilder", "inflateIfNeededFor", "(Ljava/lang/String;)V"⟩ ∈ gaW := gaW_t5 (List.mem_of_getElem? (i := 10) rfl) rfl
theorem ww_5_11 : Cond.code ⟨"java/lang/AbstractStringBuilder", "inflateIfNeededFor", "(Ljava/lang/String;)V"⟩ prog_10_method_71_code 2 (none : Option Jvm.ClassFile.FieldType) ∈ gaW := gaW_t5 (List.mem_of_getElem? (i := 11) rfl) rfl
theorem ww_5_12 : Cond.methodLink "java/lang/AbstractStringBuilder" 40 ⟨"java/lang/String", "coder", "()B"⟩ ∈ gaW := gaW_t5 (List.mem_of_getElem? (i := 12) rfl) rfl
theorem ww_5_13 : Cond.methodLink "java/lang/AbstractStringBuilder" 399 ⟨"java/lang/String", "getBytes", "([BIB)V"⟩ ∈ gaW := gaW_t5 (List.mem_of_getElem? (i := 13) rfl) rfl
theorem ww_5_14 : Cond.instanceMethod ⟨"java/lang/String", "getBytes", "([BIB)V"⟩ ∈ gaW := gaW_t5 (List.mem_of_getElem? (i := 14) rfl) rfl
theorem ww_5_15 : Cond.selects "java/lang/String" ⟨"java/lang/String", "getBytes", "([BIB)V"⟩ ⟨"java/lang/String", "getBytes", "([BIB)V"⟩ ∈ gaW := gaW_t5 (List.mem_of_getElem? (i := 15) rfl) rfl
theorem ww_5_16 : Cond.code ⟨"java/lang/String", "getBytes", "([BIB)V"⟩ prog_19_method_147_code 4 (none : Option Jvm.ClassFile.FieldType) ∈ gaW := gaW_t5 (List.mem_of_getElem? (i := 16) rfl) rfl
theorem ww_5_17 : Cond.methodLink "java/lang/String" 212 ⟨"java/lang/System", "arraycopy", "(Ljava/lang/Object;ILjava/lang/Object;II)V"⟩ ∈ gaW := gaW_t5 (List.mem_of_getElem? (i := 17) rfl) rfl
theorem ww_5_18 : Cond.methodLink "java/lang/String" 106 ⟨"java/lang/StringLatin1", "inflate", "([BI[BII)V"⟩ ∈ gaW := gaW_t5 (List.mem_of_getElem? (i := 18) rfl) rfl
theorem ww_5_19 : Cond.methodLink "java/util/Arrays" 61 ⟨"java/lang/StringBuilder", "toString", "()Ljava/lang/String;"⟩ ∈ gaW := gaW_t5 (List.mem_of_getElem? (i := 19) rfl) rfl
theorem ww_5_20 : Cond.methodLink "java/util/Arrays" 65 ⟨"java/lang/IllegalArgumentException", "<init>", "(Ljava/lang/String;)V"⟩ ∈ gaW := gaW_t5 (List.mem_of_getElem? (i := 20) rfl) rfl
theorem ww_5_21 : Cond.methodLink "java/lang/String" 1051 ⟨"java/lang/StringUTF16", "compress", "([BII)[B"⟩ ∈ gaW := gaW_t5 (List.mem_of_getElem? (i := 21) rfl) rfl
theorem ww_5_22 : Cond.static ⟨"java/lang/StringUTF16", "compress", "([BII)[B"⟩ ∈ gaW := gaW_t5 (List.mem_of_getElem? (i := 22) rfl) rfl
theorem ww_5_23 : Cond.code ⟨"java/lang/StringUTF16", "compress", "([BII)[B"⟩ prog_22_method_17_code 6 (some (.array .byte)) ∈ gaW := gaW_t5 (List.mem_of_getElem? (i := 23) rfl) rfl
theorem ww_5_24 : Cond.methodLink "java/lang/StringUTF16" 123 ⟨"java/lang/StringUTF16", "compress", "([BI[BII)I"⟩ ∈ gaW := gaW_t5 (List.mem_of_getElem? (i := 24) rfl) rfl
theorem ww_5_25 : Cond.static ⟨"java/lang/StringUTF16", "compress", "([BI[BII)I"⟩ ∈ gaW := gaW_t5 (List.mem_of_getElem? (i := 25) rfl) rfl
theorem ww_5_26 : Cond.code ⟨"java/lang/StringUTF16", "compress", "([BI[BII)I"⟩ prog_22_method_22_code 7 (some .int) ∈ gaW := gaW_t5 (List.mem_of_getElem? (i := 26) rfl) rfl
theorem ww_5_27 : Cond.methodLink "java/lang/StringUTF16" 71 ⟨"java/lang/StringUTF16", "getChar", "([BI)C"⟩ ∈ gaW := gaW_t5 (List.mem_of_getElem? (i := 27) rfl) rfl
theorem ww_5_28 : Cond.static ⟨"java/lang/StringUTF16", "getChar", "([BI)C"⟩ ∈ gaW := gaW_t5 (List.mem_of_getElem? (i := 28) rfl) rfl
theorem ww_5_29 : Cond.code ⟨"java/lang/StringUTF16", "getChar", "([BI)C"⟩ prog_22_method_5_code 2 (some .char) ∈ gaW := gaW_t5 (List.mem_of_getElem? (i := 29) rfl) rfl
theorem ww_5_30 : Cond.methodLink "java/lang/StringUTF16" 126 ⟨"java/util/Arrays", "copyOfRange", "([BII)[B"⟩ ∈ gaW := gaW_t5 (List.mem_of_getElem? (i := 30) rfl) rfl
theorem ww_5_31 : Cond.methodLink "java/lang/String" 47 ⟨"java/lang/StringUTF16", "coderFromArrayLen", "([BI)B"⟩ ∈ gaW := gaW_t5 (List.mem_of_getElem? (i := 31) rfl) rfl
theorem ww_5_32 : Cond.static ⟨"java/lang/StringUTF16", "coderFromArrayLen", "([BI)B"⟩ ∈ gaW := gaW_t5 (List.mem_of_getElem? (i := 32) rfl) rfl
theorem ww_5_33 : Cond.code ⟨"java/lang/StringUTF16", "coderFromArrayLen", "([BI)B"⟩ prog_22_method_15_code 2 (some .byte) ∈ gaW := gaW_t5 (List.mem_of_getElem? (i := 33) rfl) rfl
theorem ww_5_34 : Cond.fieldLink "java/lang/String" 9 "java/lang/String" "value" "[B" ∈ gaW := gaW_t5 (List.mem_of_getElem? (i := 34) rfl) rfl
theorem ww_5_35 : Cond.fieldLink "java/lang/String" 15 "java/lang/String" "coder" "B" ∈ gaW := gaW_t5 (List.mem_of_getElem? (i := 35) rfl) rfl
theorem ww_5_36 : Cond.laysFinal "java/lang/String" "java/lang/String" "value" "[B" ∈ gaW := gaW_t5 (List.mem_of_getElem? (i := 36) rfl) rfl
theorem ww_5_38 : Cond.laysFinal "java/lang/String" "java/lang/String" "coder" "B" ∈ gaW := gaW_t5 (List.mem_of_getElem? (i := 38) rfl) rfl
theorem ww_5_40 : Cond.lays "java/lang/String" "java/lang/String" "hash" "I" ∈ gaW := gaW_t5 (List.mem_of_getElem? (i := 40) rfl) rfl
theorem ww_5_42 : Cond.lays "java/lang/String" "java/lang/String" "hashIsZero" "Z" ∈ gaW := gaW_t5 (List.mem_of_getElem? (i := 42) rfl) rfl
theorem ww_5_44 : Cond.superclass "java/lang/String" "java/lang/Object" ∈ gaW := gaW_t5 (List.mem_of_getElem? (i := 44) rfl) rfl
theorem ww_5_45 : Cond.methodLink "WordgardenLaw" 255 ⟨"WordgardenLaw", "count", "(LWordgarden;IZLWordgardenLaw$Out;)I"⟩ ∈ gaW := gaW_t5 (List.mem_of_getElem? (i := 45) rfl) rfl
theorem ww_5_46 : Cond.static ⟨"WordgardenLaw", "count", "(LWordgarden;IZLWordgardenLaw$Out;)I"⟩ ∈ gaW := gaW_t5 (List.mem_of_getElem? (i := 46) rfl) rfl
theorem ww_5_47 : Cond.codeWith ⟨"WordgardenLaw", "count", "(LWordgarden;IZLWordgardenLaw$Out;)I"⟩ method_26_code 5 (some .int) [(0, 11, 14, 19)] ∈ gaW := gaW_t5 (List.mem_of_getElem? (i := 47) rfl) rfl
theorem ww_5_48 : Cond.methodLink "WordgardenLaw" 104 ⟨"Wordgarden", "count", "(IZ)I"⟩ ∈ gaW := gaW_t5 (List.mem_of_getElem? (i := 48) rfl) rfl
theorem ww_5_49 : Cond.methodLink "WordgardenLaw" 259 ⟨"WordgardenLaw", "find", "(LWordgarden;IIILWordgardenLaw$Out;)I"⟩ ∈ gaW := gaW_t5 (List.mem_of_getElem? (i := 49) rfl) rfl
theorem ww_5_50 : Cond.static ⟨"WordgardenLaw", "find", "(LWordgarden;IIILWordgardenLaw$Out;)I"⟩ ∈ gaW := gaW_t5 (List.mem_of_getElem? (i := 50) rfl) rfl
theorem ww_5_51 : Cond.codeWith ⟨"WordgardenLaw", "find", "(LWordgarden;IIILWordgardenLaw$Out;)I"⟩ method_27_code 6 (some .int) [(0, 13, 16, 19)] ∈ gaW := gaW_t5 (List.mem_of_getElem? (i := 51) rfl) rfl
theorem ww_5_52 : Cond.methodLink "WordgardenLaw" 108 ⟨"Wordgarden", "find", "(III)I"⟩ ∈ gaW := gaW_t5 (List.mem_of_getElem? (i := 52) rfl) rfl
theorem ww_5_53 : Cond.instanceMethod ⟨"Wordgarden", "find", "(III)I"⟩ ∈ gaW := gaW_t5 (List.mem_of_getElem? (i := 53) rfl) rfl
theorem ww_5_54 : Cond.selects "Wordgarden" ⟨"Wordgarden", "find", "(III)I"⟩ ⟨"Wordgarden", "find", "(III)I"⟩ ∈ gaW := gaW_t5 (List.mem_of_getElem? (i := 54) rfl) rfl
theorem ww_5_55 : Cond.code ⟨"Wordgarden", "find", "(III)I"⟩ prog_1_method_27_code 7 (some .int) ∈ gaW := gaW_t5 (List.mem_of_getElem? (i := 55) rfl) rfl
theorem ww_5_56 : Cond.methodLink "Wordgarden" 191 ⟨"Wordgarden$Reading", "standsAt", "(LWordgarden$Word;ILWordgarden$Word;)Z"⟩ ∈ gaW := gaW_t5 (List.mem_of_getElem? (i := 56) rfl) rfl
theorem ww_5_57 : Cond.methodLink "WordgardenLaw" 262 ⟨"WordgardenLaw", "findLast", "(LWordgarden;IIILWordgardenLaw$Out;)I"⟩ ∈ gaW := gaW_t5 (List.mem_of_getElem? (i := 57) rfl) rfl
theorem ww_5_58 : Cond.static ⟨"WordgardenLaw", "findLast", "(LWordgarden;IIILWordgardenLaw$Out;)I"⟩ ∈ gaW := gaW_t5 (List.mem_of_getElem? (i := 58) rfl) rfl
theorem ww_5_59 : Cond.codeWith ⟨"WordgardenLaw", "findLast", "(LWordgarden;IIILWordgardenLaw$Out;)I"⟩ method_28_code 6 (some .int) [(0, 13, 16, 19)] ∈ gaW := gaW_t5 (List.mem_of_getElem? (i := 59) rfl) rfl
theorem ww_5_60 : Cond.methodLink "WordgardenLaw" 111 ⟨"Wordgarden", "findLast", "(III)I"⟩ ∈ gaW := gaW_t5 (List.mem_of_getElem? (i := 60) rfl) rfl
theorem ww_5_61 : Cond.instanceMethod ⟨"Wordgarden", "findLast", "(III)I"⟩ ∈ gaW := gaW_t5 (List.mem_of_getElem? (i := 61) rfl) rfl
theorem ww_5_62 : Cond.selects "Wordgarden" ⟨"Wordgarden", "findLast", "(III)I"⟩ ⟨"Wordgarden", "findLast", "(III)I"⟩ ∈ gaW := gaW_t5 (List.mem_of_getElem? (i := 62) rfl) rfl
theorem ww_5_63 : Cond.code ⟨"Wordgarden", "findLast", "(III)I"⟩ prog_1_method_28_code 7 (some .int) ∈ gaW := gaW_t5 (List.mem_of_getElem? (i := 63) rfl) rfl
theorem ww_5_64 : Cond.methodLink "WordgardenLaw" 265 ⟨"WordgardenLaw", "order", "(LWordgarden;IILWordgardenLaw$Out;)I"⟩ ∈ gaW := gaW_t5 (List.mem_of_getElem? (i := 64) rfl) rfl
theorem ww_5_65 : Cond.static ⟨"WordgardenLaw", "order", "(LWordgarden;IILWordgardenLaw$Out;)I"⟩ ∈ gaW := gaW_t5 (List.mem_of_getElem? (i := 65) rfl) rfl
theorem ww_5_66 : Cond.codeWith ⟨"WordgardenLaw", "order", "(LWordgarden;IILWordgardenLaw$Out;)I"⟩ method_29_code 5 (some .int) [(0, 11, 14, 19)] ∈ gaW := gaW_t5 (List.mem_of_getElem? (i := 66) rfl) rfl
theorem ww_5_67 : Cond.methodLink "WordgardenLaw" 114 ⟨"Wordgarden", "order", "(II)I"⟩ ∈ gaW := gaW_t5 (List.mem_of_getElem? (i := 67) rfl) rfl
theorem ww_5_68 : Cond.instanceMethod ⟨"Wordgarden", "order", "(II)I"⟩ ∈ gaW := gaW_t5 (List.mem_of_getElem? (i := 68) rfl) rfl
theorem ww_5_69 : Cond.selects "Wordgarden" ⟨"Wordgarden", "order", "(II)I"⟩ ⟨"Wordgarden", "order", "(II)I"⟩ ∈ gaW := gaW_t5 (List.mem_of_getElem? (i := 69) rfl) rfl
theorem ww_5_70 : Cond.code ⟨"Wordgarden", "order", "(II)I"⟩ prog_1_method_29_code 3 (some .int) ∈ gaW := gaW_t5 (List.mem_of_getElem? (i := 70) rfl) rfl
theorem ww_5_71 : Cond.methodLink "WordgardenLaw" 268 ⟨"WordgardenLaw", "isMirrored", "(LWordgarden;ILWordgardenLaw$Out;)I"⟩ ∈ gaW := gaW_t5 (List.mem_of_getElem? (i := 71) rfl) rfl
theorem ww_5_72 : Cond.static ⟨"WordgardenLaw", "isMirrored", "(LWordgarden;ILWordgardenLaw$Out;)I"⟩ ∈ gaW := gaW_t5 (List.mem_of_getElem? (i := 72) rfl) rfl
theorem ww_5_73 : Cond.codeWith ⟨"WordgardenLaw", "isMirrored", "(LWordgarden;ILWordgardenLaw$Out;)I"⟩ method_30_code 4 (some .int) [(0, 17, 20, 19)] ∈ gaW := gaW_t5 (List.mem_of_getElem? (i := 73) rfl) rfl
theorem ww_5_74 : Cond.methodLink "WordgardenLaw" 117 ⟨"Wordgarden", "isMirrored", "(I)Z"⟩ ∈ gaW := gaW_t5 (List.mem_of_getElem? (i := 74) rfl) rfl
theorem ww_5_75 : Cond.methodLink "WordgardenLaw" 271 ⟨"WordgardenLaw", "spread", "(LWordgarden;IIZLWordgardenLaw$Out;)I"⟩ ∈ gaW := gaW_t5 (List.mem_of_getElem? (i := 75) rfl) rfl
theorem ww_5_76 : Cond.static ⟨"WordgardenLaw", "spread", "(LWordgarden;IIZLWordgardenLaw$Out;)I"⟩ ∈ gaW := gaW_t5 (List.mem_of_getElem? (i := 76) rfl) rfl
theorem ww_5_77 : Cond.codeWith ⟨"WordgardenLaw", "spread", "(LWordgarden;IIZLWordgardenLaw$Out;)I"⟩ method_31_code 6 (some .int) [(0, 13, 16, 19), (0, 13, 20, 21)] ∈ gaW := gaW_t5 (List.mem_of_getElem? (i := 77) rfl) rfl
theorem ww_5_78 : Cond.methodLink "WordgardenLaw" 121 ⟨"Wordgarden", "spread", "(IIZ)I"⟩ ∈ gaW := gaW_t5 (List.mem_of_getElem? (i := 78) rfl) rfl
theorem ww_5_79 : Cond.instanceMethod ⟨"Wordgarden", "spread", "(IIZ)I"⟩ ∈ gaW := gaW_t5 (List.mem_of_getElem? (i := 79) rfl) rfl
theorem ww_5_80 : Cond.selects "Wordgarden" ⟨"Wordgarden", "spread", "(IIZ)I"⟩ ⟨"Wordgarden", "spread", "(IIZ)I"⟩ ∈ gaW := gaW_t5 (List.mem_of_getElem? (i := 80) rfl) rfl
theorem ww_5_81 : Cond.code ⟨"Wordgarden", "spread", "(IIZ)I"⟩ prog_1_method_31_code 5 (some .int) ∈ gaW := gaW_t5 (List.mem_of_getElem? (i := 81) rfl) rfl
theorem ww_5_82 : Cond.methodLink "Wordgarden" 202 ⟨"Wordgarden$Reading", "spreadOf", "(LWordgarden$Word;IZ)I"⟩ ∈ gaW := gaW_t5 (List.mem_of_getElem? (i := 82) rfl) rfl
theorem ww_5_83 : Cond.static ⟨"Wordgarden$Reading", "spreadOf", "(LWordgarden$Word;IZ)I"⟩ ∈ gaW := gaW_t5 (List.mem_of_getElem? (i := 83) rfl) rfl
theorem ww_5_84 : Cond.code ⟨"Wordgarden$Reading", "spreadOf", "(LWordgarden$Word;IZ)I"⟩ prog_3_method_11_code 8 (some .int) ∈ gaW := gaW_t5 (List.mem_of_getElem? (i := 84) rfl) rfl
theorem ww_5_85 : Cond.methodLink "Wordgarden$Reading" 50 ⟨"Wordgarden$Reading", "beginnings", "(LWordgarden$Word;IZ)I"⟩ ∈ gaW := gaW_t5 (List.mem_of_getElem? (i := 85) rfl) rfl
theorem ww_5_86 : Cond.static ⟨"Wordgarden$Reading", "beginnings", "(LWordgarden$Word;IZ)I"⟩ ∈ gaW := gaW_t5 (List.mem_of_getElem? (i := 86) rfl) rfl
theorem ww_5_87 : Cond.code ⟨"Wordgarden$Reading", "beginnings", "(LWordgarden$Word;IZ)I"⟩ prog_3_method_10_code 3 (some .int) ∈ gaW := gaW_t5 (List.mem_of_getElem? (i := 87) rfl) rfl
theorem ww_5_88 : Cond.methodLink "Wordgarden$Reading" 54 ⟨"Wordgarden$Reading", "upsInPart", "(LWordgarden$Word;II)I"⟩ ∈ gaW := gaW_t5 (List.mem_of_getElem? (i := 88) rfl) rfl
theorem ww_5_89 : Cond.methodLink "WordgardenLaw" 274 ⟨"WordgardenLaw", "kinds", "(LWordgarden;IIZLWordgardenLaw$Out;)I"⟩ ∈ gaW := gaW_t5 (List.mem_of_getElem? (i := 89) rfl) rfl
theorem ww_5_90 : Cond.static ⟨"WordgardenLaw", "kinds", "(LWordgarden;IIZLWordgardenLaw$Out;)I"⟩ ∈ gaW := gaW_t5 (List.mem_of_getElem? (i := 90) rfl) rfl
theorem ww_5_91 : Cond.codeWith ⟨"WordgardenLaw", "kinds", "(LWordgarden;IIZLWordgardenLaw$Out;)I"⟩ method_32_code 6 (some .int) [(0, 13, 16, 19), (0, 13, 20, 21)] ∈ gaW := gaW_t5 (List.mem_of_getElem? (i := 91) rfl) rfl
theorem ww_5_92 : Cond.methodLink "WordgardenLaw" 124 ⟨"Wordgarden", "kinds", "(IIZ)I"⟩ ∈ gaW := gaW_t5 (List.mem_of_getElem? (i := 92) rfl) rfl
theorem ww_5_93 : Cond.instanceMethod ⟨"Wordgarden", "kinds", "(IIZ)I"⟩ ∈ gaW := gaW_t5 (List.mem_of_getElem? (i := 93) rfl) rfl
theorem ww_5_94 : Cond.selects "Wordgarden" ⟨"Wordgarden", "kinds", "(IIZ)I"⟩ ⟨"Wordgarden", "kinds", "(IIZ)I"⟩ ∈ gaW := gaW_t5 (List.mem_of_getElem? (i := 94) rfl) rfl
theorem ww_5_95 : Cond.code ⟨"Wordgarden", "kinds", "(IIZ)I"⟩ prog_1_method_32_code 5 (some .int) ∈ gaW := gaW_t5 (List.mem_of_getElem? (i := 95) rfl) rfl
theorem ww_5_96 : Cond.methodLink "Wordgarden" 206 ⟨"Wordgarden$Reading", "kindsOf", "(LWordgarden$Word;IZ)I"⟩ ∈ gaW := gaW_t5 (List.mem_of_getElem? (i := 96) rfl) rfl
theorem ww_5_97 : Cond.static ⟨"Wordgarden$Reading", "kindsOf", "(LWordgarden$Word;IZ)I"⟩ ∈ gaW := gaW_t5 (List.mem_of_getElem? (i := 97) rfl) rfl
theorem ww_5_98 : Cond.code ⟨"Wordgarden$Reading", "kindsOf", "(LWordgarden$Word;IZ)I"⟩ prog_3_method_13_code 6 (some .int) ∈ gaW := gaW_t5 (List.mem_of_getElem? (i := 98) rfl) rfl
theorem ww_5_99 : Cond.methodLink "Wordgarden$Reading" 62 ⟨"Wordgarden$Reading", "isReadEarlier", "(LWordgarden$Word;II)Z"⟩ ∈ gaW := gaW_t5 (List.mem_of_getElem? (i := 99) rfl) rfl
theorem ww_5_100 : Cond.static ⟨"Wordgarden$Reading", "isReadEarlier", "(LWordgarden$Word;II)Z"⟩ ∈ gaW := gaW_t5 (List.mem_of_getElem? (i := 100) rfl) rfl
theorem ww_5_101 : Cond.code ⟨"Wordgarden$Reading", "isReadEarlier", "(LWordgarden$Word;II)Z"⟩ prog_3_method_12_code 4 (some .boolean) ∈ gaW := gaW_t5 (List.mem_of_getElem? (i := 101) rfl) rfl
theorem ww_5_102 : Cond.methodLink "WordgardenLaw" 277 ⟨"WordgardenLaw", "times", "(LWordgarden;ILWordgardenLaw$Out;)I"⟩ ∈ gaW := gaW_t5 (List.mem_of_getElem? (i := 102) rfl) rfl
theorem ww_5_103 : Cond.static ⟨"WordgardenLaw", "times", "(LWordgarden;ILWordgardenLaw$Out;)I"⟩ ∈ gaW := gaW_t5 (List.mem_of_getElem? (i := 103) rfl) rfl
theorem ww_5_104 : Cond.codeWith ⟨"WordgardenLaw", "times", "(LWordgarden;ILWordgardenLaw$Out;)I"⟩ method_33_code 4 (some .int) [(0, 10, 13, 19)] ∈ gaW := gaW_t5 (List.mem_of_getElem? (i := 104) rfl) rfl
theorem ww_5_105 : Cond.methodLink "WordgardenLaw" 127 ⟨"Wordgarden", "times", "(I)I"⟩ ∈ gaW := gaW_t5 (List.mem_of_getElem? (i := 105) rfl) rfl
theorem ww_5_106 : Cond.methodLink "WordgardenLaw" 280 ⟨"WordgardenLaw", "overlaps", "(LWordgarden;ILWordgardenLaw$Out;)I"⟩ ∈ gaW := gaW_t5 (List.mem_of_getElem? (i := 106) rfl) rfl
theorem ww_5_107 : Cond.static ⟨"WordgardenLaw", "overlaps", "(LWordgarden;ILWordgardenLaw$Out;)I"⟩ ∈ gaW := gaW_t5 (List.mem_of_getElem? (i := 107) rfl) rfl
theorem ww_5_108 : Cond.codeWith ⟨"WordgardenLaw", "overlaps", "(LWordgarden;ILWordgardenLaw$Out;)I"⟩ method_34_code 4 (some .int) [(0, 10, 13, 19)] ∈ gaW := gaW_t5 (List.mem_of_getElem? (i := 108) rfl) rfl
theorem ww_5_109 : Cond.methodLink "WordgardenLaw" 130 ⟨"Wordgarden", "overlaps", "(I)I"⟩ ∈ gaW := gaW_t5 (List.mem_of_getElem? (i := 109) rfl) rfl
theorem ww_5_110 : Cond.methodLink "WordgardenLaw" 283 ⟨"WordgardenLaw", "mirrors", "(LWordgarden;ILWordgardenLaw$Out;)I"⟩ ∈ gaW := gaW_t5 (List.mem_of_getElem? (i := 110) rfl) rfl
theorem ww_5_111 : Cond.static ⟨"WordgardenLaw", "mirrors", "(LWordgarden;ILWordgardenLaw$Out;)I"⟩ ∈ gaW := gaW_t5 (List.mem_of_getElem? (i := 111) rfl) rfl
theorem ww_5_112 : Cond.codeWith ⟨"WordgardenLaw", "mirrors", "(LWordgarden;ILWordgardenLaw$Out;)I"⟩ method_35_code 4 (some .int) [(0, 10, 13, 19)] ∈ gaW := gaW_t5 (List.mem_of_getElem? (i := 112) rfl) rfl
theorem ww_5_113 : Cond.methodLink "WordgardenLaw" 133 ⟨"Wordgarden", "mirrors", "(I)I"⟩ ∈ gaW := gaW_t5 (List.mem_of_getElem? (i := 113) rfl) rfl
theorem ww_5_114 : Cond.instanceMethod ⟨"Wordgarden", "mirrors", "(I)I"⟩ ∈ gaW := gaW_t5 (List.mem_of_getElem? (i := 114) rfl) rfl
theorem ww_5_115 : Cond.selects "Wordgarden" ⟨"Wordgarden", "mirrors", "(I)I"⟩ ⟨"Wordgarden", "mirrors", "(I)I"⟩ ∈ gaW := gaW_t5 (List.mem_of_getElem? (i := 115) rfl) rfl
theorem ww_5_116 : Cond.code ⟨"Wordgarden", "mirrors", "(I)I"⟩ prog_1_method_35_code 2 (some .int) ∈ gaW := gaW_t5 (List.mem_of_getElem? (i := 116) rfl) rfl
theorem ww_5_117 : Cond.methodLink "Wordgarden" 215 ⟨"Wordgarden$Reading", "mirrorsOf", "(LWordgarden$Word;)I"⟩ ∈ gaW := gaW_t5 (List.mem_of_getElem? (i := 117) rfl) rfl
theorem ww_5_118 : Cond.static ⟨"Wordgarden$Reading", "mirrorsOf", "(LWordgarden$Word;)I"⟩ ∈ gaW := gaW_t5 (List.mem_of_getElem? (i := 118) rfl) rfl
theorem ww_5_119 : Cond.code ⟨"Wordgarden$Reading", "mirrorsOf", "(LWordgarden$Word;)I"⟩ prog_3_method_18_code 4 (some .int) ∈ gaW := gaW_t5 (List.mem_of_getElem? (i := 119) rfl) rfl
theorem ww_5_120 : Cond.methodLink "WordgardenLaw" 286 ⟨"WordgardenLaw", "folds", "(LWordgarden;ILWordgardenLaw$Out;)I"⟩ ∈ gaW := gaW_t5 (List.mem_of_getElem? (i := 120) rfl) rfl
theorem ww_5_121 : Cond.static ⟨"WordgardenLaw", "folds", "(LWordgarden;ILWordgardenLaw$Out;)I"⟩ ∈ gaW := gaW_t5 (List.mem_of_getElem? (i := 121) rfl) rfl
theorem ww_5_122 : Cond.codeWith ⟨"WordgardenLaw", "folds", "(LWordgarden;ILWordgardenLaw$Out;)I"⟩ method_36_code 4 (some .int) [(0, 10, 13, 19)] ∈ gaW := gaW_t5 (List.mem_of_getElem? (i := 122) rfl) rfl
theorem ww_5_123 : Cond.methodLink "WordgardenLaw" 136 ⟨"Wordgarden", "folds", "(I)I"⟩ ∈ gaW := gaW_t5 (List.mem_of_getElem? (i := 123) rfl) rfl
theorem ww_5_124 : Cond.methodLink "WordgardenLaw" 289 ⟨"WordgardenLaw", "least", "(LWordgarden;ILWordgardenLaw$Out;)I"⟩ ∈ gaW := gaW_t5 (List.mem_of_getElem? (i := 124) rfl) rfl
theorem ww_5_125 : Cond.static ⟨"WordgardenLaw", "least", "(LWordgarden;ILWordgardenLaw$Out;)I"⟩ ∈ gaW := gaW_t5 (List.mem_of_getElem? (i := 125) rfl) rfl
theorem ww_5_126 : Cond.codeWith ⟨"WordgardenLaw", "least", "(LWordgarden;ILWordgardenLaw$Out;)I"⟩ method_37_code 4 (some .int) [(0, 10, 13, 19)] ∈ gaW := gaW_t5 (List.mem_of_getElem? (i := 126) rfl) rfl
theorem ww_5_127 : Cond.methodLink "WordgardenLaw" 139 ⟨"Wordgarden", "least", "(I)I"⟩ ∈ gaW := gaW_t5 (List.mem_of_getElem? (i := 127) rfl) rfl
theorem ww_5_128 : Cond.methodLink "WordgardenLaw" 292 ⟨"WordgardenLaw", "isApart", "(LWordgarden;IILWordgardenLaw$Out;)I"⟩ ∈ gaW := gaW_t5 (List.mem_of_getElem? (i := 128) rfl) rfl
theorem ww_5_129 : Cond.static ⟨"WordgardenLaw", "isApart", "(LWordgarden;IILWordgardenLaw$Out;)I"⟩ ∈ gaW := gaW_t5 (List.mem_of_getElem? (i := 129) rfl) rfl
theorem ww_5_130 : Cond.codeWith ⟨"WordgardenLaw", "isApart", "(LWordgarden;IILWordgardenLaw$Out;)I"⟩ method_38_code 5 (some .int) [(0, 18, 21, 21)] ∈ gaW := gaW_t5 (List.mem_of_getElem? (i := 130) rfl) rfl
theorem ww_5_131 : Cond.methodLink "WordgardenLaw" 142 ⟨"Wordgarden", "isApart", "(II)Z"⟩ ∈ gaW := gaW_t5 (List.mem_of_getElem? (i := 131) rfl) rfl
theorem ww_5_132 : Cond.instanceMethod ⟨"Wordgarden", "isApart", "(II)Z"⟩ ∈ gaW := gaW_t5 (List.mem_of_getElem? (i := 132) rfl) rfl
theorem ww_5_133 : Cond.selects "Wordgarden" ⟨"Wordgarden", "isApart", "(II)Z"⟩ ⟨"Wordgarden", "isApart", "(II)Z"⟩ ∈ gaW := gaW_t5 (List.mem_of_getElem? (i := 133) rfl) rfl
theorem ww_5_134 : Cond.code ⟨"Wordgarden", "isApart", "(II)Z"⟩ prog_1_method_38_code 3 (some .boolean) ∈ gaW := gaW_t5 (List.mem_of_getElem? (i := 134) rfl) rfl
theorem ww_5_135 : Cond.methodLink "WordgardenLaw" 295 ⟨"WordgardenLaw", "turns", "(LWordgarden;ILWordgardenLaw$Out;)I"⟩ ∈ gaW := gaW_t5 (List.mem_of_getElem? (i := 135) rfl) rfl
theorem ww_5_136 : Cond.static ⟨"WordgardenLaw", "turns", "(LWordgarden;ILWordgardenLaw$Out;)I"⟩ ∈ gaW := gaW_t5 (List.mem_of_getElem? (i := 136) rfl) rfl
theorem ww_5_137 : Cond.codeWith ⟨"WordgardenLaw", "turns", "(LWordgarden;ILWordgardenLaw$Out;)I"⟩ method_39_code 4 (some .int) [(0, 9, 12, 19)] ∈ gaW := gaW_t5 (List.mem_of_getElem? (i := 137) rfl) rfl
theorem ww_5_138 : Cond.methodLink "WordgardenLaw" 145 ⟨"Wordgarden", "turns", "(I)Ljava/lang/String;"⟩ ∈ gaW := gaW_t5 (List.mem_of_getElem? (i := 138) rfl) rfl
theorem ww_5_139 : Cond.instanceMethod ⟨"Wordgarden", "turns", "(I)Ljava/lang/String;"⟩ ∈ gaW := gaW_t5 (List.mem_of_getElem? (i := 139) rfl) rfl
theorem ww_5_140 : Cond.selects "Wordgarden" ⟨"Wordgarden", "turns", "(I)Ljava/lang/String;"⟩ ⟨"Wordgarden", "turns", "(I)Ljava/lang/String;"⟩ ∈ gaW := gaW_t5 (List.mem_of_getElem? (i := 140) rfl) rfl
theorem ww_5_141 : Cond.code ⟨"Wordgarden", "turns", "(I)Ljava/lang/String;"⟩ prog_1_method_39_code 5 (some (.object "java/lang/String")) ∈ gaW := gaW_t5 (List.mem_of_getElem? (i := 141) rfl) rfl
theorem ww_5_142 : Cond.classLink "Wordgarden" 224 "java/lang/StringBuilder" ∈ gaW := gaW_t5 (List.mem_of_getElem? (i := 142) rfl) rfl
theorem ww_5_143 : Cond.methodLink "Wordgarden" 226 ⟨"java/lang/StringBuilder", "<init>", "()V"⟩ ∈ gaW := gaW_t5 (List.mem_of_getElem? (i := 143) rfl) rfl
theorem ww_5_144 : Cond.methodLink "Wordgarden" 230 ⟨"java/lang/StringBuilder", "append", "(I)Ljava/lang/StringBuilder;"⟩ ∈ gaW := gaW_t5 (List.mem_of_getElem? (i := 144) rfl) rfl
theorem ww_5_145 : Cond.methodLink "Wordgarden" 234 ⟨"java/lang/StringBuilder", "toString", "()Ljava/lang/String;"⟩ ∈ gaW := gaW_t5 (List.mem_of_getElem? (i := 145) rfl) rfl
theorem ww_5_146 : Cond.methodLink "WordgardenLaw" 298 ⟨"WordgardenLaw", "grown", "(LWordgarden;IZLWordgardenLaw$Out;)I"⟩ ∈ gaW := gaW_t5 (List.mem_of_getElem? (i := 146) rfl) rfl
theorem ww_5_147 : Cond.static ⟨"WordgardenLaw", "grown", "(LWordgarden;IZLWordgardenLaw$Out;)I"⟩ ∈ gaW := gaW_t5 (List.mem_of_getElem? (i := 147) rfl) rfl
theorem ww_5_148 : Cond.codeWith ⟨"WordgardenLaw", "grown", "(LWordgarden;IZLWordgardenLaw$Out;)I"⟩ method_40_code 5 (some .int) [(0, 10, 13, 19)] ∈ gaW := gaW_t5 (List.mem_of_getElem? (i := 148) rfl) rfl
theorem ww_5_149 : Cond.methodLink "WordgardenLaw" 148 ⟨"Wordgarden", "grown", "(IZ)Ljava/lang/String;"⟩ ∈ gaW := gaW_t5 (List.mem_of_getElem? (i := 149) rfl) rfl
theorem ww_5_150 : Cond.instanceMethod ⟨"Wordgarden", "grown", "(IZ)Ljava/lang/String;"⟩ ∈ gaW := gaW_t5 (List.mem_of_getElem? (i := 150) rfl) rfl
theorem ww_5_151 : Cond.selects "Wordgarden" ⟨"Wordgarden", "grown", "(IZ)Ljava/lang/String;"⟩ ⟨"Wordgarden", "grown", "(IZ)Ljava/lang/String;"⟩ ∈ gaW := gaW_t5 (List.mem_of_getElem? (i := 151) rfl) rfl
theorem ww_5_152 : Cond.code ⟨"Wordgarden", "grown", "(IZ)Ljava/lang/String;"⟩ prog_1_method_40_code 3 (some (.object "java/lang/String")) ∈ gaW := gaW_t5 (List.mem_of_getElem? (i := 152) rfl) rfl
theorem ww_5_153 : Cond.methodLink "WordgardenLaw" 301 ⟨"WordgardenLaw", "size", "(LWordgarden;IZLWordgardenLaw$Out;)I"⟩ ∈ gaW := gaW_t5 (List.mem_of_getElem? (i := 153) rfl) rfl
theorem ww_5_154 : Cond.static ⟨"WordgardenLaw", "size", "(LWordgarden;IZLWordgardenLaw$Out;)I"⟩ ∈ gaW := gaW_t5 (List.mem_of_getElem? (i := 154) rfl) rfl
theorem ww_5_155 : Cond.codeWith ⟨"WordgardenLaw", "size", "(LWordgarden;IZLWordgardenLaw$Out;)I"⟩ method_41_code 5 (some .int) [(0, 11, 14, 19)] ∈ gaW := gaW_t5 (List.mem_of_getElem? (i := 155) rfl) rfl
theorem ww_5_156 : Cond.methodLink "WordgardenLaw" 152 ⟨"Wordgarden", "size", "(IZ)I"⟩ ∈ gaW := gaW_t5 (List.mem_of_getElem? (i := 156) rfl) rfl
theorem ww_5_157 : Cond.methodLink "WordgardenLaw" 304 ⟨"WordgardenLaw", "ups", "(LWordgarden;IZLWordgardenLaw$Out;)I"⟩ ∈ gaW := gaW_t5 (List.mem_of_getElem? (i := 157) rfl) rfl
theorem ww_5_158 : Cond.static ⟨"WordgardenLaw", "ups", "(LWordgarden;IZLWordgardenLaw$Out;)I"⟩ ∈ gaW := gaW_t5 (List.mem_of_getElem? (i := 158) rfl) rfl
theorem ww_5_159 : Cond.codeWith ⟨"WordgardenLaw", "ups", "(LWordgarden;IZLWordgardenLaw$Out;)I"⟩ method_42_code 5 (some .int) [(0, 11, 14, 19)] ∈ gaW := gaW_t5 (List.mem_of_getElem? (i := 159) rfl) rfl
theorem ww_5_160 : Cond.methodLink "WordgardenLaw" 155 ⟨"Wordgarden", "ups", "(IZ)I"⟩ ∈ gaW := gaW_t5 (List.mem_of_getElem? (i := 160) rfl) rfl
theorem ww_5_161 : Cond.methodLink "WordgardenLaw" 307 ⟨"WordgardenLaw", "cross", "(LWordgarden;ILWordgardenLaw$Out;)I"⟩ ∈ gaW := gaW_t5 (List.mem_of_getElem? (i := 161) rfl) rfl
theorem ww_5_162 : Cond.static ⟨"WordgardenLaw", "cross", "(LWordgarden;ILWordgardenLaw$Out;)I"⟩ ∈ gaW := gaW_t5 (List.mem_of_getElem? (i := 162) rfl) rfl
theorem ww_5_163 : Cond.codeWith ⟨"WordgardenLaw", "cross", "(LWordgarden;ILWordgardenLaw$Out;)I"⟩ method_43_code 4 (some .int) [(0, 10, 13, 19)] ∈ gaW := gaW_t5 (List.mem_of_getElem? (i := 163) rfl) rfl
theorem ww_5_164 : Cond.methodLink "WordgardenLaw" 158 ⟨"Wordgarden", "cross", "(I)I"⟩ ∈ gaW := gaW_t5 (List.mem_of_getElem? (i := 164) rfl) rfl
theorem ww_5_165 : Cond.methodLink "WordgardenLaw" 310 ⟨"WordgardenLaw", "alike", "(LWordgarden;ILWordgardenLaw$Out;)I"⟩ ∈ gaW := gaW_t5 (List.mem_of_getElem? (i := 165) rfl) rfl
theorem ww_5_166 : Cond.static ⟨"WordgardenLaw", "alike", "(LWordgarden;ILWordgardenLaw$Out;)I"⟩ ∈ gaW := gaW_t5 (List.mem_of_getElem? (i := 166) rfl) rfl
theorem ww_5_167 : Cond.codeWith ⟨"WordgardenLaw", "alike", "(LWordgarden;ILWordgardenLaw$Out;)I"⟩ method_44_code 4 (some .int) [(0, 10, 13, 19)] ∈ gaW := gaW_t5 (List.mem_of_getElem? (i := 167) rfl) rfl
theorem ww_5_168 : Cond.methodLink "WordgardenLaw" 161 ⟨"Wordgarden", "alike", "(I)I"⟩ ∈ gaW := gaW_t5 (List.mem_of_getElem? (i := 168) rfl) rfl
theorem ww_5_169 : Cond.methodLink "WordgardenLaw" 313 ⟨"WordgardenLaw", "house", "(LWordgarden;ILWordgardenLaw$Out;)I"⟩ ∈ gaW := gaW_t5 (List.mem_of_getElem? (i := 169) rfl) rfl
theorem ww_5_170 : Cond.static ⟨"WordgardenLaw", "house", "(LWordgarden;ILWordgardenLaw$Out;)I"⟩ ∈ gaW := gaW_t5 (List.mem_of_getElem? (i := 170) rfl) rfl
theorem ww_5_171 : Cond.codeWith ⟨"WordgardenLaw", "house", "(LWordgarden;ILWordgardenLaw$Out;)I"⟩ method_45_code 4 (some .int) [(0, 10, 13, 21)] ∈ gaW := gaW_t5 (List.mem_of_getElem? (i := 171) rfl) rfl
theorem ww_5_172 : Cond.methodLink "WordgardenLaw" 164 ⟨"Wordgarden", "house", "(I)I"⟩ ∈ gaW := gaW_t5 (List.mem_of_getElem? (i := 172) rfl) rfl
theorem ww_5_173 : Cond.classLink "WordgardenLaw" 168 "WordgardenModel" ∈ gaW := gaW_t5 (List.mem_of_getElem? (i := 173) rfl) rfl
theorem ww_5_174 : Cond.instantiable "WordgardenModel" 8 ∈ gaW := gaW_t5 (List.mem_of_getElem? (i := 174) rfl) rfl
theorem ww_5_175 : Cond.methodLink "WordgardenLaw" 170 ⟨"WordgardenModel", "<init>", "()V"⟩ ∈ gaW := gaW_t5 (List.mem_of_getElem? (i := 175) rfl) rfl
theorem ww_5_176 : Cond.instanceMethod ⟨"WordgardenModel", "<init>", "()V"⟩ ∈ gaW := gaW_t5 (List.mem_of_getElem? (i := 176) rfl) rfl
theorem ww_5_177 : Cond.code ⟨"WordgardenModel", "<init>", "()V"⟩ prog_9_method_1_code 1 (none : Option Jvm.ClassFile.FieldType) ∈ gaW := gaW_t5 (List.mem_of_getElem? (i := 177) rfl) rfl
theorem ww_5_178 : Cond.methodLink "WordgardenModel" 1 ⟨"java/lang/Object", "<init>", "()V"⟩ ∈ gaW := gaW_t5 (List.mem_of_getElem? (i := 178) rfl) rfl
theorem ww_5_179 : Cond.classLink "WordgardenModel" 7 "[I" ∈ gaW := gaW_t5 (List.mem_of_getElem? (i := 179) rfl) rfl
theorem ww_5_181 : Cond.fieldLink "WordgardenModel" 9 "WordgardenModel" "words" "[[I" ∈ gaW := gaW_t5 (List.mem_of_getElem? (i := 181) rfl) rfl
theorem ww_5_182 : Cond.fieldLink "WordgardenModel" 15 "WordgardenModel" "diaries" "[[I" ∈ gaW := gaW_t5 (List.mem_of_getElem? (i := 182) rfl) rfl
theorem ww_5_183 : Cond.fieldLink "WordgardenModel" 18 "WordgardenModel" "many" "[I" ∈ gaW := gaW_t5 (List.mem_of_getElem? (i := 183) rfl) rfl
theorem ww_5_184 : Cond.fieldLink "WordgardenModel" 45 "WordgardenModel" "onSheets" "I" ∈ gaW := gaW_t5 (List.mem_of_getElem? (i := 184) rfl) rfl
theorem ww_5_185 : Cond.fieldLink "WordgardenModel" 136 "WordgardenModel" "onGrowths" "I" ∈ gaW := gaW_t5 (List.mem_of_getElem? (i := 185) rfl) rfl
theorem ww_5_186 : Cond.fieldLink "WordgardenModel" 48 "WordgardenModel" "refused" "I" ∈ gaW := gaW_t5 (List.mem_of_getElem? (i := 186) rfl) rfl
theorem ww_5_187 : Cond.fieldLink "WordgardenModel" 203 "WordgardenModel" "knocked" "I" ∈ gaW := gaW_t5 (List.mem_of_getElem? (i := 187) rfl) rfl
theorem ww_5_188 : Cond.fieldLink "WordgardenModel" 21 "WordgardenModel" "thrown" "I" ∈ gaW := gaW_t5 (List.mem_of_getElem? (i := 188) rfl) rfl
theorem ww_5_189 : Cond.laysFinal "WordgardenModel" "WordgardenModel" "words" "[[I" ∈ gaW := gaW_t5 (List.mem_of_getElem? (i := 189) rfl) rfl
theorem ww_5_191 : Cond.laysFinal "WordgardenModel" "WordgardenModel" "diaries" "[[I" ∈ gaW := gaW_t5 (List.mem_of_getElem? (i := 191) rfl) rfl
theorem ww_5_193 : Cond.laysFinal "WordgardenModel" "WordgardenModel" "many" "[I" ∈ gaW := gaW_t5 (List.mem_of_getElem? (i := 193) rfl) rfl
theorem ww_5_195 : Cond.lays "WordgardenModel" "WordgardenModel" "onSheets" "I" ∈ gaW := gaW_t5 (List.mem_of_getElem? (i := 195) rfl) rfl
theorem ww_5_197 : Cond.lays "WordgardenModel" "WordgardenModel" "onGrowths" "I" ∈ gaW := gaW_t5 (List.mem_of_getElem? (i := 197) rfl) rfl
theorem ww_5_199 : Cond.lays "WordgardenModel" "WordgardenModel" "refused" "I" ∈ gaW := gaW_t5 (List.mem_of_getElem? (i := 199) rfl) rfl
theorem ww_5_201 : Cond.lays "WordgardenModel" "WordgardenModel" "knocked" "I" ∈ gaW := gaW_t5 (List.mem_of_getElem? (i := 201) rfl) rfl
theorem ww_5_203 : Cond.lays "WordgardenModel" "WordgardenModel" "thrown" "I" ∈ gaW := gaW_t5 (List.mem_of_getElem? (i := 203) rfl) rfl
theorem ww_5_205 : Cond.superclass "WordgardenModel" "java/lang/Object" ∈ gaW := gaW_t5 (List.mem_of_getElem? (i := 205) rfl) rfl
theorem ww_5_206 : Cond.methodLink "WordgardenLaw" 248 ⟨"WordgardenModel", "thrown", "()I"⟩ ∈ gaW := gaW_t5 (List.mem_of_getElem? (i := 206) rfl) rfl
theorem ww_5_207 : Cond.instanceMethod ⟨"WordgardenModel", "thrown", "()I"⟩ ∈ gaW := gaW_t5 (List.mem_of_getElem? (i := 207) rfl) rfl
theorem ww_5_208 : Cond.selects "WordgardenModel" ⟨"WordgardenModel", "thrown", "()I"⟩ ⟨"WordgardenModel", "thrown", "()I"⟩ ∈ gaW := gaW_t5 (List.mem_of_getElem? (i := 208) rfl) rfl
theorem ww_5_209 : Cond.code ⟨"WordgardenModel", "thrown", "()I"⟩ prog_9_method_2_code 1 (some .int) ∈ gaW := gaW_t5 (List.mem_of_getElem? (i := 209) rfl) rfl
theorem ww_5_210 : Cond.methodLink "WordgardenLaw" 177 ⟨"WordgardenModel", "write", "(II)I"⟩ ∈ gaW := gaW_t5 (List.mem_of_getElem? (i := 210) rfl) rfl
theorem ww_5_211 : Cond.instanceMethod ⟨"WordgardenModel", "write", "(II)I"⟩ ∈ gaW := gaW_t5 (List.mem_of_getElem? (i := 211) rfl) rfl
theorem ww_5_212 : Cond.selects "WordgardenModel" ⟨"WordgardenModel", "write", "(II)I"⟩ ⟨"WordgardenModel", "write", "(II)I"⟩ ∈ gaW := gaW_t5 (List.mem_of_getElem? (i := 212) rfl) rfl
theorem ww_5_213 : Cond.code ⟨"WordgardenModel", "write", "(II)I"⟩ prog_9_method_22_code 3 (some .int) ∈ gaW := gaW_t5 (List.mem_of_getElem? (i := 213) rfl) rfl
theorem ww_5_214 : Cond.methodLink "WordgardenModel" 33 ⟨"WordgardenModel", "isNoSheet", "(I)Z"⟩ ∈ gaW := gaW_t5 (List.mem_of_getElem? (i := 214) rfl) rfl
theorem ww_5_215 : Cond.static ⟨"WordgardenModel", "isNoSheet", "(I)Z"⟩ ∈ gaW := gaW_t5 (List.mem_of_getElem? (i := 215) rfl) rfl
theorem ww_5_216 : Cond.code ⟨"WordgardenModel", "isNoSheet", "(I)Z"⟩ prog_9_method_6_code 1 (some .boolean) ∈ gaW := gaW_t5 (List.mem_of_getElem? (i := 216) rfl) rfl
theorem ww_5_217 : Cond.methodLink "WordgardenModel" 29 ⟨"WordgardenModel", "isIn", "(III)Z"⟩ ∈ gaW := gaW_t5 (List.mem_of_getElem? (i := 217) rfl) rfl
theorem ww_5_218 : Cond.static ⟨"WordgardenModel", "isIn", "(III)Z"⟩ ∈ gaW := gaW_t5 (List.mem_of_getElem? (i := 218) rfl) rfl
theorem ww_5_219 : Cond.code ⟨"WordgardenModel", "isIn", "(III)Z"⟩ prog_9_method_3_code 3 (some .boolean) ∈ gaW := gaW_t5 (List.mem_of_getElem? (i := 219) rfl) rfl
theorem ww_5_220 : Cond.methodLink "WordgardenModel" 51 ⟨"WordgardenModel", "start", "(ZI)Z"⟩ ∈ gaW := gaW_t5 (List.mem_of_getElem? (i := 220) rfl) rfl
theorem ww_5_222 : Cond.instanceMethod ⟨"WordgardenModel", "start", "(ZI)Z"⟩ ∈ gaW := gaW_t5 (List.mem_of_getElem? (i := 222) rfl) rfl
theorem ww_5_223 : Cond.code ⟨"WordgardenModel", "start", "(ZI)Z"⟩ prog_9_method_5_code 3 (some .boolean) ∈ gaW := gaW_t5 (List.mem_of_getElem? (i := 223) rfl) rfl
theorem ww_5_224 : Cond.methodLink "WordgardenModel" 25 ⟨"WordgardenModel", "refuse", "(ZI)Z"⟩ ∈ gaW := gaW_t5 (List.mem_of_getElem? (i := 224) rfl) rfl
theorem ww_5_226 : Cond.instanceMethod ⟨"WordgardenModel", "refuse", "(ZI)Z"⟩ ∈ gaW := gaW_t5 (List.mem_of_getElem? (i := 226) rfl) rfl
theorem ww_5_227 : Cond.code ⟨"WordgardenModel", "refuse", "(ZI)Z"⟩ prog_9_method_4_code 3 (some .boolean) ∈ gaW := gaW_t5 (List.mem_of_getElem? (i := 227) rfl) rfl
theorem ww_5_228 : Cond.constant "WordgardenModel" 54 (65535) ∈ gaW := gaW_t5 (List.mem_of_getElem? (i := 228) rfl) rfl
theorem ww_5_229 : Cond.methodLink "WordgardenModel" 55 ⟨"WordgardenModel", "ofCode", "(I)[I"⟩ ∈ gaW := gaW_t5 (List.mem_of_getElem? (i := 229) rfl) rfl
theorem ww_5_230 : Cond.static ⟨"WordgardenModel", "ofCode", "(I)[I"⟩ ∈ gaW := gaW_t5 (List.mem_of_getElem? (i := 230) rfl) rfl
theorem ww_5_231 : Cond.code ⟨"WordgardenModel", "ofCode", "(I)[I"⟩ prog_9_method_16_code 4 (some (.array .int)) ∈ gaW := gaW_t5 (List.mem_of_getElem? (i := 231) rfl) rfl
theorem ww_5_232 : Cond.methodLink "WordgardenModel" 59 ⟨"WordgardenModel", "comes", "(I[I)I"⟩ ∈ gaW := gaW_t5 (List.mem_of_getElem? (i := 232) rfl) rfl
theorem ww_5_234 : Cond.instanceMethod ⟨"WordgardenModel", "comes", "(I[I)I"⟩ ∈ gaW := gaW_t5 (List.mem_of_getElem? (i := 234) rfl) rfl
theorem ww_5_235 : Cond.code ⟨"WordgardenModel", "comes", "(I[I)I"⟩ prog_9_method_20_code 3 (some .int) ∈ gaW := gaW_t5 (List.mem_of_getElem? (i := 235) rfl) rfl
theorem ww_5_236 : Cond.methodLink "WordgardenLaw" 180 ⟨"WordgardenModel", "append", "(II)I"⟩ ∈ gaW := gaW_t5 (List.mem_of_getElem? (i := 236) rfl) rfl
theorem ww_5_237 : Cond.instanceMethod ⟨"WordgardenModel", "append", "(II)I"⟩ ∈ gaW := gaW_t5 (List.mem_of_getElem? (i := 237) rfl) rfl
theorem ww_5_238 : Cond.selects "WordgardenModel" ⟨"WordgardenModel", "append", "(II)I"⟩ ⟨"WordgardenModel", "append", "(II)I"⟩ ∈ gaW := gaW_t5 (List.mem_of_getElem? (i := 238) rfl) rfl
theorem ww_5_239 : Cond.code ⟨"WordgardenModel", "append", "(II)I"⟩ prog_9_method_24_code 3 (some .int) ∈ gaW := gaW_t5 (List.mem_of_getElem? (i := 239) rfl) rfl
theorem ww_6_0 : Cond.methodLink "WordgardenModel" 71 ⟨"WordgardenModel", "put", "(III[I)I"⟩ ∈ gaW := gaW_t6 (List.mem_of_getElem? (i := 0) rfl) rfl
theorem ww_6_2 : Cond.instanceMethod ⟨"WordgardenModel", "put", "(III[I)I"⟩ ∈ gaW := gaW_t6 (List.mem_of_getElem? (i := 2) rfl) rfl
theorem ww_6_3 : Cond.code ⟨"WordgardenModel", "put", "(III[I)I"⟩ prog_9_method_23_code 5 (some .int) ∈ gaW := gaW_t6 (List.mem_of_getElem? (i := 3) rfl) rfl
theorem ww_6_4 : Cond.methodLink "WordgardenModel" 63 ⟨"WordgardenModel", "cannot", "()I"⟩ ∈ gaW := gaW_t6 (List.mem_of_getElem? (i := 4) rfl) rfl
theorem ww_6_6 : Cond.instanceMethod ⟨"WordgardenModel", "cannot", "()I"⟩ ∈ gaW := gaW_t6 (List.mem_of_getElem? (i := 6) rfl) rfl
theorem ww_6_7 : Cond.code ⟨"WordgardenModel", "cannot", "()I"⟩ prog_9_method_21_code 1 (some .int) ∈ gaW := gaW_t6 (List.mem_of_getElem? (i := 7) rfl) rfl
theorem ww_6_8 : Cond.methodLink "WordgardenModel" 67 ⟨"WordgardenModel", "spliced", "([III[I)[I"⟩ ∈ gaW := gaW_t6 (List.mem_of_getElem? (i := 8) rfl) rfl
theorem ww_6_9 : Cond.static ⟨"WordgardenModel", "spliced", "([III[I)[I"⟩ ∈ gaW := gaW_t6 (List.mem_of_getElem? (i := 9) rfl) rfl
theorem ww_6_10 : Cond.code ⟨"WordgardenModel", "spliced", "([III[I)[I"⟩ prog_9_method_15_code 6 (some (.array .int)) ∈ gaW := gaW_t6 (List.mem_of_getElem? (i := 10) rfl) rfl
theorem ww_6_11 : Cond.methodLink "WordgardenLaw" 184 ⟨"WordgardenModel", "insertSign", "(IIZ)I"⟩ ∈ gaW := gaW_t6 (List.mem_of_getElem? (i := 11) rfl) rfl
theorem ww_6_12 : Cond.instanceMethod ⟨"WordgardenModel", "insertSign", "(IIZ)I"⟩ ∈ gaW := gaW_t6 (List.mem_of_getElem? (i := 12) rfl) rfl
theorem ww_6_13 : Cond.selects "WordgardenModel" ⟨"WordgardenModel", "insertSign", "(IIZ)I"⟩ ⟨"WordgardenModel", "insertSign", "(IIZ)I"⟩ ∈ gaW := gaW_t6 (List.mem_of_getElem? (i := 13) rfl) rfl
theorem ww_6_14 : Cond.code ⟨"WordgardenModel", "insertSign", "(IIZ)I"⟩ prog_9_method_25_code 4 (some .int) ∈ gaW := gaW_t6 (List.mem_of_getElem? (i := 14) rfl) rfl
theorem ww_6_15 : Cond.methodLink "WordgardenModel" 75 ⟨"WordgardenModel", "isNoGap", "(II)Z"⟩ ∈ gaW := gaW_t6 (List.mem_of_getElem? (i := 15) rfl) rfl
theorem ww_6_17 : Cond.instanceMethod ⟨"WordgardenModel", "isNoGap", "(II)Z"⟩ ∈ gaW := gaW_t6 (List.mem_of_getElem? (i := 17) rfl) rfl
theorem ww_6_18 : Cond.code ⟨"WordgardenModel", "isNoGap", "(II)Z"⟩ prog_9_method_8_code 3 (some .boolean) ∈ gaW := gaW_t6 (List.mem_of_getElem? (i := 18) rfl) rfl
theorem ww_6_19 : Cond.methodLink "WordgardenModel" 79 ⟨"WordgardenModel", "one", "(Z)I"⟩ ∈ gaW := gaW_t6 (List.mem_of_getElem? (i := 19) rfl) rfl
theorem ww_6_20 : Cond.static ⟨"WordgardenModel", "one", "(Z)I"⟩ ∈ gaW := gaW_t6 (List.mem_of_getElem? (i := 20) rfl) rfl
theorem ww_6_21 : Cond.code ⟨"WordgardenModel", "one", "(Z)I"⟩ prog_9_method_11_code 1 (some .int) ∈ gaW := gaW_t6 (List.mem_of_getElem? (i := 21) rfl) rfl
theorem ww_6_22 : Cond.methodLink "WordgardenLaw" 188 ⟨"WordgardenModel", "insertSheet", "(III)I"⟩ ∈ gaW := gaW_t6 (List.mem_of_getElem? (i := 22) rfl) rfl
theorem ww_6_23 : Cond.instanceMethod ⟨"WordgardenModel", "insertSheet", "(III)I"⟩ ∈ gaW := gaW_t6 (List.mem_of_getElem? (i := 23) rfl) rfl
theorem ww_6_24 : Cond.selects "WordgardenModel" ⟨"WordgardenModel", "insertSheet", "(III)I"⟩ ⟨"WordgardenModel", "insertSheet", "(III)I"⟩ ∈ gaW := gaW_t6 (List.mem_of_getElem? (i := 24) rfl) rfl
theorem ww_6_25 : Cond.code ⟨"WordgardenModel", "insertSheet", "(III)I"⟩ prog_9_method_26_code 4 (some .int) ∈ gaW := gaW_t6 (List.mem_of_getElem? (i := 25) rfl) rfl
theorem ww_6_26 : Cond.methodLink "WordgardenLaw" 191 ⟨"WordgardenModel", "setSign", "(IIZ)I"⟩ ∈ gaW := gaW_t6 (List.mem_of_getElem? (i := 26) rfl) rfl
theorem ww_6_27 : Cond.instanceMethod ⟨"WordgardenModel", "setSign", "(IIZ)I"⟩ ∈ gaW := gaW_t6 (List.mem_of_getElem? (i := 27) rfl) rfl
theorem ww_6_28 : Cond.selects "WordgardenModel" ⟨"WordgardenModel", "setSign", "(IIZ)I"⟩ ⟨"WordgardenModel", "setSign", "(IIZ)I"⟩ ∈ gaW := gaW_t6 (List.mem_of_getElem? (i := 28) rfl) rfl
theorem ww_6_29 : Cond.code ⟨"WordgardenModel", "setSign", "(IIZ)I"⟩ prog_9_method_27_code 5 (some .int) ∈ gaW := gaW_t6 (List.mem_of_getElem? (i := 29) rfl) rfl
theorem ww_6_30 : Cond.methodLink "WordgardenModel" 83 ⟨"WordgardenModel", "isNoPlace", "(II)Z"⟩ ∈ gaW := gaW_t6 (List.mem_of_getElem? (i := 30) rfl) rfl
theorem ww_6_32 : Cond.instanceMethod ⟨"WordgardenModel", "isNoPlace", "(II)Z"⟩ ∈ gaW := gaW_t6 (List.mem_of_getElem? (i := 32) rfl) rfl
theorem ww_6_33 : Cond.code ⟨"WordgardenModel", "isNoPlace", "(II)Z"⟩ prog_9_method_9_code 3 (some .boolean) ∈ gaW := gaW_t6 (List.mem_of_getElem? (i := 33) rfl) rfl
theorem ww_6_34 : Cond.methodLink "WordgardenLaw" 194 ⟨"WordgardenModel", "removeSign", "(II)I"⟩ ∈ gaW := gaW_t6 (List.mem_of_getElem? (i := 34) rfl) rfl
theorem ww_6_35 : Cond.instanceMethod ⟨"WordgardenModel", "removeSign", "(II)I"⟩ ∈ gaW := gaW_t6 (List.mem_of_getElem? (i := 35) rfl) rfl
theorem ww_6_36 : Cond.selects "WordgardenModel" ⟨"WordgardenModel", "removeSign", "(II)I"⟩ ⟨"WordgardenModel", "removeSign", "(II)I"⟩ ∈ gaW := gaW_t6 (List.mem_of_getElem? (i := 36) rfl) rfl
theorem ww_6_37 : Cond.code ⟨"WordgardenModel", "removeSign", "(II)I"⟩ prog_9_method_28_code 4 (some .int) ∈ gaW := gaW_t6 (List.mem_of_getElem? (i := 37) rfl) rfl
theorem ww_6_38 : Cond.methodLink "WordgardenLaw" 197 ⟨"WordgardenModel", "remove", "(III)I"⟩ ∈ gaW := gaW_t6 (List.mem_of_getElem? (i := 38) rfl) rfl
theorem ww_6_39 : Cond.instanceMethod ⟨"WordgardenModel", "remove", "(III)I"⟩ ∈ gaW := gaW_t6 (List.mem_of_getElem? (i := 39) rfl) rfl
theorem ww_6_40 : Cond.selects "WordgardenModel" ⟨"WordgardenModel", "remove", "(III)I"⟩ ⟨"WordgardenModel", "remove", "(III)I"⟩ ∈ gaW := gaW_t6 (List.mem_of_getElem? (i := 40) rfl) rfl
theorem ww_6_41 : Cond.code ⟨"WordgardenModel", "remove", "(III)I"⟩ prog_9_method_29_code 5 (some .int) ∈ gaW := gaW_t6 (List.mem_of_getElem? (i := 41) rfl) rfl
theorem ww_6_42 : Cond.methodLink "WordgardenModel" 86 ⟨"WordgardenModel", "isNoPart", "(III)Z"⟩ ∈ gaW := gaW_t6 (List.mem_of_getElem? (i := 42) rfl) rfl
theorem ww_6_44 : Cond.instanceMethod ⟨"WordgardenModel", "isNoPart", "(III)Z"⟩ ∈ gaW := gaW_t6 (List.mem_of_getElem? (i := 44) rfl) rfl
theorem ww_6_45 : Cond.code ⟨"WordgardenModel", "isNoPart", "(III)Z"⟩ prog_9_method_10_code 4 (some .boolean) ∈ gaW := gaW_t6 (List.mem_of_getElem? (i := 45) rfl) rfl
theorem ww_6_46 : Cond.methodLink "WordgardenModel" 41 ⟨"WordgardenModel", "bs", "([I)I"⟩ ∈ gaW := gaW_t6 (List.mem_of_getElem? (i := 46) rfl) rfl
theorem ww_6_47 : Cond.static ⟨"WordgardenModel", "bs", "([I)I"⟩ ∈ gaW := gaW_t6 (List.mem_of_getElem? (i := 47) rfl) rfl
theorem ww_6_48 : Cond.code ⟨"WordgardenModel", "bs", "([I)I"⟩ prog_9_method_14_code 6 (some .int) ∈ gaW := gaW_t6 (List.mem_of_getElem? (i := 48) rfl) rfl
theorem ww_6_49 : Cond.methodLink "WordgardenLaw" 201 ⟨"WordgardenModel", "replace", "(IIII)I"⟩ ∈ gaW := gaW_t6 (List.mem_of_getElem? (i := 49) rfl) rfl
theorem ww_6_50 : Cond.instanceMethod ⟨"WordgardenModel", "replace", "(IIII)I"⟩ ∈ gaW := gaW_t6 (List.mem_of_getElem? (i := 50) rfl) rfl
theorem ww_6_51 : Cond.selects "WordgardenModel" ⟨"WordgardenModel", "replace", "(IIII)I"⟩ ⟨"WordgardenModel", "replace", "(IIII)I"⟩ ∈ gaW := gaW_t6 (List.mem_of_getElem? (i := 51) rfl) rfl
theorem ww_6_52 : Cond.code ⟨"WordgardenModel", "replace", "(IIII)I"⟩ prog_9_method_30_code 5 (some .int) ∈ gaW := gaW_t6 (List.mem_of_getElem? (i := 52) rfl) rfl
theorem ww_6_53 : Cond.methodLink "WordgardenLaw" 204 ⟨"WordgardenModel", "cutTo", "(II)I"⟩ ∈ gaW := gaW_t6 (List.mem_of_getElem? (i := 53) rfl) rfl
theorem ww_6_54 : Cond.instanceMethod ⟨"WordgardenModel", "cutTo", "(II)I"⟩ ∈ gaW := gaW_t6 (List.mem_of_getElem? (i := 54) rfl) rfl
theorem ww_6_55 : Cond.selects "WordgardenModel" ⟨"WordgardenModel", "cutTo", "(II)I"⟩ ⟨"WordgardenModel", "cutTo", "(II)I"⟩ ∈ gaW := gaW_t6 (List.mem_of_getElem? (i := 55) rfl) rfl
theorem ww_6_56 : Cond.code ⟨"WordgardenModel", "cutTo", "(II)I"⟩ prog_9_method_31_code 6 (some .int) ∈ gaW := gaW_t6 (List.mem_of_getElem? (i := 56) rfl) rfl
theorem ww_6_57 : Cond.methodLink "WordgardenLaw" 208 ⟨"WordgardenModel", "turn", "(I)I"⟩ ∈ gaW := gaW_t6 (List.mem_of_getElem? (i := 57) rfl) rfl
theorem ww_6_58 : Cond.instanceMethod ⟨"WordgardenModel", "turn", "(I)I"⟩ ∈ gaW := gaW_t6 (List.mem_of_getElem? (i := 58) rfl) rfl
theorem ww_6_59 : Cond.selects "WordgardenModel" ⟨"WordgardenModel", "turn", "(I)I"⟩ ⟨"WordgardenModel", "turn", "(I)I"⟩ ∈ gaW := gaW_t6 (List.mem_of_getElem? (i := 59) rfl) rfl
theorem ww_6_60 : Cond.code ⟨"WordgardenModel", "turn", "(I)I"⟩ prog_9_method_33_code 2 (some .int) ∈ gaW := gaW_t6 (List.mem_of_getElem? (i := 60) rfl) rfl
theorem ww_6_61 : Cond.methodLink "WordgardenModel" 93 ⟨"WordgardenModel", "turned", "([I)[I"⟩ ∈ gaW := gaW_t6 (List.mem_of_getElem? (i := 61) rfl) rfl
theorem ww_6_62 : Cond.static ⟨"WordgardenModel", "turned", "([I)[I"⟩ ∈ gaW := gaW_t6 (List.mem_of_getElem? (i := 62) rfl) rfl
theorem ww_6_63 : Cond.code ⟨"WordgardenModel", "turned", "([I)[I"⟩ prog_9_method_17_code 3 (some (.array .int)) ∈ gaW := gaW_t6 (List.mem_of_getElem? (i := 63) rfl) rfl
theorem ww_6_64 : Cond.methodLink "WordgardenModel" 97 ⟨"WordgardenModel", "becomes", "(I[I)I"⟩ ∈ gaW := gaW_t6 (List.mem_of_getElem? (i := 64) rfl) rfl
theorem ww_6_66 : Cond.instanceMethod ⟨"WordgardenModel", "becomes", "(I[I)I"⟩ ∈ gaW := gaW_t6 (List.mem_of_getElem? (i := 66) rfl) rfl
theorem ww_6_67 : Cond.code ⟨"WordgardenModel", "becomes", "(I[I)I"⟩ prog_9_method_32_code 4 (some .int) ∈ gaW := gaW_t6 (List.mem_of_getElem? (i := 67) rfl) rfl
theorem ww_6_68 : Cond.methodLink "WordgardenModel" 89 ⟨"WordgardenModel", "areSame", "([I[I)Z"⟩ ∈ gaW := gaW_t6 (List.mem_of_getElem? (i := 68) rfl) rfl
theorem ww_6_69 : Cond.static ⟨"WordgardenModel", "areSame", "([I[I)Z"⟩ ∈ gaW := gaW_t6 (List.mem_of_getElem? (i := 69) rfl) rfl
theorem ww_6_70 : Cond.code ⟨"WordgardenModel", "areSame", "([I[I)Z"⟩ prog_9_method_12_code 2 (some .boolean) ∈ gaW := gaW_t6 (List.mem_of_getElem? (i := 70) rfl) rfl
theorem ww_6_71 : Cond.methodLink "WordgardenModel" 37 ⟨"WordgardenModel", "standsAt", "([I[II)Z"⟩ ∈ gaW := gaW_t6 (List.mem_of_getElem? (i := 71) rfl) rfl
theorem ww_6_72 : Cond.static ⟨"WordgardenModel", "standsAt", "([I[II)Z"⟩ ∈ gaW := gaW_t6 (List.mem_of_getElem? (i := 72) rfl) rfl
theorem ww_6_73 : Cond.code ⟨"WordgardenModel", "standsAt", "([I[II)Z"⟩ prog_9_method_13_code 4 (some .boolean) ∈ gaW := gaW_t6 (List.mem_of_getElem? (i := 73) rfl) rfl
theorem ww_6_74 : Cond.methodLink "WordgardenLaw" 211 ⟨"WordgardenModel", "exchange", "(I)I"⟩ ∈ gaW := gaW_t6 (List.mem_of_getElem? (i := 74) rfl) rfl
theorem ww_6_75 : Cond.instanceMethod ⟨"WordgardenModel", "exchange", "(I)I"⟩ ∈ gaW := gaW_t6 (List.mem_of_getElem? (i := 75) rfl) rfl
theorem ww_6_76 : Cond.selects "WordgardenModel" ⟨"WordgardenModel", "exchange", "(I)I"⟩ ⟨"WordgardenModel", "exchange", "(I)I"⟩ ∈ gaW := gaW_t6 (List.mem_of_getElem? (i := 76) rfl) rfl
theorem ww_6_77 : Cond.code ⟨"WordgardenModel", "exchange", "(I)I"⟩ prog_9_method_34_code 2 (some .int) ∈ gaW := gaW_t6 (List.mem_of_getElem? (i := 77) rfl) rfl
theorem ww_6_78 : Cond.methodLink "WordgardenModel" 100 ⟨"WordgardenModel", "image", "([I[I[I)[I"⟩ ∈ gaW := gaW_t6 (List.mem_of_getElem? (i := 78) rfl) rfl
theorem ww_6_79 : Cond.static ⟨"WordgardenModel", "image", "([I[I[I)[I"⟩ ∈ gaW := gaW_t6 (List.mem_of_getElem? (i := 79) rfl) rfl
theorem ww_6_80 : Cond.code ⟨"WordgardenModel", "image", "([I[I[I)[I"⟩ prog_9_method_18_code 14 (some (.array .int)) ∈ gaW := gaW_t6 (List.mem_of_getElem? (i := 80) rfl) rfl
theorem ww_6_81 : Cond.methodLink "WordgardenLaw" 214 ⟨"WordgardenModel", "rotate", "(II)I"⟩ ∈ gaW := gaW_t6 (List.mem_of_getElem? (i := 81) rfl) rfl
theorem ww_6_82 : Cond.instanceMethod ⟨"WordgardenModel", "rotate", "(II)I"⟩ ∈ gaW := gaW_t6 (List.mem_of_getElem? (i := 82) rfl) rfl
theorem ww_6_83 : Cond.selects "WordgardenModel" ⟨"WordgardenModel", "rotate", "(II)I"⟩ ⟨"WordgardenModel", "rotate", "(II)I"⟩ ∈ gaW := gaW_t6 (List.mem_of_getElem? (i := 83) rfl) rfl
theorem ww_6_84 : Cond.code ⟨"WordgardenModel", "rotate", "(II)I"⟩ prog_9_method_35_code 6 (some .int) ∈ gaW := gaW_t6 (List.mem_of_getElem? (i := 84) rfl) rfl
theorem ww_6_85 : Cond.methodLink "WordgardenLaw" 217 ⟨"WordgardenModel", "copy", "(II)I"⟩ ∈ gaW := gaW_t6 (List.mem_of_getElem? (i := 85) rfl) rfl
theorem ww_6_86 : Cond.instanceMethod ⟨"WordgardenModel", "copy", "(II)I"⟩ ∈ gaW := gaW_t6 (List.mem_of_getElem? (i := 86) rfl) rfl
theorem ww_6_87 : Cond.selects "WordgardenModel" ⟨"WordgardenModel", "copy", "(II)I"⟩ ⟨"WordgardenModel", "copy", "(II)I"⟩ ∈ gaW := gaW_t6 (List.mem_of_getElem? (i := 87) rfl) rfl
theorem ww_6_88 : Cond.code ⟨"WordgardenModel", "copy", "(II)I"⟩ prog_9_method_36_code 3 (some .int) ∈ gaW := gaW_t6 (List.mem_of_getElem? (i := 88) rfl) rfl
theorem ww_6_89 : Cond.methodLink "WordgardenLaw" 220 ⟨"WordgardenModel", "apply", "(III)I"⟩ ∈ gaW := gaW_t6 (List.mem_of_getElem? (i := 89) rfl) rfl
theorem ww_6_90 : Cond.instanceMethod ⟨"WordgardenModel", "apply", "(III)I"⟩ ∈ gaW := gaW_t6 (List.mem_of_getElem? (i := 90) rfl) rfl
theorem ww_6_91 : Cond.selects "WordgardenModel" ⟨"WordgardenModel", "apply", "(III)I"⟩ ⟨"WordgardenModel", "apply", "(III)I"⟩ ∈ gaW := gaW_t6 (List.mem_of_getElem? (i := 91) rfl) rfl
theorem ww_6_92 : Cond.code ⟨"WordgardenModel", "apply", "(III)I"⟩ prog_9_method_38_code 5 (some .int) ∈ gaW := gaW_t6 (List.mem_of_getElem? (i := 92) rfl) rfl
theorem ww_6_93 : Cond.methodLink "WordgardenModel" 104 ⟨"WordgardenModel", "isNoRule", "(II)Z"⟩ ∈ gaW := gaW_t6 (List.mem_of_getElem? (i := 93) rfl) rfl
theorem ww_6_94 : Cond.static ⟨"WordgardenModel", "isNoRule", "(II)Z"⟩ ∈ gaW := gaW_t6 (List.mem_of_getElem? (i := 94) rfl) rfl
theorem ww_6_95 : Cond.code ⟨"WordgardenModel", "isNoRule", "(II)Z"⟩ prog_9_method_37_code 2 (some .boolean) ∈ gaW := gaW_t6 (List.mem_of_getElem? (i := 95) rfl) rfl
theorem ww_6_96 : Cond.methodLink "WordgardenLaw" 223 ⟨"WordgardenModel", "undo", "(III)I"⟩ ∈ gaW := gaW_t6 (List.mem_of_getElem? (i := 96) rfl) rfl
theorem ww_6_97 : Cond.instanceMethod ⟨"WordgardenModel", "undo", "(III)I"⟩ ∈ gaW := gaW_t6 (List.mem_of_getElem? (i := 97) rfl) rfl
theorem ww_6_98 : Cond.selects "WordgardenModel" ⟨"WordgardenModel", "undo", "(III)I"⟩ ⟨"WordgardenModel", "undo", "(III)I"⟩ ∈ gaW := gaW_t6 (List.mem_of_getElem? (i := 98) rfl) rfl
theorem ww_6_99 : Cond.code ⟨"WordgardenModel", "undo", "(III)I"⟩ prog_9_method_41_code 12 (some .int) ∈ gaW := gaW_t6 (List.mem_of_getElem? (i := 99) rfl) rfl
theorem ww_6_100 : Cond.methodLink "WordgardenModel" 107 ⟨"WordgardenModel", "isApartRule", "(II)Z"⟩ ∈ gaW := gaW_t6 (List.mem_of_getElem? (i := 100) rfl) rfl
theorem ww_6_101 : Cond.static ⟨"WordgardenModel", "isApartRule", "(II)Z"⟩ ∈ gaW := gaW_t6 (List.mem_of_getElem? (i := 101) rfl) rfl
theorem ww_6_102 : Cond.code ⟨"WordgardenModel", "isApartRule", "(II)Z"⟩ prog_9_method_39_code 4 (some .boolean) ∈ gaW := gaW_t6 (List.mem_of_getElem? (i := 102) rfl) rfl
theorem ww_6_103 : Cond.methodLink "WordgardenModel" 110 ⟨"WordgardenModel", "steps", "([I[I[I)[I"⟩ ∈ gaW := gaW_t6 (List.mem_of_getElem? (i := 103) rfl) rfl
theorem ww_6_104 : Cond.static ⟨"WordgardenModel", "steps", "([I[I[I)[I"⟩ ∈ gaW := gaW_t6 (List.mem_of_getElem? (i := 104) rfl) rfl
theorem ww_6_105 : Cond.code ⟨"WordgardenModel", "steps", "([I[I[I)[I"⟩ prog_9_method_40_code 7 (some (.array .int)) ∈ gaW := gaW_t6 (List.mem_of_getElem? (i := 105) rfl) rfl
theorem ww_6_106 : Cond.methodLink "WordgardenLaw" 226 ⟨"WordgardenModel", "lay", "(III)I"⟩ ∈ gaW := gaW_t6 (List.mem_of_getElem? (i := 106) rfl) rfl
theorem ww_6_107 : Cond.instanceMethod ⟨"WordgardenModel", "lay", "(III)I"⟩ ∈ gaW := gaW_t6 (List.mem_of_getElem? (i := 107) rfl) rfl
theorem ww_6_108 : Cond.selects "WordgardenModel" ⟨"WordgardenModel", "lay", "(III)I"⟩ ⟨"WordgardenModel", "lay", "(III)I"⟩ ∈ gaW := gaW_t6 (List.mem_of_getElem? (i := 108) rfl) rfl
theorem ww_6_109 : Cond.code ⟨"WordgardenModel", "lay", "(III)I"⟩ prog_9_method_42_code 4 (some .int) ∈ gaW := gaW_t6 (List.mem_of_getElem? (i := 109) rfl) rfl
theorem ww_6_110 : Cond.methodLink "WordgardenModel" 113 ⟨"WordgardenModel", "isNoGrowth", "(I)Z"⟩ ∈ gaW := gaW_t6 (List.mem_of_getElem? (i := 110) rfl) rfl
theorem ww_6_111 : Cond.static ⟨"WordgardenModel", "isNoGrowth", "(I)Z"⟩ ∈ gaW := gaW_t6 (List.mem_of_getElem? (i := 111) rfl) rfl
theorem ww_6_112 : Cond.code ⟨"WordgardenModel", "isNoGrowth", "(I)Z"⟩ prog_9_method_7_code 1 (some .boolean) ∈ gaW := gaW_t6 (List.mem_of_getElem? (i := 112) rfl) rfl
theorem ww_6_113 : Cond.methodLink "WordgardenModel" 116 ⟨"WordgardenModel", "byCopies", "(II)[I"⟩ ∈ gaW := gaW_t6 (List.mem_of_getElem? (i := 113) rfl) rfl
theorem ww_6_115 : Cond.instanceMethod ⟨"WordgardenModel", "byCopies", "(II)[I"⟩ ∈ gaW := gaW_t6 (List.mem_of_getElem? (i := 115) rfl) rfl
theorem ww_6_116 : Cond.code ⟨"WordgardenModel", "byCopies", "(II)[I"⟩ prog_9_method_47_code 9 (some (.array .int)) ∈ gaW := gaW_t6 (List.mem_of_getElem? (i := 116) rfl) rfl
theorem ww_6_117 : Cond.methodLink "WordgardenModel" 120 ⟨"WordgardenModel", "byRules", "(I)[I"⟩ ∈ gaW := gaW_t6 (List.mem_of_getElem? (i := 117) rfl) rfl
theorem ww_6_119 : Cond.instanceMethod ⟨"WordgardenModel", "byRules", "(I)[I"⟩ ∈ gaW := gaW_t6 (List.mem_of_getElem? (i := 119) rfl) rfl
theorem ww_6_120 : Cond.code ⟨"WordgardenModel", "byRules", "(I)[I"⟩ prog_9_method_50_code 4 (some (.array .int)) ∈ gaW := gaW_t6 (List.mem_of_getElem? (i := 120) rfl) rfl
theorem ww_6_121 : Cond.methodLink "WordgardenModel" 123 ⟨"WordgardenModel", "byLine", "(I)[I"⟩ ∈ gaW := gaW_t6 (List.mem_of_getElem? (i := 121) rfl) rfl
theorem ww_6_123 : Cond.instanceMethod ⟨"WordgardenModel", "byLine", "(I)[I"⟩ ∈ gaW := gaW_t6 (List.mem_of_getElem? (i := 123) rfl) rfl
theorem ww_6_124 : Cond.code ⟨"WordgardenModel", "byLine", "(I)[I"⟩ prog_9_method_51_code 7 (some (.array .int)) ∈ gaW := gaW_t6 (List.mem_of_getElem? (i := 124) rfl) rfl
theorem ww_6_125 : Cond.methodLink "WordgardenModel" 129 ⟨"WordgardenModel", "lineSign", "(IIII)I"⟩ ∈ gaW := gaW_t6 (List.mem_of_getElem? (i := 125) rfl) rfl
theorem ww_6_126 : Cond.static ⟨"WordgardenModel", "lineSign", "(IIII)I"⟩ ∈ gaW := gaW_t6 (List.mem_of_getElem? (i := 126) rfl) rfl
theorem ww_6_127 : Cond.code ⟨"WordgardenModel", "lineSign", "(IIII)I"⟩ prog_9_method_45_code 4 (some .int) ∈ gaW := gaW_t6 (List.mem_of_getElem? (i := 127) rfl) rfl
theorem ww_6_128 : Cond.methodLink "WordgardenLaw" 229 ⟨"WordgardenModel", "twos", "(III)I"⟩ ∈ gaW := gaW_t6 (List.mem_of_getElem? (i := 128) rfl) rfl
theorem ww_6_129 : Cond.instanceMethod ⟨"WordgardenModel", "twos", "(III)I"⟩ ∈ gaW := gaW_t6 (List.mem_of_getElem? (i := 129) rfl) rfl
theorem ww_6_130 : Cond.selects "WordgardenModel" ⟨"WordgardenModel", "twos", "(III)I"⟩ ⟨"WordgardenModel", "twos", "(III)I"⟩ ∈ gaW := gaW_t6 (List.mem_of_getElem? (i := 130) rfl) rfl
theorem ww_6_131 : Cond.code ⟨"WordgardenModel", "twos", "(III)I"⟩ prog_9_method_44_code 4 (some .int) ∈ gaW := gaW_t6 (List.mem_of_getElem? (i := 131) rfl) rfl
theorem ww_6_132 : Cond.methodLink "WordgardenModel" 126 ⟨"WordgardenModel", "twosOf", "(II)[I"⟩ ∈ gaW := gaW_t6 (List.mem_of_getElem? (i := 132) rfl) rfl
theorem ww_6_133 : Cond.static ⟨"WordgardenModel", "twosOf", "(II)[I"⟩ ∈ gaW := gaW_t6 (List.mem_of_getElem? (i := 133) rfl) rfl
theorem ww_6_134 : Cond.code ⟨"WordgardenModel", "twosOf", "(II)[I"⟩ prog_9_method_43_code 5 (some (.array .int)) ∈ gaW := gaW_t6 (List.mem_of_getElem? (i := 134) rfl) rfl
theorem ww_6_135 : Cond.methodLink "WordgardenLaw" 232 ⟨"WordgardenModel", "line", "(IIII)I"⟩ ∈ gaW := gaW_t6 (List.mem_of_getElem? (i := 135) rfl) rfl
theorem ww_6_136 : Cond.instanceMethod ⟨"WordgardenModel", "line", "(IIII)I"⟩ ∈ gaW := gaW_t6 (List.mem_of_getElem? (i := 136) rfl) rfl
theorem ww_6_137 : Cond.selects "WordgardenModel" ⟨"WordgardenModel", "line", "(IIII)I"⟩ ⟨"WordgardenModel", "line", "(IIII)I"⟩ ∈ gaW := gaW_t6 (List.mem_of_getElem? (i := 137) rfl) rfl
theorem ww_6_138 : Cond.code ⟨"WordgardenModel", "line", "(IIII)I"⟩ prog_9_method_46_code 7 (some .int) ∈ gaW := gaW_t6 (List.mem_of_getElem? (i := 138) rfl) rfl
theorem ww_6_139 : Cond.methodLink "WordgardenLaw" 235 ⟨"WordgardenModel", "grow", "(II)I"⟩ ∈ gaW := gaW_t6 (List.mem_of_getElem? (i := 139) rfl) rfl
theorem ww_6_140 : Cond.instanceMethod ⟨"WordgardenModel", "grow", "(II)I"⟩ ∈ gaW := gaW_t6 (List.mem_of_getElem? (i := 140) rfl) rfl
theorem ww_6_141 : Cond.selects "WordgardenModel" ⟨"WordgardenModel", "grow", "(II)I"⟩ ⟨"WordgardenModel", "grow", "(II)I"⟩ ∈ gaW := gaW_t6 (List.mem_of_getElem? (i := 141) rfl) rfl
theorem ww_6_142 : Cond.code ⟨"WordgardenModel", "grow", "(II)I"⟩ prog_9_method_52_code 4 (some .int) ∈ gaW := gaW_t6 (List.mem_of_getElem? (i := 142) rfl) rfl
theorem ww_6_143 : Cond.methodLink "WordgardenModel" 133 ⟨"WordgardenModel", "elder", "(I)[I"⟩ ∈ gaW := gaW_t6 (List.mem_of_getElem? (i := 143) rfl) rfl
theorem ww_6_145 : Cond.instanceMethod ⟨"WordgardenModel", "elder", "(I)[I"⟩ ∈ gaW := gaW_t6 (List.mem_of_getElem? (i := 145) rfl) rfl
theorem ww_6_146 : Cond.code ⟨"WordgardenModel", "elder", "(I)[I"⟩ prog_9_method_48_code 2 (some (.array .int)) ∈ gaW := gaW_t6 (List.mem_of_getElem? (i := 146) rfl) rfl
theorem ww_6_147 : Cond.methodLink "WordgardenLaw" 238 ⟨"WordgardenModel", "shrink", "(I)I"⟩ ∈ gaW := gaW_t6 (List.mem_of_getElem? (i := 147) rfl) rfl
theorem ww_6_148 : Cond.instanceMethod ⟨"WordgardenModel", "shrink", "(I)I"⟩ ∈ gaW := gaW_t6 (List.mem_of_getElem? (i := 148) rfl) rfl
theorem ww_6_149 : Cond.selects "WordgardenModel" ⟨"WordgardenModel", "shrink", "(I)I"⟩ ⟨"WordgardenModel", "shrink", "(I)I"⟩ ∈ gaW := gaW_t6 (List.mem_of_getElem? (i := 149) rfl) rfl
theorem ww_6_150 : Cond.code ⟨"WordgardenModel", "shrink", "(I)I"⟩ prog_9_method_53_code 2 (some .int) ∈ gaW := gaW_t6 (List.mem_of_getElem? (i := 150) rfl) rfl
theorem ww_6_151 : Cond.methodLink "WordgardenLaw" 241 ⟨"WordgardenModel", "fresh", "(I)I"⟩ ∈ gaW := gaW_t6 (List.mem_of_getElem? (i := 151) rfl) rfl
theorem ww_6_152 : Cond.instanceMethod ⟨"WordgardenModel", "fresh", "(I)I"⟩ ∈ gaW := gaW_t6 (List.mem_of_getElem? (i := 152) rfl) rfl
theorem ww_6_153 : Cond.selects "WordgardenModel" ⟨"WordgardenModel", "fresh", "(I)I"⟩ ⟨"WordgardenModel", "fresh", "(I)I"⟩ ∈ gaW := gaW_t6 (List.mem_of_getElem? (i := 153) rfl) rfl
theorem ww_6_154 : Cond.code ⟨"WordgardenModel", "fresh", "(I)I"⟩ prog_9_method_54_code 3 (some .int) ∈ gaW := gaW_t6 (List.mem_of_getElem? (i := 154) rfl) rfl
theorem ww_6_155 : Cond.methodLink "WordgardenLaw" 244 ⟨"WordgardenModel", "length", "(I)I"⟩ ∈ gaW := gaW_t6 (List.mem_of_getElem? (i := 155) rfl) rfl
theorem ww_6_156 : Cond.instanceMethod ⟨"WordgardenModel", "length", "(I)I"⟩ ∈ gaW := gaW_t6 (List.mem_of_getElem? (i := 156) rfl) rfl
theorem ww_6_157 : Cond.selects "WordgardenModel" ⟨"WordgardenModel", "length", "(I)I"⟩ ⟨"WordgardenModel", "length", "(I)I"⟩ ∈ gaW := gaW_t6 (List.mem_of_getElem? (i := 157) rfl) rfl
theorem ww_6_158 : Cond.code ⟨"WordgardenModel", "length", "(I)I"⟩ prog_9_method_55_code 2 (some .int) ∈ gaW := gaW_t6 (List.mem_of_getElem? (i := 158) rfl) rfl
theorem ww_6_159 : Cond.methodLink "WordgardenLaw" 247 ⟨"WordgardenModel", "isB", "(II)Z"⟩ ∈ gaW := gaW_t6 (List.mem_of_getElem? (i := 159) rfl) rfl
theorem ww_6_160 : Cond.instanceMethod ⟨"WordgardenModel", "isB", "(II)Z"⟩ ∈ gaW := gaW_t6 (List.mem_of_getElem? (i := 160) rfl) rfl
theorem ww_6_161 : Cond.selects "WordgardenModel" ⟨"WordgardenModel", "isB", "(II)Z"⟩ ⟨"WordgardenModel", "isB", "(II)Z"⟩ ∈ gaW := gaW_t6 (List.mem_of_getElem? (i := 161) rfl) rfl
theorem ww_6_162 : Cond.code ⟨"WordgardenModel", "isB", "(II)Z"⟩ prog_9_method_56_code 3 (some .boolean) ∈ gaW := gaW_t6 (List.mem_of_getElem? (i := 162) rfl) rfl
theorem ww_6_163 : Cond.methodLink "WordgardenLaw" 254 ⟨"WordgardenModel", "text", "(I)Ljava/lang/String;"⟩ ∈ gaW := gaW_t6 (List.mem_of_getElem? (i := 163) rfl) rfl
theorem ww_6_164 : Cond.instanceMethod ⟨"WordgardenModel", "text", "(I)Ljava/lang/String;"⟩ ∈ gaW := gaW_t6 (List.mem_of_getElem? (i := 164) rfl) rfl
theorem ww_6_165 : Cond.selects "WordgardenModel" ⟨"WordgardenModel", "text", "(I)Ljava/lang/String;"⟩ ⟨"WordgardenModel", "text", "(I)Ljava/lang/String;"⟩ ∈ gaW := gaW_t6 (List.mem_of_getElem? (i := 165) rfl) rfl
theorem ww_6_166 : Cond.code ⟨"WordgardenModel", "text", "(I)Ljava/lang/String;"⟩ prog_9_method_58_code 2 (some (.object "java/lang/String")) ∈ gaW := gaW_t6 (List.mem_of_getElem? (i := 166) rfl) rfl
theorem ww_6_168 : Cond.methodLink "WordgardenModel" 152 ⟨"WordgardenModel", "textOf", "([I)Ljava/lang/String;"⟩ ∈ gaW := gaW_t6 (List.mem_of_getElem? (i := 168) rfl) rfl
theorem ww_6_169 : Cond.static ⟨"WordgardenModel", "textOf", "([I)Ljava/lang/String;"⟩ ∈ gaW := gaW_t6 (List.mem_of_getElem? (i := 169) rfl) rfl
theorem ww_6_170 : Cond.code ⟨"WordgardenModel", "textOf", "([I)Ljava/lang/String;"⟩ prog_9_method_57_code 6 (some (.object "java/lang/String")) ∈ gaW := gaW_t6 (List.mem_of_getElem? (i := 170) rfl) rfl
theorem ww_6_171 : Cond.classLink "WordgardenModel" 139 "java/lang/StringBuilder" ∈ gaW := gaW_t6 (List.mem_of_getElem? (i := 171) rfl) rfl
theorem ww_6_172 : Cond.methodLink "WordgardenModel" 141 ⟨"java/lang/StringBuilder", "<init>", "()V"⟩ ∈ gaW := gaW_t6 (List.mem_of_getElem? (i := 172) rfl) rfl
theorem ww_6_173 : Cond.methodLink "WordgardenModel" 142 ⟨"java/lang/StringBuilder", "append", "(C)Ljava/lang/StringBuilder;"⟩ ∈ gaW := gaW_t6 (List.mem_of_getElem? (i := 173) rfl) rfl
theorem ww_6_174 : Cond.methodLink "WordgardenModel" 146 ⟨"java/lang/StringBuilder", "toString", "()Ljava/lang/String;"⟩ ∈ gaW := gaW_t6 (List.mem_of_getElem? (i := 174) rfl) rfl
theorem ww_6_175 : Cond.methodLink "WordgardenLaw" 258 ⟨"WordgardenModel", "count", "(IZ)I"⟩ ∈ gaW := gaW_t6 (List.mem_of_getElem? (i := 175) rfl) rfl
theorem ww_6_176 : Cond.instanceMethod ⟨"WordgardenModel", "count", "(IZ)I"⟩ ∈ gaW := gaW_t6 (List.mem_of_getElem? (i := 176) rfl) rfl
theorem ww_6_177 : Cond.selects "WordgardenModel" ⟨"WordgardenModel", "count", "(IZ)I"⟩ ⟨"WordgardenModel", "count", "(IZ)I"⟩ ∈ gaW := gaW_t6 (List.mem_of_getElem? (i := 177) rfl) rfl
theorem ww_6_178 : Cond.code ⟨"WordgardenModel", "count", "(IZ)I"⟩ prog_9_method_59_code 4 (some .int) ∈ gaW := gaW_t6 (List.mem_of_getElem? (i := 178) rfl) rfl
theorem ww_6_179 : Cond.methodLink "WordgardenLaw" 261 ⟨"WordgardenModel", "find", "(III)I"⟩ ∈ gaW := gaW_t6 (List.mem_of_getElem? (i := 179) rfl) rfl
theorem ww_6_180 : Cond.instanceMethod ⟨"WordgardenModel", "find", "(III)I"⟩ ∈ gaW := gaW_t6 (List.mem_of_getElem? (i := 180) rfl) rfl
theorem ww_6_181 : Cond.selects "WordgardenModel" ⟨"WordgardenModel", "find", "(III)I"⟩ ⟨"WordgardenModel", "find", "(III)I"⟩ ∈ gaW := gaW_t6 (List.mem_of_getElem? (i := 181) rfl) rfl
theorem ww_6_182 : Cond.code ⟨"WordgardenModel", "find", "(III)I"⟩ prog_9_method_60_code 5 (some .int) ∈ gaW := gaW_t6 (List.mem_of_getElem? (i := 182) rfl) rfl
theorem ww_6_183 : Cond.methodLink "WordgardenLaw" 264 ⟨"WordgardenModel", "findLast", "(III)I"⟩ ∈ gaW := gaW_t6 (List.mem_of_getElem? (i := 183) rfl) rfl
theorem ww_6_184 : Cond.instanceMethod ⟨"WordgardenModel", "findLast", "(III)I"⟩ ∈ gaW := gaW_t6 (List.mem_of_getElem? (i := 184) rfl) rfl
theorem ww_6_185 : Cond.selects "WordgardenModel" ⟨"WordgardenModel", "findLast", "(III)I"⟩ ⟨"WordgardenModel", "findLast", "(III)I"⟩ ∈ gaW := gaW_t6 (List.mem_of_getElem? (i := 185) rfl) rfl
theorem ww_6_186 : Cond.code ⟨"WordgardenModel", "findLast", "(III)I"⟩ prog_9_method_61_code 5 (some .int) ∈ gaW := gaW_t6 (List.mem_of_getElem? (i := 186) rfl) rfl
theorem ww_6_187 : Cond.methodLink "WordgardenLaw" 267 ⟨"WordgardenModel", "order", "(II)I"⟩ ∈ gaW := gaW_t6 (List.mem_of_getElem? (i := 187) rfl) rfl
theorem ww_6_188 : Cond.instanceMethod ⟨"WordgardenModel", "order", "(II)I"⟩ ∈ gaW := gaW_t6 (List.mem_of_getElem? (i := 188) rfl) rfl
theorem ww_6_189 : Cond.selects "WordgardenModel" ⟨"WordgardenModel", "order", "(II)I"⟩ ⟨"WordgardenModel", "order", "(II)I"⟩ ∈ gaW := gaW_t6 (List.mem_of_getElem? (i := 189) rfl) rfl
theorem ww_6_190 : Cond.code ⟨"WordgardenModel", "order", "(II)I"⟩ prog_9_method_62_code 6 (some .int) ∈ gaW := gaW_t6 (List.mem_of_getElem? (i := 190) rfl) rfl
theorem ww_6_191 : Cond.methodLink "WordgardenLaw" 270 ⟨"WordgardenModel", "isMirrored", "(I)Z"⟩ ∈ gaW := gaW_t6 (List.mem_of_getElem? (i := 191) rfl) rfl
theorem ww_6_192 : Cond.instanceMethod ⟨"WordgardenModel", "isMirrored", "(I)Z"⟩ ∈ gaW := gaW_t6 (List.mem_of_getElem? (i := 192) rfl) rfl
theorem ww_6_193 : Cond.selects "WordgardenModel" ⟨"WordgardenModel", "isMirrored", "(I)Z"⟩ ⟨"WordgardenModel", "isMirrored", "(I)Z"⟩ ∈ gaW := gaW_t6 (List.mem_of_getElem? (i := 193) rfl) rfl
theorem ww_6_194 : Cond.code ⟨"WordgardenModel", "isMirrored", "(I)Z"⟩ prog_9_method_63_code 2 (some .boolean) ∈ gaW := gaW_t6 (List.mem_of_getElem? (i := 194) rfl) rfl
theorem ww_6_195 : Cond.methodLink "WordgardenModel" 156 ⟨"WordgardenModel", "isMirrored", "([III)Z"⟩ ∈ gaW := gaW_t6 (List.mem_of_getElem? (i := 195) rfl) rfl
theorem ww_6_196 : Cond.static ⟨"WordgardenModel", "isMirrored", "([III)Z"⟩ ∈ gaW := gaW_t6 (List.mem_of_getElem? (i := 196) rfl) rfl
theorem ww_6_197 : Cond.code ⟨"WordgardenModel", "isMirrored", "([III)Z"⟩ prog_9_method_19_code 4 (some .boolean) ∈ gaW := gaW_t6 (List.mem_of_getElem? (i := 197) rfl) rfl
theorem ww_6_198 : Cond.methodLink "WordgardenLaw" 273 ⟨"WordgardenModel", "spread", "(IIZ)I"⟩ ∈ gaW := gaW_t6 (List.mem_of_getElem? (i := 198) rfl) rfl
theorem ww_6_199 : Cond.instanceMethod ⟨"WordgardenModel", "spread", "(IIZ)I"⟩ ∈ gaW := gaW_t6 (List.mem_of_getElem? (i := 199) rfl) rfl
theorem ww_6_200 : Cond.selects "WordgardenModel" ⟨"WordgardenModel", "spread", "(IIZ)I"⟩ ⟨"WordgardenModel", "spread", "(IIZ)I"⟩ ∈ gaW := gaW_t6 (List.mem_of_getElem? (i := 200) rfl) rfl
theorem ww_6_201 : Cond.code ⟨"WordgardenModel", "spread", "(IIZ)I"⟩ prog_9_method_65_code 10 (some .int) ∈ gaW := gaW_t6 (List.mem_of_getElem? (i := 201) rfl) rfl
theorem ww_6_202 : Cond.methodLink "WordgardenModel" 160 ⟨"WordgardenModel", "parts", "([IIZ)I"⟩ ∈ gaW := gaW_t6 (List.mem_of_getElem? (i := 202) rfl) rfl
theorem ww_6_203 : Cond.static ⟨"WordgardenModel", "parts", "([IIZ)I"⟩ ∈ gaW := gaW_t6 (List.mem_of_getElem? (i := 203) rfl) rfl
theorem ww_6_204 : Cond.code ⟨"WordgardenModel", "parts", "([IIZ)I"⟩ prog_9_method_64_code 3 (some .int) ∈ gaW := gaW_t6 (List.mem_of_getElem? (i := 204) rfl) rfl
theorem ww_6_205 : Cond.methodLink "WordgardenModel" 164 ⟨"java/lang/Math", "max", "(II)I"⟩ ∈ gaW := gaW_t6 (List.mem_of_getElem? (i := 205) rfl) rfl
theorem ww_6_206 : Cond.methodLink "WordgardenModel" 170 ⟨"java/lang/Math", "min", "(II)I"⟩ ∈ gaW := gaW_t6 (List.mem_of_getElem? (i := 206) rfl) rfl
theorem ww_6_207 : Cond.methodLink "WordgardenLaw" 276 ⟨"WordgardenModel", "kinds", "(IIZ)I"⟩ ∈ gaW := gaW_t6 (List.mem_of_getElem? (i := 207) rfl) rfl
theorem ww_6_208 : Cond.instanceMethod ⟨"WordgardenModel", "kinds", "(IIZ)I"⟩ ∈ gaW := gaW_t6 (List.mem_of_getElem? (i := 208) rfl) rfl
theorem ww_6_209 : Cond.selects "WordgardenModel" ⟨"WordgardenModel", "kinds", "(IIZ)I"⟩ ⟨"WordgardenModel", "kinds", "(IIZ)I"⟩ ∈ gaW := gaW_t6 (List.mem_of_getElem? (i := 209) rfl) rfl
theorem ww_6_210 : Cond.code ⟨"WordgardenModel", "kinds", "(IIZ)I"⟩ prog_9_method_67_code 9 (some .int) ∈ gaW := gaW_t6 (List.mem_of_getElem? (i := 210) rfl) rfl
theorem ww_6_211 : Cond.methodLink "WordgardenModel" 173 ⟨"WordgardenModel", "areLike", "([IIII)Z"⟩ ∈ gaW := gaW_t6 (List.mem_of_getElem? (i := 211) rfl) rfl
theorem ww_6_212 : Cond.static ⟨"WordgardenModel", "areLike", "([IIII)Z"⟩ ∈ gaW := gaW_t6 (List.mem_of_getElem? (i := 212) rfl) rfl
theorem ww_6_213 : Cond.code ⟨"WordgardenModel", "areLike", "([IIII)Z"⟩ prog_9_method_66_code 5 (some .boolean) ∈ gaW := gaW_t6 (List.mem_of_getElem? (i := 213) rfl) rfl
theorem ww_6_214 : Cond.methodLink "WordgardenLaw" 279 ⟨"WordgardenModel", "times", "(I)I"⟩ ∈ gaW := gaW_t6 (List.mem_of_getElem? (i := 214) rfl) rfl
theorem ww_6_215 : Cond.instanceMethod ⟨"WordgardenModel", "times", "(I)I"⟩ ∈ gaW := gaW_t6 (List.mem_of_getElem? (i := 215) rfl) rfl
theorem ww_6_216 : Cond.selects "WordgardenModel" ⟨"WordgardenModel", "times", "(I)I"⟩ ⟨"WordgardenModel", "times", "(I)I"⟩ ∈ gaW := gaW_t6 (List.mem_of_getElem? (i := 216) rfl) rfl
theorem ww_6_217 : Cond.code ⟨"WordgardenModel", "times", "(I)I"⟩ prog_9_method_69_code 2 (some .int) ∈ gaW := gaW_t6 (List.mem_of_getElem? (i := 217) rfl) rfl
theorem ww_6_218 : Cond.methodLink "WordgardenModel" 177 ⟨"WordgardenModel", "timesOf", "([I)I"⟩ ∈ gaW := gaW_t6 (List.mem_of_getElem? (i := 218) rfl) rfl
theorem ww_6_219 : Cond.static ⟨"WordgardenModel", "timesOf", "([I)I"⟩ ∈ gaW := gaW_t6 (List.mem_of_getElem? (i := 219) rfl) rfl
theorem ww_6_220 : Cond.code ⟨"WordgardenModel", "timesOf", "([I)I"⟩ prog_9_method_68_code 5 (some .int) ∈ gaW := gaW_t6 (List.mem_of_getElem? (i := 220) rfl) rfl
theorem ww_6_221 : Cond.methodLink "WordgardenLaw" 282 ⟨"WordgardenModel", "overlaps", "(I)I"⟩ ∈ gaW := gaW_t6 (List.mem_of_getElem? (i := 221) rfl) rfl
theorem ww_6_222 : Cond.instanceMethod ⟨"WordgardenModel", "overlaps", "(I)I"⟩ ∈ gaW := gaW_t6 (List.mem_of_getElem? (i := 222) rfl) rfl
theorem ww_6_223 : Cond.selects "WordgardenModel" ⟨"WordgardenModel", "overlaps", "(I)I"⟩ ⟨"WordgardenModel", "overlaps", "(I)I"⟩ ∈ gaW := gaW_t6 (List.mem_of_getElem? (i := 223) rfl) rfl
theorem ww_6_224 : Cond.code ⟨"WordgardenModel", "overlaps", "(I)I"⟩ prog_9_method_71_code 2 (some .int) ∈ gaW := gaW_t6 (List.mem_of_getElem? (i := 224) rfl) rfl
theorem ww_6_225 : Cond.methodLink "WordgardenModel" 180 ⟨"WordgardenModel", "overlapsOf", "([I)I"⟩ ∈ gaW := gaW_t6 (List.mem_of_getElem? (i := 225) rfl) rfl
theorem ww_6_226 : Cond.static ⟨"WordgardenModel", "overlapsOf", "([I)I"⟩ ∈ gaW := gaW_t6 (List.mem_of_getElem? (i := 226) rfl) rfl
theorem ww_6_227 : Cond.code ⟨"WordgardenModel", "overlapsOf", "([I)I"⟩ prog_9_method_70_code 4 (some .int) ∈ gaW := gaW_t6 (List.mem_of_getElem? (i := 227) rfl) rfl
theorem ww_6_228 : Cond.methodLink "WordgardenLaw" 285 ⟨"WordgardenModel", "mirrors", "(I)I"⟩ ∈ gaW := gaW_t6 (List.mem_of_getElem? (i := 228) rfl) rfl
theorem ww_6_229 : Cond.instanceMethod ⟨"WordgardenModel", "mirrors", "(I)I"⟩ ∈ gaW := gaW_t6 (List.mem_of_getElem? (i := 229) rfl) rfl
theorem ww_6_230 : Cond.selects "WordgardenModel" ⟨"WordgardenModel", "mirrors", "(I)I"⟩ ⟨"WordgardenModel", "mirrors", "(I)I"⟩ ∈ gaW := gaW_t6 (List.mem_of_getElem? (i := 230) rfl) rfl
theorem ww_6_231 : Cond.code ⟨"WordgardenModel", "mirrors", "(I)I"⟩ prog_9_method_72_code 8 (some .int) ∈ gaW := gaW_t6 (List.mem_of_getElem? (i := 231) rfl) rfl
theorem ww_6_232 : Cond.methodLink "WordgardenLaw" 288 ⟨"WordgardenModel", "folds", "(I)I"⟩ ∈ gaW := gaW_t6 (List.mem_of_getElem? (i := 232) rfl) rfl
theorem ww_6_233 : Cond.instanceMethod ⟨"WordgardenModel", "folds", "(I)I"⟩ ∈ gaW := gaW_t6 (List.mem_of_getElem? (i := 233) rfl) rfl
theorem ww_6_234 : Cond.selects "WordgardenModel" ⟨"WordgardenModel", "folds", "(I)I"⟩ ⟨"WordgardenModel", "folds", "(I)I"⟩ ∈ gaW := gaW_t6 (List.mem_of_getElem? (i := 234) rfl) rfl
theorem ww_6_235 : Cond.code ⟨"WordgardenModel", "folds", "(I)I"⟩ prog_9_method_74_code 2 (some .int) ∈ gaW := gaW_t6 (List.mem_of_getElem? (i := 235) rfl) rfl
theorem ww_6_236 : Cond.methodLink "WordgardenModel" 183 ⟨"WordgardenModel", "foldsOf", "([I)I"⟩ ∈ gaW := gaW_t6 (List.mem_of_getElem? (i := 236) rfl) rfl
theorem ww_6_237 : Cond.static ⟨"WordgardenModel", "foldsOf", "([I)I"⟩ ∈ gaW := gaW_t6 (List.mem_of_getElem? (i := 237) rfl) rfl
theorem ww_6_238 : Cond.code ⟨"WordgardenModel", "foldsOf", "([I)I"⟩ prog_9_method_73_code 3 (some .int) ∈ gaW := gaW_t6 (List.mem_of_getElem? (i := 238) rfl) rfl
theorem ww_6_239 : Cond.methodLink "WordgardenLaw" 291 ⟨"WordgardenModel", "least", "(I)I"⟩ ∈ gaW := gaW_t6 (List.mem_of_getElem? (i := 239) rfl) rfl
theorem ww_7_0 : Cond.instanceMethod ⟨"WordgardenModel", "least", "(I)I"⟩ ∈ gaW := gaW_t7 (List.mem_of_getElem? (i := 0) rfl) rfl
theorem ww_7_1 : Cond.selects "WordgardenModel" ⟨"WordgardenModel", "least", "(I)I"⟩ ⟨"WordgardenModel", "least", "(I)I"⟩ ∈ gaW := gaW_t7 (List.mem_of_getElem? (i := 1) rfl) rfl
theorem ww_7_2 : Cond.code ⟨"WordgardenModel", "least", "(I)I"⟩ prog_9_method_76_code 2 (some .int) ∈ gaW := gaW_t7 (List.mem_of_getElem? (i := 2) rfl) rfl
theorem ww_7_3 : Cond.methodLink "WordgardenModel" 186 ⟨"WordgardenModel", "leastOf", "([I)I"⟩ ∈ gaW := gaW_t7 (List.mem_of_getElem? (i := 3) rfl) rfl
theorem ww_7_4 : Cond.static ⟨"WordgardenModel", "leastOf", "([I)I"⟩ ∈ gaW := gaW_t7 (List.mem_of_getElem? (i := 4) rfl) rfl
theorem ww_7_5 : Cond.code ⟨"WordgardenModel", "leastOf", "([I)I"⟩ prog_9_method_75_code 4 (some .int) ∈ gaW := gaW_t7 (List.mem_of_getElem? (i := 5) rfl) rfl
theorem ww_7_6 : Cond.methodLink "WordgardenLaw" 294 ⟨"WordgardenModel", "isApart", "(II)Z"⟩ ∈ gaW := gaW_t7 (List.mem_of_getElem? (i := 6) rfl) rfl
theorem ww_7_7 : Cond.instanceMethod ⟨"WordgardenModel", "isApart", "(II)Z"⟩ ∈ gaW := gaW_t7 (List.mem_of_getElem? (i := 7) rfl) rfl
theorem ww_7_8 : Cond.selects "WordgardenModel" ⟨"WordgardenModel", "isApart", "(II)Z"⟩ ⟨"WordgardenModel", "isApart", "(II)Z"⟩ ∈ gaW := gaW_t7 (List.mem_of_getElem? (i := 8) rfl) rfl
theorem ww_7_9 : Cond.code ⟨"WordgardenModel", "isApart", "(II)Z"⟩ prog_9_method_77_code 3 (some .boolean) ∈ gaW := gaW_t7 (List.mem_of_getElem? (i := 9) rfl) rfl
theorem ww_7_10 : Cond.methodLink "WordgardenLaw" 297 ⟨"WordgardenModel", "turns", "(I)Ljava/lang/String;"⟩ ∈ gaW := gaW_t7 (List.mem_of_getElem? (i := 10) rfl) rfl
theorem ww_7_11 : Cond.instanceMethod ⟨"WordgardenModel", "turns", "(I)Ljava/lang/String;"⟩ ∈ gaW := gaW_t7 (List.mem_of_getElem? (i := 11) rfl) rfl
theorem ww_7_12 : Cond.selects "WordgardenModel" ⟨"WordgardenModel", "turns", "(I)Ljava/lang/String;"⟩ ⟨"WordgardenModel", "turns", "(I)Ljava/lang/String;"⟩ ∈ gaW := gaW_t7 (List.mem_of_getElem? (i := 12) rfl) rfl
theorem ww_7_13 : Cond.code ⟨"WordgardenModel", "turns", "(I)Ljava/lang/String;"⟩ prog_9_method_78_code 4 (some (.object "java/lang/String")) ∈ gaW := gaW_t7 (List.mem_of_getElem? (i := 13) rfl) rfl
theorem ww_7_14 : Cond.methodLink "WordgardenModel" 189 ⟨"java/lang/StringBuilder", "append", "(I)Ljava/lang/StringBuilder;"⟩ ∈ gaW := gaW_t7 (List.mem_of_getElem? (i := 14) rfl) rfl
theorem ww_7_15 : Cond.methodLink "WordgardenLaw" 300 ⟨"WordgardenModel", "grown", "(IZ)Ljava/lang/String;"⟩ ∈ gaW := gaW_t7 (List.mem_of_getElem? (i := 15) rfl) rfl
theorem ww_7_16 : Cond.instanceMethod ⟨"WordgardenModel", "grown", "(IZ)Ljava/lang/String;"⟩ ∈ gaW := gaW_t7 (List.mem_of_getElem? (i := 16) rfl) rfl
theorem ww_7_17 : Cond.selects "WordgardenModel" ⟨"WordgardenModel", "grown", "(IZ)Ljava/lang/String;"⟩ ⟨"WordgardenModel", "grown", "(IZ)Ljava/lang/String;"⟩ ∈ gaW := gaW_t7 (List.mem_of_getElem? (i := 17) rfl) rfl
theorem ww_7_18 : Cond.code ⟨"WordgardenModel", "grown", "(IZ)Ljava/lang/String;"⟩ prog_9_method_79_code 3 (some (.object "java/lang/String")) ∈ gaW := gaW_t7 (List.mem_of_getElem? (i := 18) rfl) rfl
theorem ww_7_19 : Cond.methodLink "WordgardenModel" 192 ⟨"WordgardenModel", "word", "(IZ)[I"⟩ ∈ gaW := gaW_t7 (List.mem_of_getElem? (i := 19) rfl) rfl
theorem ww_7_21 : Cond.instanceMethod ⟨"WordgardenModel", "word", "(IZ)[I"⟩ ∈ gaW := gaW_t7 (List.mem_of_getElem? (i := 21) rfl) rfl
theorem ww_7_22 : Cond.code ⟨"WordgardenModel", "word", "(IZ)[I"⟩ prog_9_method_49_code 3 (some (.array .int)) ∈ gaW := gaW_t7 (List.mem_of_getElem? (i := 22) rfl) rfl
theorem ww_7_23 : Cond.methodLink "WordgardenLaw" 303 ⟨"WordgardenModel", "size", "(IZ)I"⟩ ∈ gaW := gaW_t7 (List.mem_of_getElem? (i := 23) rfl) rfl
theorem ww_7_24 : Cond.instanceMethod ⟨"WordgardenModel", "size", "(IZ)I"⟩ ∈ gaW := gaW_t7 (List.mem_of_getElem? (i := 24) rfl) rfl
theorem ww_7_25 : Cond.selects "WordgardenModel" ⟨"WordgardenModel", "size", "(IZ)I"⟩ ⟨"WordgardenModel", "size", "(IZ)I"⟩ ∈ gaW := gaW_t7 (List.mem_of_getElem? (i := 25) rfl) rfl
theorem ww_7_26 : Cond.code ⟨"WordgardenModel", "size", "(IZ)I"⟩ prog_9_method_80_code 3 (some .int) ∈ gaW := gaW_t7 (List.mem_of_getElem? (i := 26) rfl) rfl
theorem ww_7_27 : Cond.methodLink "WordgardenLaw" 306 ⟨"WordgardenModel", "ups", "(IZ)I"⟩ ∈ gaW := gaW_t7 (List.mem_of_getElem? (i := 27) rfl) rfl
theorem ww_7_28 : Cond.instanceMethod ⟨"WordgardenModel", "ups", "(IZ)I"⟩ ∈ gaW := gaW_t7 (List.mem_of_getElem? (i := 28) rfl) rfl
theorem ww_7_29 : Cond.selects "WordgardenModel" ⟨"WordgardenModel", "ups", "(IZ)I"⟩ ⟨"WordgardenModel", "ups", "(IZ)I"⟩ ∈ gaW := gaW_t7 (List.mem_of_getElem? (i := 29) rfl) rfl
theorem ww_7_30 : Cond.code ⟨"WordgardenModel", "ups", "(IZ)I"⟩ prog_9_method_81_code 3 (some .int) ∈ gaW := gaW_t7 (List.mem_of_getElem? (i := 30) rfl) rfl
theorem ww_7_31 : Cond.methodLink "WordgardenLaw" 309 ⟨"WordgardenModel", "cross", "(I)I"⟩ ∈ gaW := gaW_t7 (List.mem_of_getElem? (i := 31) rfl) rfl
theorem ww_7_32 : Cond.instanceMethod ⟨"WordgardenModel", "cross", "(I)I"⟩ ∈ gaW := gaW_t7 (List.mem_of_getElem? (i := 32) rfl) rfl
theorem ww_7_33 : Cond.selects "WordgardenModel" ⟨"WordgardenModel", "cross", "(I)I"⟩ ⟨"WordgardenModel", "cross", "(I)I"⟩ ∈ gaW := gaW_t7 (List.mem_of_getElem? (i := 33) rfl) rfl
theorem ww_7_34 : Cond.code ⟨"WordgardenModel", "cross", "(I)I"⟩ prog_9_method_83_code 2 (some .int) ∈ gaW := gaW_t7 (List.mem_of_getElem? (i := 34) rfl) rfl
theorem ww_7_35 : Cond.methodLink "WordgardenModel" 196 ⟨"WordgardenModel", "crossOf", "([I[I)I"⟩ ∈ gaW := gaW_t7 (List.mem_of_getElem? (i := 35) rfl) rfl
theorem ww_7_36 : Cond.static ⟨"WordgardenModel", "crossOf", "([I[I)I"⟩ ∈ gaW := gaW_t7 (List.mem_of_getElem? (i := 36) rfl) rfl
theorem ww_7_37 : Cond.code ⟨"WordgardenModel", "crossOf", "([I[I)I"⟩ prog_9_method_82_code 2 (some .int) ∈ gaW := gaW_t7 (List.mem_of_getElem? (i := 37) rfl) rfl
theorem ww_7_38 : Cond.methodLink "WordgardenLaw" 312 ⟨"WordgardenModel", "alike", "(I)I"⟩ ∈ gaW := gaW_t7 (List.mem_of_getElem? (i := 38) rfl) rfl
theorem ww_7_39 : Cond.instanceMethod ⟨"WordgardenModel", "alike", "(I)I"⟩ ∈ gaW := gaW_t7 (List.mem_of_getElem? (i := 39) rfl) rfl
theorem ww_7_40 : Cond.selects "WordgardenModel" ⟨"WordgardenModel", "alike", "(I)I"⟩ ⟨"WordgardenModel", "alike", "(I)I"⟩ ∈ gaW := gaW_t7 (List.mem_of_getElem? (i := 40) rfl) rfl
theorem ww_7_41 : Cond.code ⟨"WordgardenModel", "alike", "(I)I"⟩ prog_9_method_85_code 2 (some .int) ∈ gaW := gaW_t7 (List.mem_of_getElem? (i := 41) rfl) rfl
theorem ww_7_42 : Cond.methodLink "WordgardenModel" 200 ⟨"WordgardenModel", "alikeOf", "([I[I)I"⟩ ∈ gaW := gaW_t7 (List.mem_of_getElem? (i := 42) rfl) rfl
theorem ww_7_43 : Cond.static ⟨"WordgardenModel", "alikeOf", "([I[I)I"⟩ ∈ gaW := gaW_t7 (List.mem_of_getElem? (i := 43) rfl) rfl
theorem ww_7_44 : Cond.code ⟨"WordgardenModel", "alikeOf", "([I[I)I"⟩ prog_9_method_84_code 5 (some .int) ∈ gaW := gaW_t7 (List.mem_of_getElem? (i := 44) rfl) rfl
theorem ww_7_45 : Cond.methodLink "WordgardenLaw" 315 ⟨"WordgardenModel", "house", "(I)I"⟩ ∈ gaW := gaW_t7 (List.mem_of_getElem? (i := 45) rfl) rfl
theorem ww_7_46 : Cond.instanceMethod ⟨"WordgardenModel", "house", "(I)I"⟩ ∈ gaW := gaW_t7 (List.mem_of_getElem? (i := 46) rfl) rfl
theorem ww_7_47 : Cond.selects "WordgardenModel" ⟨"WordgardenModel", "house", "(I)I"⟩ ⟨"WordgardenModel", "house", "(I)I"⟩ ∈ gaW := gaW_t7 (List.mem_of_getElem? (i := 47) rfl) rfl
theorem ww_7_48 : Cond.code ⟨"WordgardenModel", "house", "(I)I"⟩ prog_9_method_87_code 2 (some .int) ∈ gaW := gaW_t7 (List.mem_of_getElem? (i := 48) rfl) rfl
theorem ww_7_49 : Cond.methodLink "WordgardenModel" 206 ⟨"WordgardenModel", "told", "(I)I"⟩ ∈ gaW := gaW_t7 (List.mem_of_getElem? (i := 49) rfl) rfl
theorem ww_7_51 : Cond.instanceMethod ⟨"WordgardenModel", "told", "(I)I"⟩ ∈ gaW := gaW_t7 (List.mem_of_getElem? (i := 51) rfl) rfl
theorem ww_7_52 : Cond.code ⟨"WordgardenModel", "told", "(I)I"⟩ prog_9_method_86_code 2 (some .int) ∈ gaW := gaW_t7 (List.mem_of_getElem? (i := 52) rfl) rfl
theorem ww_7_53 : Cond.methodLink "WordgardenLaw" 319 ⟨"WordgardenModel", "knock", "()I"⟩ ∈ gaW := gaW_t7 (List.mem_of_getElem? (i := 53) rfl) rfl
theorem ww_7_54 : Cond.instanceMethod ⟨"WordgardenModel", "knock", "()I"⟩ ∈ gaW := gaW_t7 (List.mem_of_getElem? (i := 54) rfl) rfl
theorem ww_7_55 : Cond.selects "WordgardenModel" ⟨"WordgardenModel", "knock", "()I"⟩ ⟨"WordgardenModel", "knock", "()I"⟩ ∈ gaW := gaW_t7 (List.mem_of_getElem? (i := 55) rfl) rfl
theorem ww_7_56 : Cond.code ⟨"WordgardenModel", "knock", "()I"⟩ prog_9_method_88_code 1 (some .int) ∈ gaW := gaW_t7 (List.mem_of_getElem? (i := 56) rfl) rfl
theorem ww_7_57 : Cond.methodLink "WordgardenLaw" 324 ⟨"WordgardenModel", "isSound", "()Z"⟩ ∈ gaW := gaW_t7 (List.mem_of_getElem? (i := 57) rfl) rfl
theorem ww_7_58 : Cond.instanceMethod ⟨"WordgardenModel", "isSound", "()Z"⟩ ∈ gaW := gaW_t7 (List.mem_of_getElem? (i := 58) rfl) rfl
theorem ww_7_59 : Cond.selects "WordgardenModel" ⟨"WordgardenModel", "isSound", "()Z"⟩ ⟨"WordgardenModel", "isSound", "()Z"⟩ ∈ gaW := gaW_t7 (List.mem_of_getElem? (i := 59) rfl) rfl
theorem ww_7_60 : Cond.code ⟨"WordgardenModel", "isSound", "()Z"⟩ prog_9_method_90_code 1 (some .boolean) ∈ gaW := gaW_t7 (List.mem_of_getElem? (i := 60) rfl) rfl
theorem ww_7_61 : Cond.methodLink "WordgardenModel" 210 ⟨"WordgardenModel", "isWhole", "()Z"⟩ ∈ gaW := gaW_t7 (List.mem_of_getElem? (i := 61) rfl) rfl
theorem ww_7_63 : Cond.instanceMethod ⟨"WordgardenModel", "isWhole", "()Z"⟩ ∈ gaW := gaW_t7 (List.mem_of_getElem? (i := 63) rfl) rfl
theorem ww_7_64 : Cond.code ⟨"WordgardenModel", "isWhole", "()Z"⟩ prog_9_method_89_code 5 (some .boolean) ∈ gaW := gaW_t7 (List.mem_of_getElem? (i := 64) rfl) rfl
theorem ww_7_65 : Cond.methodLink "WordgardenLaw" 329 ⟨"WordgardenModel", "digest", "()J"⟩ ∈ gaW := gaW_t7 (List.mem_of_getElem? (i := 65) rfl) rfl
theorem ww_7_66 : Cond.instanceMethod ⟨"WordgardenModel", "digest", "()J"⟩ ∈ gaW := gaW_t7 (List.mem_of_getElem? (i := 66) rfl) rfl
theorem ww_7_67 : Cond.selects "WordgardenModel" ⟨"WordgardenModel", "digest", "()J"⟩ ⟨"WordgardenModel", "digest", "()J"⟩ ∈ gaW := gaW_t7 (List.mem_of_getElem? (i := 67) rfl) rfl
theorem ww_7_68 : Cond.code ⟨"WordgardenModel", "digest", "()J"⟩ prog_9_method_93_code 11 (some .long) ∈ gaW := gaW_t7 (List.mem_of_getElem? (i := 68) rfl) rfl
theorem ww_7_69 : Cond.constantLong "WordgardenModel" 220 (7979 : Int64) ∈ gaW := gaW_t7 (List.mem_of_getElem? (i := 69) rfl) rfl
theorem ww_7_70 : Cond.methodLink "WordgardenModel" 216 ⟨"WordgardenModel", "add", "(JJ)J"⟩ ∈ gaW := gaW_t7 (List.mem_of_getElem? (i := 70) rfl) rfl
theorem ww_7_71 : Cond.static ⟨"WordgardenModel", "add", "(JJ)J"⟩ ∈ gaW := gaW_t7 (List.mem_of_getElem? (i := 71) rfl) rfl
theorem ww_7_72 : Cond.code ⟨"WordgardenModel", "add", "(JJ)J"⟩ prog_9_method_91_code 4 (some .long) ∈ gaW := gaW_t7 (List.mem_of_getElem? (i := 72) rfl) rfl
theorem ww_7_73 : Cond.constantLong "WordgardenModel" 214 (31 : Int64) ∈ gaW := gaW_t7 (List.mem_of_getElem? (i := 73) rfl) rfl
theorem ww_7_74 : Cond.methodLink "WordgardenModel" 222 ⟨"WordgardenModel", "added", "(JI)J"⟩ ∈ gaW := gaW_t7 (List.mem_of_getElem? (i := 74) rfl) rfl
theorem ww_7_76 : Cond.instanceMethod ⟨"WordgardenModel", "added", "(JI)J"⟩ ∈ gaW := gaW_t7 (List.mem_of_getElem? (i := 76) rfl) rfl
theorem ww_7_77 : Cond.code ⟨"WordgardenModel", "added", "(JI)J"⟩ prog_9_method_92_code 9 (some .long) ∈ gaW := gaW_t7 (List.mem_of_getElem? (i := 77) rfl) rfl
theorem ww_7_78 : Cond.sameMethod "java/lang/Throwable" "java/lang/Throwable" "fillInStackTrace" "(I)Ljava/lang/Throwable;" ∈ gaW := gaW_t7 (List.mem_of_getElem? (i := 78) rfl) rfl
theorem ww_7_79 : Cond.sameMethod "java/lang/AbstractStringBuilder" "java/lang/AbstractStringBuilder" "append" "(C)Ljava/lang/AbstractStringBuilder;" ∈ gaW := gaW_t7 (List.mem_of_getElem? (i := 79) rfl) rfl
theorem ww_7_80 : Cond.sameMethod "java/lang/AbstractStringBuilder" "java/lang/AbstractStringBuilder" "ensureCapacityInternal" "(I)V" ∈ gaW := gaW_t7 (List.mem_of_getElem? (i := 80) rfl) rfl
theorem ww_7_81 : Cond.sameMethod "java/lang/AbstractStringBuilder" "java/lang/AbstractStringBuilder" "newCapacity" "(I)I" ∈ gaW := gaW_t7 (List.mem_of_getElem? (i := 81) rfl) rfl
theorem ww_7_82 : Cond.sameMethod "java/lang/AbstractStringBuilder" "java/lang/AbstractStringBuilder" "inflate" "()V" ∈ gaW := gaW_t7 (List.mem_of_getElem? (i := 82) rfl) rfl
theorem ww_7_83 : Cond.sameMethod "java/lang/AbstractStringBuilder" "java/lang/AbstractStringBuilder" "append" "(I)Ljava/lang/AbstractStringBuilder;" ∈ gaW := gaW_t7 (List.mem_of_getElem? (i := 83) rfl) rfl
theorem ww_7_84 : Cond.sameMethod "java/lang/AbstractStringBuilder" "java/lang/AbstractStringBuilder" "append" "(Ljava/lang/String;)Ljava/lang/AbstractStringBuilder;" ∈ gaW := gaW_t7 (List.mem_of_getElem? (i := 84) rfl) rfl
theorem ww_7_85 : Cond.sameMethod "java/lang/AbstractStringBuilder" "java/lang/AbstractStringBuilder" "appendNull" "()Ljava/lang/AbstractStringBuilder;" ∈ gaW := gaW_t7 (List.mem_of_getElem? (i := 85) rfl) rfl
theorem ww_7_86 : Cond.sameMethod "java/lang/AbstractStringBuilder" "java/lang/AbstractStringBuilder" "putStringAt" "(ILjava/lang/String;)V" ∈ gaW := gaW_t7 (List.mem_of_getElem? (i := 86) rfl) rfl
theorem ww_7_87 : Cond.sameMethod "java/lang/AbstractStringBuilder" "java/lang/AbstractStringBuilder" "inflateIfNeededFor" "(Ljava/lang/String;)V" ∈ gaW := gaW_t7 (List.mem_of_getElem? (i := 87) rfl) rfl
theorem wp_1_0 : Cond.selects "Wordgarden" ⟨"Wordgarden", "isSheetSound", "(I)Z"⟩ ⟨"Wordgarden", "isSheetSound", "(I)Z"⟩ ∈ gaW := gaW_p1 (q := (⟨"Wordgarden", "isSheetSound", "(I)Z"⟩, 9)) (List.mem_of_getElem? (i := 0) rfl)
theorem wp_1_1 : Cond.selects "Wordgarden" ⟨"Wordgarden", "wordOf", "(I)LWordgarden$Word;"⟩ ⟨"Wordgarden", "wordOf", "(I)LWordgarden$Word;"⟩ ∈ gaW := gaW_p1 (q := (⟨"Wordgarden", "wordOf", "(I)LWordgarden$Word;"⟩, 9)) (List.mem_of_getElem? (i := 1) rfl)
theorem wp_1_2 : Cond.selects "java/lang/Throwable" ⟨"java/lang/Throwable", "fillInStackTrace", "(I)Ljava/lang/Throwable;"⟩ ⟨"java/lang/Throwable", "fillInStackTrace", "(I)Ljava/lang/Throwable;"⟩ ∈ gaW := gaW_p1 (q := (⟨"java/lang/Throwable", "fillInStackTrace", "(I)Ljava/lang/Throwable;"⟩, 6)) (List.mem_of_getElem? (i := 2) rfl)
theorem wp_1_3 : Cond.selects "Wordgarden" ⟨"Wordgarden", "isGrowthSound", "(I)Z"⟩ ⟨"Wordgarden", "isGrowthSound", "(I)Z"⟩ ∈ gaW := gaW_p1 (q := (⟨"Wordgarden", "isGrowthSound", "(I)Z"⟩, 9)) (List.mem_of_getElem? (i := 3) rfl)
theorem wp_1_4 : Cond.selects "Wordgarden" ⟨"Wordgarden", "growthOf", "(I)LWordgarden$Growth;"⟩ ⟨"Wordgarden", "growthOf", "(I)LWordgarden$Growth;"⟩ ∈ gaW := gaW_p1 (q := (⟨"Wordgarden", "growthOf", "(I)LWordgarden$Growth;"⟩, 9)) (List.mem_of_getElem? (i := 4) rfl)
theorem wp_1_5 : Cond.selects "Wordgarden$Growth" ⟨"Wordgarden$Growth", "addLineEnd", "(LWordgarden$Word;)V"⟩ ⟨"Wordgarden$Growth", "addLineEnd", "(LWordgarden$Word;)V"⟩ ∈ gaW := gaW_p1 (q := (⟨"Wordgarden$Growth", "addLineEnd", "(LWordgarden$Word;)V"⟩, 4)) (List.mem_of_getElem? (i := 5) rfl)
theorem wp_1_6 : Cond.selects "Wordgarden" ⟨"Wordgarden", "digestSheet", "(JI)J"⟩ ⟨"Wordgarden", "digestSheet", "(JI)J"⟩ ∈ gaW := gaW_p1 (q := (⟨"Wordgarden", "digestSheet", "(JI)J"⟩, 9)) (List.mem_of_getElem? (i := 6) rfl)
theorem wp_1_7 : Cond.selects "Wordgarden" ⟨"Wordgarden", "digestGrowth", "(JI)J"⟩ ⟨"Wordgarden", "digestGrowth", "(JI)J"⟩ ∈ gaW := gaW_p1 (q := (⟨"Wordgarden", "digestGrowth", "(JI)J"⟩, 9)) (List.mem_of_getElem? (i := 7) rfl)
theorem wp_1_8 : Cond.selects "Wordgarden" ⟨"Wordgarden", "sheetActDone", "(I)I"⟩ ⟨"Wordgarden", "sheetActDone", "(I)I"⟩ ∈ gaW := gaW_p1 (q := (⟨"Wordgarden", "sheetActDone", "(I)I"⟩, 9)) (List.mem_of_getElem? (i := 8) rfl)
theorem wp_1_9 : Cond.selects "Wordgarden" ⟨"Wordgarden", "exchangePart", "(LWordgarden$Word;IILWordgarden$Word;)I"⟩ ⟨"Wordgarden", "exchangePart", "(LWordgarden$Word;IILWordgarden$Word;)I"⟩ ∈ gaW := gaW_p1 (q := (⟨"Wordgarden", "exchangePart", "(LWordgarden$Word;IILWordgarden$Word;)I"⟩, 9)) (List.mem_of_getElem? (i := 9) rfl)
theorem wp_1_10 : Cond.selects "Wordgarden" ⟨"Wordgarden", "refuse", "()I"⟩ ⟨"Wordgarden", "refuse", "()I"⟩ ∈ gaW := gaW_p1 (q := (⟨"Wordgarden", "refuse", "()I"⟩, 9)) (List.mem_of_getElem? (i := 10) rfl)
theorem wp_1_11 : Cond.selects "Wordgarden" ⟨"Wordgarden", "takeOut", "(LWordgarden$Word;II)I"⟩ ⟨"Wordgarden", "takeOut", "(LWordgarden$Word;II)I"⟩ ∈ gaW := gaW_p1 (q := (⟨"Wordgarden", "takeOut", "(LWordgarden$Word;II)I"⟩, 9)) (List.mem_of_getElem? (i := 11) rfl)
theorem wp_1_12 : Cond.selects "Wordgarden" ⟨"Wordgarden", "settle", "(LWordgarden$Word;LWordgarden$Word;)I"⟩ ⟨"Wordgarden", "settle", "(LWordgarden$Word;LWordgarden$Word;)I"⟩ ∈ gaW := gaW_p1 (q := (⟨"Wordgarden", "settle", "(LWordgarden$Word;LWordgarden$Word;)I"⟩, 9)) (List.mem_of_getElem? (i := 12) rfl)
theorem wp_1_13 : Cond.selects "Wordgarden" ⟨"Wordgarden", "takeRule", "(II)V"⟩ ⟨"Wordgarden", "takeRule", "(II)V"⟩ ∈ gaW := gaW_p1 (q := (⟨"Wordgarden", "takeRule", "(II)V"⟩, 9)) (List.mem_of_getElem? (i := 13) rfl)
theorem wp_1_14 : Cond.selects "Wordgarden$Rule" ⟨"Wordgarden$Rule", "markImages", "(LWordgarden$Word;)V"⟩ ⟨"Wordgarden$Rule", "markImages", "(LWordgarden$Word;)V"⟩ ∈ gaW := gaW_p1 (q := (⟨"Wordgarden$Rule", "markImages", "(LWordgarden$Word;)V"⟩, 3)) (List.mem_of_getElem? (i := 14) rfl)
theorem wp_1_15 : Cond.selects "Wordgarden$Rule" ⟨"Wordgarden$Rule", "goesOn", "(LWordgarden$Word;ILWordgarden$Word;)Z"⟩ ⟨"Wordgarden$Rule", "goesOn", "(LWordgarden$Word;ILWordgarden$Word;)Z"⟩ ∈ gaW := gaW_p1 (q := (⟨"Wordgarden$Rule", "goesOn", "(LWordgarden$Word;ILWordgarden$Word;)Z"⟩, 3)) (List.mem_of_getElem? (i := 15) rfl)
theorem wp_2_0 : Cond.selects "Wordgarden$Rule" ⟨"Wordgarden$Rule", "isMarked", "(I)Z"⟩ ⟨"Wordgarden$Rule", "isMarked", "(I)Z"⟩ ∈ gaW := gaW_p2 (q := (⟨"Wordgarden$Rule", "isMarked", "(I)Z"⟩, 3)) (List.mem_of_getElem? (i := 0) rfl)
theorem wp_2_1 : Cond.selects "Wordgarden" ⟨"Wordgarden", "growthActDone", "(I)I"⟩ ⟨"Wordgarden", "growthActDone", "(I)I"⟩ ∈ gaW := gaW_p2 (q := (⟨"Wordgarden", "growthActDone", "(I)I"⟩, 9)) (List.mem_of_getElem? (i := 1) rfl)
theorem wp_2_2 : Cond.selects "WordgardenModel" ⟨"WordgardenModel", "start", "(ZI)Z"⟩ ⟨"WordgardenModel", "start", "(ZI)Z"⟩ ∈ gaW := gaW_p2 (q := (⟨"WordgardenModel", "start", "(ZI)Z"⟩, 8)) (List.mem_of_getElem? (i := 2) rfl)
theorem wp_2_3 : Cond.selects "WordgardenModel" ⟨"WordgardenModel", "refuse", "(ZI)Z"⟩ ⟨"WordgardenModel", "refuse", "(ZI)Z"⟩ ∈ gaW := gaW_p2 (q := (⟨"WordgardenModel", "refuse", "(ZI)Z"⟩, 8)) (List.mem_of_getElem? (i := 3) rfl)
theorem wp_2_4 : Cond.selects "WordgardenModel" ⟨"WordgardenModel", "comes", "(I[I)I"⟩ ⟨"WordgardenModel", "comes", "(I[I)I"⟩ ∈ gaW := gaW_p2 (q := (⟨"WordgardenModel", "comes", "(I[I)I"⟩, 8)) (List.mem_of_getElem? (i := 4) rfl)
theorem wp_2_5 : Cond.selects "WordgardenModel" ⟨"WordgardenModel", "put", "(III[I)I"⟩ ⟨"WordgardenModel", "put", "(III[I)I"⟩ ∈ gaW := gaW_p2 (q := (⟨"WordgardenModel", "put", "(III[I)I"⟩, 8)) (List.mem_of_getElem? (i := 5) rfl)
theorem wp_2_6 : Cond.selects "WordgardenModel" ⟨"WordgardenModel", "cannot", "()I"⟩ ⟨"WordgardenModel", "cannot", "()I"⟩ ∈ gaW := gaW_p2 (q := (⟨"WordgardenModel", "cannot", "()I"⟩, 8)) (List.mem_of_getElem? (i := 6) rfl)
theorem wp_2_7 : Cond.selects "WordgardenModel" ⟨"WordgardenModel", "isNoGap", "(II)Z"⟩ ⟨"WordgardenModel", "isNoGap", "(II)Z"⟩ ∈ gaW := gaW_p2 (q := (⟨"WordgardenModel", "isNoGap", "(II)Z"⟩, 8)) (List.mem_of_getElem? (i := 7) rfl)
theorem wp_2_8 : Cond.selects "WordgardenModel" ⟨"WordgardenModel", "isNoPlace", "(II)Z"⟩ ⟨"WordgardenModel", "isNoPlace", "(II)Z"⟩ ∈ gaW := gaW_p2 (q := (⟨"WordgardenModel", "isNoPlace", "(II)Z"⟩, 8)) (List.mem_of_getElem? (i := 8) rfl)
theorem wp_2_9 : Cond.selects "WordgardenModel" ⟨"WordgardenModel", "isNoPart", "(III)Z"⟩ ⟨"WordgardenModel", "isNoPart", "(III)Z"⟩ ∈ gaW := gaW_p2 (q := (⟨"WordgardenModel", "isNoPart", "(III)Z"⟩, 8)) (List.mem_of_getElem? (i := 9) rfl)
theorem wp_2_10 : Cond.selects "WordgardenModel" ⟨"WordgardenModel", "becomes", "(I[I)I"⟩ ⟨"WordgardenModel", "becomes", "(I[I)I"⟩ ∈ gaW := gaW_p2 (q := (⟨"WordgardenModel", "becomes", "(I[I)I"⟩, 8)) (List.mem_of_getElem? (i := 10) rfl)
theorem wp_2_11 : Cond.selects "WordgardenModel" ⟨"WordgardenModel", "byCopies", "(II)[I"⟩ ⟨"WordgardenModel", "byCopies", "(II)[I"⟩ ∈ gaW := gaW_p2 (q := (⟨"WordgardenModel", "byCopies", "(II)[I"⟩, 8)) (List.mem_of_getElem? (i := 11) rfl)
theorem wp_2_12 : Cond.selects "WordgardenModel" ⟨"WordgardenModel", "byRules", "(I)[I"⟩ ⟨"WordgardenModel", "byRules", "(I)[I"⟩ ∈ gaW := gaW_p2 (q := (⟨"WordgardenModel", "byRules", "(I)[I"⟩, 8)) (List.mem_of_getElem? (i := 12) rfl)
theorem wp_2_13 : Cond.selects "WordgardenModel" ⟨"WordgardenModel", "byLine", "(I)[I"⟩ ⟨"WordgardenModel", "byLine", "(I)[I"⟩ ∈ gaW := gaW_p2 (q := (⟨"WordgardenModel", "byLine", "(I)[I"⟩, 8)) (List.mem_of_getElem? (i := 13) rfl)
theorem wp_2_14 : Cond.selects "WordgardenModel" ⟨"WordgardenModel", "elder", "(I)[I"⟩ ⟨"WordgardenModel", "elder", "(I)[I"⟩ ∈ gaW := gaW_p2 (q := (⟨"WordgardenModel", "elder", "(I)[I"⟩, 8)) (List.mem_of_getElem? (i := 14) rfl)
theorem wp_2_15 : Cond.selects "WordgardenModel" ⟨"WordgardenModel", "word", "(IZ)[I"⟩ ⟨"WordgardenModel", "word", "(IZ)[I"⟩ ∈ gaW := gaW_p2 (q := (⟨"WordgardenModel", "word", "(IZ)[I"⟩, 8)) (List.mem_of_getElem? (i := 15) rfl)
theorem wp_3_0 : Cond.selects "WordgardenModel" ⟨"WordgardenModel", "told", "(I)I"⟩ ⟨"WordgardenModel", "told", "(I)I"⟩ ∈ gaW := gaW_p3 (q := (⟨"WordgardenModel", "told", "(I)I"⟩, 8)) (List.mem_of_getElem? (i := 0) rfl)
theorem wp_3_1 : Cond.selects "WordgardenModel" ⟨"WordgardenModel", "isWhole", "()Z"⟩ ⟨"WordgardenModel", "isWhole", "()Z"⟩ ∈ gaW := gaW_p3 (q := (⟨"WordgardenModel", "isWhole", "()Z"⟩, 8)) (List.mem_of_getElem? (i := 1) rfl)
theorem wp_3_2 : Cond.selects "WordgardenModel" ⟨"WordgardenModel", "added", "(JI)J"⟩ ⟨"WordgardenModel", "added", "(JI)J"⟩ ∈ gaW := gaW_p3 (q := (⟨"WordgardenModel", "added", "(JI)J"⟩, 8)) (List.mem_of_getElem? (i := 2) rfl)
