/-! The words of the tables that a method may ask for, by their places. -/
def gaSel : List Cond := []
def gaW : List Cond := (gaSel ++ lw_tbl).filter goodWord
theorem gaW_of {w : Cond} (h : w ∈ lw_tbl) (g : goodWord w = true) : w ∈ gaW := List.mem_filter.mpr ⟨List.mem_append_right _ h, g⟩
theorem gaW_in {w : Cond} (h : w ∈ tables_1) (g : goodWord w = true) : w ∈ gaW := gaW_of (List.mem_append_right _ h) g
theorem gaW_good {w : Cond} (h : w ∈ gaW) : (w.onTables && w.keeps) = true ∨ ∃ ty, w = .arrayClass ty := good_of_word (List.mem_filter.mp h).2
theorem gaW_hts {args : Array Value} {s : State} (h0 : ∀ w ∈ gaSel, w.before args s = true) (h : ∀ w ∈ lw_tbl, w.before args s = true) : ∀ w ∈ gaW, w.before args s = true := fun w hw => (List.mem_append.mp (List.mem_filter.mp hw).1).elim (h0 w) (h w)
theorem gaW_sel {q : MethodName × Nat} (h : q ∈ lw_privs) : Cond.selects q.1.cls q.1 q.1 ∈ gaW := gaW_of (List.mem_append_left _ (List.mem_map.mpr ⟨q, h, rfl⟩)) rfl
theorem gaW_t1 {w : Cond} (h : w ∈ tables_1_1) (g : goodWord w = true) : w ∈ gaW := gaW_in (List.mem_append_left _ h) g
theorem gaW_t2 {w : Cond} (h : w ∈ tables_1_2) (g : goodWord w = true) : w ∈ gaW := gaW_in (List.mem_append_right _ (List.mem_append_left _ h)) g
theorem gaW_t3 {w : Cond} (h : w ∈ tables_1_3) (g : goodWord w = true) : w ∈ gaW := gaW_in (List.mem_append_right _ (List.mem_append_right _ (h))) g
theorem gaW_p1 {q : MethodName × Nat} (h : q ∈ lw_privs_1) : Cond.selects q.1.cls q.1 q.1 ∈ gaW := gaW_sel (List.mem_append_left _ h)
theorem gaW_p2 {q : MethodName × Nat} (h : q ∈ lw_privs_2) : Cond.selects q.1.cls q.1 q.1 ∈ gaW := gaW_sel (List.mem_append_right _ (h))
theorem ww_1_0 : Cond.initialized "WordgardenLaw" ∈ gaW := gaW_t1 (List.mem_of_getElem? (i := 0) rfl) rfl
theorem ww_1_1 : Cond.initialized "Wordgarden" ∈ gaW := gaW_t1 (List.mem_of_getElem? (i := 1) rfl) rfl
theorem ww_1_2 : Cond.initialized "Wordgarden$Rule" ∈ gaW := gaW_t1 (List.mem_of_getElem? (i := 2) rfl) rfl
theorem ww_1_3 : Cond.initialized "Wordgarden$Word" ∈ gaW := gaW_t1 (List.mem_of_getElem? (i := 3) rfl) rfl
theorem ww_1_4 : Cond.initialized "Wordgarden$Growth" ∈ gaW := gaW_t1 (List.mem_of_getElem? (i := 4) rfl) rfl
theorem ww_1_5 : Cond.initialized "java/lang/Throwable" ∈ gaW := gaW_t1 (List.mem_of_getElem? (i := 5) rfl) rfl
theorem ww_1_6 : Cond.initialized "java/lang/Exception" ∈ gaW := gaW_t1 (List.mem_of_getElem? (i := 6) rfl) rfl
theorem ww_1_7 : Cond.initialized "java/lang/RuntimeException" ∈ gaW := gaW_t1 (List.mem_of_getElem? (i := 7) rfl) rfl
theorem ww_1_8 : Cond.initialized "java/lang/IndexOutOfBoundsException" ∈ gaW := gaW_t1 (List.mem_of_getElem? (i := 8) rfl) rfl
theorem ww_1_9 : Cond.initialized "java/lang/IllegalArgumentException" ∈ gaW := gaW_t1 (List.mem_of_getElem? (i := 9) rfl) rfl
theorem ww_1_10 : Cond.initialized "Wordgarden$Reading" ∈ gaW := gaW_t1 (List.mem_of_getElem? (i := 10) rfl) rfl
theorem ww_1_11 : Cond.initialized "java/lang/Math" ∈ gaW := gaW_t1 (List.mem_of_getElem? (i := 11) rfl) rfl
theorem ww_1_12 : Cond.initialized "java/lang/Integer" ∈ gaW := gaW_t1 (List.mem_of_getElem? (i := 12) rfl) rfl
theorem ww_1_13 : Cond.initialized "java/lang/IllegalStateException" ∈ gaW := gaW_t1 (List.mem_of_getElem? (i := 13) rfl) rfl
theorem ww_1_14 : Cond.classLink "WordgardenLaw" 9 "Wordgarden" ∈ gaW := gaW_t1 (List.mem_of_getElem? (i := 14) rfl) rfl
theorem ww_1_15 : Cond.instantiable "Wordgarden" 9 ∈ gaW := gaW_t1 (List.mem_of_getElem? (i := 15) rfl) rfl
theorem ww_1_16 : Cond.methodLink "WordgardenLaw" 11 ⟨"Wordgarden", "<init>", "()V"⟩ ∈ gaW := gaW_t1 (List.mem_of_getElem? (i := 16) rfl) rfl
theorem ww_1_17 : Cond.instanceMethod ⟨"Wordgarden", "<init>", "()V"⟩ ∈ gaW := gaW_t1 (List.mem_of_getElem? (i := 17) rfl) rfl
theorem ww_1_18 : Cond.code ⟨"Wordgarden", "<init>", "()V"⟩ prog_1_method_1_code 2 (none : Option Jvm.ClassFile.FieldType) ∈ gaW := gaW_t1 (List.mem_of_getElem? (i := 18) rfl) rfl
theorem ww_1_19 : Cond.methodLink "Wordgarden" 1 ⟨"java/lang/Object", "<init>", "()V"⟩ ∈ gaW := gaW_t1 (List.mem_of_getElem? (i := 19) rfl) rfl
theorem ww_1_20 : Cond.instanceMethod ⟨"java/lang/Object", "<init>", "()V"⟩ ∈ gaW := gaW_t1 (List.mem_of_getElem? (i := 20) rfl) rfl
theorem ww_1_21 : Cond.code ⟨"java/lang/Object", "<init>", "()V"⟩ object_method_1_code 1 (none : Option Jvm.ClassFile.FieldType) ∈ gaW := gaW_t1 (List.mem_of_getElem? (i := 21) rfl) rfl
theorem ww_1_22 : Cond.classLink "Wordgarden" 9 "Wordgarden$Word" ∈ gaW := gaW_t1 (List.mem_of_getElem? (i := 22) rfl) rfl
theorem ww_1_24 : Cond.classLink "Wordgarden" 15 "Wordgarden$Growth" ∈ gaW := gaW_t1 (List.mem_of_getElem? (i := 24) rfl) rfl
theorem ww_1_26 : Cond.classLink "Wordgarden" 21 "Wordgarden$Rule" ∈ gaW := gaW_t1 (List.mem_of_getElem? (i := 26) rfl) rfl
theorem ww_1_27 : Cond.instantiable "Wordgarden$Rule" 3 ∈ gaW := gaW_t1 (List.mem_of_getElem? (i := 27) rfl) rfl
theorem ww_1_29 : Cond.instanceMethod ⟨"Wordgarden$Rule", "<init>", "()V"⟩ ∈ gaW := gaW_t1 (List.mem_of_getElem? (i := 29) rfl) rfl
theorem ww_1_30 : Cond.code ⟨"Wordgarden$Rule", "<init>", "()V"⟩ prog_4_method_1_code 1 (none : Option Jvm.ClassFile.FieldType) ∈ gaW := gaW_t1 (List.mem_of_getElem? (i := 30) rfl) rfl
theorem ww_1_31 : Cond.methodLink "Wordgarden$Rule" 3 ⟨"java/lang/Object", "<init>", "()V"⟩ ∈ gaW := gaW_t1 (List.mem_of_getElem? (i := 31) rfl) rfl
theorem ww_1_32 : Cond.classLink "Wordgarden$Rule" 9 "Wordgarden$Word" ∈ gaW := gaW_t1 (List.mem_of_getElem? (i := 32) rfl) rfl
theorem ww_1_33 : Cond.instantiable "Wordgarden$Word" 2 ∈ gaW := gaW_t1 (List.mem_of_getElem? (i := 33) rfl) rfl
theorem ww_1_35 : Cond.instanceMethod ⟨"Wordgarden$Word", "<init>", "()V"⟩ ∈ gaW := gaW_t1 (List.mem_of_getElem? (i := 35) rfl) rfl
theorem ww_1_36 : Cond.code ⟨"Wordgarden$Word", "<init>", "()V"⟩ prog_6_method_1_code 1 (none : Option Jvm.ClassFile.FieldType) ∈ gaW := gaW_t1 (List.mem_of_getElem? (i := 36) rfl) rfl
theorem ww_1_37 : Cond.methodLink "Wordgarden$Word" 3 ⟨"java/lang/Object", "<init>", "()V"⟩ ∈ gaW := gaW_t1 (List.mem_of_getElem? (i := 37) rfl) rfl
theorem ww_1_38 : Cond.fieldLink "Wordgarden$Word" 9 "Wordgarden$Word" "signs" "[Z" ∈ gaW := gaW_t1 (List.mem_of_getElem? (i := 38) rfl) rfl
theorem ww_1_41 : Cond.fieldLink "Wordgarden$Word" 15 "Wordgarden$Word" "many" "I" ∈ gaW := gaW_t1 (List.mem_of_getElem? (i := 41) rfl) rfl
theorem ww_1_44 : Cond.laysFinal "Wordgarden$Word" "Wordgarden$Word" "signs" "[Z" ∈ gaW := gaW_t1 (List.mem_of_getElem? (i := 44) rfl) rfl
theorem ww_1_46 : Cond.lays "Wordgarden$Word" "Wordgarden$Word" "many" "I" ∈ gaW := gaW_t1 (List.mem_of_getElem? (i := 46) rfl) rfl
theorem ww_1_48 : Cond.superclass "Wordgarden$Word" "java/lang/Object" ∈ gaW := gaW_t1 (List.mem_of_getElem? (i := 48) rfl) rfl
theorem ww_1_49 : Cond.arrayClass .boolean ∈ gaW := gaW_t1 (List.mem_of_getElem? (i := 49) rfl) rfl
theorem ww_1_50 : Cond.fieldLink "Wordgarden$Rule" 12 "Wordgarden$Rule" "forA" "LWordgarden$Word;" ∈ gaW := gaW_t1 (List.mem_of_getElem? (i := 50) rfl) rfl
theorem ww_1_51 : Cond.fieldLink "Wordgarden$Rule" 18 "Wordgarden$Rule" "forB" "LWordgarden$Word;" ∈ gaW := gaW_t1 (List.mem_of_getElem? (i := 51) rfl) rfl
theorem ww_1_52 : Cond.fieldLink "Wordgarden$Rule" 21 "Wordgarden$Rule" "isImageFrom" "[Z" ∈ gaW := gaW_t1 (List.mem_of_getElem? (i := 52) rfl) rfl
theorem ww_1_53 : Cond.laysFinal "Wordgarden$Rule" "Wordgarden$Rule" "forA" "LWordgarden$Word;" ∈ gaW := gaW_t1 (List.mem_of_getElem? (i := 53) rfl) rfl
theorem ww_1_55 : Cond.laysFinal "Wordgarden$Rule" "Wordgarden$Rule" "forB" "LWordgarden$Word;" ∈ gaW := gaW_t1 (List.mem_of_getElem? (i := 55) rfl) rfl
theorem ww_1_57 : Cond.laysFinal "Wordgarden$Rule" "Wordgarden$Rule" "isImageFrom" "[Z" ∈ gaW := gaW_t1 (List.mem_of_getElem? (i := 57) rfl) rfl
theorem ww_1_59 : Cond.superclass "Wordgarden$Rule" "java/lang/Object" ∈ gaW := gaW_t1 (List.mem_of_getElem? (i := 59) rfl) rfl
theorem ww_1_61 : Cond.instantiable "Wordgarden$Growth" 4 ∈ gaW := gaW_t1 (List.mem_of_getElem? (i := 61) rfl) rfl
theorem ww_1_62 : Cond.methodLink "Wordgarden" 36 ⟨"Wordgarden$Growth", "<init>", "()V"⟩ ∈ gaW := gaW_t1 (List.mem_of_getElem? (i := 62) rfl) rfl
theorem ww_1_63 : Cond.instanceMethod ⟨"Wordgarden$Growth", "<init>", "()V"⟩ ∈ gaW := gaW_t1 (List.mem_of_getElem? (i := 63) rfl) rfl
theorem ww_1_64 : Cond.code ⟨"Wordgarden$Growth", "<init>", "()V"⟩ prog_2_method_1_code 1 (none : Option Jvm.ClassFile.FieldType) ∈ gaW := gaW_t1 (List.mem_of_getElem? (i := 64) rfl) rfl
theorem ww_1_65 : Cond.methodLink "Wordgarden$Growth" 3 ⟨"java/lang/Object", "<init>", "()V"⟩ ∈ gaW := gaW_t1 (List.mem_of_getElem? (i := 65) rfl) rfl
theorem ww_1_66 : Cond.classLink "Wordgarden$Growth" 15 "Wordgarden$Word" ∈ gaW := gaW_t1 (List.mem_of_getElem? (i := 66) rfl) rfl
theorem ww_1_68 : Cond.methodLink "Wordgarden$Growth" 25 ⟨"Wordgarden$Growth", "begin", "()V"⟩ ∈ gaW := gaW_t1 (List.mem_of_getElem? (i := 68) rfl) rfl
theorem ww_1_69 : Cond.instanceMethod ⟨"Wordgarden$Growth", "begin", "()V"⟩ ∈ gaW := gaW_t1 (List.mem_of_getElem? (i := 69) rfl) rfl
theorem ww_1_70 : Cond.selects "Wordgarden$Growth" ⟨"Wordgarden$Growth", "begin", "()V"⟩ ⟨"Wordgarden$Growth", "begin", "()V"⟩ ∈ gaW := gaW_t1 (List.mem_of_getElem? (i := 70) rfl) rfl
theorem ww_1_71 : Cond.code ⟨"Wordgarden$Growth", "begin", "()V"⟩ prog_2_method_2_code 1 (none : Option Jvm.ClassFile.FieldType) ∈ gaW := gaW_t1 (List.mem_of_getElem? (i := 71) rfl) rfl
theorem ww_1_72 : Cond.methodLink "Wordgarden$Growth" 32 ⟨"Wordgarden$Word", "clear", "()V"⟩ ∈ gaW := gaW_t1 (List.mem_of_getElem? (i := 72) rfl) rfl
theorem ww_1_73 : Cond.instanceMethod ⟨"Wordgarden$Word", "clear", "()V"⟩ ∈ gaW := gaW_t1 (List.mem_of_getElem? (i := 73) rfl) rfl
theorem ww_1_74 : Cond.selects "Wordgarden$Word" ⟨"Wordgarden$Word", "clear", "()V"⟩ ⟨"Wordgarden$Word", "clear", "()V"⟩ ∈ gaW := gaW_t1 (List.mem_of_getElem? (i := 74) rfl) rfl
theorem ww_1_75 : Cond.code ⟨"Wordgarden$Word", "clear", "()V"⟩ prog_6_method_4_code 1 (none : Option Jvm.ClassFile.FieldType) ∈ gaW := gaW_t1 (List.mem_of_getElem? (i := 75) rfl) rfl
theorem ww_1_76 : Cond.methodLink "Wordgarden$Growth" 35 ⟨"Wordgarden$Word", "add", "(Z)V"⟩ ∈ gaW := gaW_t1 (List.mem_of_getElem? (i := 76) rfl) rfl
theorem ww_1_77 : Cond.instanceMethod ⟨"Wordgarden$Word", "add", "(Z)V"⟩ ∈ gaW := gaW_t1 (List.mem_of_getElem? (i := 77) rfl) rfl
theorem ww_1_78 : Cond.selects "Wordgarden$Word" ⟨"Wordgarden$Word", "add", "(Z)V"⟩ ⟨"Wordgarden$Word", "add", "(Z)V"⟩ ∈ gaW := gaW_t1 (List.mem_of_getElem? (i := 78) rfl) rfl
theorem ww_1_79 : Cond.code ⟨"Wordgarden$Word", "add", "(Z)V"⟩ prog_6_method_5_code 2 (none : Option Jvm.ClassFile.FieldType) ∈ gaW := gaW_t1 (List.mem_of_getElem? (i := 79) rfl) rfl
theorem ww_1_80 : Cond.fieldLink "Wordgarden$Growth" 9 "Wordgarden$Growth" "turnRow" "[I" ∈ gaW := gaW_t1 (List.mem_of_getElem? (i := 80) rfl) rfl
theorem ww_1_81 : Cond.fieldLink "Wordgarden$Growth" 28 "Wordgarden$Growth" "turnCount" "I" ∈ gaW := gaW_t1 (List.mem_of_getElem? (i := 81) rfl) rfl
theorem ww_1_83 : Cond.fieldLink "Wordgarden$Growth" 18 "Wordgarden$Growth" "elder" "LWordgarden$Word;" ∈ gaW := gaW_t1 (List.mem_of_getElem? (i := 83) rfl) rfl
theorem ww_1_85 : Cond.fieldLink "Wordgarden$Growth" 22 "Wordgarden$Growth" "younger" "LWordgarden$Word;" ∈ gaW := gaW_t1 (List.mem_of_getElem? (i := 85) rfl) rfl
theorem ww_1_87 : Cond.laysFinal "Wordgarden$Growth" "Wordgarden$Growth" "turnRow" "[I" ∈ gaW := gaW_t1 (List.mem_of_getElem? (i := 87) rfl) rfl
theorem ww_1_89 : Cond.lays "Wordgarden$Growth" "Wordgarden$Growth" "turnCount" "I" ∈ gaW := gaW_t1 (List.mem_of_getElem? (i := 89) rfl) rfl
theorem ww_1_91 : Cond.laysFinal "Wordgarden$Growth" "Wordgarden$Growth" "elder" "LWordgarden$Word;" ∈ gaW := gaW_t1 (List.mem_of_getElem? (i := 91) rfl) rfl
theorem ww_1_93 : Cond.laysFinal "Wordgarden$Growth" "Wordgarden$Growth" "younger" "LWordgarden$Word;" ∈ gaW := gaW_t1 (List.mem_of_getElem? (i := 93) rfl) rfl
theorem ww_1_95 : Cond.superclass "Wordgarden$Growth" "java/lang/Object" ∈ gaW := gaW_t1 (List.mem_of_getElem? (i := 95) rfl) rfl
theorem ww_1_96 : Cond.arrayClass .int ∈ gaW := gaW_t1 (List.mem_of_getElem? (i := 96) rfl) rfl
theorem ww_1_97 : Cond.fieldLink "Wordgarden" 11 "Wordgarden" "sheets" "[LWordgarden$Word;" ∈ gaW := gaW_t1 (List.mem_of_getElem? (i := 97) rfl) rfl
theorem ww_1_98 : Cond.fieldLink "Wordgarden" 17 "Wordgarden" "growths" "[LWordgarden$Growth;" ∈ gaW := gaW_t1 (List.mem_of_getElem? (i := 98) rfl) rfl
theorem ww_1_99 : Cond.fieldLink "Wordgarden" 24 "Wordgarden" "rule" "LWordgarden$Rule;" ∈ gaW := gaW_t1 (List.mem_of_getElem? (i := 99) rfl) rfl
theorem ww_1_100 : Cond.fieldLink "Wordgarden" 29 "Wordgarden" "bench" "LWordgarden$Word;" ∈ gaW := gaW_t1 (List.mem_of_getElem? (i := 100) rfl) rfl
theorem ww_1_101 : Cond.fieldLink "Wordgarden" 33 "Wordgarden" "secondBench" "LWordgarden$Word;" ∈ gaW := gaW_t1 (List.mem_of_getElem? (i := 101) rfl) rfl
theorem ww_1_102 : Cond.fieldLink "Wordgarden" 248 "Wordgarden" "sheetActs" "I" ∈ gaW := gaW_t1 (List.mem_of_getElem? (i := 102) rfl) rfl
theorem ww_1_103 : Cond.fieldLink "Wordgarden" 251 "Wordgarden" "growthActs" "I" ∈ gaW := gaW_t1 (List.mem_of_getElem? (i := 103) rfl) rfl
theorem ww_1_104 : Cond.fieldLink "Wordgarden" 254 "Wordgarden" "refusals" "I" ∈ gaW := gaW_t1 (List.mem_of_getElem? (i := 104) rfl) rfl
theorem ww_1_105 : Cond.fieldLink "Wordgarden" 257 "Wordgarden" "knocks" "I" ∈ gaW := gaW_t1 (List.mem_of_getElem? (i := 105) rfl) rfl
theorem ww_1_106 : Cond.laysFinal "Wordgarden" "Wordgarden" "sheets" "[LWordgarden$Word;" ∈ gaW := gaW_t1 (List.mem_of_getElem? (i := 106) rfl) rfl
theorem ww_1_108 : Cond.laysFinal "Wordgarden" "Wordgarden" "growths" "[LWordgarden$Growth;" ∈ gaW := gaW_t1 (List.mem_of_getElem? (i := 108) rfl) rfl
theorem ww_1_110 : Cond.laysFinal "Wordgarden" "Wordgarden" "rule" "LWordgarden$Rule;" ∈ gaW := gaW_t1 (List.mem_of_getElem? (i := 110) rfl) rfl
theorem ww_1_112 : Cond.laysFinal "Wordgarden" "Wordgarden" "bench" "LWordgarden$Word;" ∈ gaW := gaW_t1 (List.mem_of_getElem? (i := 112) rfl) rfl
theorem ww_1_114 : Cond.laysFinal "Wordgarden" "Wordgarden" "secondBench" "LWordgarden$Word;" ∈ gaW := gaW_t1 (List.mem_of_getElem? (i := 114) rfl) rfl
theorem ww_1_116 : Cond.lays "Wordgarden" "Wordgarden" "sheetActs" "I" ∈ gaW := gaW_t1 (List.mem_of_getElem? (i := 116) rfl) rfl
theorem ww_1_118 : Cond.lays "Wordgarden" "Wordgarden" "growthActs" "I" ∈ gaW := gaW_t1 (List.mem_of_getElem? (i := 118) rfl) rfl
theorem ww_1_120 : Cond.lays "Wordgarden" "Wordgarden" "refusals" "I" ∈ gaW := gaW_t1 (List.mem_of_getElem? (i := 120) rfl) rfl
theorem ww_1_122 : Cond.lays "Wordgarden" "Wordgarden" "knocks" "I" ∈ gaW := gaW_t1 (List.mem_of_getElem? (i := 122) rfl) rfl
theorem ww_1_124 : Cond.superclass "Wordgarden" "java/lang/Object" ∈ gaW := gaW_t1 (List.mem_of_getElem? (i := 124) rfl) rfl
theorem ww_1_125 : Cond.methodLink "WordgardenLaw" 36 ⟨"Wordgarden", "length", "(I)I"⟩ ∈ gaW := gaW_t1 (List.mem_of_getElem? (i := 125) rfl) rfl
theorem ww_1_126 : Cond.instanceMethod ⟨"Wordgarden", "length", "(I)I"⟩ ∈ gaW := gaW_t1 (List.mem_of_getElem? (i := 126) rfl) rfl
theorem ww_1_127 : Cond.selects "Wordgarden" ⟨"Wordgarden", "length", "(I)I"⟩ ⟨"Wordgarden", "length", "(I)I"⟩ ∈ gaW := gaW_t1 (List.mem_of_getElem? (i := 127) rfl) rfl
theorem ww_1_128 : Cond.code ⟨"Wordgarden", "length", "(I)I"⟩ prog_1_method_23_code 2 (some .int) ∈ gaW := gaW_t1 (List.mem_of_getElem? (i := 128) rfl) rfl
theorem ww_1_129 : Cond.methodLink "Wordgarden" 37 ⟨"Wordgarden", "wordOf", "(I)LWordgarden$Word;"⟩ ∈ gaW := gaW_t1 (List.mem_of_getElem? (i := 129) rfl) rfl
theorem ww_1_131 : Cond.instanceMethod ⟨"Wordgarden", "wordOf", "(I)LWordgarden$Word;"⟩ ∈ gaW := gaW_t1 (List.mem_of_getElem? (i := 131) rfl) rfl
theorem ww_1_132 : Cond.code ⟨"Wordgarden", "wordOf", "(I)LWordgarden$Word;"⟩ prog_1_method_49_code 2 (some (.object "Wordgarden$Word")) ∈ gaW := gaW_t1 (List.mem_of_getElem? (i := 132) rfl) rfl
theorem ww_1_133 : Cond.classLink "Wordgarden" 285 "java/lang/IndexOutOfBoundsException" ∈ gaW := gaW_t1 (List.mem_of_getElem? (i := 133) rfl) rfl
theorem ww_1_134 : Cond.instantiable "java/lang/IndexOutOfBoundsException" 6 ∈ gaW := gaW_t1 (List.mem_of_getElem? (i := 134) rfl) rfl
theorem ww_1_142 : Cond.selects "java/lang/IndexOutOfBoundsException" ⟨"java/lang/Throwable", "fillInStackTrace", "(I)Ljava/lang/Throwable;"⟩ ⟨"java/lang/Throwable", "fillInStackTrace", "(I)Ljava/lang/Throwable;"⟩ ∈ gaW := gaW_t1 (List.mem_of_getElem? (i := 142) rfl) rfl
theorem ww_1_143 : Cond.selects "java/lang/IndexOutOfBoundsException" ⟨"java/lang/Throwable", "fillInStackTrace", "()Ljava/lang/Throwable;"⟩ ⟨"java/lang/Throwable", "fillInStackTrace", "()Ljava/lang/Throwable;"⟩ ∈ gaW := gaW_t1 (List.mem_of_getElem? (i := 143) rfl) rfl
theorem ww_1_144 : Cond.lays "java/lang/IndexOutOfBoundsException" "java/lang/Throwable" "cause" "Ljava/lang/Throwable;" ∈ gaW := gaW_t1 (List.mem_of_getElem? (i := 144) rfl) rfl
theorem ww_1_145 : Cond.lays "java/lang/Throwable" "java/lang/Throwable" "cause" "Ljava/lang/Throwable;" ∈ gaW := gaW_t1 (List.mem_of_getElem? (i := 145) rfl) rfl
theorem ww_1_146 : Cond.lays "java/lang/IndexOutOfBoundsException" "java/lang/Throwable" "stackTrace" "[Ljava/lang/StackTraceElement;" ∈ gaW := gaW_t1 (List.mem_of_getElem? (i := 146) rfl) rfl
theorem ww_1_147 : Cond.lays "java/lang/Throwable" "java/lang/Throwable" "stackTrace" "[Ljava/lang/StackTraceElement;" ∈ gaW := gaW_t1 (List.mem_of_getElem? (i := 147) rfl) rfl
theorem ww_1_148 : Cond.lays "java/lang/IndexOutOfBoundsException" "java/lang/Throwable" "suppressedExceptions" "Ljava/util/List;" ∈ gaW := gaW_t1 (List.mem_of_getElem? (i := 148) rfl) rfl
theorem ww_1_149 : Cond.lays "java/lang/Throwable" "java/lang/Throwable" "suppressedExceptions" "Ljava/util/List;" ∈ gaW := gaW_t1 (List.mem_of_getElem? (i := 149) rfl) rfl
theorem ww_1_150 : Cond.lays "java/lang/IndexOutOfBoundsException" "java/lang/Throwable" "detailMessage" "Ljava/lang/String;" ∈ gaW := gaW_t1 (List.mem_of_getElem? (i := 150) rfl) rfl
theorem ww_1_151 : Cond.lays "java/lang/Throwable" "java/lang/Throwable" "detailMessage" "Ljava/lang/String;" ∈ gaW := gaW_t1 (List.mem_of_getElem? (i := 151) rfl) rfl
theorem ww_1_152 : Cond.lays "java/lang/IndexOutOfBoundsException" "java/lang/Throwable" "backtrace" "Ljava/lang/Object;" ∈ gaW := gaW_t1 (List.mem_of_getElem? (i := 152) rfl) rfl
theorem ww_1_153 : Cond.lays "java/lang/Throwable" "java/lang/Throwable" "backtrace" "Ljava/lang/Object;" ∈ gaW := gaW_t1 (List.mem_of_getElem? (i := 153) rfl) rfl
theorem ww_1_154 : Cond.fieldLink "java/lang/Throwable" 198 "java/lang/Throwable" "backtrace" "Ljava/lang/Object;" ∈ gaW := gaW_t1 (List.mem_of_getElem? (i := 154) rfl) rfl
theorem ww_1_155 : Cond.superclass "java/lang/Throwable" "java/lang/Object" ∈ gaW := gaW_t1 (List.mem_of_getElem? (i := 155) rfl) rfl
theorem ww_1_156 : Cond.instanceMethod ⟨"java/lang/Throwable", "<init>", "()V"⟩ ∈ gaW := gaW_t1 (List.mem_of_getElem? (i := 156) rfl) rfl
theorem ww_1_157 : Cond.code ⟨"java/lang/Throwable", "<init>", "()V"⟩ prog_17_method_1_code 1 (none : Option Jvm.ClassFile.FieldType) ∈ gaW := gaW_t1 (List.mem_of_getElem? (i := 157) rfl) rfl
theorem ww_1_158 : Cond.methodLink "java/lang/Throwable" 1 ⟨"java/lang/Object", "<init>", "()V"⟩ ∈ gaW := gaW_t1 (List.mem_of_getElem? (i := 158) rfl) rfl
theorem ww_1_159 : Cond.fieldLink "java/lang/Throwable" 13 "java/lang/Throwable" "UNASSIGNED_STACK" "[Ljava/lang/StackTraceElement;" ∈ gaW := gaW_t1 (List.mem_of_getElem? (i := 159) rfl) rfl
theorem ww_1_161 : Cond.fieldLink "java/lang/Throwable" 20 "java/lang/Throwable" "SUPPRESSED_SENTINEL" "Ljava/util/List;" ∈ gaW := gaW_t1 (List.mem_of_getElem? (i := 161) rfl) rfl
theorem ww_1_163 : Cond.methodLink "java/lang/Throwable" 27 ⟨"java/lang/Throwable", "fillInStackTrace", "()Ljava/lang/Throwable;"⟩ ∈ gaW := gaW_t1 (List.mem_of_getElem? (i := 163) rfl) rfl
theorem ww_1_164 : Cond.instanceMethod ⟨"java/lang/Throwable", "fillInStackTrace", "()Ljava/lang/Throwable;"⟩ ∈ gaW := gaW_t1 (List.mem_of_getElem? (i := 164) rfl) rfl
theorem ww_1_165 : Cond.sameMethod "java/lang/Throwable" "java/lang/Throwable" "fillInStackTrace" "()Ljava/lang/Throwable;" ∈ gaW := gaW_t1 (List.mem_of_getElem? (i := 165) rfl) rfl
theorem ww_1_166 : Cond.selects "java/lang/IllegalArgumentException" ⟨"java/lang/Throwable", "fillInStackTrace", "()Ljava/lang/Throwable;"⟩ ⟨"java/lang/Throwable", "fillInStackTrace", "()Ljava/lang/Throwable;"⟩ ∈ gaW := gaW_t1 (List.mem_of_getElem? (i := 166) rfl) rfl
theorem ww_1_167 : Cond.selects "java/lang/IllegalStateException" ⟨"java/lang/Throwable", "fillInStackTrace", "()Ljava/lang/Throwable;"⟩ ⟨"java/lang/Throwable", "fillInStackTrace", "()Ljava/lang/Throwable;"⟩ ∈ gaW := gaW_t1 (List.mem_of_getElem? (i := 167) rfl) rfl
theorem ww_1_168 : Cond.codeSync ⟨"java/lang/Throwable", "fillInStackTrace", "()Ljava/lang/Throwable;"⟩ prog_17_method_18_code 1 (some (.object "java/lang/Throwable")) ∈ gaW := gaW_t1 (List.mem_of_getElem? (i := 168) rfl) rfl
theorem ww_1_169 : Cond.methodLink "java/lang/Throwable" 202 ⟨"java/lang/Throwable", "fillInStackTrace", "(I)Ljava/lang/Throwable;"⟩ ∈ gaW := gaW_t1 (List.mem_of_getElem? (i := 169) rfl) rfl
theorem ww_1_171 : Cond.instanceMethod ⟨"java/lang/Throwable", "fillInStackTrace", "(I)Ljava/lang/Throwable;"⟩ ∈ gaW := gaW_t1 (List.mem_of_getElem? (i := 171) rfl) rfl
theorem ww_1_172 : Cond.instantiable "java/lang/Throwable" 6 ∈ gaW := gaW_t1 (List.mem_of_getElem? (i := 172) rfl) rfl
theorem ww_1_173 : Cond.native ⟨"java/lang/Throwable", "fillInStackTrace", "(I)Ljava/lang/Throwable;"⟩ ∈ gaW := gaW_t1 (List.mem_of_getElem? (i := 173) rfl) rfl
theorem ww_1_175 : Cond.methodLink "Wordgarden" 289 ⟨"java/lang/IndexOutOfBoundsException", "<init>", "(Ljava/lang/String;)V"⟩ ∈ gaW := gaW_t1 (List.mem_of_getElem? (i := 175) rfl) rfl
theorem ww_1_176 : Cond.instanceMethod ⟨"java/lang/IndexOutOfBoundsException", "<init>", "(Ljava/lang/String;)V"⟩ ∈ gaW := gaW_t1 (List.mem_of_getElem? (i := 176) rfl) rfl
theorem ww_1_177 : Cond.code ⟨"java/lang/IndexOutOfBoundsException", "<init>", "(Ljava/lang/String;)V"⟩ prog_12_method_2_code 2 (none : Option Jvm.ClassFile.FieldType) ∈ gaW := gaW_t1 (List.mem_of_getElem? (i := 177) rfl) rfl
theorem ww_1_178 : Cond.methodLink "java/lang/IndexOutOfBoundsException" 7 ⟨"java/lang/RuntimeException", "<init>", "(Ljava/lang/String;)V"⟩ ∈ gaW := gaW_t1 (List.mem_of_getElem? (i := 178) rfl) rfl
theorem ww_1_179 : Cond.instanceMethod ⟨"java/lang/RuntimeException", "<init>", "(Ljava/lang/String;)V"⟩ ∈ gaW := gaW_t1 (List.mem_of_getElem? (i := 179) rfl) rfl
theorem ww_1_180 : Cond.code ⟨"java/lang/RuntimeException", "<init>", "(Ljava/lang/String;)V"⟩ prog_15_method_2_code 2 (none : Option Jvm.ClassFile.FieldType) ∈ gaW := gaW_t1 (List.mem_of_getElem? (i := 180) rfl) rfl
theorem ww_1_181 : Cond.methodLink "java/lang/RuntimeException" 7 ⟨"java/lang/Exception", "<init>", "(Ljava/lang/String;)V"⟩ ∈ gaW := gaW_t1 (List.mem_of_getElem? (i := 181) rfl) rfl
theorem ww_1_182 : Cond.instanceMethod ⟨"java/lang/Exception", "<init>", "(Ljava/lang/String;)V"⟩ ∈ gaW := gaW_t1 (List.mem_of_getElem? (i := 182) rfl) rfl
theorem ww_1_183 : Cond.code ⟨"java/lang/Exception", "<init>", "(Ljava/lang/String;)V"⟩ prog_9_method_2_code 2 (none : Option Jvm.ClassFile.FieldType) ∈ gaW := gaW_t1 (List.mem_of_getElem? (i := 183) rfl) rfl
theorem ww_1_184 : Cond.methodLink "java/lang/Exception" 7 ⟨"java/lang/Throwable", "<init>", "(Ljava/lang/String;)V"⟩ ∈ gaW := gaW_t1 (List.mem_of_getElem? (i := 184) rfl) rfl
theorem ww_1_185 : Cond.instanceMethod ⟨"java/lang/Throwable", "<init>", "(Ljava/lang/String;)V"⟩ ∈ gaW := gaW_t1 (List.mem_of_getElem? (i := 185) rfl) rfl
theorem ww_1_186 : Cond.code ⟨"java/lang/Throwable", "<init>", "(Ljava/lang/String;)V"⟩ prog_17_method_2_code 2 (none : Option Jvm.ClassFile.FieldType) ∈ gaW := gaW_t1 (List.mem_of_getElem? (i := 186) rfl) rfl
theorem ww_1_187 : Cond.fieldLink "java/lang/Throwable" 198 "java/lang/Throwable" "backtrace" "Ljava/lang/Object;" ∈ gaW := gaW_t1 (List.mem_of_getElem? (i := 187) rfl) rfl
theorem ww_1_188 : Cond.fieldLink "java/lang/Throwable" 31 "java/lang/Throwable" "detailMessage" "Ljava/lang/String;" ∈ gaW := gaW_t1 (List.mem_of_getElem? (i := 188) rfl) rfl
theorem ww_1_189 : Cond.fieldLink "java/lang/Throwable" 7 "java/lang/Throwable" "cause" "Ljava/lang/Throwable;" ∈ gaW := gaW_t1 (List.mem_of_getElem? (i := 189) rfl) rfl
theorem ww_1_190 : Cond.fieldLink "java/lang/Throwable" 17 "java/lang/Throwable" "stackTrace" "[Ljava/lang/StackTraceElement;" ∈ gaW := gaW_t1 (List.mem_of_getElem? (i := 190) rfl) rfl
theorem ww_1_191 : Cond.fieldLink "java/lang/Throwable" 24 "java/lang/Throwable" "suppressedExceptions" "Ljava/util/List;" ∈ gaW := gaW_t1 (List.mem_of_getElem? (i := 191) rfl) rfl
theorem ww_1_196 : Cond.lays "java/lang/IndexOutOfBoundsException" "java/lang/Throwable" "depth" "I" ∈ gaW := gaW_t1 (List.mem_of_getElem? (i := 196) rfl) rfl
theorem ww_1_199 : Cond.superclass "java/lang/IndexOutOfBoundsException" "java/lang/RuntimeException" ∈ gaW := gaW_t1 (List.mem_of_getElem? (i := 199) rfl) rfl
theorem ww_1_200 : Cond.arrayClass .byte ∈ gaW := gaW_t1 (List.mem_of_getElem? (i := 200) rfl) rfl
theorem ww_1_201 : Cond.methodLink "WordgardenLaw" 32 ⟨"Wordgarden", "mirrors", "(I)I"⟩ ∈ gaW := gaW_t1 (List.mem_of_getElem? (i := 201) rfl) rfl
theorem ww_1_202 : Cond.instanceMethod ⟨"Wordgarden", "mirrors", "(I)I"⟩ ∈ gaW := gaW_t1 (List.mem_of_getElem? (i := 202) rfl) rfl
theorem ww_1_203 : Cond.selects "Wordgarden" ⟨"Wordgarden", "mirrors", "(I)I"⟩ ⟨"Wordgarden", "mirrors", "(I)I"⟩ ∈ gaW := gaW_t1 (List.mem_of_getElem? (i := 203) rfl) rfl
theorem ww_1_204 : Cond.code ⟨"Wordgarden", "mirrors", "(I)I"⟩ prog_1_method_35_code 2 (some .int) ∈ gaW := gaW_t1 (List.mem_of_getElem? (i := 204) rfl) rfl
theorem ww_1_205 : Cond.methodLink "Wordgarden" 215 ⟨"Wordgarden$Reading", "mirrorsOf", "(LWordgarden$Word;)I"⟩ ∈ gaW := gaW_t1 (List.mem_of_getElem? (i := 205) rfl) rfl
theorem ww_1_206 : Cond.static ⟨"Wordgarden$Reading", "mirrorsOf", "(LWordgarden$Word;)I"⟩ ∈ gaW := gaW_t1 (List.mem_of_getElem? (i := 206) rfl) rfl
theorem ww_1_207 : Cond.code ⟨"Wordgarden$Reading", "mirrorsOf", "(LWordgarden$Word;)I"⟩ prog_3_method_18_code 4 (some .int) ∈ gaW := gaW_t1 (List.mem_of_getElem? (i := 207) rfl) rfl
theorem ww_1_208 : Cond.methodLink "Wordgarden$Reading" 73 ⟨"Wordgarden$Reading", "isMirroredPart", "(LWordgarden$Word;II)Z"⟩ ∈ gaW := gaW_t1 (List.mem_of_getElem? (i := 208) rfl) rfl
theorem ww_1_209 : Cond.static ⟨"Wordgarden$Reading", "isMirroredPart", "(LWordgarden$Word;II)Z"⟩ ∈ gaW := gaW_t1 (List.mem_of_getElem? (i := 209) rfl) rfl
theorem ww_1_210 : Cond.code ⟨"Wordgarden$Reading", "isMirroredPart", "(LWordgarden$Word;II)Z"⟩ prog_3_method_9_code 4 (some .boolean) ∈ gaW := gaW_t1 (List.mem_of_getElem? (i := 210) rfl) rfl
theorem ww_1_211 : Cond.methodLink "Wordgarden$Reading" 18 ⟨"Wordgarden$Word", "isUp", "(I)Z"⟩ ∈ gaW := gaW_t1 (List.mem_of_getElem? (i := 211) rfl) rfl
theorem ww_1_212 : Cond.instanceMethod ⟨"Wordgarden$Word", "isUp", "(I)Z"⟩ ∈ gaW := gaW_t1 (List.mem_of_getElem? (i := 212) rfl) rfl
theorem ww_1_213 : Cond.selects "Wordgarden$Word" ⟨"Wordgarden$Word", "isUp", "(I)Z"⟩ ⟨"Wordgarden$Word", "isUp", "(I)Z"⟩ ∈ gaW := gaW_t1 (List.mem_of_getElem? (i := 213) rfl) rfl
theorem ww_1_214 : Cond.code ⟨"Wordgarden$Word", "isUp", "(I)Z"⟩ prog_6_method_2_code 2 (some .boolean) ∈ gaW := gaW_t1 (List.mem_of_getElem? (i := 214) rfl) rfl
theorem ww_1_215 : Cond.methodLink "Wordgarden$Reading" 62 ⟨"Wordgarden$Reading", "isReadEarlier", "(LWordgarden$Word;II)Z"⟩ ∈ gaW := gaW_t1 (List.mem_of_getElem? (i := 215) rfl) rfl
theorem ww_1_216 : Cond.static ⟨"Wordgarden$Reading", "isReadEarlier", "(LWordgarden$Word;II)Z"⟩ ∈ gaW := gaW_t1 (List.mem_of_getElem? (i := 216) rfl) rfl
theorem ww_1_217 : Cond.code ⟨"Wordgarden$Reading", "isReadEarlier", "(LWordgarden$Word;II)Z"⟩ prog_3_method_12_code 4 (some .boolean) ∈ gaW := gaW_t1 (List.mem_of_getElem? (i := 217) rfl) rfl
theorem ww_1_218 : Cond.methodLink "Wordgarden$Reading" 58 ⟨"Wordgarden$Reading", "ringOrder", "(LWordgarden$Word;III)I"⟩ ∈ gaW := gaW_t1 (List.mem_of_getElem? (i := 218) rfl) rfl
theorem ww_1_219 : Cond.static ⟨"Wordgarden$Reading", "ringOrder", "(LWordgarden$Word;III)I"⟩ ∈ gaW := gaW_t1 (List.mem_of_getElem? (i := 219) rfl) rfl
theorem ww_1_220 : Cond.code ⟨"Wordgarden$Reading", "ringOrder", "(LWordgarden$Word;III)I"⟩ prog_3_method_8_code 6 (some .int) ∈ gaW := gaW_t1 (List.mem_of_getElem? (i := 220) rfl) rfl
theorem ww_1_221 : Cond.methodLink "Wordgarden$Reading" 30 ⟨"Wordgarden$Reading", "isUpOnRing", "(LWordgarden$Word;I)Z"⟩ ∈ gaW := gaW_t1 (List.mem_of_getElem? (i := 221) rfl) rfl
theorem ww_1_222 : Cond.static ⟨"Wordgarden$Reading", "isUpOnRing", "(LWordgarden$Word;I)Z"⟩ ∈ gaW := gaW_t1 (List.mem_of_getElem? (i := 222) rfl) rfl
theorem ww_1_223 : Cond.code ⟨"Wordgarden$Reading", "isUpOnRing", "(LWordgarden$Word;I)Z"⟩ prog_3_method_3_code 2 (some .boolean) ∈ gaW := gaW_t1 (List.mem_of_getElem? (i := 223) rfl) rfl
theorem ww_1_224 : Cond.methodLink "WordgardenLaw" 39 ⟨"Wordgarden", "folds", "(I)I"⟩ ∈ gaW := gaW_t1 (List.mem_of_getElem? (i := 224) rfl) rfl
theorem ww_1_225 : Cond.instanceMethod ⟨"Wordgarden", "folds", "(I)I"⟩ ∈ gaW := gaW_t1 (List.mem_of_getElem? (i := 225) rfl) rfl
theorem ww_1_226 : Cond.selects "Wordgarden" ⟨"Wordgarden", "folds", "(I)I"⟩ ⟨"Wordgarden", "folds", "(I)I"⟩ ∈ gaW := gaW_t1 (List.mem_of_getElem? (i := 226) rfl) rfl
theorem ww_1_227 : Cond.code ⟨"Wordgarden", "folds", "(I)I"⟩ prog_1_method_36_code 2 (some .int) ∈ gaW := gaW_t1 (List.mem_of_getElem? (i := 227) rfl) rfl
theorem ww_1_228 : Cond.methodLink "Wordgarden" 218 ⟨"Wordgarden$Reading", "foldsOf", "(LWordgarden$Word;)I"⟩ ∈ gaW := gaW_t1 (List.mem_of_getElem? (i := 228) rfl) rfl
theorem ww_1_229 : Cond.static ⟨"Wordgarden$Reading", "foldsOf", "(LWordgarden$Word;)I"⟩ ∈ gaW := gaW_t1 (List.mem_of_getElem? (i := 229) rfl) rfl
theorem ww_1_230 : Cond.code ⟨"Wordgarden$Reading", "foldsOf", "(LWordgarden$Word;)I"⟩ prog_3_method_19_code 3 (some .int) ∈ gaW := gaW_t1 (List.mem_of_getElem? (i := 230) rfl) rfl
theorem ww_1_231 : Cond.methodLink "WordgardenLaw" 42 ⟨"Wordgarden", "isSound", "()Z"⟩ ∈ gaW := gaW_t1 (List.mem_of_getElem? (i := 231) rfl) rfl
theorem ww_1_232 : Cond.instanceMethod ⟨"Wordgarden", "isSound", "()Z"⟩ ∈ gaW := gaW_t1 (List.mem_of_getElem? (i := 232) rfl) rfl
theorem ww_1_233 : Cond.selects "Wordgarden" ⟨"Wordgarden", "isSound", "()Z"⟩ ⟨"Wordgarden", "isSound", "()Z"⟩ ∈ gaW := gaW_t1 (List.mem_of_getElem? (i := 233) rfl) rfl
theorem ww_1_234 : Cond.code ⟨"Wordgarden", "isSound", "()Z"⟩ prog_1_method_47_code 2 (some .boolean) ∈ gaW := gaW_t1 (List.mem_of_getElem? (i := 234) rfl) rfl
theorem ww_1_235 : Cond.methodLink "Wordgarden" 260 ⟨"Wordgarden", "isSheetSound", "(I)Z"⟩ ∈ gaW := gaW_t1 (List.mem_of_getElem? (i := 235) rfl) rfl
theorem ww_1_237 : Cond.instanceMethod ⟨"Wordgarden", "isSheetSound", "(I)Z"⟩ ∈ gaW := gaW_t1 (List.mem_of_getElem? (i := 237) rfl) rfl
theorem ww_1_238 : Cond.code ⟨"Wordgarden", "isSheetSound", "(I)Z"⟩ prog_1_method_63_code 3 (some .boolean) ∈ gaW := gaW_t1 (List.mem_of_getElem? (i := 238) rfl) rfl
theorem ww_1_239 : Cond.methodLink "Wordgarden" 101 ⟨"Wordgarden$Word", "takeTurned", "(LWordgarden$Word;)V"⟩ ∈ gaW := gaW_t1 (List.mem_of_getElem? (i := 239) rfl) rfl
theorem ww_2_0 : Cond.instanceMethod ⟨"Wordgarden$Word", "takeTurned", "(LWordgarden$Word;)V"⟩ ∈ gaW := gaW_t2 (List.mem_of_getElem? (i := 0) rfl) rfl
theorem ww_2_1 : Cond.selects "Wordgarden$Word" ⟨"Wordgarden$Word", "takeTurned", "(LWordgarden$Word;)V"⟩ ⟨"Wordgarden$Word", "takeTurned", "(LWordgarden$Word;)V"⟩ ∈ gaW := gaW_t2 (List.mem_of_getElem? (i := 1) rfl) rfl
theorem ww_2_2 : Cond.code ⟨"Wordgarden$Word", "takeTurned", "(LWordgarden$Word;)V"⟩ prog_6_method_8_code 3 (none : Option Jvm.ClassFile.FieldType) ∈ gaW := gaW_t2 (List.mem_of_getElem? (i := 2) rfl) rfl
theorem ww_2_3 : Cond.methodLink "Wordgarden$Word" 31 ⟨"Wordgarden$Word", "clear", "()V"⟩ ∈ gaW := gaW_t2 (List.mem_of_getElem? (i := 3) rfl) rfl
theorem ww_2_4 : Cond.methodLink "Wordgarden$Word" 19 ⟨"Wordgarden$Word", "isUp", "(I)Z"⟩ ∈ gaW := gaW_t2 (List.mem_of_getElem? (i := 4) rfl) rfl
theorem ww_2_5 : Cond.methodLink "Wordgarden$Word" 23 ⟨"Wordgarden$Word", "add", "(Z)V"⟩ ∈ gaW := gaW_t2 (List.mem_of_getElem? (i := 5) rfl) rfl
theorem ww_2_6 : Cond.methodLink "Wordgarden" 311 ⟨"Wordgarden", "count", "(IZ)I"⟩ ∈ gaW := gaW_t2 (List.mem_of_getElem? (i := 6) rfl) rfl
theorem ww_2_7 : Cond.instanceMethod ⟨"Wordgarden", "count", "(IZ)I"⟩ ∈ gaW := gaW_t2 (List.mem_of_getElem? (i := 7) rfl) rfl
theorem ww_2_8 : Cond.selects "Wordgarden" ⟨"Wordgarden", "count", "(IZ)I"⟩ ⟨"Wordgarden", "count", "(IZ)I"⟩ ∈ gaW := gaW_t2 (List.mem_of_getElem? (i := 8) rfl) rfl
theorem ww_2_9 : Cond.code ⟨"Wordgarden", "count", "(IZ)I"⟩ prog_1_method_26_code 5 (some .int) ∈ gaW := gaW_t2 (List.mem_of_getElem? (i := 9) rfl) rfl
theorem ww_2_10 : Cond.methodLink "Wordgarden" 108 ⟨"Wordgarden$Reading", "upsOf", "(LWordgarden$Word;)I"⟩ ∈ gaW := gaW_t2 (List.mem_of_getElem? (i := 10) rfl) rfl
theorem ww_2_11 : Cond.static ⟨"Wordgarden$Reading", "upsOf", "(LWordgarden$Word;)I"⟩ ∈ gaW := gaW_t2 (List.mem_of_getElem? (i := 11) rfl) rfl
theorem ww_2_12 : Cond.code ⟨"Wordgarden$Reading", "upsOf", "(LWordgarden$Word;)I"⟩ prog_3_method_5_code 3 (some .int) ∈ gaW := gaW_t2 (List.mem_of_getElem? (i := 12) rfl) rfl
theorem ww_2_13 : Cond.methodLink "Wordgarden" 195 ⟨"Wordgarden$Reading", "orderOf", "(LWordgarden$Word;LWordgarden$Word;)I"⟩ ∈ gaW := gaW_t2 (List.mem_of_getElem? (i := 13) rfl) rfl
theorem ww_2_14 : Cond.static ⟨"Wordgarden$Reading", "orderOf", "(LWordgarden$Word;LWordgarden$Word;)I"⟩ ∈ gaW := gaW_t2 (List.mem_of_getElem? (i := 14) rfl) rfl
theorem ww_2_15 : Cond.code ⟨"Wordgarden$Reading", "orderOf", "(LWordgarden$Word;LWordgarden$Word;)I"⟩ prog_3_method_7_code 4 (some .int) ∈ gaW := gaW_t2 (List.mem_of_getElem? (i := 15) rfl) rfl
theorem ww_2_16 : Cond.methodLink "Wordgarden$Reading" 36 ⟨"java/lang/Math", "min", "(II)I"⟩ ∈ gaW := gaW_t2 (List.mem_of_getElem? (i := 16) rfl) rfl
theorem ww_2_17 : Cond.static ⟨"java/lang/Math", "min", "(II)I"⟩ ∈ gaW := gaW_t2 (List.mem_of_getElem? (i := 17) rfl) rfl
theorem ww_2_18 : Cond.code ⟨"java/lang/Math", "min", "(II)I"⟩ prog_14_method_69_code 2 (some .int) ∈ gaW := gaW_t2 (List.mem_of_getElem? (i := 18) rfl) rfl
theorem ww_2_19 : Cond.methodLink "Wordgarden$Reading" 42 ⟨"java/lang/Integer", "compare", "(II)I"⟩ ∈ gaW := gaW_t2 (List.mem_of_getElem? (i := 19) rfl) rfl
theorem ww_2_20 : Cond.static ⟨"java/lang/Integer", "compare", "(II)I"⟩ ∈ gaW := gaW_t2 (List.mem_of_getElem? (i := 20) rfl) rfl
theorem ww_2_21 : Cond.code ⟨"java/lang/Integer", "compare", "(II)I"⟩ prog_13_method_40_code 2 (some .int) ∈ gaW := gaW_t2 (List.mem_of_getElem? (i := 21) rfl) rfl
theorem ww_2_22 : Cond.methodLink "Wordgarden" 263 ⟨"Wordgarden", "isGrowthSound", "(I)Z"⟩ ∈ gaW := gaW_t2 (List.mem_of_getElem? (i := 22) rfl) rfl
theorem ww_2_24 : Cond.instanceMethod ⟨"Wordgarden", "isGrowthSound", "(I)Z"⟩ ∈ gaW := gaW_t2 (List.mem_of_getElem? (i := 24) rfl) rfl
theorem ww_2_25 : Cond.code ⟨"Wordgarden", "isGrowthSound", "(I)Z"⟩ prog_1_method_64_code 7 (some .boolean) ∈ gaW := gaW_t2 (List.mem_of_getElem? (i := 25) rfl) rfl
theorem ww_2_26 : Cond.methodLink "Wordgarden" 140 ⟨"Wordgarden", "growthOf", "(I)LWordgarden$Growth;"⟩ ∈ gaW := gaW_t2 (List.mem_of_getElem? (i := 26) rfl) rfl
theorem ww_2_28 : Cond.instanceMethod ⟨"Wordgarden", "growthOf", "(I)LWordgarden$Growth;"⟩ ∈ gaW := gaW_t2 (List.mem_of_getElem? (i := 28) rfl) rfl
theorem ww_2_29 : Cond.code ⟨"Wordgarden", "growthOf", "(I)LWordgarden$Growth;"⟩ prog_1_method_50_code 2 (some (.object "Wordgarden$Growth")) ∈ gaW := gaW_t2 (List.mem_of_getElem? (i := 29) rfl) rfl
theorem ww_2_31 : Cond.methodLink "Wordgarden" 147 ⟨"Wordgarden$Growth", "layByRules", "(LWordgarden$Word;LWordgarden$Word;LWordgarden$Rule;)V"⟩ ∈ gaW := gaW_t2 (List.mem_of_getElem? (i := 31) rfl) rfl
theorem ww_2_32 : Cond.instanceMethod ⟨"Wordgarden$Growth", "layByRules", "(LWordgarden$Word;LWordgarden$Word;LWordgarden$Rule;)V"⟩ ∈ gaW := gaW_t2 (List.mem_of_getElem? (i := 32) rfl) rfl
theorem ww_2_33 : Cond.selects "Wordgarden$Growth" ⟨"Wordgarden$Growth", "layByRules", "(LWordgarden$Word;LWordgarden$Word;LWordgarden$Rule;)V"⟩ ⟨"Wordgarden$Growth", "layByRules", "(LWordgarden$Word;LWordgarden$Word;LWordgarden$Rule;)V"⟩ ∈ gaW := gaW_t2 (List.mem_of_getElem? (i := 33) rfl) rfl
theorem ww_2_34 : Cond.code ⟨"Wordgarden$Growth", "layByRules", "(LWordgarden$Word;LWordgarden$Word;LWordgarden$Rule;)V"⟩ prog_2_method_7_code 5 (none : Option Jvm.ClassFile.FieldType) ∈ gaW := gaW_t2 (List.mem_of_getElem? (i := 34) rfl) rfl
theorem ww_2_35 : Cond.methodLink "Wordgarden$Growth" 50 ⟨"Wordgarden$Growth", "turnAt", "(I)I"⟩ ∈ gaW := gaW_t2 (List.mem_of_getElem? (i := 35) rfl) rfl
theorem ww_2_36 : Cond.instanceMethod ⟨"Wordgarden$Growth", "turnAt", "(I)I"⟩ ∈ gaW := gaW_t2 (List.mem_of_getElem? (i := 36) rfl) rfl
theorem ww_2_37 : Cond.selects "Wordgarden$Growth" ⟨"Wordgarden$Growth", "turnAt", "(I)I"⟩ ⟨"Wordgarden$Growth", "turnAt", "(I)I"⟩ ∈ gaW := gaW_t2 (List.mem_of_getElem? (i := 37) rfl) rfl
theorem ww_2_38 : Cond.code ⟨"Wordgarden$Growth", "turnAt", "(I)I"⟩ prog_2_method_4_code 2 (some .int) ∈ gaW := gaW_t2 (List.mem_of_getElem? (i := 38) rfl) rfl
theorem ww_2_39 : Cond.methodLink "Wordgarden$Growth" 54 ⟨"Wordgarden$Growth", "codeForA", "(I)I"⟩ ∈ gaW := gaW_t2 (List.mem_of_getElem? (i := 39) rfl) rfl
theorem ww_2_40 : Cond.static ⟨"Wordgarden$Growth", "codeForA", "(I)I"⟩ ∈ gaW := gaW_t2 (List.mem_of_getElem? (i := 40) rfl) rfl
theorem ww_2_41 : Cond.code ⟨"Wordgarden$Growth", "codeForA", "(I)I"⟩ prog_2_method_8_code 1 (some .int) ∈ gaW := gaW_t2 (List.mem_of_getElem? (i := 41) rfl) rfl
theorem ww_2_42 : Cond.fieldLink "Wordgarden$Growth" 66 "Wordgarden$Growth" "CODES_FOR_A" "[I" ∈ gaW := gaW_t2 (List.mem_of_getElem? (i := 42) rfl) rfl
theorem ww_2_44 : Cond.methodLink "Wordgarden$Growth" 57 ⟨"Wordgarden$Rule", "take", "(II)V"⟩ ∈ gaW := gaW_t2 (List.mem_of_getElem? (i := 44) rfl) rfl
theorem ww_2_45 : Cond.instanceMethod ⟨"Wordgarden$Rule", "take", "(II)V"⟩ ∈ gaW := gaW_t2 (List.mem_of_getElem? (i := 45) rfl) rfl
theorem ww_2_46 : Cond.selects "Wordgarden$Rule" ⟨"Wordgarden$Rule", "take", "(II)V"⟩ ⟨"Wordgarden$Rule", "take", "(II)V"⟩ ∈ gaW := gaW_t2 (List.mem_of_getElem? (i := 46) rfl) rfl
theorem ww_2_47 : Cond.code ⟨"Wordgarden$Rule", "take", "(II)V"⟩ prog_4_method_2_code 3 (none : Option Jvm.ClassFile.FieldType) ∈ gaW := gaW_t2 (List.mem_of_getElem? (i := 47) rfl) rfl
theorem ww_2_48 : Cond.methodLink "Wordgarden$Rule" 25 ⟨"Wordgarden$Word", "takeCode", "(I)V"⟩ ∈ gaW := gaW_t2 (List.mem_of_getElem? (i := 48) rfl) rfl
theorem ww_2_49 : Cond.instanceMethod ⟨"Wordgarden$Word", "takeCode", "(I)V"⟩ ∈ gaW := gaW_t2 (List.mem_of_getElem? (i := 49) rfl) rfl
theorem ww_2_50 : Cond.selects "Wordgarden$Word" ⟨"Wordgarden$Word", "takeCode", "(I)V"⟩ ⟨"Wordgarden$Word", "takeCode", "(I)V"⟩ ∈ gaW := gaW_t2 (List.mem_of_getElem? (i := 50) rfl) rfl
theorem ww_2_51 : Cond.code ⟨"Wordgarden$Word", "takeCode", "(I)V"⟩ prog_6_method_9_code 5 (none : Option Jvm.ClassFile.FieldType) ∈ gaW := gaW_t2 (List.mem_of_getElem? (i := 51) rfl) rfl
theorem ww_2_52 : Cond.methodLink "Wordgarden$Growth" 62 ⟨"Wordgarden$Rule", "layImage", "(LWordgarden$Word;LWordgarden$Word;)V"⟩ ∈ gaW := gaW_t2 (List.mem_of_getElem? (i := 52) rfl) rfl
theorem ww_2_53 : Cond.instanceMethod ⟨"Wordgarden$Rule", "layImage", "(LWordgarden$Word;LWordgarden$Word;)V"⟩ ∈ gaW := gaW_t2 (List.mem_of_getElem? (i := 53) rfl) rfl
theorem ww_2_54 : Cond.selects "Wordgarden$Rule" ⟨"Wordgarden$Rule", "layImage", "(LWordgarden$Word;LWordgarden$Word;)V"⟩ ⟨"Wordgarden$Rule", "layImage", "(LWordgarden$Word;LWordgarden$Word;)V"⟩ ∈ gaW := gaW_t2 (List.mem_of_getElem? (i := 54) rfl) rfl
theorem ww_2_55 : Cond.code ⟨"Wordgarden$Rule", "layImage", "(LWordgarden$Word;LWordgarden$Word;)V"⟩ prog_4_method_5_code 5 (none : Option Jvm.ClassFile.FieldType) ∈ gaW := gaW_t2 (List.mem_of_getElem? (i := 55) rfl) rfl
theorem ww_2_56 : Cond.methodLink "Wordgarden$Rule" 43 ⟨"Wordgarden$Word", "clear", "()V"⟩ ∈ gaW := gaW_t2 (List.mem_of_getElem? (i := 56) rfl) rfl
theorem ww_2_57 : Cond.methodLink "Wordgarden$Rule" 46 ⟨"Wordgarden$Word", "isUp", "(I)Z"⟩ ∈ gaW := gaW_t2 (List.mem_of_getElem? (i := 57) rfl) rfl
theorem ww_2_58 : Cond.methodLink "Wordgarden$Rule" 50 ⟨"Wordgarden$Word", "addPart", "(LWordgarden$Word;II)V"⟩ ∈ gaW := gaW_t2 (List.mem_of_getElem? (i := 58) rfl) rfl
theorem ww_2_59 : Cond.instanceMethod ⟨"Wordgarden$Word", "addPart", "(LWordgarden$Word;II)V"⟩ ∈ gaW := gaW_t2 (List.mem_of_getElem? (i := 59) rfl) rfl
theorem ww_2_60 : Cond.selects "Wordgarden$Word" ⟨"Wordgarden$Word", "addPart", "(LWordgarden$Word;II)V"⟩ ⟨"Wordgarden$Word", "addPart", "(LWordgarden$Word;II)V"⟩ ∈ gaW := gaW_t2 (List.mem_of_getElem? (i := 60) rfl) rfl
theorem ww_2_61 : Cond.code ⟨"Wordgarden$Word", "addPart", "(LWordgarden$Word;II)V"⟩ prog_6_method_6_code 5 (none : Option Jvm.ClassFile.FieldType) ∈ gaW := gaW_t2 (List.mem_of_getElem? (i := 61) rfl) rfl
theorem ww_2_62 : Cond.methodLink "Wordgarden$Growth" 46 ⟨"Wordgarden$Word", "take", "(LWordgarden$Word;)V"⟩ ∈ gaW := gaW_t2 (List.mem_of_getElem? (i := 62) rfl) rfl
theorem ww_2_63 : Cond.instanceMethod ⟨"Wordgarden$Word", "take", "(LWordgarden$Word;)V"⟩ ∈ gaW := gaW_t2 (List.mem_of_getElem? (i := 63) rfl) rfl
theorem ww_2_64 : Cond.selects "Wordgarden$Word" ⟨"Wordgarden$Word", "take", "(LWordgarden$Word;)V"⟩ ⟨"Wordgarden$Word", "take", "(LWordgarden$Word;)V"⟩ ∈ gaW := gaW_t2 (List.mem_of_getElem? (i := 64) rfl) rfl
theorem ww_2_65 : Cond.code ⟨"Wordgarden$Word", "take", "(LWordgarden$Word;)V"⟩ prog_6_method_7_code 3 (none : Option Jvm.ClassFile.FieldType) ∈ gaW := gaW_t2 (List.mem_of_getElem? (i := 65) rfl) rfl
theorem ww_2_66 : Cond.methodLink "Wordgarden$Word" 27 ⟨"Wordgarden$Word", "put", "(IZ)V"⟩ ∈ gaW := gaW_t2 (List.mem_of_getElem? (i := 66) rfl) rfl
theorem ww_2_67 : Cond.instanceMethod ⟨"Wordgarden$Word", "put", "(IZ)V"⟩ ∈ gaW := gaW_t2 (List.mem_of_getElem? (i := 67) rfl) rfl
theorem ww_2_68 : Cond.selects "Wordgarden$Word" ⟨"Wordgarden$Word", "put", "(IZ)V"⟩ ⟨"Wordgarden$Word", "put", "(IZ)V"⟩ ∈ gaW := gaW_t2 (List.mem_of_getElem? (i := 68) rfl) rfl
theorem ww_2_69 : Cond.code ⟨"Wordgarden$Word", "put", "(IZ)V"⟩ prog_6_method_3_code 3 (none : Option Jvm.ClassFile.FieldType) ∈ gaW := gaW_t2 (List.mem_of_getElem? (i := 69) rfl) rfl
theorem ww_2_70 : Cond.methodLink "Wordgarden" 151 ⟨"Wordgarden$Growth", "layByLine", "(LWordgarden$Word;)V"⟩ ∈ gaW := gaW_t2 (List.mem_of_getElem? (i := 70) rfl) rfl
theorem ww_2_71 : Cond.instanceMethod ⟨"Wordgarden$Growth", "layByLine", "(LWordgarden$Word;)V"⟩ ∈ gaW := gaW_t2 (List.mem_of_getElem? (i := 71) rfl) rfl
theorem ww_2_72 : Cond.selects "Wordgarden$Growth" ⟨"Wordgarden$Growth", "layByLine", "(LWordgarden$Word;)V"⟩ ⟨"Wordgarden$Growth", "layByLine", "(LWordgarden$Word;)V"⟩ ∈ gaW := gaW_t2 (List.mem_of_getElem? (i := 72) rfl) rfl
theorem ww_2_73 : Cond.code ⟨"Wordgarden$Growth", "layByLine", "(LWordgarden$Word;)V"⟩ prog_2_method_9_code 10 (none : Option Jvm.ClassFile.FieldType) ∈ gaW := gaW_t2 (List.mem_of_getElem? (i := 73) rfl) rfl
theorem ww_2_75 : Cond.static ⟨"Wordgarden", "isUpOnLine", "(IIII)Z"⟩ ∈ gaW := gaW_t2 (List.mem_of_getElem? (i := 75) rfl) rfl
theorem ww_2_76 : Cond.code ⟨"Wordgarden", "isUpOnLine", "(IIII)Z"⟩ prog_1_method_62_code 4 (some .boolean) ∈ gaW := gaW_t2 (List.mem_of_getElem? (i := 76) rfl) rfl
theorem ww_2_77 : Cond.methodLink "Wordgarden$Growth" 73 ⟨"Wordgarden$Growth", "addLineEnd", "(LWordgarden$Word;)V"⟩ ∈ gaW := gaW_t2 (List.mem_of_getElem? (i := 77) rfl) rfl
theorem ww_2_79 : Cond.instanceMethod ⟨"Wordgarden$Growth", "addLineEnd", "(LWordgarden$Word;)V"⟩ ∈ gaW := gaW_t2 (List.mem_of_getElem? (i := 79) rfl) rfl
theorem ww_2_80 : Cond.code ⟨"Wordgarden$Growth", "addLineEnd", "(LWordgarden$Word;)V"⟩ prog_2_method_10_code 3 (none : Option Jvm.ClassFile.FieldType) ∈ gaW := gaW_t2 (List.mem_of_getElem? (i := 80) rfl) rfl
theorem ww_2_81 : Cond.methodLink "Wordgarden" 315 ⟨"Wordgarden", "cross", "(I)I"⟩ ∈ gaW := gaW_t2 (List.mem_of_getElem? (i := 81) rfl) rfl
theorem ww_2_82 : Cond.instanceMethod ⟨"Wordgarden", "cross", "(I)I"⟩ ∈ gaW := gaW_t2 (List.mem_of_getElem? (i := 82) rfl) rfl
theorem ww_2_83 : Cond.selects "Wordgarden" ⟨"Wordgarden", "cross", "(I)I"⟩ ⟨"Wordgarden", "cross", "(I)I"⟩ ∈ gaW := gaW_t2 (List.mem_of_getElem? (i := 83) rfl) rfl
theorem ww_2_84 : Cond.code ⟨"Wordgarden", "cross", "(I)I"⟩ prog_1_method_43_code 3 (some .int) ∈ gaW := gaW_t2 (List.mem_of_getElem? (i := 84) rfl) rfl
theorem ww_2_85 : Cond.methodLink "Wordgarden" 318 ⟨"Wordgarden", "alike", "(I)I"⟩ ∈ gaW := gaW_t2 (List.mem_of_getElem? (i := 85) rfl) rfl
theorem ww_2_86 : Cond.instanceMethod ⟨"Wordgarden", "alike", "(I)I"⟩ ∈ gaW := gaW_t2 (List.mem_of_getElem? (i := 86) rfl) rfl
theorem ww_2_87 : Cond.selects "Wordgarden" ⟨"Wordgarden", "alike", "(I)I"⟩ ⟨"Wordgarden", "alike", "(I)I"⟩ ∈ gaW := gaW_t2 (List.mem_of_getElem? (i := 87) rfl) rfl
theorem ww_2_88 : Cond.code ⟨"Wordgarden", "alike", "(I)I"⟩ prog_1_method_44_code 3 (some .int) ∈ gaW := gaW_t2 (List.mem_of_getElem? (i := 88) rfl) rfl
theorem ww_2_89 : Cond.methodLink "Wordgarden" 245 ⟨"Wordgarden$Reading", "firstUnlikeJoined", "(LWordgarden$Word;LWordgarden$Word;)I"⟩ ∈ gaW := gaW_t2 (List.mem_of_getElem? (i := 89) rfl) rfl
theorem ww_2_90 : Cond.static ⟨"Wordgarden$Reading", "firstUnlikeJoined", "(LWordgarden$Word;LWordgarden$Word;)I"⟩ ∈ gaW := gaW_t2 (List.mem_of_getElem? (i := 90) rfl) rfl
theorem ww_2_91 : Cond.code ⟨"Wordgarden$Reading", "firstUnlikeJoined", "(LWordgarden$Word;LWordgarden$Word;)I"⟩ prog_3_method_21_code 3 (some .int) ∈ gaW := gaW_t2 (List.mem_of_getElem? (i := 91) rfl) rfl
theorem ww_2_92 : Cond.methodLink "Wordgarden$Reading" 76 ⟨"Wordgarden$Reading", "isUpJoined", "(LWordgarden$Word;LWordgarden$Word;I)Z"⟩ ∈ gaW := gaW_t2 (List.mem_of_getElem? (i := 92) rfl) rfl
theorem ww_2_93 : Cond.static ⟨"Wordgarden$Reading", "isUpJoined", "(LWordgarden$Word;LWordgarden$Word;I)Z"⟩ ∈ gaW := gaW_t2 (List.mem_of_getElem? (i := 93) rfl) rfl
theorem ww_2_94 : Cond.code ⟨"Wordgarden$Reading", "isUpJoined", "(LWordgarden$Word;LWordgarden$Word;I)Z"⟩ prog_3_method_22_code 3 (some .boolean) ∈ gaW := gaW_t2 (List.mem_of_getElem? (i := 94) rfl) rfl
theorem ww_2_95 : Cond.methodLink "WordgardenLaw" 28 ⟨"Wordgarden", "digest", "()J"⟩ ∈ gaW := gaW_t2 (List.mem_of_getElem? (i := 95) rfl) rfl
theorem ww_2_96 : Cond.instanceMethod ⟨"Wordgarden", "digest", "()J"⟩ ∈ gaW := gaW_t2 (List.mem_of_getElem? (i := 96) rfl) rfl
theorem ww_2_97 : Cond.selects "Wordgarden" ⟨"Wordgarden", "digest", "()J"⟩ ⟨"Wordgarden", "digest", "()J"⟩ ∈ gaW := gaW_t2 (List.mem_of_getElem? (i := 97) rfl) rfl
theorem ww_2_98 : Cond.code ⟨"Wordgarden", "digest", "()J"⟩ prog_1_method_48_code 4 (some .long) ∈ gaW := gaW_t2 (List.mem_of_getElem? (i := 98) rfl) rfl
theorem ww_2_99 : Cond.constantLong "Wordgarden" 266 (7979 : Int64) ∈ gaW := gaW_t2 (List.mem_of_getElem? (i := 99) rfl) rfl
theorem ww_2_100 : Cond.methodLink "Wordgarden" 268 ⟨"Wordgarden", "digestSheet", "(JI)J"⟩ ∈ gaW := gaW_t2 (List.mem_of_getElem? (i := 100) rfl) rfl
theorem ww_2_102 : Cond.instanceMethod ⟨"Wordgarden", "digestSheet", "(JI)J"⟩ ∈ gaW := gaW_t2 (List.mem_of_getElem? (i := 102) rfl) rfl
theorem ww_2_103 : Cond.code ⟨"Wordgarden", "digestSheet", "(JI)J"⟩ prog_1_method_66_code 8 (some .long) ∈ gaW := gaW_t2 (List.mem_of_getElem? (i := 103) rfl) rfl
theorem ww_2_104 : Cond.methodLink "Wordgarden" 278 ⟨"Wordgarden", "digestWith", "(JJ)J"⟩ ∈ gaW := gaW_t2 (List.mem_of_getElem? (i := 104) rfl) rfl
theorem ww_2_105 : Cond.static ⟨"Wordgarden", "digestWith", "(JJ)J"⟩ ∈ gaW := gaW_t2 (List.mem_of_getElem? (i := 105) rfl) rfl
theorem ww_2_106 : Cond.code ⟨"Wordgarden", "digestWith", "(JJ)J"⟩ prog_1_method_65_code 4 (some .long) ∈ gaW := gaW_t2 (List.mem_of_getElem? (i := 106) rfl) rfl
theorem ww_2_107 : Cond.constantLong "Wordgarden" 321 (31 : Int64) ∈ gaW := gaW_t2 (List.mem_of_getElem? (i := 107) rfl) rfl
theorem ww_2_108 : Cond.methodLink "Wordgarden" 71 ⟨"Wordgarden$Word", "isUp", "(I)Z"⟩ ∈ gaW := gaW_t2 (List.mem_of_getElem? (i := 108) rfl) rfl
theorem ww_2_109 : Cond.constantLong "Wordgarden" 323 (2 : Int64) ∈ gaW := gaW_t2 (List.mem_of_getElem? (i := 109) rfl) rfl
theorem ww_2_110 : Cond.methodLink "Wordgarden" 325 ⟨"Wordgarden", "isMirrored", "(I)Z"⟩ ∈ gaW := gaW_t2 (List.mem_of_getElem? (i := 110) rfl) rfl
theorem ww_2_111 : Cond.instanceMethod ⟨"Wordgarden", "isMirrored", "(I)Z"⟩ ∈ gaW := gaW_t2 (List.mem_of_getElem? (i := 111) rfl) rfl
theorem ww_2_112 : Cond.selects "Wordgarden" ⟨"Wordgarden", "isMirrored", "(I)Z"⟩ ⟨"Wordgarden", "isMirrored", "(I)Z"⟩ ∈ gaW := gaW_t2 (List.mem_of_getElem? (i := 112) rfl) rfl
theorem ww_2_113 : Cond.code ⟨"Wordgarden", "isMirrored", "(I)Z"⟩ prog_1_method_30_code 3 (some .boolean) ∈ gaW := gaW_t2 (List.mem_of_getElem? (i := 113) rfl) rfl
theorem ww_2_114 : Cond.methodLink "Wordgarden" 198 ⟨"Wordgarden$Reading", "isMirroredPart", "(LWordgarden$Word;II)Z"⟩ ∈ gaW := gaW_t2 (List.mem_of_getElem? (i := 114) rfl) rfl
theorem ww_2_115 : Cond.methodLink "Wordgarden" 79 ⟨"Wordgarden", "oneIf", "(Z)I"⟩ ∈ gaW := gaW_t2 (List.mem_of_getElem? (i := 115) rfl) rfl
theorem ww_2_116 : Cond.static ⟨"Wordgarden", "oneIf", "(Z)I"⟩ ∈ gaW := gaW_t2 (List.mem_of_getElem? (i := 116) rfl) rfl
theorem ww_2_117 : Cond.code ⟨"Wordgarden", "oneIf", "(Z)I"⟩ prog_1_method_54_code 1 (some .int) ∈ gaW := gaW_t2 (List.mem_of_getElem? (i := 117) rfl) rfl
theorem ww_2_118 : Cond.methodLink "Wordgarden" 328 ⟨"Wordgarden", "times", "(I)I"⟩ ∈ gaW := gaW_t2 (List.mem_of_getElem? (i := 118) rfl) rfl
theorem ww_2_119 : Cond.instanceMethod ⟨"Wordgarden", "times", "(I)I"⟩ ∈ gaW := gaW_t2 (List.mem_of_getElem? (i := 119) rfl) rfl
theorem ww_2_120 : Cond.selects "Wordgarden" ⟨"Wordgarden", "times", "(I)I"⟩ ⟨"Wordgarden", "times", "(I)I"⟩ ∈ gaW := gaW_t2 (List.mem_of_getElem? (i := 120) rfl) rfl
theorem ww_2_121 : Cond.code ⟨"Wordgarden", "times", "(I)I"⟩ prog_1_method_33_code 2 (some .int) ∈ gaW := gaW_t2 (List.mem_of_getElem? (i := 121) rfl) rfl
theorem ww_2_122 : Cond.methodLink "Wordgarden" 209 ⟨"Wordgarden$Reading", "timesOf", "(LWordgarden$Word;)I"⟩ ∈ gaW := gaW_t2 (List.mem_of_getElem? (i := 122) rfl) rfl
theorem ww_2_123 : Cond.static ⟨"Wordgarden$Reading", "timesOf", "(LWordgarden$Word;)I"⟩ ∈ gaW := gaW_t2 (List.mem_of_getElem? (i := 123) rfl) rfl
theorem ww_2_124 : Cond.code ⟨"Wordgarden$Reading", "timesOf", "(LWordgarden$Word;)I"⟩ prog_3_method_14_code 3 (some .int) ∈ gaW := gaW_t2 (List.mem_of_getElem? (i := 124) rfl) rfl
theorem ww_2_125 : Cond.methodLink "Wordgarden$Reading" 66 ⟨"Wordgarden$Reading", "timesWith", "(LWordgarden$Word;I)I"⟩ ∈ gaW := gaW_t2 (List.mem_of_getElem? (i := 125) rfl) rfl
theorem ww_2_126 : Cond.static ⟨"Wordgarden$Reading", "timesWith", "(LWordgarden$Word;I)I"⟩ ∈ gaW := gaW_t2 (List.mem_of_getElem? (i := 126) rfl) rfl
theorem ww_2_127 : Cond.code ⟨"Wordgarden$Reading", "timesWith", "(LWordgarden$Word;I)I"⟩ prog_3_method_15_code 5 (some .int) ∈ gaW := gaW_t2 (List.mem_of_getElem? (i := 127) rfl) rfl
theorem ww_2_128 : Cond.methodLink "Wordgarden$Reading" 47 ⟨"java/lang/Math", "max", "(II)I"⟩ ∈ gaW := gaW_t2 (List.mem_of_getElem? (i := 128) rfl) rfl
theorem ww_2_129 : Cond.static ⟨"java/lang/Math", "max", "(II)I"⟩ ∈ gaW := gaW_t2 (List.mem_of_getElem? (i := 129) rfl) rfl
theorem ww_2_130 : Cond.code ⟨"java/lang/Math", "max", "(II)I"⟩ prog_14_method_65_code 2 (some .int) ∈ gaW := gaW_t2 (List.mem_of_getElem? (i := 130) rfl) rfl
theorem ww_2_131 : Cond.methodLink "Wordgarden" 331 ⟨"Wordgarden", "overlaps", "(I)I"⟩ ∈ gaW := gaW_t2 (List.mem_of_getElem? (i := 131) rfl) rfl
theorem ww_2_132 : Cond.instanceMethod ⟨"Wordgarden", "overlaps", "(I)I"⟩ ∈ gaW := gaW_t2 (List.mem_of_getElem? (i := 132) rfl) rfl
theorem ww_2_133 : Cond.selects "Wordgarden" ⟨"Wordgarden", "overlaps", "(I)I"⟩ ⟨"Wordgarden", "overlaps", "(I)I"⟩ ∈ gaW := gaW_t2 (List.mem_of_getElem? (i := 133) rfl) rfl
theorem ww_2_134 : Cond.code ⟨"Wordgarden", "overlaps", "(I)I"⟩ prog_1_method_34_code 2 (some .int) ∈ gaW := gaW_t2 (List.mem_of_getElem? (i := 134) rfl) rfl
theorem ww_2_135 : Cond.methodLink "Wordgarden" 212 ⟨"Wordgarden$Reading", "overlapsOf", "(LWordgarden$Word;)I"⟩ ∈ gaW := gaW_t2 (List.mem_of_getElem? (i := 135) rfl) rfl
theorem ww_2_136 : Cond.static ⟨"Wordgarden$Reading", "overlapsOf", "(LWordgarden$Word;)I"⟩ ∈ gaW := gaW_t2 (List.mem_of_getElem? (i := 136) rfl) rfl
theorem ww_2_137 : Cond.code ⟨"Wordgarden$Reading", "overlapsOf", "(LWordgarden$Word;)I"⟩ prog_3_method_16_code 4 (some .int) ∈ gaW := gaW_t2 (List.mem_of_getElem? (i := 137) rfl) rfl
theorem ww_2_138 : Cond.methodLink "Wordgarden$Reading" 70 ⟨"Wordgarden$Reading", "isOverlap", "(LWordgarden$Word;II)Z"⟩ ∈ gaW := gaW_t2 (List.mem_of_getElem? (i := 138) rfl) rfl
theorem ww_2_139 : Cond.static ⟨"Wordgarden$Reading", "isOverlap", "(LWordgarden$Word;II)Z"⟩ ∈ gaW := gaW_t2 (List.mem_of_getElem? (i := 139) rfl) rfl
theorem ww_2_140 : Cond.code ⟨"Wordgarden$Reading", "isOverlap", "(LWordgarden$Word;II)Z"⟩ prog_3_method_17_code 4 (some .boolean) ∈ gaW := gaW_t2 (List.mem_of_getElem? (i := 140) rfl) rfl
theorem ww_2_141 : Cond.methodLink "Wordgarden" 334 ⟨"Wordgarden", "folds", "(I)I"⟩ ∈ gaW := gaW_t2 (List.mem_of_getElem? (i := 141) rfl) rfl
theorem ww_2_142 : Cond.methodLink "Wordgarden" 337 ⟨"Wordgarden", "least", "(I)I"⟩ ∈ gaW := gaW_t2 (List.mem_of_getElem? (i := 142) rfl) rfl
theorem ww_2_143 : Cond.instanceMethod ⟨"Wordgarden", "least", "(I)I"⟩ ∈ gaW := gaW_t2 (List.mem_of_getElem? (i := 143) rfl) rfl
theorem ww_2_144 : Cond.selects "Wordgarden" ⟨"Wordgarden", "least", "(I)I"⟩ ⟨"Wordgarden", "least", "(I)I"⟩ ∈ gaW := gaW_t2 (List.mem_of_getElem? (i := 144) rfl) rfl
theorem ww_2_145 : Cond.code ⟨"Wordgarden", "least", "(I)I"⟩ prog_1_method_37_code 2 (some .int) ∈ gaW := gaW_t2 (List.mem_of_getElem? (i := 145) rfl) rfl
theorem ww_2_146 : Cond.methodLink "Wordgarden" 221 ⟨"Wordgarden$Reading", "leastOf", "(LWordgarden$Word;)I"⟩ ∈ gaW := gaW_t2 (List.mem_of_getElem? (i := 146) rfl) rfl
theorem ww_2_147 : Cond.static ⟨"Wordgarden$Reading", "leastOf", "(LWordgarden$Word;)I"⟩ ∈ gaW := gaW_t2 (List.mem_of_getElem? (i := 147) rfl) rfl
theorem ww_2_148 : Cond.code ⟨"Wordgarden$Reading", "leastOf", "(LWordgarden$Word;)I"⟩ prog_3_method_20_code 3 (some .int) ∈ gaW := gaW_t2 (List.mem_of_getElem? (i := 148) rfl) rfl
theorem ww_2_149 : Cond.methodLink "Wordgarden" 272 ⟨"Wordgarden", "digestGrowth", "(JI)J"⟩ ∈ gaW := gaW_t2 (List.mem_of_getElem? (i := 149) rfl) rfl
theorem ww_2_151 : Cond.instanceMethod ⟨"Wordgarden", "digestGrowth", "(JI)J"⟩ ∈ gaW := gaW_t2 (List.mem_of_getElem? (i := 151) rfl) rfl
theorem ww_2_152 : Cond.code ⟨"Wordgarden", "digestGrowth", "(JI)J"⟩ prog_1_method_67_code 8 (some .long) ∈ gaW := gaW_t2 (List.mem_of_getElem? (i := 152) rfl) rfl
theorem ww_2_153 : Cond.methodLink "Wordgarden" 227 ⟨"Wordgarden$Growth", "turnAt", "(I)I"⟩ ∈ gaW := gaW_t2 (List.mem_of_getElem? (i := 153) rfl) rfl
theorem ww_2_154 : Cond.methodLink "Wordgarden" 340 ⟨"Wordgarden", "size", "(IZ)I"⟩ ∈ gaW := gaW_t2 (List.mem_of_getElem? (i := 154) rfl) rfl
theorem ww_2_155 : Cond.instanceMethod ⟨"Wordgarden", "size", "(IZ)I"⟩ ∈ gaW := gaW_t2 (List.mem_of_getElem? (i := 155) rfl) rfl
theorem ww_2_156 : Cond.selects "Wordgarden" ⟨"Wordgarden", "size", "(IZ)I"⟩ ⟨"Wordgarden", "size", "(IZ)I"⟩ ∈ gaW := gaW_t2 (List.mem_of_getElem? (i := 156) rfl) rfl
theorem ww_2_157 : Cond.code ⟨"Wordgarden", "size", "(IZ)I"⟩ prog_1_method_41_code 3 (some .int) ∈ gaW := gaW_t2 (List.mem_of_getElem? (i := 157) rfl) rfl
theorem ww_2_158 : Cond.methodLink "Wordgarden" 238 ⟨"Wordgarden$Growth", "wordBy", "(Z)LWordgarden$Word;"⟩ ∈ gaW := gaW_t2 (List.mem_of_getElem? (i := 158) rfl) rfl
theorem ww_2_159 : Cond.instanceMethod ⟨"Wordgarden$Growth", "wordBy", "(Z)LWordgarden$Word;"⟩ ∈ gaW := gaW_t2 (List.mem_of_getElem? (i := 159) rfl) rfl
theorem ww_2_160 : Cond.selects "Wordgarden$Growth" ⟨"Wordgarden$Growth", "wordBy", "(Z)LWordgarden$Word;"⟩ ⟨"Wordgarden$Growth", "wordBy", "(Z)LWordgarden$Word;"⟩ ∈ gaW := gaW_t2 (List.mem_of_getElem? (i := 160) rfl) rfl
theorem ww_2_161 : Cond.code ⟨"Wordgarden$Growth", "wordBy", "(Z)LWordgarden$Word;"⟩ prog_2_method_3_code 2 (some (.object "Wordgarden$Word")) ∈ gaW := gaW_t2 (List.mem_of_getElem? (i := 161) rfl) rfl
theorem ww_2_162 : Cond.methodLink "Wordgarden" 343 ⟨"Wordgarden", "ups", "(IZ)I"⟩ ∈ gaW := gaW_t2 (List.mem_of_getElem? (i := 162) rfl) rfl
theorem ww_2_163 : Cond.instanceMethod ⟨"Wordgarden", "ups", "(IZ)I"⟩ ∈ gaW := gaW_t2 (List.mem_of_getElem? (i := 163) rfl) rfl
theorem ww_2_164 : Cond.selects "Wordgarden" ⟨"Wordgarden", "ups", "(IZ)I"⟩ ⟨"Wordgarden", "ups", "(IZ)I"⟩ ∈ gaW := gaW_t2 (List.mem_of_getElem? (i := 164) rfl) rfl
theorem ww_2_165 : Cond.code ⟨"Wordgarden", "ups", "(IZ)I"⟩ prog_1_method_42_code 3 (some .int) ∈ gaW := gaW_t2 (List.mem_of_getElem? (i := 165) rfl) rfl
theorem ww_2_166 : Cond.methodLink "Wordgarden" 275 ⟨"Wordgarden", "house", "(I)I"⟩ ∈ gaW := gaW_t2 (List.mem_of_getElem? (i := 166) rfl) rfl
theorem ww_2_167 : Cond.instanceMethod ⟨"Wordgarden", "house", "(I)I"⟩ ∈ gaW := gaW_t2 (List.mem_of_getElem? (i := 167) rfl) rfl
theorem ww_2_168 : Cond.selects "Wordgarden" ⟨"Wordgarden", "house", "(I)I"⟩ ⟨"Wordgarden", "house", "(I)I"⟩ ∈ gaW := gaW_t2 (List.mem_of_getElem? (i := 168) rfl) rfl
theorem ww_2_169 : Cond.code ⟨"Wordgarden", "house", "(I)I"⟩ prog_1_method_45_code 2 (some .int) ∈ gaW := gaW_t2 (List.mem_of_getElem? (i := 169) rfl) rfl
theorem ww_2_170 : Cond.methodLink "Wordgarden" 42 ⟨"Wordgarden", "needArgument", "(Z)V"⟩ ∈ gaW := gaW_t2 (List.mem_of_getElem? (i := 170) rfl) rfl
theorem ww_2_171 : Cond.static ⟨"Wordgarden", "needArgument", "(Z)V"⟩ ∈ gaW := gaW_t2 (List.mem_of_getElem? (i := 171) rfl) rfl
theorem ww_2_172 : Cond.code ⟨"Wordgarden", "needArgument", "(Z)V"⟩ prog_1_method_52_code 1 (none : Option Jvm.ClassFile.FieldType) ∈ gaW := gaW_t2 (List.mem_of_getElem? (i := 172) rfl) rfl
theorem ww_2_173 : Cond.classLink "Wordgarden" 296 "java/lang/IllegalArgumentException" ∈ gaW := gaW_t2 (List.mem_of_getElem? (i := 173) rfl) rfl
theorem ww_2_174 : Cond.instantiable "java/lang/IllegalArgumentException" 6 ∈ gaW := gaW_t2 (List.mem_of_getElem? (i := 174) rfl) rfl
theorem ww_2_176 : Cond.selects "java/lang/IllegalArgumentException" ⟨"java/lang/Throwable", "fillInStackTrace", "(I)Ljava/lang/Throwable;"⟩ ⟨"java/lang/Throwable", "fillInStackTrace", "(I)Ljava/lang/Throwable;"⟩ ∈ gaW := gaW_t2 (List.mem_of_getElem? (i := 176) rfl) rfl
theorem ww_2_177 : Cond.lays "java/lang/IllegalArgumentException" "java/lang/Throwable" "cause" "Ljava/lang/Throwable;" ∈ gaW := gaW_t2 (List.mem_of_getElem? (i := 177) rfl) rfl
theorem ww_2_178 : Cond.lays "java/lang/IllegalArgumentException" "java/lang/Throwable" "stackTrace" "[Ljava/lang/StackTraceElement;" ∈ gaW := gaW_t2 (List.mem_of_getElem? (i := 178) rfl) rfl
theorem ww_2_179 : Cond.lays "java/lang/IllegalArgumentException" "java/lang/Throwable" "suppressedExceptions" "Ljava/util/List;" ∈ gaW := gaW_t2 (List.mem_of_getElem? (i := 179) rfl) rfl
theorem ww_2_180 : Cond.lays "java/lang/IllegalArgumentException" "java/lang/Throwable" "detailMessage" "Ljava/lang/String;" ∈ gaW := gaW_t2 (List.mem_of_getElem? (i := 180) rfl) rfl
theorem ww_2_181 : Cond.lays "java/lang/IllegalArgumentException" "java/lang/Throwable" "backtrace" "Ljava/lang/Object;" ∈ gaW := gaW_t2 (List.mem_of_getElem? (i := 181) rfl) rfl
theorem ww_2_183 : Cond.methodLink "Wordgarden" 300 ⟨"java/lang/IllegalArgumentException", "<init>", "(Ljava/lang/String;)V"⟩ ∈ gaW := gaW_t2 (List.mem_of_getElem? (i := 183) rfl) rfl
theorem ww_2_184 : Cond.instanceMethod ⟨"java/lang/IllegalArgumentException", "<init>", "(Ljava/lang/String;)V"⟩ ∈ gaW := gaW_t2 (List.mem_of_getElem? (i := 184) rfl) rfl
theorem ww_2_185 : Cond.code ⟨"java/lang/IllegalArgumentException", "<init>", "(Ljava/lang/String;)V"⟩ prog_10_method_2_code 2 (none : Option Jvm.ClassFile.FieldType) ∈ gaW := gaW_t2 (List.mem_of_getElem? (i := 185) rfl) rfl
theorem ww_2_186 : Cond.methodLink "java/lang/IllegalArgumentException" 7 ⟨"java/lang/RuntimeException", "<init>", "(Ljava/lang/String;)V"⟩ ∈ gaW := gaW_t2 (List.mem_of_getElem? (i := 186) rfl) rfl
theorem ww_2_187 : Cond.lays "java/lang/IllegalArgumentException" "java/lang/Throwable" "depth" "I" ∈ gaW := gaW_t2 (List.mem_of_getElem? (i := 187) rfl) rfl
theorem ww_2_188 : Cond.superclass "java/lang/IllegalArgumentException" "java/lang/RuntimeException" ∈ gaW := gaW_t2 (List.mem_of_getElem? (i := 188) rfl) rfl
theorem ww_2_189 : Cond.methodLink "Wordgarden" 282 ⟨"Wordgarden", "isSound", "()Z"⟩ ∈ gaW := gaW_t2 (List.mem_of_getElem? (i := 189) rfl) rfl
theorem ww_2_190 : Cond.methodLink "WordgardenLaw" 12 ⟨"WordgardenLaw", "cell", "([II)I"⟩ ∈ gaW := gaW_t2 (List.mem_of_getElem? (i := 190) rfl) rfl
theorem ww_2_191 : Cond.static ⟨"WordgardenLaw", "cell", "([II)I"⟩ ∈ gaW := gaW_t2 (List.mem_of_getElem? (i := 191) rfl) rfl
theorem ww_2_192 : Cond.code ⟨"WordgardenLaw", "cell", "([II)I"⟩ method_3_code 2 (some .int) ∈ gaW := gaW_t2 (List.mem_of_getElem? (i := 192) rfl) rfl
theorem ww_2_193 : Cond.constant "WordgardenLaw" 8 (790386105) ∈ gaW := gaW_t2 (List.mem_of_getElem? (i := 193) rfl) rfl
theorem ww_2_194 : Cond.methodLink "WordgardenLaw" 18 ⟨"WordgardenLaw", "isGrown", "(LWordgarden;II)Z"⟩ ∈ gaW := gaW_t2 (List.mem_of_getElem? (i := 194) rfl) rfl
theorem ww_2_195 : Cond.static ⟨"WordgardenLaw", "isGrown", "(LWordgarden;II)Z"⟩ ∈ gaW := gaW_t2 (List.mem_of_getElem? (i := 195) rfl) rfl
theorem ww_2_196 : Cond.code ⟨"WordgardenLaw", "isGrown", "(LWordgarden;II)Z"⟩ method_5_code 8 (some .boolean) ∈ gaW := gaW_t2 (List.mem_of_getElem? (i := 196) rfl) rfl
theorem ww_2_197 : Cond.methodLink "WordgardenLaw" 46 ⟨"Wordgarden", "fresh", "(I)I"⟩ ∈ gaW := gaW_t2 (List.mem_of_getElem? (i := 197) rfl) rfl
theorem ww_2_198 : Cond.instanceMethod ⟨"Wordgarden", "fresh", "(I)I"⟩ ∈ gaW := gaW_t2 (List.mem_of_getElem? (i := 198) rfl) rfl
theorem ww_2_199 : Cond.selects "Wordgarden" ⟨"Wordgarden", "fresh", "(I)I"⟩ ⟨"Wordgarden", "fresh", "(I)I"⟩ ∈ gaW := gaW_t2 (List.mem_of_getElem? (i := 199) rfl) rfl
theorem ww_2_200 : Cond.code ⟨"Wordgarden", "fresh", "(I)I"⟩ prog_1_method_22_code 4 (some .int) ∈ gaW := gaW_t2 (List.mem_of_getElem? (i := 200) rfl) rfl
theorem ww_2_201 : Cond.methodLink "Wordgarden" 184 ⟨"Wordgarden$Growth", "begin", "()V"⟩ ∈ gaW := gaW_t2 (List.mem_of_getElem? (i := 201) rfl) rfl
theorem ww_2_202 : Cond.methodLink "Wordgarden" 175 ⟨"Wordgarden", "growthActDone", "(I)I"⟩ ∈ gaW := gaW_t2 (List.mem_of_getElem? (i := 202) rfl) rfl
theorem ww_2_204 : Cond.instanceMethod ⟨"Wordgarden", "growthActDone", "(I)I"⟩ ∈ gaW := gaW_t2 (List.mem_of_getElem? (i := 204) rfl) rfl
theorem ww_2_205 : Cond.code ⟨"Wordgarden", "growthActDone", "(I)I"⟩ prog_1_method_56_code 2 (some .int) ∈ gaW := gaW_t2 (List.mem_of_getElem? (i := 205) rfl) rfl
theorem ww_2_206 : Cond.methodLink "WordgardenLaw" 49 ⟨"WordgardenLaw", "below", "(II)I"⟩ ∈ gaW := gaW_t2 (List.mem_of_getElem? (i := 206) rfl) rfl
theorem ww_2_207 : Cond.static ⟨"WordgardenLaw", "below", "(II)I"⟩ ∈ gaW := gaW_t2 (List.mem_of_getElem? (i := 207) rfl) rfl
theorem ww_2_208 : Cond.code ⟨"WordgardenLaw", "below", "(II)I"⟩ method_2_code 2 (some .int) ∈ gaW := gaW_t2 (List.mem_of_getElem? (i := 208) rfl) rfl
theorem ww_2_209 : Cond.constant "WordgardenLaw" 7 (2147483647) ∈ gaW := gaW_t2 (List.mem_of_getElem? (i := 209) rfl) rfl
theorem ww_2_210 : Cond.methodLink "WordgardenLaw" 53 ⟨"Wordgarden", "grow", "(II)I"⟩ ∈ gaW := gaW_t2 (List.mem_of_getElem? (i := 210) rfl) rfl
theorem ww_2_211 : Cond.instanceMethod ⟨"Wordgarden", "grow", "(II)I"⟩ ∈ gaW := gaW_t2 (List.mem_of_getElem? (i := 211) rfl) rfl
theorem ww_2_212 : Cond.selects "Wordgarden" ⟨"Wordgarden", "grow", "(II)I"⟩ ⟨"Wordgarden", "grow", "(II)I"⟩ ∈ gaW := gaW_t2 (List.mem_of_getElem? (i := 212) rfl) rfl
theorem ww_2_213 : Cond.code ⟨"Wordgarden", "grow", "(II)I"⟩ prog_1_method_20_code 4 (some .int) ∈ gaW := gaW_t2 (List.mem_of_getElem? (i := 213) rfl) rfl
theorem ww_2_214 : Cond.methodLink "Wordgarden" 171 ⟨"Wordgarden$Growth", "goOn", "(ILWordgarden$Word;)Z"⟩ ∈ gaW := gaW_t2 (List.mem_of_getElem? (i := 214) rfl) rfl
theorem ww_2_215 : Cond.instanceMethod ⟨"Wordgarden$Growth", "goOn", "(ILWordgarden$Word;)Z"⟩ ∈ gaW := gaW_t2 (List.mem_of_getElem? (i := 215) rfl) rfl
theorem ww_2_216 : Cond.selects "Wordgarden$Growth" ⟨"Wordgarden$Growth", "goOn", "(ILWordgarden$Word;)Z"⟩ ⟨"Wordgarden$Growth", "goOn", "(ILWordgarden$Word;)Z"⟩ ∈ gaW := gaW_t2 (List.mem_of_getElem? (i := 216) rfl) rfl
theorem ww_2_217 : Cond.code ⟨"Wordgarden$Growth", "goOn", "(ILWordgarden$Word;)Z"⟩ prog_2_method_5_code 5 (some .boolean) ∈ gaW := gaW_t2 (List.mem_of_getElem? (i := 217) rfl) rfl
theorem ww_2_218 : Cond.methodLink "Wordgarden$Growth" 42 ⟨"Wordgarden$Word", "addPart", "(LWordgarden$Word;II)V"⟩ ∈ gaW := gaW_t2 (List.mem_of_getElem? (i := 218) rfl) rfl
theorem ww_2_219 : Cond.methodLink "Wordgarden" 121 ⟨"Wordgarden", "refuse", "()I"⟩ ∈ gaW := gaW_t2 (List.mem_of_getElem? (i := 219) rfl) rfl
theorem ww_2_221 : Cond.instanceMethod ⟨"Wordgarden", "refuse", "()I"⟩ ∈ gaW := gaW_t2 (List.mem_of_getElem? (i := 221) rfl) rfl
theorem ww_2_222 : Cond.code ⟨"Wordgarden", "refuse", "()I"⟩ prog_1_method_57_code 1 (some .int) ∈ gaW := gaW_t2 (List.mem_of_getElem? (i := 222) rfl) rfl
theorem ww_2_223 : Cond.methodLink "WordgardenLaw" 56 ⟨"Wordgarden", "size", "(IZ)I"⟩ ∈ gaW := gaW_t2 (List.mem_of_getElem? (i := 223) rfl) rfl
theorem ww_2_224 : Cond.methodLink "WordgardenLaw" 60 ⟨"Wordgarden", "lay", "(III)I"⟩ ∈ gaW := gaW_t2 (List.mem_of_getElem? (i := 224) rfl) rfl
theorem ww_2_225 : Cond.instanceMethod ⟨"Wordgarden", "lay", "(III)I"⟩ ∈ gaW := gaW_t2 (List.mem_of_getElem? (i := 225) rfl) rfl
theorem ww_2_226 : Cond.selects "Wordgarden" ⟨"Wordgarden", "lay", "(III)I"⟩ ⟨"Wordgarden", "lay", "(III)I"⟩ ∈ gaW := gaW_t2 (List.mem_of_getElem? (i := 226) rfl) rfl
theorem ww_2_227 : Cond.code ⟨"Wordgarden", "lay", "(III)I"⟩ prog_1_method_17_code 6 (some .int) ∈ gaW := gaW_t2 (List.mem_of_getElem? (i := 227) rfl) rfl
theorem ww_2_228 : Cond.methodLink "Wordgarden" 97 ⟨"Wordgarden$Word", "take", "(LWordgarden$Word;)V"⟩ ∈ gaW := gaW_t2 (List.mem_of_getElem? (i := 228) rfl) rfl
theorem ww_2_229 : Cond.methodLink "Wordgarden" 54 ⟨"Wordgarden", "sheetActDone", "(I)I"⟩ ∈ gaW := gaW_t2 (List.mem_of_getElem? (i := 229) rfl) rfl
theorem ww_2_231 : Cond.instanceMethod ⟨"Wordgarden", "sheetActDone", "(I)I"⟩ ∈ gaW := gaW_t2 (List.mem_of_getElem? (i := 231) rfl) rfl
theorem ww_2_232 : Cond.code ⟨"Wordgarden", "sheetActDone", "(I)I"⟩ prog_1_method_55_code 2 (some .int) ∈ gaW := gaW_t2 (List.mem_of_getElem? (i := 232) rfl) rfl
theorem ww_2_233 : Cond.methodLink "WordgardenLaw" 64 ⟨"Wordgarden", "order", "(II)I"⟩ ∈ gaW := gaW_t2 (List.mem_of_getElem? (i := 233) rfl) rfl
theorem ww_2_234 : Cond.instanceMethod ⟨"Wordgarden", "order", "(II)I"⟩ ∈ gaW := gaW_t2 (List.mem_of_getElem? (i := 234) rfl) rfl
theorem ww_2_235 : Cond.selects "Wordgarden" ⟨"Wordgarden", "order", "(II)I"⟩ ⟨"Wordgarden", "order", "(II)I"⟩ ∈ gaW := gaW_t2 (List.mem_of_getElem? (i := 235) rfl) rfl
theorem ww_2_236 : Cond.code ⟨"Wordgarden", "order", "(II)I"⟩ prog_1_method_29_code 3 (some .int) ∈ gaW := gaW_t2 (List.mem_of_getElem? (i := 236) rfl) rfl
theorem ww_2_237 : Cond.methodLink "WordgardenLaw" 67 ⟨"Wordgarden", "cross", "(I)I"⟩ ∈ gaW := gaW_t2 (List.mem_of_getElem? (i := 237) rfl) rfl
theorem ww_2_238 : Cond.methodLink "WordgardenLaw" 70 ⟨"Wordgarden", "alike", "(I)I"⟩ ∈ gaW := gaW_t2 (List.mem_of_getElem? (i := 238) rfl) rfl
theorem ww_2_239 : Cond.methodLink "WordgardenLaw" 73 ⟨"Wordgarden", "times", "(I)I"⟩ ∈ gaW := gaW_t2 (List.mem_of_getElem? (i := 239) rfl) rfl
theorem ww_3_0 : Cond.methodLink "WordgardenLaw" 76 ⟨"Wordgarden", "spread", "(IIZ)I"⟩ ∈ gaW := gaW_t3 (List.mem_of_getElem? (i := 0) rfl) rfl
theorem ww_3_1 : Cond.instanceMethod ⟨"Wordgarden", "spread", "(IIZ)I"⟩ ∈ gaW := gaW_t3 (List.mem_of_getElem? (i := 1) rfl) rfl
theorem ww_3_2 : Cond.selects "Wordgarden" ⟨"Wordgarden", "spread", "(IIZ)I"⟩ ⟨"Wordgarden", "spread", "(IIZ)I"⟩ ∈ gaW := gaW_t3 (List.mem_of_getElem? (i := 2) rfl) rfl
theorem ww_3_3 : Cond.code ⟨"Wordgarden", "spread", "(IIZ)I"⟩ prog_1_method_31_code 5 (some .int) ∈ gaW := gaW_t3 (List.mem_of_getElem? (i := 3) rfl) rfl
theorem ww_3_4 : Cond.methodLink "Wordgarden" 202 ⟨"Wordgarden$Reading", "spreadOf", "(LWordgarden$Word;IZ)I"⟩ ∈ gaW := gaW_t3 (List.mem_of_getElem? (i := 4) rfl) rfl
theorem ww_3_5 : Cond.static ⟨"Wordgarden$Reading", "spreadOf", "(LWordgarden$Word;IZ)I"⟩ ∈ gaW := gaW_t3 (List.mem_of_getElem? (i := 5) rfl) rfl
theorem ww_3_6 : Cond.code ⟨"Wordgarden$Reading", "spreadOf", "(LWordgarden$Word;IZ)I"⟩ prog_3_method_11_code 8 (some .int) ∈ gaW := gaW_t3 (List.mem_of_getElem? (i := 6) rfl) rfl
theorem ww_3_7 : Cond.methodLink "Wordgarden$Reading" 50 ⟨"Wordgarden$Reading", "beginnings", "(LWordgarden$Word;IZ)I"⟩ ∈ gaW := gaW_t3 (List.mem_of_getElem? (i := 7) rfl) rfl
theorem ww_3_8 : Cond.static ⟨"Wordgarden$Reading", "beginnings", "(LWordgarden$Word;IZ)I"⟩ ∈ gaW := gaW_t3 (List.mem_of_getElem? (i := 8) rfl) rfl
theorem ww_3_9 : Cond.code ⟨"Wordgarden$Reading", "beginnings", "(LWordgarden$Word;IZ)I"⟩ prog_3_method_10_code 3 (some .int) ∈ gaW := gaW_t3 (List.mem_of_getElem? (i := 9) rfl) rfl
theorem ww_3_10 : Cond.methodLink "Wordgarden$Reading" 54 ⟨"Wordgarden$Reading", "upsInPart", "(LWordgarden$Word;II)I"⟩ ∈ gaW := gaW_t3 (List.mem_of_getElem? (i := 10) rfl) rfl
theorem ww_3_11 : Cond.static ⟨"Wordgarden$Reading", "upsInPart", "(LWordgarden$Word;II)I"⟩ ∈ gaW := gaW_t3 (List.mem_of_getElem? (i := 11) rfl) rfl
theorem ww_3_12 : Cond.code ⟨"Wordgarden$Reading", "upsInPart", "(LWordgarden$Word;II)I"⟩ prog_3_method_4_code 5 (some .int) ∈ gaW := gaW_t3 (List.mem_of_getElem? (i := 12) rfl) rfl
theorem ww_3_13 : Cond.methodLink "WordgardenLaw" 80 ⟨"Wordgarden", "kinds", "(IIZ)I"⟩ ∈ gaW := gaW_t3 (List.mem_of_getElem? (i := 13) rfl) rfl
theorem ww_3_14 : Cond.instanceMethod ⟨"Wordgarden", "kinds", "(IIZ)I"⟩ ∈ gaW := gaW_t3 (List.mem_of_getElem? (i := 14) rfl) rfl
theorem ww_3_15 : Cond.selects "Wordgarden" ⟨"Wordgarden", "kinds", "(IIZ)I"⟩ ⟨"Wordgarden", "kinds", "(IIZ)I"⟩ ∈ gaW := gaW_t3 (List.mem_of_getElem? (i := 15) rfl) rfl
theorem ww_3_16 : Cond.code ⟨"Wordgarden", "kinds", "(IIZ)I"⟩ prog_1_method_32_code 5 (some .int) ∈ gaW := gaW_t3 (List.mem_of_getElem? (i := 16) rfl) rfl
theorem ww_3_17 : Cond.methodLink "Wordgarden" 206 ⟨"Wordgarden$Reading", "kindsOf", "(LWordgarden$Word;IZ)I"⟩ ∈ gaW := gaW_t3 (List.mem_of_getElem? (i := 17) rfl) rfl
theorem ww_3_18 : Cond.static ⟨"Wordgarden$Reading", "kindsOf", "(LWordgarden$Word;IZ)I"⟩ ∈ gaW := gaW_t3 (List.mem_of_getElem? (i := 18) rfl) rfl
theorem ww_3_19 : Cond.code ⟨"Wordgarden$Reading", "kindsOf", "(LWordgarden$Word;IZ)I"⟩ prog_3_method_13_code 6 (some .int) ∈ gaW := gaW_t3 (List.mem_of_getElem? (i := 19) rfl) rfl
theorem ww_3_20 : Cond.methodLink "WordgardenLaw" 83 ⟨"Wordgarden", "least", "(I)I"⟩ ∈ gaW := gaW_t3 (List.mem_of_getElem? (i := 20) rfl) rfl
theorem ww_3_21 : Cond.methodLink "WordgardenLaw" 86 ⟨"Wordgarden", "rotate", "(II)I"⟩ ∈ gaW := gaW_t3 (List.mem_of_getElem? (i := 21) rfl) rfl
theorem ww_3_22 : Cond.instanceMethod ⟨"Wordgarden", "rotate", "(II)I"⟩ ∈ gaW := gaW_t3 (List.mem_of_getElem? (i := 22) rfl) rfl
theorem ww_3_23 : Cond.selects "Wordgarden" ⟨"Wordgarden", "rotate", "(II)I"⟩ ⟨"Wordgarden", "rotate", "(II)I"⟩ ∈ gaW := gaW_t3 (List.mem_of_getElem? (i := 23) rfl) rfl
theorem ww_3_24 : Cond.code ⟨"Wordgarden", "rotate", "(II)I"⟩ prog_1_method_13_code 4 (some .int) ∈ gaW := gaW_t3 (List.mem_of_getElem? (i := 24) rfl) rfl
theorem ww_3_25 : Cond.methodLink "Wordgarden" 65 ⟨"Wordgarden$Word", "clear", "()V"⟩ ∈ gaW := gaW_t3 (List.mem_of_getElem? (i := 25) rfl) rfl
theorem ww_3_26 : Cond.methodLink "Wordgarden" 93 ⟨"Wordgarden$Word", "addPart", "(LWordgarden$Word;II)V"⟩ ∈ gaW := gaW_t3 (List.mem_of_getElem? (i := 26) rfl) rfl
theorem ww_3_27 : Cond.methodLink "Wordgarden" 104 ⟨"Wordgarden", "settle", "(LWordgarden$Word;LWordgarden$Word;)I"⟩ ∈ gaW := gaW_t3 (List.mem_of_getElem? (i := 27) rfl) rfl
theorem ww_3_29 : Cond.instanceMethod ⟨"Wordgarden", "settle", "(LWordgarden$Word;LWordgarden$Word;)I"⟩ ∈ gaW := gaW_t3 (List.mem_of_getElem? (i := 29) rfl) rfl
theorem ww_3_30 : Cond.code ⟨"Wordgarden", "settle", "(LWordgarden$Word;LWordgarden$Word;)I"⟩ prog_1_method_60_code 4 (some .int) ∈ gaW := gaW_t3 (List.mem_of_getElem? (i := 30) rfl) rfl
theorem ww_3_31 : Cond.methodLink "WordgardenLaw" 89 ⟨"Wordgarden", "ups", "(IZ)I"⟩ ∈ gaW := gaW_t3 (List.mem_of_getElem? (i := 31) rfl) rfl
theorem ww_3_32 : Cond.methodLink "WordgardenLaw" 92 ⟨"Wordgarden", "line", "(IIII)I"⟩ ∈ gaW := gaW_t3 (List.mem_of_getElem? (i := 32) rfl) rfl
theorem ww_3_33 : Cond.instanceMethod ⟨"Wordgarden", "line", "(IIII)I"⟩ ∈ gaW := gaW_t3 (List.mem_of_getElem? (i := 33) rfl) rfl
theorem ww_3_34 : Cond.selects "Wordgarden" ⟨"Wordgarden", "line", "(IIII)I"⟩ ⟨"Wordgarden", "line", "(IIII)I"⟩ ∈ gaW := gaW_t3 (List.mem_of_getElem? (i := 34) rfl) rfl
theorem ww_3_35 : Cond.code ⟨"Wordgarden", "line", "(IIII)I"⟩ prog_1_method_19_code 7 (some .int) ∈ gaW := gaW_t3 (List.mem_of_getElem? (i := 35) rfl) rfl
theorem ww_3_36 : Cond.methodLink "Wordgarden" 167 ⟨"Wordgarden", "isUpOnLine", "(IIII)Z"⟩ ∈ gaW := gaW_t3 (List.mem_of_getElem? (i := 36) rfl) rfl
theorem ww_3_37 : Cond.methodLink "Wordgarden" 68 ⟨"Wordgarden$Word", "add", "(Z)V"⟩ ∈ gaW := gaW_t3 (List.mem_of_getElem? (i := 37) rfl) rfl
theorem ww_3_38 : Cond.methodLink "WordgardenLaw" 96 ⟨"Wordgarden", "isB", "(II)Z"⟩ ∈ gaW := gaW_t3 (List.mem_of_getElem? (i := 38) rfl) rfl
theorem ww_3_39 : Cond.instanceMethod ⟨"Wordgarden", "isB", "(II)Z"⟩ ∈ gaW := gaW_t3 (List.mem_of_getElem? (i := 39) rfl) rfl
theorem ww_3_40 : Cond.selects "Wordgarden" ⟨"Wordgarden", "isB", "(II)Z"⟩ ⟨"Wordgarden", "isB", "(II)Z"⟩ ∈ gaW := gaW_t3 (List.mem_of_getElem? (i := 40) rfl) rfl
theorem ww_3_41 : Cond.code ⟨"Wordgarden", "isB", "(II)Z"⟩ prog_1_method_24_code 4 (some .boolean) ∈ gaW := gaW_t3 (List.mem_of_getElem? (i := 41) rfl) rfl
theorem ww_3_42 : Cond.methodLink "Wordgarden" 62 ⟨"Wordgarden", "needIndex", "(Z)V"⟩ ∈ gaW := gaW_t3 (List.mem_of_getElem? (i := 42) rfl) rfl
theorem ww_3_43 : Cond.static ⟨"Wordgarden", "needIndex", "(Z)V"⟩ ∈ gaW := gaW_t3 (List.mem_of_getElem? (i := 43) rfl) rfl
theorem ww_3_44 : Cond.code ⟨"Wordgarden", "needIndex", "(Z)V"⟩ prog_1_method_51_code 1 (none : Option Jvm.ClassFile.FieldType) ∈ gaW := gaW_t3 (List.mem_of_getElem? (i := 44) rfl) rfl
theorem ww_3_46 : Cond.methodLink "WordgardenLaw" 100 ⟨"Wordgarden", "cutTo", "(II)I"⟩ ∈ gaW := gaW_t3 (List.mem_of_getElem? (i := 46) rfl) rfl
theorem ww_3_47 : Cond.instanceMethod ⟨"Wordgarden", "cutTo", "(II)I"⟩ ∈ gaW := gaW_t3 (List.mem_of_getElem? (i := 47) rfl) rfl
theorem ww_3_48 : Cond.selects "Wordgarden" ⟨"Wordgarden", "cutTo", "(II)I"⟩ ⟨"Wordgarden", "cutTo", "(II)I"⟩ ∈ gaW := gaW_t3 (List.mem_of_getElem? (i := 48) rfl) rfl
theorem ww_3_49 : Cond.code ⟨"Wordgarden", "cutTo", "(II)I"⟩ prog_1_method_10_code 6 (some .int) ∈ gaW := gaW_t3 (List.mem_of_getElem? (i := 49) rfl) rfl
theorem ww_3_50 : Cond.methodLink "Wordgarden" 87 ⟨"java/lang/Math", "min", "(II)I"⟩ ∈ gaW := gaW_t3 (List.mem_of_getElem? (i := 50) rfl) rfl
theorem ww_3_51 : Cond.methodLink "WordgardenLaw" 103 ⟨"Wordgarden", "isMirrored", "(I)Z"⟩ ∈ gaW := gaW_t3 (List.mem_of_getElem? (i := 51) rfl) rfl
theorem ww_3_52 : Cond.methodLink "WordgardenLaw" 107 ⟨"Wordgarden", "undo", "(III)I"⟩ ∈ gaW := gaW_t3 (List.mem_of_getElem? (i := 52) rfl) rfl
theorem ww_3_53 : Cond.instanceMethod ⟨"Wordgarden", "undo", "(III)I"⟩ ∈ gaW := gaW_t3 (List.mem_of_getElem? (i := 53) rfl) rfl
theorem ww_3_54 : Cond.selects "Wordgarden" ⟨"Wordgarden", "undo", "(III)I"⟩ ⟨"Wordgarden", "undo", "(III)I"⟩ ∈ gaW := gaW_t3 (List.mem_of_getElem? (i := 54) rfl) rfl
theorem ww_3_55 : Cond.code ⟨"Wordgarden", "undo", "(III)I"⟩ prog_1_method_16_code 5 (some .int) ∈ gaW := gaW_t3 (List.mem_of_getElem? (i := 55) rfl) rfl
theorem ww_3_56 : Cond.methodLink "Wordgarden" 114 ⟨"Wordgarden", "takeRule", "(II)V"⟩ ∈ gaW := gaW_t3 (List.mem_of_getElem? (i := 56) rfl) rfl
theorem ww_3_58 : Cond.instanceMethod ⟨"Wordgarden", "takeRule", "(II)V"⟩ ∈ gaW := gaW_t3 (List.mem_of_getElem? (i := 58) rfl) rfl
theorem ww_3_59 : Cond.code ⟨"Wordgarden", "takeRule", "(II)V"⟩ prog_1_method_61_code 3 (none : Option Jvm.ClassFile.FieldType) ∈ gaW := gaW_t3 (List.mem_of_getElem? (i := 59) rfl) rfl
theorem ww_3_60 : Cond.methodLink "Wordgarden" 309 ⟨"Wordgarden$Rule", "take", "(II)V"⟩ ∈ gaW := gaW_t3 (List.mem_of_getElem? (i := 60) rfl) rfl
theorem ww_3_61 : Cond.methodLink "Wordgarden" 129 ⟨"Wordgarden$Rule", "keepsApart", "()Z"⟩ ∈ gaW := gaW_t3 (List.mem_of_getElem? (i := 61) rfl) rfl
theorem ww_3_62 : Cond.instanceMethod ⟨"Wordgarden$Rule", "keepsApart", "()Z"⟩ ∈ gaW := gaW_t3 (List.mem_of_getElem? (i := 62) rfl) rfl
theorem ww_3_63 : Cond.selects "Wordgarden$Rule" ⟨"Wordgarden$Rule", "keepsApart", "()Z"⟩ ⟨"Wordgarden$Rule", "keepsApart", "()Z"⟩ ∈ gaW := gaW_t3 (List.mem_of_getElem? (i := 63) rfl) rfl
theorem ww_3_64 : Cond.code ⟨"Wordgarden$Rule", "keepsApart", "()Z"⟩ prog_4_method_3_code 1 (some .boolean) ∈ gaW := gaW_t3 (List.mem_of_getElem? (i := 64) rfl) rfl
theorem ww_3_65 : Cond.methodLink "Wordgarden$Rule" 29 ⟨"Wordgarden$Reading", "firstUnlikeJoined", "(LWordgarden$Word;LWordgarden$Word;)I"⟩ ∈ gaW := gaW_t3 (List.mem_of_getElem? (i := 65) rfl) rfl
theorem ww_3_66 : Cond.methodLink "Wordgarden" 133 ⟨"Wordgarden", "needState", "(Z)V"⟩ ∈ gaW := gaW_t3 (List.mem_of_getElem? (i := 66) rfl) rfl
theorem ww_3_67 : Cond.static ⟨"Wordgarden", "needState", "(Z)V"⟩ ∈ gaW := gaW_t3 (List.mem_of_getElem? (i := 67) rfl) rfl
theorem ww_3_68 : Cond.code ⟨"Wordgarden", "needState", "(Z)V"⟩ prog_1_method_53_code 1 (none : Option Jvm.ClassFile.FieldType) ∈ gaW := gaW_t3 (List.mem_of_getElem? (i := 68) rfl) rfl
theorem ww_3_69 : Cond.classLink "Wordgarden" 301 "java/lang/IllegalStateException" ∈ gaW := gaW_t3 (List.mem_of_getElem? (i := 69) rfl) rfl
theorem ww_3_70 : Cond.instantiable "java/lang/IllegalStateException" 6 ∈ gaW := gaW_t3 (List.mem_of_getElem? (i := 70) rfl) rfl
theorem ww_3_72 : Cond.selects "java/lang/IllegalStateException" ⟨"java/lang/Throwable", "fillInStackTrace", "(I)Ljava/lang/Throwable;"⟩ ⟨"java/lang/Throwable", "fillInStackTrace", "(I)Ljava/lang/Throwable;"⟩ ∈ gaW := gaW_t3 (List.mem_of_getElem? (i := 72) rfl) rfl
theorem ww_3_73 : Cond.lays "java/lang/IllegalStateException" "java/lang/Throwable" "cause" "Ljava/lang/Throwable;" ∈ gaW := gaW_t3 (List.mem_of_getElem? (i := 73) rfl) rfl
theorem ww_3_74 : Cond.lays "java/lang/IllegalStateException" "java/lang/Throwable" "stackTrace" "[Ljava/lang/StackTraceElement;" ∈ gaW := gaW_t3 (List.mem_of_getElem? (i := 74) rfl) rfl
theorem ww_3_75 : Cond.lays "java/lang/IllegalStateException" "java/lang/Throwable" "suppressedExceptions" "Ljava/util/List;" ∈ gaW := gaW_t3 (List.mem_of_getElem? (i := 75) rfl) rfl
theorem ww_3_76 : Cond.lays "java/lang/IllegalStateException" "java/lang/Throwable" "detailMessage" "Ljava/lang/String;" ∈ gaW := gaW_t3 (List.mem_of_getElem? (i := 76) rfl) rfl
theorem ww_3_77 : Cond.lays "java/lang/IllegalStateException" "java/lang/Throwable" "backtrace" "Ljava/lang/Object;" ∈ gaW := gaW_t3 (List.mem_of_getElem? (i := 77) rfl) rfl
theorem ww_3_79 : Cond.methodLink "Wordgarden" 305 ⟨"java/lang/IllegalStateException", "<init>", "(Ljava/lang/String;)V"⟩ ∈ gaW := gaW_t3 (List.mem_of_getElem? (i := 79) rfl) rfl
theorem ww_3_80 : Cond.instanceMethod ⟨"java/lang/IllegalStateException", "<init>", "(Ljava/lang/String;)V"⟩ ∈ gaW := gaW_t3 (List.mem_of_getElem? (i := 80) rfl) rfl
theorem ww_3_81 : Cond.code ⟨"java/lang/IllegalStateException", "<init>", "(Ljava/lang/String;)V"⟩ prog_11_method_2_code 2 (none : Option Jvm.ClassFile.FieldType) ∈ gaW := gaW_t3 (List.mem_of_getElem? (i := 81) rfl) rfl
theorem ww_3_82 : Cond.methodLink "java/lang/IllegalStateException" 7 ⟨"java/lang/RuntimeException", "<init>", "(Ljava/lang/String;)V"⟩ ∈ gaW := gaW_t3 (List.mem_of_getElem? (i := 82) rfl) rfl
theorem ww_3_83 : Cond.lays "java/lang/IllegalStateException" "java/lang/Throwable" "depth" "I" ∈ gaW := gaW_t3 (List.mem_of_getElem? (i := 83) rfl) rfl
theorem ww_3_84 : Cond.superclass "java/lang/IllegalStateException" "java/lang/RuntimeException" ∈ gaW := gaW_t3 (List.mem_of_getElem? (i := 84) rfl) rfl
theorem ww_3_85 : Cond.methodLink "Wordgarden" 136 ⟨"Wordgarden$Rule", "layOrigin", "(LWordgarden$Word;LWordgarden$Word;)Z"⟩ ∈ gaW := gaW_t3 (List.mem_of_getElem? (i := 85) rfl) rfl
theorem ww_3_86 : Cond.instanceMethod ⟨"Wordgarden$Rule", "layOrigin", "(LWordgarden$Word;LWordgarden$Word;)Z"⟩ ∈ gaW := gaW_t3 (List.mem_of_getElem? (i := 86) rfl) rfl
theorem ww_3_87 : Cond.selects "Wordgarden$Rule" ⟨"Wordgarden$Rule", "layOrigin", "(LWordgarden$Word;LWordgarden$Word;)Z"⟩ ⟨"Wordgarden$Rule", "layOrigin", "(LWordgarden$Word;LWordgarden$Word;)Z"⟩ ∈ gaW := gaW_t3 (List.mem_of_getElem? (i := 87) rfl) rfl
theorem ww_3_88 : Cond.code ⟨"Wordgarden$Rule", "layOrigin", "(LWordgarden$Word;LWordgarden$Word;)Z"⟩ prog_4_method_6_code 6 (some .boolean) ∈ gaW := gaW_t3 (List.mem_of_getElem? (i := 88) rfl) rfl
theorem ww_3_89 : Cond.methodLink "Wordgarden$Rule" 54 ⟨"Wordgarden$Rule", "markImages", "(LWordgarden$Word;)V"⟩ ∈ gaW := gaW_t3 (List.mem_of_getElem? (i := 89) rfl) rfl
theorem ww_3_91 : Cond.instanceMethod ⟨"Wordgarden$Rule", "markImages", "(LWordgarden$Word;)V"⟩ ∈ gaW := gaW_t3 (List.mem_of_getElem? (i := 91) rfl) rfl
theorem ww_3_92 : Cond.code ⟨"Wordgarden$Rule", "markImages", "(LWordgarden$Word;)V"⟩ prog_4_method_7_code 3 (none : Option Jvm.ClassFile.FieldType) ∈ gaW := gaW_t3 (List.mem_of_getElem? (i := 92) rfl) rfl
theorem ww_3_93 : Cond.methodLink "Wordgarden$Rule" 61 ⟨"Wordgarden$Rule", "goesOn", "(LWordgarden$Word;ILWordgarden$Word;)Z"⟩ ∈ gaW := gaW_t3 (List.mem_of_getElem? (i := 93) rfl) rfl
theorem ww_3_95 : Cond.instanceMethod ⟨"Wordgarden$Rule", "goesOn", "(LWordgarden$Word;ILWordgarden$Word;)Z"⟩ ∈ gaW := gaW_t3 (List.mem_of_getElem? (i := 95) rfl) rfl
theorem ww_3_96 : Cond.code ⟨"Wordgarden$Rule", "goesOn", "(LWordgarden$Word;ILWordgarden$Word;)Z"⟩ prog_4_method_9_code 4 (some .boolean) ∈ gaW := gaW_t3 (List.mem_of_getElem? (i := 96) rfl) rfl
theorem ww_3_97 : Cond.methodLink "Wordgarden$Rule" 69 ⟨"Wordgarden$Reading", "standsAt", "(LWordgarden$Word;ILWordgarden$Word;)Z"⟩ ∈ gaW := gaW_t3 (List.mem_of_getElem? (i := 97) rfl) rfl
theorem ww_3_98 : Cond.static ⟨"Wordgarden$Reading", "standsAt", "(LWordgarden$Word;ILWordgarden$Word;)Z"⟩ ∈ gaW := gaW_t3 (List.mem_of_getElem? (i := 98) rfl) rfl
theorem ww_3_99 : Cond.code ⟨"Wordgarden$Reading", "standsAt", "(LWordgarden$Word;ILWordgarden$Word;)Z"⟩ prog_3_method_6_code 4 (some .boolean) ∈ gaW := gaW_t3 (List.mem_of_getElem? (i := 99) rfl) rfl
theorem ww_3_100 : Cond.methodLink "Wordgarden$Rule" 58 ⟨"Wordgarden$Rule", "isMarked", "(I)Z"⟩ ∈ gaW := gaW_t3 (List.mem_of_getElem? (i := 100) rfl) rfl
theorem ww_3_102 : Cond.instanceMethod ⟨"Wordgarden$Rule", "isMarked", "(I)Z"⟩ ∈ gaW := gaW_t3 (List.mem_of_getElem? (i := 102) rfl) rfl
theorem ww_3_103 : Cond.code ⟨"Wordgarden$Rule", "isMarked", "(I)Z"⟩ prog_4_method_8_code 2 (some .boolean) ∈ gaW := gaW_t3 (List.mem_of_getElem? (i := 103) rfl) rfl
theorem ww_3_104 : Cond.methodLink "Wordgarden$Rule" 65 ⟨"Wordgarden$Word", "add", "(Z)V"⟩ ∈ gaW := gaW_t3 (List.mem_of_getElem? (i := 104) rfl) rfl
theorem ww_3_105 : Cond.methodLink "WordgardenLaw" 22 ⟨"WordgardenLaw", "isAny", "(LWordgarden;II)Z"⟩ ∈ gaW := gaW_t3 (List.mem_of_getElem? (i := 105) rfl) rfl
theorem ww_3_106 : Cond.static ⟨"WordgardenLaw", "isAny", "(LWordgarden;II)Z"⟩ ∈ gaW := gaW_t3 (List.mem_of_getElem? (i := 106) rfl) rfl
theorem ww_3_107 : Cond.code ⟨"WordgardenLaw", "isAny", "(LWordgarden;II)Z"⟩ method_8_code 6 (some .boolean) ∈ gaW := gaW_t3 (List.mem_of_getElem? (i := 107) rfl) rfl
theorem ww_3_108 : Cond.methodLink "WordgardenLaw" 113 ⟨"WordgardenLaw", "made", "(LWordgarden;II)I"⟩ ∈ gaW := gaW_t3 (List.mem_of_getElem? (i := 108) rfl) rfl
theorem ww_3_109 : Cond.static ⟨"WordgardenLaw", "made", "(LWordgarden;II)I"⟩ ∈ gaW := gaW_t3 (List.mem_of_getElem? (i := 109) rfl) rfl
theorem ww_3_110 : Cond.code ⟨"WordgardenLaw", "made", "(LWordgarden;II)I"⟩ method_7_code 5 (some .int) ∈ gaW := gaW_t3 (List.mem_of_getElem? (i := 110) rfl) rfl
theorem ww_3_111 : Cond.methodLink "WordgardenLaw" 110 ⟨"Wordgarden", "setSign", "(IIZ)I"⟩ ∈ gaW := gaW_t3 (List.mem_of_getElem? (i := 111) rfl) rfl
theorem ww_3_112 : Cond.instanceMethod ⟨"Wordgarden", "setSign", "(IIZ)I"⟩ ∈ gaW := gaW_t3 (List.mem_of_getElem? (i := 112) rfl) rfl
theorem ww_3_113 : Cond.selects "Wordgarden" ⟨"Wordgarden", "setSign", "(IIZ)I"⟩ ⟨"Wordgarden", "setSign", "(IIZ)I"⟩ ∈ gaW := gaW_t3 (List.mem_of_getElem? (i := 113) rfl) rfl
theorem ww_3_114 : Cond.code ⟨"Wordgarden", "setSign", "(IIZ)I"⟩ prog_1_method_6_code 6 (some .int) ∈ gaW := gaW_t3 (List.mem_of_getElem? (i := 114) rfl) rfl
theorem ww_3_115 : Cond.methodLink "Wordgarden" 75 ⟨"Wordgarden$Word", "put", "(IZ)V"⟩ ∈ gaW := gaW_t3 (List.mem_of_getElem? (i := 115) rfl) rfl
theorem ww_3_116 : Cond.methodLink "WordgardenLaw" 117 ⟨"WordgardenLaw", "isEven", "(LWordgarden;I)Z"⟩ ∈ gaW := gaW_t3 (List.mem_of_getElem? (i := 116) rfl) rfl
theorem ww_3_117 : Cond.static ⟨"WordgardenLaw", "isEven", "(LWordgarden;I)Z"⟩ ∈ gaW := gaW_t3 (List.mem_of_getElem? (i := 117) rfl) rfl
theorem ww_3_118 : Cond.code ⟨"WordgardenLaw", "isEven", "(LWordgarden;I)Z"⟩ method_6_code 3 (some .boolean) ∈ gaW := gaW_t3 (List.mem_of_getElem? (i := 118) rfl) rfl
theorem ww_3_119 : Cond.methodLink "WordgardenLaw" 121 ⟨"Wordgarden", "count", "(IZ)I"⟩ ∈ gaW := gaW_t3 (List.mem_of_getElem? (i := 119) rfl) rfl
theorem ww_3_120 : Cond.methodLink "WordgardenLaw" 124 ⟨"Wordgarden", "append", "(II)I"⟩ ∈ gaW := gaW_t3 (List.mem_of_getElem? (i := 120) rfl) rfl
theorem ww_3_121 : Cond.instanceMethod ⟨"Wordgarden", "append", "(II)I"⟩ ∈ gaW := gaW_t3 (List.mem_of_getElem? (i := 121) rfl) rfl
theorem ww_3_122 : Cond.selects "Wordgarden" ⟨"Wordgarden", "append", "(II)I"⟩ ⟨"Wordgarden", "append", "(II)I"⟩ ∈ gaW := gaW_t3 (List.mem_of_getElem? (i := 122) rfl) rfl
theorem ww_3_123 : Cond.code ⟨"Wordgarden", "append", "(II)I"⟩ prog_1_method_3_code 4 (some .int) ∈ gaW := gaW_t3 (List.mem_of_getElem? (i := 123) rfl) rfl
theorem ww_3_124 : Cond.methodLink "Wordgarden" 58 ⟨"Wordgarden", "exchangePart", "(LWordgarden$Word;IILWordgarden$Word;)I"⟩ ∈ gaW := gaW_t3 (List.mem_of_getElem? (i := 124) rfl) rfl
theorem ww_3_126 : Cond.instanceMethod ⟨"Wordgarden", "exchangePart", "(LWordgarden$Word;IILWordgarden$Word;)I"⟩ ∈ gaW := gaW_t3 (List.mem_of_getElem? (i := 126) rfl) rfl
theorem ww_3_127 : Cond.code ⟨"Wordgarden", "exchangePart", "(LWordgarden$Word;IILWordgarden$Word;)I"⟩ prog_1_method_58_code 5 (some .int) ∈ gaW := gaW_t3 (List.mem_of_getElem? (i := 127) rfl) rfl
theorem ww_3_128 : Cond.methodLink "WordgardenLaw" 127 ⟨"Wordgarden", "find", "(III)I"⟩ ∈ gaW := gaW_t3 (List.mem_of_getElem? (i := 128) rfl) rfl
theorem ww_3_129 : Cond.instanceMethod ⟨"Wordgarden", "find", "(III)I"⟩ ∈ gaW := gaW_t3 (List.mem_of_getElem? (i := 129) rfl) rfl
theorem ww_3_130 : Cond.selects "Wordgarden" ⟨"Wordgarden", "find", "(III)I"⟩ ⟨"Wordgarden", "find", "(III)I"⟩ ∈ gaW := gaW_t3 (List.mem_of_getElem? (i := 130) rfl) rfl
theorem ww_3_131 : Cond.code ⟨"Wordgarden", "find", "(III)I"⟩ prog_1_method_27_code 7 (some .int) ∈ gaW := gaW_t3 (List.mem_of_getElem? (i := 131) rfl) rfl
theorem ww_3_132 : Cond.methodLink "Wordgarden" 191 ⟨"Wordgarden$Reading", "standsAt", "(LWordgarden$Word;ILWordgarden$Word;)Z"⟩ ∈ gaW := gaW_t3 (List.mem_of_getElem? (i := 132) rfl) rfl
theorem ww_3_133 : Cond.methodLink "WordgardenLaw" 130 ⟨"Wordgarden", "copy", "(II)I"⟩ ∈ gaW := gaW_t3 (List.mem_of_getElem? (i := 133) rfl) rfl
theorem ww_3_134 : Cond.instanceMethod ⟨"Wordgarden", "copy", "(II)I"⟩ ∈ gaW := gaW_t3 (List.mem_of_getElem? (i := 134) rfl) rfl
theorem ww_3_135 : Cond.selects "Wordgarden" ⟨"Wordgarden", "copy", "(II)I"⟩ ⟨"Wordgarden", "copy", "(II)I"⟩ ∈ gaW := gaW_t3 (List.mem_of_getElem? (i := 135) rfl) rfl
theorem ww_3_136 : Cond.code ⟨"Wordgarden", "copy", "(II)I"⟩ prog_1_method_14_code 4 (some .int) ∈ gaW := gaW_t3 (List.mem_of_getElem? (i := 136) rfl) rfl
theorem ww_3_137 : Cond.methodLink "WordgardenLaw" 133 ⟨"Wordgarden", "apply", "(III)I"⟩ ∈ gaW := gaW_t3 (List.mem_of_getElem? (i := 137) rfl) rfl
theorem ww_3_138 : Cond.instanceMethod ⟨"Wordgarden", "apply", "(III)I"⟩ ∈ gaW := gaW_t3 (List.mem_of_getElem? (i := 138) rfl) rfl
theorem ww_3_139 : Cond.selects "Wordgarden" ⟨"Wordgarden", "apply", "(III)I"⟩ ⟨"Wordgarden", "apply", "(III)I"⟩ ∈ gaW := gaW_t3 (List.mem_of_getElem? (i := 139) rfl) rfl
theorem ww_3_140 : Cond.code ⟨"Wordgarden", "apply", "(III)I"⟩ prog_1_method_15_code 5 (some .int) ∈ gaW := gaW_t3 (List.mem_of_getElem? (i := 140) rfl) rfl
theorem ww_3_141 : Cond.methodLink "Wordgarden" 118 ⟨"Wordgarden$Rule", "imageLength", "(LWordgarden$Word;)I"⟩ ∈ gaW := gaW_t3 (List.mem_of_getElem? (i := 141) rfl) rfl
theorem ww_3_142 : Cond.instanceMethod ⟨"Wordgarden$Rule", "imageLength", "(LWordgarden$Word;)I"⟩ ∈ gaW := gaW_t3 (List.mem_of_getElem? (i := 142) rfl) rfl
theorem ww_3_143 : Cond.selects "Wordgarden$Rule" ⟨"Wordgarden$Rule", "imageLength", "(LWordgarden$Word;)I"⟩ ⟨"Wordgarden$Rule", "imageLength", "(LWordgarden$Word;)I"⟩ ∈ gaW := gaW_t3 (List.mem_of_getElem? (i := 143) rfl) rfl
theorem ww_3_144 : Cond.code ⟨"Wordgarden$Rule", "imageLength", "(LWordgarden$Word;)I"⟩ prog_4_method_4_code 3 (some .int) ∈ gaW := gaW_t3 (List.mem_of_getElem? (i := 144) rfl) rfl
theorem ww_3_145 : Cond.methodLink "Wordgarden$Rule" 35 ⟨"Wordgarden$Reading", "upsOf", "(LWordgarden$Word;)I"⟩ ∈ gaW := gaW_t3 (List.mem_of_getElem? (i := 145) rfl) rfl
theorem ww_3_146 : Cond.methodLink "Wordgarden" 125 ⟨"Wordgarden$Rule", "layImage", "(LWordgarden$Word;LWordgarden$Word;)V"⟩ ∈ gaW := gaW_t3 (List.mem_of_getElem? (i := 146) rfl) rfl
theorem ww_3_147 : Cond.methodLink "WordgardenLaw" 136 ⟨"Wordgarden", "overlaps", "(I)I"⟩ ∈ gaW := gaW_t3 (List.mem_of_getElem? (i := 147) rfl) rfl
theorem ww_3_148 : Cond.methodLink "WordgardenLaw" 139 ⟨"Wordgarden", "turn", "(I)I"⟩ ∈ gaW := gaW_t3 (List.mem_of_getElem? (i := 148) rfl) rfl
theorem ww_3_149 : Cond.instanceMethod ⟨"Wordgarden", "turn", "(I)I"⟩ ∈ gaW := gaW_t3 (List.mem_of_getElem? (i := 149) rfl) rfl
theorem ww_3_150 : Cond.selects "Wordgarden" ⟨"Wordgarden", "turn", "(I)I"⟩ ⟨"Wordgarden", "turn", "(I)I"⟩ ∈ gaW := gaW_t3 (List.mem_of_getElem? (i := 150) rfl) rfl
theorem ww_3_151 : Cond.code ⟨"Wordgarden", "turn", "(I)I"⟩ prog_1_method_11_code 3 (some .int) ∈ gaW := gaW_t3 (List.mem_of_getElem? (i := 151) rfl) rfl
theorem ww_3_152 : Cond.methodLink "WordgardenLaw" 25 ⟨"WordgardenLaw", "isLine", "(LWordgarden;II)Z"⟩ ∈ gaW := gaW_t3 (List.mem_of_getElem? (i := 152) rfl) rfl
theorem ww_3_153 : Cond.static ⟨"WordgardenLaw", "isLine", "(LWordgarden;II)Z"⟩ ∈ gaW := gaW_t3 (List.mem_of_getElem? (i := 153) rfl) rfl
theorem ww_3_154 : Cond.code ⟨"WordgardenLaw", "isLine", "(LWordgarden;II)Z"⟩ method_9_code 5 (some .boolean) ∈ gaW := gaW_t3 (List.mem_of_getElem? (i := 154) rfl) rfl
theorem ww_3_155 : Cond.sameMethod "java/lang/Throwable" "java/lang/Throwable" "fillInStackTrace" "(I)Ljava/lang/Throwable;" ∈ gaW := gaW_t3 (List.mem_of_getElem? (i := 155) rfl) rfl
theorem wp_1_0 : Cond.selects "Wordgarden" ⟨"Wordgarden", "wordOf", "(I)LWordgarden$Word;"⟩ ⟨"Wordgarden", "wordOf", "(I)LWordgarden$Word;"⟩ ∈ gaW := gaW_p1 (q := (⟨"Wordgarden", "wordOf", "(I)LWordgarden$Word;"⟩, 9)) (List.mem_of_getElem? (i := 0) rfl)
theorem wp_1_1 : Cond.selects "java/lang/Throwable" ⟨"java/lang/Throwable", "fillInStackTrace", "(I)Ljava/lang/Throwable;"⟩ ⟨"java/lang/Throwable", "fillInStackTrace", "(I)Ljava/lang/Throwable;"⟩ ∈ gaW := gaW_p1 (q := (⟨"java/lang/Throwable", "fillInStackTrace", "(I)Ljava/lang/Throwable;"⟩, 6)) (List.mem_of_getElem? (i := 1) rfl)
theorem wp_1_2 : Cond.selects "Wordgarden" ⟨"Wordgarden", "isSheetSound", "(I)Z"⟩ ⟨"Wordgarden", "isSheetSound", "(I)Z"⟩ ∈ gaW := gaW_p1 (q := (⟨"Wordgarden", "isSheetSound", "(I)Z"⟩, 9)) (List.mem_of_getElem? (i := 2) rfl)
theorem wp_1_3 : Cond.selects "Wordgarden" ⟨"Wordgarden", "isGrowthSound", "(I)Z"⟩ ⟨"Wordgarden", "isGrowthSound", "(I)Z"⟩ ∈ gaW := gaW_p1 (q := (⟨"Wordgarden", "isGrowthSound", "(I)Z"⟩, 9)) (List.mem_of_getElem? (i := 3) rfl)
theorem wp_1_4 : Cond.selects "Wordgarden" ⟨"Wordgarden", "growthOf", "(I)LWordgarden$Growth;"⟩ ⟨"Wordgarden", "growthOf", "(I)LWordgarden$Growth;"⟩ ∈ gaW := gaW_p1 (q := (⟨"Wordgarden", "growthOf", "(I)LWordgarden$Growth;"⟩, 9)) (List.mem_of_getElem? (i := 4) rfl)
theorem wp_1_5 : Cond.selects "Wordgarden$Growth" ⟨"Wordgarden$Growth", "addLineEnd", "(LWordgarden$Word;)V"⟩ ⟨"Wordgarden$Growth", "addLineEnd", "(LWordgarden$Word;)V"⟩ ∈ gaW := gaW_p1 (q := (⟨"Wordgarden$Growth", "addLineEnd", "(LWordgarden$Word;)V"⟩, 4)) (List.mem_of_getElem? (i := 5) rfl)
theorem wp_1_6 : Cond.selects "Wordgarden" ⟨"Wordgarden", "digestSheet", "(JI)J"⟩ ⟨"Wordgarden", "digestSheet", "(JI)J"⟩ ∈ gaW := gaW_p1 (q := (⟨"Wordgarden", "digestSheet", "(JI)J"⟩, 9)) (List.mem_of_getElem? (i := 6) rfl)
theorem wp_1_7 : Cond.selects "Wordgarden" ⟨"Wordgarden", "digestGrowth", "(JI)J"⟩ ⟨"Wordgarden", "digestGrowth", "(JI)J"⟩ ∈ gaW := gaW_p1 (q := (⟨"Wordgarden", "digestGrowth", "(JI)J"⟩, 9)) (List.mem_of_getElem? (i := 7) rfl)
theorem wp_1_8 : Cond.selects "Wordgarden" ⟨"Wordgarden", "growthActDone", "(I)I"⟩ ⟨"Wordgarden", "growthActDone", "(I)I"⟩ ∈ gaW := gaW_p1 (q := (⟨"Wordgarden", "growthActDone", "(I)I"⟩, 9)) (List.mem_of_getElem? (i := 8) rfl)
theorem wp_1_9 : Cond.selects "Wordgarden" ⟨"Wordgarden", "refuse", "()I"⟩ ⟨"Wordgarden", "refuse", "()I"⟩ ∈ gaW := gaW_p1 (q := (⟨"Wordgarden", "refuse", "()I"⟩, 9)) (List.mem_of_getElem? (i := 9) rfl)
theorem wp_1_10 : Cond.selects "Wordgarden" ⟨"Wordgarden", "sheetActDone", "(I)I"⟩ ⟨"Wordgarden", "sheetActDone", "(I)I"⟩ ∈ gaW := gaW_p1 (q := (⟨"Wordgarden", "sheetActDone", "(I)I"⟩, 9)) (List.mem_of_getElem? (i := 10) rfl)
theorem wp_1_11 : Cond.selects "Wordgarden" ⟨"Wordgarden", "settle", "(LWordgarden$Word;LWordgarden$Word;)I"⟩ ⟨"Wordgarden", "settle", "(LWordgarden$Word;LWordgarden$Word;)I"⟩ ∈ gaW := gaW_p1 (q := (⟨"Wordgarden", "settle", "(LWordgarden$Word;LWordgarden$Word;)I"⟩, 9)) (List.mem_of_getElem? (i := 11) rfl)
theorem wp_1_12 : Cond.selects "Wordgarden" ⟨"Wordgarden", "takeRule", "(II)V"⟩ ⟨"Wordgarden", "takeRule", "(II)V"⟩ ∈ gaW := gaW_p1 (q := (⟨"Wordgarden", "takeRule", "(II)V"⟩, 9)) (List.mem_of_getElem? (i := 12) rfl)
theorem wp_1_13 : Cond.selects "Wordgarden$Rule" ⟨"Wordgarden$Rule", "markImages", "(LWordgarden$Word;)V"⟩ ⟨"Wordgarden$Rule", "markImages", "(LWordgarden$Word;)V"⟩ ∈ gaW := gaW_p1 (q := (⟨"Wordgarden$Rule", "markImages", "(LWordgarden$Word;)V"⟩, 3)) (List.mem_of_getElem? (i := 13) rfl)
theorem wp_1_14 : Cond.selects "Wordgarden$Rule" ⟨"Wordgarden$Rule", "goesOn", "(LWordgarden$Word;ILWordgarden$Word;)Z"⟩ ⟨"Wordgarden$Rule", "goesOn", "(LWordgarden$Word;ILWordgarden$Word;)Z"⟩ ∈ gaW := gaW_p1 (q := (⟨"Wordgarden$Rule", "goesOn", "(LWordgarden$Word;ILWordgarden$Word;)Z"⟩, 3)) (List.mem_of_getElem? (i := 14) rfl)
theorem wp_1_15 : Cond.selects "Wordgarden$Rule" ⟨"Wordgarden$Rule", "isMarked", "(I)Z"⟩ ⟨"Wordgarden$Rule", "isMarked", "(I)Z"⟩ ∈ gaW := gaW_p1 (q := (⟨"Wordgarden$Rule", "isMarked", "(I)Z"⟩, 3)) (List.mem_of_getElem? (i := 15) rfl)
theorem wp_2_0 : Cond.selects "Wordgarden" ⟨"Wordgarden", "exchangePart", "(LWordgarden$Word;IILWordgarden$Word;)I"⟩ ⟨"Wordgarden", "exchangePart", "(LWordgarden$Word;IILWordgarden$Word;)I"⟩ ∈ gaW := gaW_p2 (q := (⟨"Wordgarden", "exchangePart", "(LWordgarden$Word;IILWordgarden$Word;)I"⟩, 9)) (List.mem_of_getElem? (i := 0) rfl)
