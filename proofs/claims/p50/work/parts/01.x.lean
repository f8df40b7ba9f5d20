def gaStrs : List (String × Nat × String × Nat) := [("Wordgarden", 287, "a sheet is 0 to 2", 10), ("Wordgarden", 292, "a growth is 0 or 1", 11), ("Wordgarden", 298, "a number is out of its bounds", 12), ("Wordgarden", 294, "no such place", 13), ("Wordgarden", 303, "not to be done as things stand", 14)]
theorem gs_0 : ("Wordgarden", 287, "a sheet is 0 to 2", 10) ∈ gaStrs := List.mem_of_getElem? (i := 0) rfl
theorem gs_1 : ("Wordgarden", 292, "a growth is 0 or 1", 11) ∈ gaStrs := List.mem_of_getElem? (i := 1) rfl
theorem gs_2 : ("Wordgarden", 298, "a number is out of its bounds", 12) ∈ gaStrs := List.mem_of_getElem? (i := 2) rfl
theorem gs_3 : ("Wordgarden", 294, "no such place", 13) ∈ gaStrs := List.mem_of_getElem? (i := 3) rfl
theorem gs_4 : ("Wordgarden", 303, "not to be done as things stand", 14) ∈ gaStrs := List.mem_of_getElem? (i := 4) rfl
def gaNests : List Cond := [Cond.methodLinkNest "Wordgarden" 23 ⟨"Wordgarden$Rule", "<init>", "()V"⟩ "Wordgarden", Cond.methodLinkNest "Wordgarden$Rule" 11 ⟨"Wordgarden$Word", "<init>", "()V"⟩ "Wordgarden", Cond.fieldLinkNest "Wordgarden$Reading" 12 "Wordgarden$Word" "many" "I" "Wordgarden", Cond.fieldLinkNest "Wordgarden" 50 "Wordgarden$Word" "many" "I" "Wordgarden", Cond.fieldLinkNest "Wordgarden$Rule" 39 "Wordgarden$Word" "many" "I" "Wordgarden", Cond.fieldLinkNest "Wordgarden$Growth" 39 "Wordgarden$Word" "many" "I" "Wordgarden", Cond.methodLinkNest "Wordgarden" 28 ⟨"Wordgarden$Word", "<init>", "()V"⟩ "Wordgarden", Cond.methodLinkNest "Wordgarden$Growth" 17 ⟨"Wordgarden$Word", "<init>", "()V"⟩ "Wordgarden", Cond.fieldLinkNest "Wordgarden" 178 "Wordgarden$Growth" "turnCount" "I" "Wordgarden", Cond.fieldLinkNest "Wordgarden" 242 "Wordgarden$Growth" "elder" "LWordgarden$Word;" "Wordgarden", Cond.fieldLinkNest "Wordgarden" 144 "Wordgarden$Growth" "younger" "LWordgarden$Word;" "Wordgarden", Cond.castable "java/lang/IndexOutOfBoundsException" "java/lang/IndexOutOfBoundsException", Cond.declares ⟨"java/lang/RuntimeException", "<init>", "()V"⟩, Cond.declares ⟨"java/lang/RuntimeException", "<init>", "(Ljava/lang/String;)V"⟩, Cond.declares ⟨"java/lang/Exception", "<init>", "()V"⟩, Cond.declares ⟨"java/lang/Exception", "<init>", "(Ljava/lang/String;)V"⟩, Cond.declares ⟨"java/lang/Throwable", "<init>", "()V"⟩, Cond.declares ⟨"java/lang/Throwable", "<init>", "(Ljava/lang/String;)V"⟩, Cond.methodLinkNest "Wordgarden$Growth" 69 ⟨"Wordgarden", "isUpOnLine", "(IIII)Z"⟩ "Wordgarden", Cond.castable "java/lang/IllegalArgumentException" "java/lang/IllegalArgumentException", Cond.castable "java/lang/IllegalStateException" "java/lang/IllegalStateException"]
theorem gn_0 : Cond.methodLinkNest "Wordgarden" 23 ⟨"Wordgarden$Rule", "<init>", "()V"⟩ "Wordgarden" ∈ gaNests := List.mem_of_getElem? (i := 0) rfl
theorem gn_1 : Cond.methodLinkNest "Wordgarden$Rule" 11 ⟨"Wordgarden$Word", "<init>", "()V"⟩ "Wordgarden" ∈ gaNests := List.mem_of_getElem? (i := 1) rfl
theorem gn_2 : Cond.fieldLinkNest "Wordgarden$Reading" 12 "Wordgarden$Word" "many" "I" "Wordgarden" ∈ gaNests := List.mem_of_getElem? (i := 2) rfl
theorem gn_3 : Cond.fieldLinkNest "Wordgarden" 50 "Wordgarden$Word" "many" "I" "Wordgarden" ∈ gaNests := List.mem_of_getElem? (i := 3) rfl
theorem gn_4 : Cond.fieldLinkNest "Wordgarden$Rule" 39 "Wordgarden$Word" "many" "I" "Wordgarden" ∈ gaNests := List.mem_of_getElem? (i := 4) rfl
theorem gn_5 : Cond.fieldLinkNest "Wordgarden$Growth" 39 "Wordgarden$Word" "many" "I" "Wordgarden" ∈ gaNests := List.mem_of_getElem? (i := 5) rfl
theorem gn_6 : Cond.methodLinkNest "Wordgarden" 28 ⟨"Wordgarden$Word", "<init>", "()V"⟩ "Wordgarden" ∈ gaNests := List.mem_of_getElem? (i := 6) rfl
theorem gn_7 : Cond.methodLinkNest "Wordgarden$Growth" 17 ⟨"Wordgarden$Word", "<init>", "()V"⟩ "Wordgarden" ∈ gaNests := List.mem_of_getElem? (i := 7) rfl
theorem gn_8 : Cond.fieldLinkNest "Wordgarden" 178 "Wordgarden$Growth" "turnCount" "I" "Wordgarden" ∈ gaNests := List.mem_of_getElem? (i := 8) rfl
theorem gn_9 : Cond.fieldLinkNest "Wordgarden" 242 "Wordgarden$Growth" "elder" "LWordgarden$Word;" "Wordgarden" ∈ gaNests := List.mem_of_getElem? (i := 9) rfl
theorem gn_10 : Cond.fieldLinkNest "Wordgarden" 144 "Wordgarden$Growth" "younger" "LWordgarden$Word;" "Wordgarden" ∈ gaNests := List.mem_of_getElem? (i := 10) rfl
theorem gn_11 : Cond.castable "java/lang/IndexOutOfBoundsException" "java/lang/IndexOutOfBoundsException" ∈ gaNests := List.mem_of_getElem? (i := 11) rfl
theorem gn_12 : Cond.declares ⟨"java/lang/RuntimeException", "<init>", "()V"⟩ ∈ gaNests := List.mem_of_getElem? (i := 12) rfl
theorem gn_13 : Cond.declares ⟨"java/lang/RuntimeException", "<init>", "(Ljava/lang/String;)V"⟩ ∈ gaNests := List.mem_of_getElem? (i := 13) rfl
theorem gn_14 : Cond.declares ⟨"java/lang/Exception", "<init>", "()V"⟩ ∈ gaNests := List.mem_of_getElem? (i := 14) rfl
theorem gn_15 : Cond.declares ⟨"java/lang/Exception", "<init>", "(Ljava/lang/String;)V"⟩ ∈ gaNests := List.mem_of_getElem? (i := 15) rfl
theorem gn_16 : Cond.declares ⟨"java/lang/Throwable", "<init>", "()V"⟩ ∈ gaNests := List.mem_of_getElem? (i := 16) rfl
theorem gn_17 : Cond.declares ⟨"java/lang/Throwable", "<init>", "(Ljava/lang/String;)V"⟩ ∈ gaNests := List.mem_of_getElem? (i := 17) rfl
theorem gn_18 : Cond.methodLinkNest "Wordgarden$Growth" 69 ⟨"Wordgarden", "isUpOnLine", "(IIII)Z"⟩ "Wordgarden" ∈ gaNests := List.mem_of_getElem? (i := 18) rfl
theorem gn_19 : Cond.castable "java/lang/IllegalArgumentException" "java/lang/IllegalArgumentException" ∈ gaNests := List.mem_of_getElem? (i := 19) rfl
theorem gn_20 : Cond.castable "java/lang/IllegalStateException" "java/lang/IllegalStateException" ∈ gaNests := List.mem_of_getElem? (i := 20) rfl
def gaNcs : List (String × String) := []
