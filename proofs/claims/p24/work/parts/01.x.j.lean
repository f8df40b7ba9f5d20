def gaStrs : List (String × Nat × String × Nat) := [("Wordgarden", 287, "a sheet is 0 to 2", 10), ("Wordgarden", 292, "a growth is 0 or 1", 11), ("Wordgarden", 298, "a number is out of its bounds", 12), ("Wordgarden", 294, "no such place", 13), ("Wordgarden", 303, "not to be done as things stand", 14), ("WordgardenModel", 150, "", 15)]
theorem gs_0 : ("Wordgarden", 287, "a sheet is 0 to 2", 10) ∈ gaStrs := List.mem_of_getElem? (i := 0) rfl
theorem gs_1 : ("Wordgarden", 292, "a growth is 0 or 1", 11) ∈ gaStrs := List.mem_of_getElem? (i := 1) rfl
theorem gs_2 : ("Wordgarden", 298, "a number is out of its bounds", 12) ∈ gaStrs := List.mem_of_getElem? (i := 2) rfl
theorem gs_3 : ("Wordgarden", 294, "no such place", 13) ∈ gaStrs := List.mem_of_getElem? (i := 3) rfl
theorem gs_4 : ("Wordgarden", 303, "not to be done as things stand", 14) ∈ gaStrs := List.mem_of_getElem? (i := 4) rfl
theorem gs_5 : ("WordgardenModel", 150, "", 15) ∈ gaStrs := List.mem_of_getElem? (i := 5) rfl
def gaNests : List Cond := [Cond.methodLinkNest "Wordgarden" 23 ⟨"Wordgarden$Rule", "<init>", "()V"⟩ "Wordgarden", Cond.methodLinkNest "Wordgarden$Rule" 11 ⟨"Wordgarden$Word", "<init>", "()V"⟩ "Wordgarden", Cond.fieldLinkNest "Wordgarden$Reading" 12 "Wordgarden$Word" "many" "I" "Wordgarden", Cond.fieldLinkNest "Wordgarden" 50 "Wordgarden$Word" "many" "I" "Wordgarden", Cond.fieldLinkNest "Wordgarden$Twos" 31 "Wordgarden$Word" "many" "I" "Wordgarden", Cond.fieldLinkNest "Wordgarden$Rule" 39 "Wordgarden$Word" "many" "I" "Wordgarden", Cond.fieldLinkNest "Wordgarden$Growth" 39 "Wordgarden$Word" "many" "I" "Wordgarden", Cond.methodLinkNest "Wordgarden" 28 ⟨"Wordgarden$Word", "<init>", "()V"⟩ "Wordgarden", Cond.methodLinkNest "Wordgarden$Growth" 17 ⟨"Wordgarden$Word", "<init>", "()V"⟩ "Wordgarden", Cond.fieldLinkNest "Wordgarden" 178 "Wordgarden$Growth" "turnCount" "I" "Wordgarden", Cond.fieldLinkNest "Wordgarden" 242 "Wordgarden$Growth" "elder" "LWordgarden$Word;" "Wordgarden", Cond.fieldLinkNest "Wordgarden" 144 "Wordgarden$Growth" "younger" "LWordgarden$Word;" "Wordgarden", Cond.castable "java/lang/IndexOutOfBoundsException" "java/lang/IndexOutOfBoundsException", Cond.declares ⟨"java/lang/RuntimeException", "<init>", "()V"⟩, Cond.declares ⟨"java/lang/RuntimeException", "<init>", "(Ljava/lang/String;)V"⟩, Cond.declares ⟨"java/lang/Exception", "<init>", "()V"⟩, Cond.declares ⟨"java/lang/Exception", "<init>", "(Ljava/lang/String;)V"⟩, Cond.declares ⟨"java/lang/Throwable", "<init>", "()V"⟩, Cond.declares ⟨"java/lang/Throwable", "<init>", "(Ljava/lang/String;)V"⟩, Cond.methodLinkNest "Wordgarden$Growth" 69 ⟨"Wordgarden", "isUpOnLine", "(IIII)Z"⟩ "Wordgarden", Cond.castable "java/lang/IllegalArgumentException" "java/lang/IllegalArgumentException", Cond.methodLinkNest "WordgardenLaw" 171 ⟨"WordgardenLaw$Out", "<init>", "()V"⟩ "WordgardenLaw", Cond.fieldLinkNest "WordgardenLaw" 13 "WordgardenLaw$Out" "n" "J" "WordgardenLaw", Cond.fieldLinkNest "WordgardenLaw" 100 "WordgardenLaw$Out" "s" "Ljava/lang/String;" "WordgardenLaw", Cond.castable "java/lang/IllegalStateException" "java/lang/IllegalStateException", Cond.castable "[B" "java/lang/Cloneable"]
theorem gn_0 : Cond.methodLinkNest "Wordgarden" 23 ⟨"Wordgarden$Rule", "<init>", "()V"⟩ "Wordgarden" ∈ gaNests := List.mem_of_getElem? (i := 0) rfl
theorem gn_1 : Cond.methodLinkNest "Wordgarden$Rule" 11 ⟨"Wordgarden$Word", "<init>", "()V"⟩ "Wordgarden" ∈ gaNests := List.mem_of_getElem? (i := 1) rfl
theorem gn_2 : Cond.fieldLinkNest "Wordgarden$Reading" 12 "Wordgarden$Word" "many" "I" "Wordgarden" ∈ gaNests := List.mem_of_getElem? (i := 2) rfl
theorem gn_3 : Cond.fieldLinkNest "Wordgarden" 50 "Wordgarden$Word" "many" "I" "Wordgarden" ∈ gaNests := List.mem_of_getElem? (i := 3) rfl
theorem gn_4 : Cond.fieldLinkNest "Wordgarden$Twos" 31 "Wordgarden$Word" "many" "I" "Wordgarden" ∈ gaNests := List.mem_of_getElem? (i := 4) rfl
theorem gn_5 : Cond.fieldLinkNest "Wordgarden$Rule" 39 "Wordgarden$Word" "many" "I" "Wordgarden" ∈ gaNests := List.mem_of_getElem? (i := 5) rfl
theorem gn_6 : Cond.fieldLinkNest "Wordgarden$Growth" 39 "Wordgarden$Word" "many" "I" "Wordgarden" ∈ gaNests := List.mem_of_getElem? (i := 6) rfl
theorem gn_7 : Cond.methodLinkNest "Wordgarden" 28 ⟨"Wordgarden$Word", "<init>", "()V"⟩ "Wordgarden" ∈ gaNests := List.mem_of_getElem? (i := 7) rfl
theorem gn_8 : Cond.methodLinkNest "Wordgarden$Growth" 17 ⟨"Wordgarden$Word", "<init>", "()V"⟩ "Wordgarden" ∈ gaNests := List.mem_of_getElem? (i := 8) rfl
theorem gn_9 : Cond.fieldLinkNest "Wordgarden" 178 "Wordgarden$Growth" "turnCount" "I" "Wordgarden" ∈ gaNests := List.mem_of_getElem? (i := 9) rfl
theorem gn_10 : Cond.fieldLinkNest "Wordgarden" 242 "Wordgarden$Growth" "elder" "LWordgarden$Word;" "Wordgarden" ∈ gaNests := List.mem_of_getElem? (i := 10) rfl
theorem gn_11 : Cond.fieldLinkNest "Wordgarden" 144 "Wordgarden$Growth" "younger" "LWordgarden$Word;" "Wordgarden" ∈ gaNests := List.mem_of_getElem? (i := 11) rfl
theorem gn_12 : Cond.castable "java/lang/IndexOutOfBoundsException" "java/lang/IndexOutOfBoundsException" ∈ gaNests := List.mem_of_getElem? (i := 12) rfl
theorem gn_13 : Cond.declares ⟨"java/lang/RuntimeException", "<init>", "()V"⟩ ∈ gaNests := List.mem_of_getElem? (i := 13) rfl
theorem gn_14 : Cond.declares ⟨"java/lang/RuntimeException", "<init>", "(Ljava/lang/String;)V"⟩ ∈ gaNests := List.mem_of_getElem? (i := 14) rfl
theorem gn_15 : Cond.declares ⟨"java/lang/Exception", "<init>", "()V"⟩ ∈ gaNests := List.mem_of_getElem? (i := 15) rfl
theorem gn_16 : Cond.declares ⟨"java/lang/Exception", "<init>", "(Ljava/lang/String;)V"⟩ ∈ gaNests := List.mem_of_getElem? (i := 16) rfl
theorem gn_17 : Cond.declares ⟨"java/lang/Throwable", "<init>", "()V"⟩ ∈ gaNests := List.mem_of_getElem? (i := 17) rfl
theorem gn_18 : Cond.declares ⟨"java/lang/Throwable", "<init>", "(Ljava/lang/String;)V"⟩ ∈ gaNests := List.mem_of_getElem? (i := 18) rfl
theorem gn_19 : Cond.methodLinkNest "Wordgarden$Growth" 69 ⟨"Wordgarden", "isUpOnLine", "(IIII)Z"⟩ "Wordgarden" ∈ gaNests := List.mem_of_getElem? (i := 19) rfl
theorem gn_20 : Cond.castable "java/lang/IllegalArgumentException" "java/lang/IllegalArgumentException" ∈ gaNests := List.mem_of_getElem? (i := 20) rfl
theorem gn_21 : Cond.methodLinkNest "WordgardenLaw" 171 ⟨"WordgardenLaw$Out", "<init>", "()V"⟩ "WordgardenLaw" ∈ gaNests := List.mem_of_getElem? (i := 21) rfl
theorem gn_22 : Cond.fieldLinkNest "WordgardenLaw" 13 "WordgardenLaw$Out" "n" "J" "WordgardenLaw" ∈ gaNests := List.mem_of_getElem? (i := 22) rfl
theorem gn_23 : Cond.fieldLinkNest "WordgardenLaw" 100 "WordgardenLaw$Out" "s" "Ljava/lang/String;" "WordgardenLaw" ∈ gaNests := List.mem_of_getElem? (i := 23) rfl
theorem gn_24 : Cond.castable "java/lang/IllegalStateException" "java/lang/IllegalStateException" ∈ gaNests := List.mem_of_getElem? (i := 24) rfl
theorem gn_25 : Cond.castable "[B" "java/lang/Cloneable" ∈ gaNests := List.mem_of_getElem? (i := 25) rfl
def gaNcs : List (String × String) := [("java/lang/IllegalArgumentException", "java/lang/IndexOutOfBoundsException"), ("java/lang/IllegalStateException", "java/lang/IndexOutOfBoundsException"), ("java/lang/IllegalStateException", "java/lang/IllegalArgumentException")]
/-! ABSTRACT HEAPS. A cell is a tag and its values: a tag below 100 is the number of its class in vwCl (the values are its fields), 100 and up an array (gaTy: of what), 1000 more an array that nothing writes to. gaR: the heap holds what the abstract heap says. gaP: from this place of the method, with these locals, this stack, this abstract heap, that many cells and slots still to be spent, the method comes to its end. -/
abbrev gaE : Type := Nat × List Value
abbrev gaH : Type := Nat → Option gaE
/-- layout of classes, array classes by tag, the first own address, places of static arrays and texts -/
abbrev gaG : Type := va_G × (Nat → ClassId) × Nat × (Nat → Nat)
def gaTy (t : Nat) : FieldType := if t = 100 then .boolean else if t = 101 then .byte else if t = 102 then .int else if t = 110 then .object RX4 else if t = 111 then .object RX0 else .array .int
def gaCn (t : Nat) : String := if t = 110 then RX4 else if t = 111 then RX0 else "[I"
def gaT (t : Nat) : Prop := t = 100 ∨ t = 101 ∨ t = 102 ∨ t = 110 ∨ t = 111 ∨ t = 112
def gaA (G : gaG) : Nat → Prop := fun q => G.2.2.1 ≤ q
def gaUp (h : gaH) (a : Nat) (e : gaE) : gaH := fun b => if b = a then some e else h b
theorem gaUp_self (h : gaH) (a : Nat) (e : gaE) : gaUp h a e a = some e := by simp [gaUp]
theorem gaUp_ne (h : gaH) {a b : Nat} (e : gaE) (hb : b ≠ a) : gaUp h a e b = h b := by simp [gaUp, hb]
def gaAt (G : gaG) (a : Nat) (e : gaE) (H : Heap) : Prop := (e.1 < 100 → va_at G.1 vwCl (a, .inr e) H) ∧ (100 ≤ e.1 → H[a]? = some { cls := G.2.1 e.1, slots := e.2.toArray, vm := .none })
def gaRo (s : State) (a : Nat) (e : gaE) (H : Heap) : Prop := ∃ cell : Cell, H[a]? = some cell ∧ s.isArrayOf cell (gaTy (e.1 - 1000)) ∧ cell.vm ≠ .unknown ∧ cell.slots.size.toInt32 = Int32.ofNat e.2.length ∧ e.2.length ≤ cell.slots.size ∧ ∀ (j : Nat) (v : Value), e.2[j]? = some v → cell.slots[j]? = some v
def gaR (G : gaG) (s : State) (h : gaH) (H : Heap) : Prop := ∀ (a : Nat) (e : gaE), h a = some e → (e.1 < 1000 ∧ G.2.2.1 ≤ a ∧ gaAt G a e H) ∨ (1000 ≤ e.1 ∧ gaRo s a e H)
theorem gaAt.lt {G : gaG} {a : Nat} {e : gaE} {H : Heap} (h : gaAt G a e H) : a < H.size := by
  by_cases h1 : e.1 < 100
  · exact va_at.lt (h.1 h1)
  · exact (Array.getElem?_eq_some_iff.mp (h.2 (by omega))).1
theorem gaAt.kept {G : gaG} {a : Nat} {e : gaE} {H H1 : Heap} (h : gaAt G a e H) (hq : H1[a]? = H[a]?) : gaAt G a e H1 :=
  ⟨fun h1 => va_at.kept (h.1 h1) hq, fun h1 => hq.trans (h.2 h1)⟩
theorem gaRo.kept {s : State} {a : Nat} {e : gaE} {H H1 : Heap} (h : gaRo s a e H) (hq : H1[a]? = H[a]?) : gaRo s a e H1 := by
  obtain ⟨cell, h1, h2⟩ := h
  exact ⟨cell, hq.trans h1, h2⟩
theorem gaRo.lt {s : State} {a : Nat} {e : gaE} {H : Heap} (h : gaRo s a e H) : a < H.size := by
  obtain ⟨cell, h1, h2⟩ := h
  exact (Array.getElem?_eq_some_iff.mp h1).1
theorem gaR.lt {G : gaG} {s : State} {h : gaH} {H : Heap} (hR : gaR G s h H) {a : Nat} {e : gaE} (ha : h a = some e) : a < H.size := by
  rcases hR a e ha with ⟨-, -, h1⟩ | ⟨-, h1⟩
  · exact h1.lt
  · exact h1.lt
theorem gaR.fresh {G : gaG} {s : State} {h : gaH} {H : Heap} (hR : gaR G s h H) : h H.size = none := by
  cases hh : h H.size with
  | none => rfl
  | some e => exact absurd (hR.lt hh) (Nat.lt_irrefl _)
theorem gaR.set {G : gaG} {s : State} {h : gaH} {H H1 : Heap} (hR : gaR G s h H) {a : Nat} {e : gaE} (h1 : e.1 < 1000) (hB : G.2.2.1 ≤ a) (ha : gaAt G a e H1) (oq : ∀ q : Nat, q ≠ a → q < H.size → H1[q]? = H[q]?) : gaR G s (gaUp h a e) H1 := by
  intro b e2 hb
  by_cases hba : b = a
  · subst hba
    rw [gaUp_self] at hb
    cases hb
    exact Or.inl ⟨h1, hB, ha⟩
  · rw [gaUp_ne _ _ hba] at hb
    have hl := hR.lt hb
    rcases hR b e2 hb with ⟨q1, q2, q3⟩ | ⟨q1, q3⟩
    · exact Or.inl ⟨q1, q2, q3.kept (oq b hba hl)⟩
    · exact Or.inr ⟨q1, q3.kept (oq b hba hl)⟩
theorem gaR.moved {G : gaG} {u U : State} {h : gaH} {H : Heap} (hvm : u.vm.Alike U.vm) (hR : gaR G u h H) : gaR G U h H := by
  intro a e ha
  rcases hR a e ha with q | ⟨q1, cell, q2, q3, q4⟩
  · exact Or.inl q
  · exact Or.inr ⟨q1, cell, q2, State.isArrayOf_alike hvm q3, q4⟩
/-- what the tables say of the array classes -/
def gaK (G : gaG) (s : State) : Prop := ∀ t : Nat, gaT t → ∃ (kA : Class) (comp : ClassId), s.vm.findClass ("[" ++ (gaTy t).toString) = some (G.2.1 t) ∧ s.vm.classes[G.2.1 t]? = some kA ∧ kA.kind = .array comp (gaTy t) ∧ (110 ≤ t → s.vm.findClass (gaCn t) = some comp)
theorem gaK.moved {G : gaG} {u U : State} (hvm : u.vm.Alike U.vm) (h : gaK G u) : gaK G U := by
  intro t ht
  obtain ⟨kA, comp, h1, h2, h3, h4⟩ := h t ht
  obtain ⟨k', hk', he⟩ := hvm.2.2 _ _ h2
  exact ⟨k', comp, by rw [hvm.findClass]; exact h1, hk', by rw [he]; exact h3, fun q => by rw [hvm.findClass]; exact h4 q⟩
theorem gaK.arr {G : gaG} {s : State} (h : gaK G s) {t : Nat} (ht : gaT t) (vs : Array Value) : s.isArrayOf { cls := G.2.1 t, slots := vs, vm := .none } (gaTy t) := by
  obtain ⟨kA, comp, h1, h2, h3, h4⟩ := h t ht
  exact ⟨fun k h => (by cases h), kA, h2, comp, h3⟩
theorem gaR.arr {G : gaG} {s : State} {h : gaH} {H : Heap} (hR : gaR G s h H) (hK : gaK G s) {a t t' : Nat} {vs : List Value} (ha : h a = some (t', vs)) (ht : t' = t ∨ t' = t + 1000) (hT : gaT t) :
    ∃ cell : Cell, H[a]? = some cell ∧ s.isArrayOf cell (gaTy t) ∧ cell.vm ≠ .unknown ∧ cell.slots.size.toInt32 = Int32.ofNat vs.length ∧ vs.length ≤ cell.slots.size ∧ ∀ (j : Nat) (v : Value), vs[j]? = some v → cell.slots[j]? = some v := by
  have hT' := hT
  unfold gaT at hT'
  rcases hR a _ ha with ⟨q1, q2, q3⟩ | ⟨q1, cell, q3, q4, q5⟩
  · dsimp only at q1
    have e : t' = t := by omega
    subst e
    have h1 := q3.2 (by dsimp only; omega)
    refine ⟨_, h1, hK.arr hT _, (fun q => by cases q), ?_, ?_, fun j v hj => ?_⟩
    · first | rfl | simp
    · first | (simp; done) | (dsimp only; omega)
    · simpa using hj
  · dsimp only at q1 q4
    have e : t' = t + 1000 := by omega
    subst e
    rw [Nat.add_sub_cancel] at q4
    exact ⟨cell, q3, q4, q5⟩
/-- words that the tables decide and that a call hands on by premises of their own: links of nest mates, casts -/
def gaNest (w : Cond) : Bool := match w with
  | .fieldLinkNest .. => true
  | .methodLinkNest .. => true
  | .castable .. => true
  | .declares .. => true
  | _ => false
theorem gaNest_tab {w : Cond} (h : gaNest w = true) : w.onTables = true := by
  cases w <;> first | rfl | (simp [gaNest] at h)
theorem gaNests_ok : ∀ w ∈ gaNests, gaNest w = true := by decide +kernel
theorem gaNest.warm {w : Cond} {s U : State} (hg : gaNest w = true) (hW : s.WarmedH U.vm) (h : va_Nw w s) : va_Nw w U := by
  cases w <;> first | exact va_Nw.warmF hW h | exact va_Nw.warmM hW h | exact va_Nw.warmC hW h | exact va_Nw.warmD hW h | (simp [gaNest] at hg)
/-- what is said of the start of each method: the tables, the statics, the texts of the class's messages -/
def gaF (G : gaG) (s : State) (H : Heap) : Prop :=
  va_K G.1 vwCl [] s ∧ gaK G s ∧ G.2.2.1 ≤ H.size ∧
  (va_Z RX0 "CODES_FOR_A" "[I" (.ref (G.2.2.2 0)) (gaA G) s H ∧ va_Z RJ0 "COMPACT_STRINGS" "Z" (.int 1) (gaA G) s H ∧ va_Z RJ6 "DigitOnes" "[B" (.ref (G.2.2.2 1)) (gaA G) s H ∧ va_Z RJ6 "DigitTens" "[B" (.ref (G.2.2.2 2)) (gaA G) s H) ∧
  (vx_Zq Bundle.tN "UNASSIGNED_STACK" Bundle.steD (gaA G) s H ∧ vx_Zq Bundle.tN "SUPPRESSED_SENTINEL" Bundle.listD (gaA G) s H) ∧
  (∀ q ∈ gaStrs, vk_R q.1 q.2.1 q.2.2.1 (G.2.2.2 q.2.2.2) s) ∧ (∀ w ∈ gaNests, va_Nw w s) ∧ (∀ q ∈ gaNcs, va_Nc q.1 q.2 s) ∧ (∀ t : Nat, 110 ≤ t ∧ t ≤ 112 → (Cond.arrayOver (gaTy t)).before #[] s = true)
theorem gaOver.moved {ty : FieldType} {u U : State} (hvm : u.vm.Alike U.vm) (h : (Cond.arrayOver ty).before #[] u = true) : (Cond.arrayOver ty).before #[] U = true := by
  have e := Cond.arrayOver_setVmC (args := #[]) hvm ty
  rw [h] at e
  exact e
theorem gaF.same {G : gaG} {u U : State} {H : Heap} (hv : U.vm = u.vm) (h : gaF G u H) : gaF G U H := by
  obtain ⟨h1, h2, h3, ⟨z1, z2, z3, z4⟩, ⟨y1, y2⟩, h6, h7, h8, h9⟩ := h
  have hvm : u.vm.Alike U.vm := by rw [hv]; exact Vm.Alike.refl _
  exact ⟨va_K.moved hvm h1, h2.moved hvm, h3, ⟨va_Z.moved hvm z1, va_Z.moved hvm z2, va_Z.moved hvm z3, va_Z.moved hvm z4⟩, ⟨vx_Zq.moved hvm y1, vx_Zq.moved hvm y2⟩,
    fun q hq => vk_R.same hv (h6 q hq), fun w hw => va_Nw.same (gaNest_tab (gaNests_ok w hw)) hv.symm (h7 w hw), fun q hq => va_Nc.moved hvm (h8 q hq), fun t ht => gaOver.moved hvm (h9 t ht)⟩
theorem gaF.on {G : gaG} {s U : State} {H : Heap} {locs : List Loc} (h : gaF G s s.heap) (hS : va_S (gaA G) s.heap H locs) (hW : s.WarmedH U.vm) : gaF G U H := by
  obtain ⟨h1, h2, h3, ⟨z1, z2, z3, z4⟩, ⟨y1, y2⟩, h6, h7, h8, h9⟩ := h
  have hvm := hW.alike
  have hq : ∀ a : Nat, a < s.heap.size → ¬ gaA G a → H[a]? = s.heap[a]? := hS.2.1
  exact ⟨va_K.moved hvm h1, h2.moved hvm, Nat.le_trans h3 hS.1, ⟨va_Z.moved hvm (z1.kept hq), va_Z.moved hvm (z2.kept hq), va_Z.moved hvm (z3.kept hq), va_Z.moved hvm (z4.kept hq)⟩, ⟨vx_Zq.moved hvm (y1.kept hq), vx_Zq.moved hvm (y2.kept hq)⟩,
    fun q hq => vk_R.warm hW (h6 q hq), fun w hw => gaNest.warm (gaNests_ok w hw) hW (h7 w hw), fun q hq => va_Nc.moved hvm (h8 q hq), fun t ht => gaOver.moved hvm (h9 t ht)⟩
def gaQ (G : gaG) (Q : Option Value → gaH → Prop) : Array Value → State → Outcome → State → Prop := fun _ st o t => ∃ (v : Option Value) (h' : gaH), o = .returned v ∧ Q v h' ∧ gaR G t h' t.heap ∧ va_F (gaA G) st t
def gaX (G : gaG) (X : String → gaH → Prop) : String → State → State → Prop := fun E st t => ∃ h' : gaH, X E h' ∧ gaR G t h' t.heap ∧ va_F (gaA G) st t
/-- a method's contract -/
def gaC (l : Launch) (G : gaG) (y : MethodName) (ws : List Cond) (rm : Room) (av : List Value) (h : gaH) (Q : Option Value → gaH → Prop) (X : String → gaH → Prop) : Prop :=
  vx_Met l y ws rm (va_Pc av (fun U => gaR G U h U.heap ∧ gaF G U U.heap)) (gaQ G Q) (gaX G X) rm.cells rm.slots (gaA G)
/-- locals by their numbers -/
def gaL (ls : Array Slot) (nL : Nat) (lv : List (Option Value)) : Prop := ls.size = nL ∧ lv_wf ls ∧ ∀ (i : Nat) (v : Value), lv[i]? = some (some v) → ls[i]? = some (.val v)
def gaPairs (lv : List (Option Value)) : List (Nat × Value) := (List.range lv.length).filterMap (fun i => match lv[i]? with | some (some v) => some (i, v) | _ => none)
theorem gaPairs_mem {lv : List (Option Value)} {i : Nat} {v : Value} : (i, v) ∈ gaPairs lv ↔ lv[i]? = some (some v) := by
  unfold gaPairs
  rw [List.mem_filterMap]
  constructor
  · rintro ⟨j, hj, h⟩
    cases hx : lv[j]? with
    | none => rw [hx] at h; cases h
    | some o =>
      cases o with
      | none => rw [hx] at h; cases h
      | some w =>
        rw [hx] at h
        cases h
        exact hx
  · intro h
    refine ⟨i, List.mem_range.mpr (List.getElem?_eq_some_iff.mp h).1, ?_⟩
    rw [h]
theorem gaL.has {ls : Array Slot} {nL : Nat} {lv : List (Option Value)} (h : gaL ls nL lv) : lv_has ls nL (gaPairs lv) := ⟨h.1, h.2.1, fun q hq => h.2.2 q.1 q.2 (gaPairs_mem.mp hq)⟩
/-- no second half of a long stands at i -/
def gaOk (lv : List (Option Value)) (i : Nat) : Bool := match i with
  | 0 => true
  | j + 1 => match lv[j]? with
    | some (some v) => v.category != 2
    | _ => true
theorem gaL.set1 {ls : Array Slot} {nL : Nat} {lv : List (Option Value)} {i : Nat} {v : Value} (hok : gaOk lv i = true)
    (hl : lv_has ls nL ((i, v) :: (gaPairs lv).filter (fun q => !(q.1 == i) && !(q.1 + 1 == i && q.2.category == 2)))) : gaL ls nL (lv.set i (some v)) := by
  refine ⟨hl.1, hl.2.1, fun j w hj => ?_⟩
  by_cases hji : j = i
  · subst hji
    have hlt : j < lv.length := by
      have := (List.getElem?_eq_some_iff.mp hj).1
      simpa using this
    rw [List.getElem?_set_self hlt] at hj
    cases hj
    exact hl.2.2 _ List.mem_cons_self
  · rw [List.getElem?_set_ne (fun q => hji q.symm)] at hj
    refine hl.2.2 (j, w) (List.mem_cons_of_mem _ (List.mem_filter.mpr ⟨gaPairs_mem.mpr hj, ?_⟩))
    have h2 : ¬ (j + 1 = i ∧ w.category = 2) := by
      rintro ⟨q1, q2⟩
      subst q1
      simp only [gaOk, hj] at hok
      simp [q2] at hok
    simp only [Bool.and_eq_true, Bool.not_eq_true', beq_eq_false_iff_ne, ne_eq, Bool.and_eq_false_iff]
    refine ⟨hji, ?_⟩
    by_cases q : j + 1 = i
    · exact Or.inr fun z => h2 ⟨q, z⟩
    · exact Or.inl q
theorem gaL.set2 {ls : Array Slot} {nL : Nat} {lv : List (Option Value)} {i : Nat} {v : Value} (hok : gaOk lv i = true)
    (hl : lv_has ls nL ((i, v) :: (gaPairs lv).filter (fun q => !(q.1 == i) && (!(q.1 == i + 1) && !(q.1 + 1 == i && q.2.category == 2))))) : gaL ls nL ((lv.set i (some v)).set (i + 1) none) := by
  refine ⟨hl.1, hl.2.1, fun j w hj => ?_⟩
  by_cases hji1 : j = i + 1
  · subst hji1
    have hlt : i + 1 < ((lv.set i (some v)).set (i + 1) none).length := (List.getElem?_eq_some_iff.mp hj).1
    rw [List.getElem?_set_self (by simpa using hlt)] at hj
    cases hj
  · rw [List.getElem?_set_ne (fun q => hji1 q.symm)] at hj
    by_cases hji : j = i
    · subst hji
      have hlt : j < lv.length := by
        have := (List.getElem?_eq_some_iff.mp hj).1
        simpa using this
      rw [List.getElem?_set_self hlt] at hj
      cases hj
      exact hl.2.2 _ List.mem_cons_self
    · rw [List.getElem?_set_ne (fun q => hji q.symm)] at hj
      refine hl.2.2 (j, w) (List.mem_cons_of_mem _ (List.mem_filter.mpr ⟨gaPairs_mem.mpr hj, ?_⟩))
      have h2 : ¬ (j + 1 = i ∧ w.category = 2) := by
        rintro ⟨q1, q2⟩
        subst q1
        simp only [gaOk, hj] at hok
        simp [q2] at hok
      simp only [Bool.and_eq_true, Bool.not_eq_true', beq_eq_false_iff_ne, ne_eq, Bool.and_eq_false_iff]
      refine ⟨hji, hji1, ?_⟩
      by_cases q : j + 1 = i
      · exact Or.inr fun z => h2 ⟨q, z⟩
      · exact Or.inl q
/-- what holds all along a method's body -/
def gaV (p : Program) (l : Launch) (s : State) (m : MethodId) (args : Array Value) (meth : Method) (c : Code) (G : gaG) (cc : ByteArray) (own : String) (nL : Nat) (ws : List Cond) (ret : Option FieldType) (nm : String) : Prop :=
  p.tables.exec = Jvm.exec ∧ c.code = cc ∧ c.maxLocals = nL ∧ s.vm.findClass own = some m.cls ∧ (∀ w ∈ ws, w.before args s = true) ∧ meth.sig.returnType = ret ∧ meth.locks = false ∧ True ∧ meth.name = nm ∧ gaF G s s.heap ∧ l.stackTraces = false
def gaP (p : Program) (l : Launch) (e : Env) (R : Room) (s : State) (m : MethodId) (args : Array Value) (below : List Frame) (meth : Method) (c : Code) (G : gaG) (nL : Nat) (Z : State → Prop)
    (pc : Nat) (lv : List (Option Value)) (st : List Value) (h : gaH) (k n : Nat) : Prop :=
  ∀ (H : Heap) (locs : List Loc) (ls : Array Slot) (cells slots : Nat), gaR G s h H → va_S (gaA G) s.heap H locs → gaL ls nL lv → cells + k ≤ R.cells → slots + n ≤ R.slots →
    W p l e R s m args below meth c H locs cells slots Z (F0 m pc ls st)
/-- a method's end, returned or thrown -/
abbrev gaZ (below : List Frame) (G : gaG) (Q : Option Value → gaH → Prop) (X : String → gaH → Prop) (args : Array Value) (s : State) (R : Room) : State → Prop := vx_MQ below (gaQ G Q) (gaX G X) args s R.cells R.slots (gaA G)
/-- an exception of this class that comes up at this place leads to the end -/
def gaO (p : Program) (l : Launch) (e : Env) (R : Room) (s : State) (m : MethodId) (args : Array Value) (below : List Frame) (meth : Method) (c : Code) (G : gaG) (nL : Nat) (Z : State → Prop)
    (pc : Nat) (lv : List (Option Value)) (E : String) (h : gaH) (k n : Nat) : Prop :=
  ∀ (H : Heap) (locs : List Loc) (ls : Array Slot) (rest : List Value) (cells slots : Nat) (q : Addr) (ce : Cell), gaR G s h H → va_S (gaA G) s.heap H locs → gaL ls nL lv → cells + k ≤ R.cells → slots + n ≤ R.slots →
    H[q]? = some ce → ce.vm = .none → s.vm.findClass E = some ce.cls → vx_W p l e R s m args below meth c H locs cells slots Z (F0 m pc ls rest) q
section GAR
variable {p : Program} {l : Launch} {e : Env} {R : Room} {s : State} {m : MethodId} {args : Array Value} {below : List Frame} {meth : Method} {c : Code} {G : gaG} {cc : ByteArray} {own : String} {nL : Nat} {ws : List Cond} {ret : Option FieldType} {nm : String} {Q : Option Value → gaH → Prop} {X : String → gaH → Prop} {Z : State → Prop}
variable {pc n : Nat} {lv : List (Option Value)} {st : List Value} {h : gaH} {k j : Nat}
theorem g_iload (V : gaV p l s m args meth c G cc own nL ws ret nm) {i : Nat} {x : Int32} (d : decode cc pc = .ok (.iload i, 2)) (hl : lv[i]? = some (some (.int x))) (hn : pc + 2 = n)
    (kk : gaP p l e R s m args below meth c G nL Z n lv (.int x :: st) h k j) : gaP p l e R s m args below meth c G nL Z pc lv (st) h k j := by
  subst hn
  intro H locs ls cells slots hR hS hL h1 h2
  exact lv_iload V.1 V.2.1 d (hL.2.2 i _ hl) (kk H locs ls cells slots hR hS hL h1 h2)
theorem g_iload_n (V : gaV p l s m args meth c G cc own nL ws ret nm) {i : Fin 4} {x : Int32} (d : decode cc pc = .ok (.iload_n i, 1)) (hl : lv[(i : Nat)]? = some (some (.int x))) (hn : pc + 1 = n)
    (kk : gaP p l e R s m args below meth c G nL Z n lv (.int x :: st) h k j) : gaP p l e R s m args below meth c G nL Z pc lv (st) h k j := by
  subst hn
  intro H locs ls cells slots hR hS hL h1 h2
  exact lv_iload_n V.1 V.2.1 d rfl (hL.2.2 _ _ hl) (kk H locs ls cells slots hR hS hL h1 h2)
theorem g_aload (V : gaV p l s m args meth c G cc own nL ws ret nm) {i : Nat} {x : Nat} (d : decode cc pc = .ok (.aload i, 2)) (hl : lv[i]? = some (some (.ref x))) (hn : pc + 2 = n)
    (kk : gaP p l e R s m args below meth c G nL Z n lv (.ref x :: st) h k j) : gaP p l e R s m args below meth c G nL Z pc lv (st) h k j := by
  subst hn
  intro H locs ls cells slots hR hS hL h1 h2
  exact lv_aload V.1 V.2.1 d (hL.2.2 i _ hl) (kk H locs ls cells slots hR hS hL h1 h2)
theorem g_aload_n (V : gaV p l s m args meth c G cc own nL ws ret nm) {i : Fin 4} {x : Nat} (d : decode cc pc = .ok (.aload_n i, 1)) (hl : lv[(i : Nat)]? = some (some (.ref x))) (hn : pc + 1 = n)
    (kk : gaP p l e R s m args below meth c G nL Z n lv (.ref x :: st) h k j) : gaP p l e R s m args below meth c G nL Z pc lv (st) h k j := by
  subst hn
  intro H locs ls cells slots hR hS hL h1 h2
  exact lv_aload_n V.1 V.2.1 d rfl (hL.2.2 _ _ hl) (kk H locs ls cells slots hR hS hL h1 h2)
theorem g_lload (V : gaV p l s m args meth c G cc own nL ws ret nm) {i : Nat} {x : Int64} (d : decode cc pc = .ok (.lload i, 2)) (hl : lv[i]? = some (some (.long x))) (hn : pc + 2 = n)
    (kk : gaP p l e R s m args below meth c G nL Z n lv (.long x :: st) h k j) : gaP p l e R s m args below meth c G nL Z pc lv (st) h k j := by
  subst hn
  intro H locs ls cells slots hR hS hL h1 h2
  exact lv_lload V.1 V.2.1 d (hL.2.2 i _ hl) (kk H locs ls cells slots hR hS hL h1 h2)
theorem g_lload_n (V : gaV p l s m args meth c G cc own nL ws ret nm) {i : Fin 4} {x : Int64} (d : decode cc pc = .ok (.lload_n i, 1)) (hl : lv[(i : Nat)]? = some (some (.long x))) (hn : pc + 1 = n)
    (kk : gaP p l e R s m args below meth c G nL Z n lv (.long x :: st) h k j) : gaP p l e R s m args below meth c G nL Z pc lv (st) h k j := by
  subst hn
  intro H locs ls cells slots hR hS hL h1 h2
  exact lv_lload_n V.1 V.2.1 d rfl (hL.2.2 _ _ hl) (kk H locs ls cells slots hR hS hL h1 h2)
theorem g_iconst (V : gaV p l s m args meth c G cc own nL ws ret nm) {i : Int} (v : Int32) (d : decode cc pc = .ok (.iconst i, 1)) (hv : Int32.ofInt i = v) (hn : pc + 1 = n)
    (kk : gaP p l e R s m args below meth c G nL Z n lv (.int v :: st) h k j) : gaP p l e R s m args below meth c G nL Z pc lv (st) h k j := by
  subst hn
  intro H locs ls cells slots hR hS hL h1 h2
  exact lv_iconst V.1 V.2.1 d hv (kk H locs ls cells slots hR hS hL h1 h2)
theorem g_bipush (V : gaV p l s m args meth c G cc own nL ws ret nm) {i : Int} (v : Int32) (d : decode cc pc = .ok (.bipush i, 2)) (hv : (Int8.ofInt i).toInt32 = v) (hn : pc + 2 = n)
    (kk : gaP p l e R s m args below meth c G nL Z n lv (.int v :: st) h k j) : gaP p l e R s m args below meth c G nL Z pc lv (st) h k j := by
  subst hn
  intro H locs ls cells slots hR hS hL h1 h2
  exact lv_bipush V.1 V.2.1 d hv (kk H locs ls cells slots hR hS hL h1 h2)
theorem g_sipush (V : gaV p l s m args meth c G cc own nL ws ret nm) {i : Int} (v : Int32) (d : decode cc pc = .ok (.sipush i, 3)) (hv : (Int16.ofInt i).toInt32 = v) (hn : pc + 3 = n)
    (kk : gaP p l e R s m args below meth c G nL Z n lv (.int v :: st) h k j) : gaP p l e R s m args below meth c G nL Z pc lv (st) h k j := by
  subst hn
  intro H locs ls cells slots hR hS hL h1 h2
  exact lv_sipush V.1 V.2.1 d hv (kk H locs ls cells slots hR hS hL h1 h2)
theorem g_lconst (V : gaV p l s m args meth c G cc own nL ws ret nm) {i : Fin 2} (v : Int64) (d : decode cc pc = .ok (.lconst i, 1)) (hv : Int64.ofNat (i : Nat) = v) (hn : pc + 1 = n)
    (kk : gaP p l e R s m args below meth c G nL Z n lv (.long v :: st) h k j) : gaP p l e R s m args below meth c G nL Z pc lv (st) h k j := by
  subst hn
  intro H locs ls cells slots hR hS hL h1 h2
  exact lv_lconst V.1 V.2.1 d hv (kk H locs ls cells slots hR hS hL h1 h2)
theorem g_aconst_null (V : gaV p l s m args meth c G cc own nL ws ret nm)  (d : decode cc pc = .ok (.aconst_null, 1))  (hn : pc + 1 = n)
    (kk : gaP p l e R s m args below meth c G nL Z n lv (.null :: st) h k j) : gaP p l e R s m args below meth c G nL Z pc lv (st) h k j := by
  subst hn
  intro H locs ls cells slots hR hS hL h1 h2
  exact lv_null V.1 V.2.1 d  (kk H locs ls cells slots hR hS hL h1 h2)
theorem g_iadd (V : gaV p l s m args meth c G cc own nL ws ret nm) {x y : Int32} (d : decode cc pc = .ok (.iadd, 1))  (hn : pc + 1 = n)
    (kk : gaP p l e R s m args below meth c G nL Z n lv (.int (x + y) :: st) h k j) : gaP p l e R s m args below meth c G nL Z pc lv (.int y :: .int x :: st) h k j := by
  subst hn
  intro H locs ls cells slots hR hS hL h1 h2
  exact lv_iadd V.1 V.2.1 d  (kk H locs ls cells slots hR hS hL h1 h2)
theorem g_isub (V : gaV p l s m args meth c G cc own nL ws ret nm) {x y : Int32} (d : decode cc pc = .ok (.isub, 1))  (hn : pc + 1 = n)
    (kk : gaP p l e R s m args below meth c G nL Z n lv (.int (x - y) :: st) h k j) : gaP p l e R s m args below meth c G nL Z pc lv (.int y :: .int x :: st) h k j := by
  subst hn
  intro H locs ls cells slots hR hS hL h1 h2
  exact lv_isub V.1 V.2.1 d  (kk H locs ls cells slots hR hS hL h1 h2)
theorem g_imul (V : gaV p l s m args meth c G cc own nL ws ret nm) {x y : Int32} (d : decode cc pc = .ok (.imul, 1))  (hn : pc + 1 = n)
    (kk : gaP p l e R s m args below meth c G nL Z n lv (.int (x * y) :: st) h k j) : gaP p l e R s m args below meth c G nL Z pc lv (.int y :: .int x :: st) h k j := by
  subst hn
  intro H locs ls cells slots hR hS hL h1 h2
  exact lv_imul V.1 V.2.1 d  (kk H locs ls cells slots hR hS hL h1 h2)
theorem g_iand (V : gaV p l s m args meth c G cc own nL ws ret nm) {x y : Int32} (d : decode cc pc = .ok (.iand, 1))  (hn : pc + 1 = n)
    (kk : gaP p l e R s m args below meth c G nL Z n lv (.int (x &&& y) :: st) h k j) : gaP p l e R s m args below meth c G nL Z pc lv (.int y :: .int x :: st) h k j := by
  subst hn
  intro H locs ls cells slots hR hS hL h1 h2
  exact lv_iand V.1 V.2.1 d  (kk H locs ls cells slots hR hS hL h1 h2)
theorem g_ior (V : gaV p l s m args meth c G cc own nL ws ret nm) {x y : Int32} (d : decode cc pc = .ok (.ior, 1))  (hn : pc + 1 = n)
    (kk : gaP p l e R s m args below meth c G nL Z n lv (.int (x ||| y) :: st) h k j) : gaP p l e R s m args below meth c G nL Z pc lv (.int y :: .int x :: st) h k j := by
  subst hn
  intro H locs ls cells slots hR hS hL h1 h2
  exact lv_ior V.1 V.2.1 d  (kk H locs ls cells slots hR hS hL h1 h2)
theorem g_ixor (V : gaV p l s m args meth c G cc own nL ws ret nm) {x y : Int32} (d : decode cc pc = .ok (.ixor, 1))  (hn : pc + 1 = n)
    (kk : gaP p l e R s m args below meth c G nL Z n lv (.int (x ^^^ y) :: st) h k j) : gaP p l e R s m args below meth c G nL Z pc lv (.int y :: .int x :: st) h k j := by
  subst hn
  intro H locs ls cells slots hR hS hL h1 h2
  exact lv_ixor V.1 V.2.1 d  (kk H locs ls cells slots hR hS hL h1 h2)
theorem g_ishl (V : gaV p l s m args meth c G cc own nL ws ret nm) {x y : Int32} (d : decode cc pc = .ok (.ishl, 1))  (hn : pc + 1 = n)
    (kk : gaP p l e R s m args below meth c G nL Z n lv (.int (x <<< (y &&& 31)) :: st) h k j) : gaP p l e R s m args below meth c G nL Z pc lv (.int y :: .int x :: st) h k j := by
  subst hn
  intro H locs ls cells slots hR hS hL h1 h2
  exact lv_ishl V.1 V.2.1 d  (kk H locs ls cells slots hR hS hL h1 h2)
theorem g_ishr (V : gaV p l s m args meth c G cc own nL ws ret nm) {x y : Int32} (d : decode cc pc = .ok (.ishr, 1))  (hn : pc + 1 = n)
    (kk : gaP p l e R s m args below meth c G nL Z n lv (.int (x >>> (y &&& 31)) :: st) h k j) : gaP p l e R s m args below meth c G nL Z pc lv (.int y :: .int x :: st) h k j := by
  subst hn
  intro H locs ls cells slots hR hS hL h1 h2
  exact lv_ishr V.1 V.2.1 d  (kk H locs ls cells slots hR hS hL h1 h2)
theorem g_iushr (V : gaV p l s m args meth c G cc own nL ws ret nm) {x y : Int32} (d : decode cc pc = .ok (.iushr, 1))  (hn : pc + 1 = n)
    (kk : gaP p l e R s m args below meth c G nL Z n lv (.int ((x.toUInt32 >>> (y.toUInt32 &&& Int32.toUInt32 31)).toInt32) :: st) h k j) : gaP p l e R s m args below meth c G nL Z pc lv (.int y :: .int x :: st) h k j := by
  subst hn
  intro H locs ls cells slots hR hS hL h1 h2
  exact lv_iushr V.1 V.2.1 d rfl (kk H locs ls cells slots hR hS hL h1 h2)
theorem g_idiv (V : gaV p l s m args meth c G cc own nL ws ret nm) {x y : Int32} (d : decode cc pc = .ok (.idiv, 1)) (hne : ¬ y = 0) (hn : pc + 1 = n)
    (kk : gaP p l e R s m args below meth c G nL Z n lv (.int (x / y) :: st) h k j) : gaP p l e R s m args below meth c G nL Z pc lv (.int y :: .int x :: st) h k j := by
  subst hn
  intro H locs ls cells slots hR hS hL h1 h2
  exact lv_idiv V.1 V.2.1 d hne (kk H locs ls cells slots hR hS hL h1 h2)
theorem g_irem (V : gaV p l s m args meth c G cc own nL ws ret nm) {x y : Int32} (d : decode cc pc = .ok (.irem, 1)) (hne : ¬ y = 0) (hn : pc + 1 = n)
    (kk : gaP p l e R s m args below meth c G nL Z n lv (.int (x - x / y * y) :: st) h k j) : gaP p l e R s m args below meth c G nL Z pc lv (.int y :: .int x :: st) h k j := by
  subst hn
  intro H locs ls cells slots hR hS hL h1 h2
  exact lv_irem V.1 V.2.1 d hne (kk H locs ls cells slots hR hS hL h1 h2)
theorem g_ineg (V : gaV p l s m args meth c G cc own nL ws ret nm) {x : Int32} (d : decode cc pc = .ok (.ineg, 1))  (hn : pc + 1 = n)
    (kk : gaP p l e R s m args below meth c G nL Z n lv (.int (-x) :: st) h k j) : gaP p l e R s m args below meth c G nL Z pc lv (.int x :: st) h k j := by
  subst hn
  intro H locs ls cells slots hR hS hL h1 h2
  exact lv_ineg V.1 V.2.1 d  (kk H locs ls cells slots hR hS hL h1 h2)
theorem g_i2l (V : gaV p l s m args meth c G cc own nL ws ret nm) {x : Int32} (d : decode cc pc = .ok (.i2l, 1))  (hn : pc + 1 = n)
    (kk : gaP p l e R s m args below meth c G nL Z n lv (.long x.toInt64 :: st) h k j) : gaP p l e R s m args below meth c G nL Z pc lv (.int x :: st) h k j := by
  subst hn
  intro H locs ls cells slots hR hS hL h1 h2
  exact lv_i2l V.1 V.2.1 d rfl (kk H locs ls cells slots hR hS hL h1 h2)
theorem g_i2b (V : gaV p l s m args meth c G cc own nL ws ret nm) {x : Int32} (d : decode cc pc = .ok (.i2b, 1))  (hn : pc + 1 = n)
    (kk : gaP p l e R s m args below meth c G nL Z n lv (.int x.toInt8.toInt32 :: st) h k j) : gaP p l e R s m args below meth c G nL Z pc lv (.int x :: st) h k j := by
  subst hn
  intro H locs ls cells slots hR hS hL h1 h2
  exact lv_i2b V.1 V.2.1 d rfl (kk H locs ls cells slots hR hS hL h1 h2)
theorem g_i2c (V : gaV p l s m args meth c G cc own nL ws ret nm) {x : Int32} (d : decode cc pc = .ok (.i2c, 1))  (hn : pc + 1 = n)
    (kk : gaP p l e R s m args below meth c G nL Z n lv (.int (x.toUInt32 % 65536).toInt32 :: st) h k j) : gaP p l e R s m args below meth c G nL Z pc lv (.int x :: st) h k j := by
  subst hn
  intro H locs ls cells slots hR hS hL h1 h2
  exact lv_i2c V.1 V.2.1 d rfl (kk H locs ls cells slots hR hS hL h1 h2)
theorem g_ladd (V : gaV p l s m args meth c G cc own nL ws ret nm) {x y : Int64} (d : decode cc pc = .ok (.ladd, 1))  (hn : pc + 1 = n)
    (kk : gaP p l e R s m args below meth c G nL Z n lv (.long (x + y) :: st) h k j) : gaP p l e R s m args below meth c G nL Z pc lv (.long y :: .long x :: st) h k j := by
  subst hn
  intro H locs ls cells slots hR hS hL h1 h2
  exact lv_ladd V.1 V.2.1 d  (kk H locs ls cells slots hR hS hL h1 h2)
theorem g_lmul (V : gaV p l s m args meth c G cc own nL ws ret nm) {x y : Int64} (d : decode cc pc = .ok (.lmul, 1))  (hn : pc + 1 = n)
    (kk : gaP p l e R s m args below meth c G nL Z n lv (.long (x * y) :: st) h k j) : gaP p l e R s m args below meth c G nL Z pc lv (.long y :: .long x :: st) h k j := by
  subst hn
  intro H locs ls cells slots hR hS hL h1 h2
  exact lv_lmul V.1 V.2.1 d  (kk H locs ls cells slots hR hS hL h1 h2)
theorem g_lcmp (V : gaV p l s m args meth c G cc own nL ws ret nm) {x y : Int64} (d : decode cc pc = .ok (.lcmp, 1))  (hn : pc + 1 = n)
    (kk : gaP p l e R s m args below meth c G nL Z n lv (.int (lg_cmp x y) :: st) h k j) : gaP p l e R s m args below meth c G nL Z pc lv (.long y :: .long x :: st) h k j := by
  subst hn
  intro H locs ls cells slots hR hS hL h1 h2
  exact W.lcmp V.1 V.2.1 d  (kk H locs ls cells slots hR hS hL h1 h2)
theorem g_dup (V : gaV p l s m args meth c G cc own nL ws ret nm) {v : Value} (d : decode cc pc = .ok (.dup, 1)) (hv : v.category = 1) (hn : pc + 1 = n)
    (kk : gaP p l e R s m args below meth c G nL Z n lv (v :: v :: st) h k j) : gaP p l e R s m args below meth c G nL Z pc lv (v :: st) h k j := by
  subst hn
  intro H locs ls cells slots hR hS hL h1 h2
  exact lv_dup V.1 V.2.1 d hv (kk H locs ls cells slots hR hS hL h1 h2)
theorem g_dup_x1 (V : gaV p l s m args meth c G cc own nL ws ret nm) {v w : Value} (d : decode cc pc = .ok (.dup_x1, 1)) (hv : v.category = 1) (hw : w.category = 1) (hn : pc + 1 = n)
    (kk : gaP p l e R s m args below meth c G nL Z n lv (v :: w :: v :: st) h k j) : gaP p l e R s m args below meth c G nL Z pc lv (v :: w :: st) h k j := by
  subst hn
  intro H locs ls cells slots hR hS hL h1 h2
  exact lv_dup_x1 V.1 V.2.1 d hv hw (kk H locs ls cells slots hR hS hL h1 h2)
theorem g_dup2 (V : gaV p l s m args meth c G cc own nL ws ret nm) {v w : Value} (d : decode cc pc = .ok (.dup2, 1)) (hv : v.category = 1) (hw : w.category = 1) (hn : pc + 1 = n)
    (kk : gaP p l e R s m args below meth c G nL Z n lv (v :: w :: v :: w :: st) h k j) : gaP p l e R s m args below meth c G nL Z pc lv (v :: w :: st) h k j := by
  subst hn
  intro H locs ls cells slots hR hS hL h1 h2
  exact lv_dup2_11 V.1 V.2.1 d hv hw (kk H locs ls cells slots hR hS hL h1 h2)
theorem g_pop (V : gaV p l s m args meth c G cc own nL ws ret nm) {v : Value} (d : decode cc pc = .ok (.pop, 1)) (hv : v.category = 1) (hn : pc + 1 = n)
    (kk : gaP p l e R s m args below meth c G nL Z n lv (st) h k j) : gaP p l e R s m args below meth c G nL Z pc lv (v :: st) h k j := by
  subst hn
  intro H locs ls cells slots hR hS hL h1 h2
  exact lv_pop V.1 V.2.1 d hv (kk H locs ls cells slots hR hS hL h1 h2)
theorem g_ldc (V : gaV p l s m args meth c G cc own nL ws ret nm) {i : Nat} (v : Int32) (d : decode cc pc = .ok (.ldc i, 2)) (hw : Cond.constant own i v ∈ ws) (hn : pc + 2 = n)
    (kk : gaP p l e R s m args below meth c G nL Z n lv (.int v :: st) h k j) : gaP p l e R s m args below meth c G nL Z pc lv st h k j := by
  subst hn
  intro H locs ls cells slots hR hS hL h1 h2
  exact lv_ldc V.1 V.2.1 V.2.2.2.1 (V.2.2.2.2.1 _ hw) d (kk H locs ls cells slots hR hS hL h1 h2)
theorem g_ldcw (V : gaV p l s m args meth c G cc own nL ws ret nm) {i : Nat} (v : Int32) (d : decode cc pc = .ok (.ldc_w i, 3)) (hw : Cond.constant own i v ∈ ws) (hn : pc + 3 = n)
    (kk : gaP p l e R s m args below meth c G nL Z n lv (.int v :: st) h k j) : gaP p l e R s m args below meth c G nL Z pc lv st h k j := by
  subst hn
  intro H locs ls cells slots hR hS hL h1 h2
  exact lv_ldcw V.1 V.2.1 V.2.2.2.1 (V.2.2.2.2.1 _ hw) d (kk H locs ls cells slots hR hS hL h1 h2)
theorem g_ldc2 (V : gaV p l s m args meth c G cc own nL ws ret nm) {i : Nat} (v : Int64) (d : decode cc pc = .ok (.ldc2_w i, 3)) (hw : Cond.constantLong own i v ∈ ws) (hn : pc + 3 = n)
    (kk : gaP p l e R s m args below meth c G nL Z n lv (.long v :: st) h k j) : gaP p l e R s m args below meth c G nL Z pc lv st h k j := by
  subst hn
  intro H locs ls cells slots hR hS hL h1 h2
  exact lv_ldc2 V.1 V.2.1 V.2.2.2.1 (V.2.2.2.2.1 _ hw) d (kk H locs ls cells slots hR hS hL h1 h2)
theorem g_istore (V : gaV p l s m args meth c G cc own nL ws ret nm) {i : Nat} {x : Int32} {lv2 : List (Option Value)} (d : decode cc pc = .ok (.istore i, 2)) (hi : i < nL) (hok : gaOk lv i = true) (hlv : lv.set i (some (.int x)) = lv2) (hn : pc + 2 = n)
    (kk : gaP p l e R s m args below meth c G nL Z n lv2 st h k j) : gaP p l e R s m args below meth c G nL Z pc lv (.int x :: st) h k j := by
  subst hn
  subst hlv
  intro H locs ls cells slots hR hS hL h1 h2
  exact lv_istore V.1 V.2.1 d hL.has hi rfl (fun ls2 hl2 => kk H locs ls2 cells slots hR hS (gaL.set1 hok hl2) h1 h2)
theorem g_istore_n (V : gaV p l s m args meth c G cc own nL ws ret nm) {i : Fin 4} {x : Int32} {lv2 : List (Option Value)} (d : decode cc pc = .ok (.istore_n i, 1)) (hi : (i : Nat) < nL) (hok : gaOk lv (i : Nat) = true) (hlv : lv.set (i : Nat) (some (.int x)) = lv2) (hn : pc + 1 = n)
    (kk : gaP p l e R s m args below meth c G nL Z n lv2 st h k j) : gaP p l e R s m args below meth c G nL Z pc lv (.int x :: st) h k j := by
  subst hn
  subst hlv
  intro H locs ls cells slots hR hS hL h1 h2
  exact lv_istore_n V.1 V.2.1 d rfl hL.has hi rfl (fun ls2 hl2 => kk H locs ls2 cells slots hR hS (gaL.set1 hok hl2) h1 h2)
theorem g_astore (V : gaV p l s m args meth c G cc own nL ws ret nm) {i : Nat} {x : Nat} {lv2 : List (Option Value)} (d : decode cc pc = .ok (.astore i, 2)) (hi : i < nL) (hok : gaOk lv i = true) (hlv : lv.set i (some (.ref x)) = lv2) (hn : pc + 2 = n)
    (kk : gaP p l e R s m args below meth c G nL Z n lv2 st h k j) : gaP p l e R s m args below meth c G nL Z pc lv (.ref x :: st) h k j := by
  subst hn
  subst hlv
  intro H locs ls cells slots hR hS hL h1 h2
  exact lv_astore V.1 V.2.1 d hL.has hi rfl (fun ls2 hl2 => kk H locs ls2 cells slots hR hS (gaL.set1 hok hl2) h1 h2)
theorem g_astore_n (V : gaV p l s m args meth c G cc own nL ws ret nm) {i : Fin 4} {x : Nat} {lv2 : List (Option Value)} (d : decode cc pc = .ok (.astore_n i, 1)) (hi : (i : Nat) < nL) (hok : gaOk lv (i : Nat) = true) (hlv : lv.set (i : Nat) (some (.ref x)) = lv2) (hn : pc + 1 = n)
    (kk : gaP p l e R s m args below meth c G nL Z n lv2 st h k j) : gaP p l e R s m args below meth c G nL Z pc lv (.ref x :: st) h k j := by
  subst hn
  subst hlv
  intro H locs ls cells slots hR hS hL h1 h2
  exact lv_astore_n V.1 V.2.1 d rfl hL.has hi rfl (fun ls2 hl2 => kk H locs ls2 cells slots hR hS (gaL.set1 hok hl2) h1 h2)
theorem g_lstore (V : gaV p l s m args meth c G cc own nL ws ret nm) {i : Nat} {x : Int64} {lv2 : List (Option Value)} (d : decode cc pc = .ok (.lstore i, 2)) (hi : i + 1 < nL) (hok : gaOk lv i = true) (hlv : (lv.set i (some (.long x))).set (i + 1) none = lv2) (hn : pc + 2 = n)
    (kk : gaP p l e R s m args below meth c G nL Z n lv2 st h k j) : gaP p l e R s m args below meth c G nL Z pc lv (.long x :: st) h k j := by
  subst hn
  subst hlv
  intro H locs ls cells slots hR hS hL h1 h2
  exact lv_lstore V.1 V.2.1 d hL.has hi rfl (fun ls2 hl2 => kk H locs ls2 cells slots hR hS (gaL.set2 hok hl2) h1 h2)
theorem g_lstore_n (V : gaV p l s m args meth c G cc own nL ws ret nm) {i : Fin 4} {x : Int64} {lv2 : List (Option Value)} (d : decode cc pc = .ok (.lstore_n i, 1)) (hi : (i : Nat) + 1 < nL) (hok : gaOk lv (i : Nat) = true) (hlv : (lv.set (i : Nat) (some (.long x))).set ((i : Nat) + 1) none = lv2) (hn : pc + 1 = n)
    (kk : gaP p l e R s m args below meth c G nL Z n lv2 st h k j) : gaP p l e R s m args below meth c G nL Z pc lv (.long x :: st) h k j := by
  subst hn
  subst hlv
  intro H locs ls cells slots hR hS hL h1 h2
  exact lv_lstore_n V.1 V.2.1 d rfl hL.has hi rfl (fun ls2 hl2 => kk H locs ls2 cells slots hR hS (gaL.set2 hok hl2) h1 h2)
theorem g_iinc (V : gaV p l s m args meth c G cc own nL ws ret nm) {i : Nat} {q : Int} {x v : Int32} {lv2 : List (Option Value)} (d : decode cc pc = .ok (.iinc i q, 3)) (hi : i < nL) (hl : lv[i]? = some (some (.int x))) (hv : Int32.ofInt q = v) (hok : gaOk lv i = true) (hlv : lv.set i (some (.int (x + v))) = lv2) (hn : pc + 3 = n)
    (kk : gaP p l e R s m args below meth c G nL Z n lv2 st h k j) : gaP p l e R s m args below meth c G nL Z pc lv st h k j := by
  subst hn
  subst hlv
  subst hv
  intro H locs ls cells slots hR hS hL h1 h2
  obtain ⟨z, hz⟩ := List.getElem?_of_mem (gaPairs_mem.mpr hl)
  exact lv_iinc V.1 V.2.1 d hL.has hz rfl hi rfl (fun ls2 hl2 => kk H locs ls2 cells slots hR hS (gaL.set1 hok hl2) h1 h2)
theorem g_if_eq (V : gaV p l s m args meth c G cc own nL ws ret nm) {x : Int32} {off : Int} {t : Nat} (d : decode cc pc = .ok (.ifCond .eq off, 3)) (ht : (pc : Int) + off = (t : Int)) (hn : pc + 3 = n)
    (kt : x = 0 → gaP p l e R s m args below meth c G nL Z t lv st h k j) (kf : ¬ (x = 0) → gaP p l e R s m args below meth c G nL Z n lv st h k j) : gaP p l e R s m args below meth c G nL Z pc lv (.int x :: st) h k j := by
  subst hn
  intro H locs ls cells slots hR hS hL h1 h2
  exact lv_if_eq V.1 V.2.1 d ht (fun q => kt q H locs ls cells slots hR hS hL h1 h2) (fun q => kf q H locs ls cells slots hR hS hL h1 h2)
theorem g_if_ne (V : gaV p l s m args meth c G cc own nL ws ret nm) {x : Int32} {off : Int} {t : Nat} (d : decode cc pc = .ok (.ifCond .ne off, 3)) (ht : (pc : Int) + off = (t : Int)) (hn : pc + 3 = n)
    (kt : ¬ x = 0 → gaP p l e R s m args below meth c G nL Z t lv st h k j) (kf : x = 0 → gaP p l e R s m args below meth c G nL Z n lv st h k j) : gaP p l e R s m args below meth c G nL Z pc lv (.int x :: st) h k j := by
  subst hn
  intro H locs ls cells slots hR hS hL h1 h2
  exact lv_if_ne V.1 V.2.1 d ht (fun q => kt q H locs ls cells slots hR hS hL h1 h2) (fun q => kf q H locs ls cells slots hR hS hL h1 h2)
theorem g_if_lt (V : gaV p l s m args meth c G cc own nL ws ret nm) {x : Int32} {off : Int} {t : Nat} (d : decode cc pc = .ok (.ifCond .lt off, 3)) (ht : (pc : Int) + off = (t : Int)) (hn : pc + 3 = n)
    (kt : x < 0 → gaP p l e R s m args below meth c G nL Z t lv st h k j) (kf : ¬ (x < 0) → gaP p l e R s m args below meth c G nL Z n lv st h k j) : gaP p l e R s m args below meth c G nL Z pc lv (.int x :: st) h k j := by
  subst hn
  intro H locs ls cells slots hR hS hL h1 h2
  exact lv_if_lt V.1 V.2.1 d ht (fun q => kt q H locs ls cells slots hR hS hL h1 h2) (fun q => kf q H locs ls cells slots hR hS hL h1 h2)
theorem g_if_ge (V : gaV p l s m args meth c G cc own nL ws ret nm) {x : Int32} {off : Int} {t : Nat} (d : decode cc pc = .ok (.ifCond .ge off, 3)) (ht : (pc : Int) + off = (t : Int)) (hn : pc + 3 = n)
    (kt : 0 ≤ x → gaP p l e R s m args below meth c G nL Z t lv st h k j) (kf : ¬ (0 ≤ x) → gaP p l e R s m args below meth c G nL Z n lv st h k j) : gaP p l e R s m args below meth c G nL Z pc lv (.int x :: st) h k j := by
  subst hn
  intro H locs ls cells slots hR hS hL h1 h2
  exact lv_if_ge V.1 V.2.1 d ht (fun q => kt q H locs ls cells slots hR hS hL h1 h2) (fun q => kf q H locs ls cells slots hR hS hL h1 h2)
theorem g_if_gt (V : gaV p l s m args meth c G cc own nL ws ret nm) {x : Int32} {off : Int} {t : Nat} (d : decode cc pc = .ok (.ifCond .gt off, 3)) (ht : (pc : Int) + off = (t : Int)) (hn : pc + 3 = n)
    (kt : 0 < x → gaP p l e R s m args below meth c G nL Z t lv st h k j) (kf : ¬ (0 < x) → gaP p l e R s m args below meth c G nL Z n lv st h k j) : gaP p l e R s m args below meth c G nL Z pc lv (.int x :: st) h k j := by
  subst hn
  intro H locs ls cells slots hR hS hL h1 h2
  exact lv_if_gt V.1 V.2.1 d ht (fun q => kt q H locs ls cells slots hR hS hL h1 h2) (fun q => kf q H locs ls cells slots hR hS hL h1 h2)
theorem g_if_le (V : gaV p l s m args meth c G cc own nL ws ret nm) {x : Int32} {off : Int} {t : Nat} (d : decode cc pc = .ok (.ifCond .le off, 3)) (ht : (pc : Int) + off = (t : Int)) (hn : pc + 3 = n)
    (kt : x ≤ 0 → gaP p l e R s m args below meth c G nL Z t lv st h k j) (kf : ¬ (x ≤ 0) → gaP p l e R s m args below meth c G nL Z n lv st h k j) : gaP p l e R s m args below meth c G nL Z pc lv (.int x :: st) h k j := by
  subst hn
  intro H locs ls cells slots hR hS hL h1 h2
  exact lv_if_le V.1 V.2.1 d ht (fun q => kt q H locs ls cells slots hR hS hL h1 h2) (fun q => kf q H locs ls cells slots hR hS hL h1 h2)
theorem g_icmp_eq (V : gaV p l s m args meth c G cc own nL ws ret nm) {x y : Int32} {off : Int} {t : Nat} (d : decode cc pc = .ok (.if_icmp .eq off, 3)) (ht : (pc : Int) + off = (t : Int)) (hn : pc + 3 = n)
    (kt : x = y → gaP p l e R s m args below meth c G nL Z t lv st h k j) (kf : ¬ (x = y) → gaP p l e R s m args below meth c G nL Z n lv st h k j) : gaP p l e R s m args below meth c G nL Z pc lv (.int y :: .int x :: st) h k j := by
  subst hn
  intro H locs ls cells slots hR hS hL h1 h2
  exact lv_icmp_eq V.1 V.2.1 d ht (fun q => kt q H locs ls cells slots hR hS hL h1 h2) (fun q => kf q H locs ls cells slots hR hS hL h1 h2)
theorem g_icmp_ne (V : gaV p l s m args meth c G cc own nL ws ret nm) {x y : Int32} {off : Int} {t : Nat} (d : decode cc pc = .ok (.if_icmp .ne off, 3)) (ht : (pc : Int) + off = (t : Int)) (hn : pc + 3 = n)
    (kt : ¬ x = y → gaP p l e R s m args below meth c G nL Z t lv st h k j) (kf : x = y → gaP p l e R s m args below meth c G nL Z n lv st h k j) : gaP p l e R s m args below meth c G nL Z pc lv (.int y :: .int x :: st) h k j := by
  subst hn
  intro H locs ls cells slots hR hS hL h1 h2
  exact lv_icmp_ne V.1 V.2.1 d ht (fun q => kt q H locs ls cells slots hR hS hL h1 h2) (fun q => kf q H locs ls cells slots hR hS hL h1 h2)
theorem g_icmp_lt (V : gaV p l s m args meth c G cc own nL ws ret nm) {x y : Int32} {off : Int} {t : Nat} (d : decode cc pc = .ok (.if_icmp .lt off, 3)) (ht : (pc : Int) + off = (t : Int)) (hn : pc + 3 = n)
    (kt : x < y → gaP p l e R s m args below meth c G nL Z t lv st h k j) (kf : ¬ (x < y) → gaP p l e R s m args below meth c G nL Z n lv st h k j) : gaP p l e R s m args below meth c G nL Z pc lv (.int y :: .int x :: st) h k j := by
  subst hn
  intro H locs ls cells slots hR hS hL h1 h2
  exact lv_icmp_lt V.1 V.2.1 d ht (fun q => kt q H locs ls cells slots hR hS hL h1 h2) (fun q => kf q H locs ls cells slots hR hS hL h1 h2)
theorem g_icmp_ge (V : gaV p l s m args meth c G cc own nL ws ret nm) {x y : Int32} {off : Int} {t : Nat} (d : decode cc pc = .ok (.if_icmp .ge off, 3)) (ht : (pc : Int) + off = (t : Int)) (hn : pc + 3 = n)
    (kt : y ≤ x → gaP p l e R s m args below meth c G nL Z t lv st h k j) (kf : ¬ (y ≤ x) → gaP p l e R s m args below meth c G nL Z n lv st h k j) : gaP p l e R s m args below meth c G nL Z pc lv (.int y :: .int x :: st) h k j := by
  subst hn
  intro H locs ls cells slots hR hS hL h1 h2
  exact lv_icmp_ge V.1 V.2.1 d ht (fun q => kt q H locs ls cells slots hR hS hL h1 h2) (fun q => kf q H locs ls cells slots hR hS hL h1 h2)
theorem g_icmp_gt (V : gaV p l s m args meth c G cc own nL ws ret nm) {x y : Int32} {off : Int} {t : Nat} (d : decode cc pc = .ok (.if_icmp .gt off, 3)) (ht : (pc : Int) + off = (t : Int)) (hn : pc + 3 = n)
    (kt : y < x → gaP p l e R s m args below meth c G nL Z t lv st h k j) (kf : ¬ (y < x) → gaP p l e R s m args below meth c G nL Z n lv st h k j) : gaP p l e R s m args below meth c G nL Z pc lv (.int y :: .int x :: st) h k j := by
  subst hn
  intro H locs ls cells slots hR hS hL h1 h2
  exact lv_icmp_gt V.1 V.2.1 d ht (fun q => kt q H locs ls cells slots hR hS hL h1 h2) (fun q => kf q H locs ls cells slots hR hS hL h1 h2)
theorem g_icmp_le (V : gaV p l s m args meth c G cc own nL ws ret nm) {x y : Int32} {off : Int} {t : Nat} (d : decode cc pc = .ok (.if_icmp .le off, 3)) (ht : (pc : Int) + off = (t : Int)) (hn : pc + 3 = n)
    (kt : x ≤ y → gaP p l e R s m args below meth c G nL Z t lv st h k j) (kf : ¬ (x ≤ y) → gaP p l e R s m args below meth c G nL Z n lv st h k j) : gaP p l e R s m args below meth c G nL Z pc lv (.int y :: .int x :: st) h k j := by
  subst hn
  intro H locs ls cells slots hR hS hL h1 h2
  exact lv_icmp_le V.1 V.2.1 d ht (fun q => kt q H locs ls cells slots hR hS hL h1 h2) (fun q => kf q H locs ls cells slots hR hS hL h1 h2)
theorem g_goto (V : gaV p l s m args meth c G cc own nL ws ret nm) {off : Int} {t : Nat} (d : decode cc pc = .ok (.goto off, 3)) (ht : (pc : Int) + off = (t : Int)) (kk : gaP p l e R s m args below meth c G nL Z t lv st h k j) : gaP p l e R s m args below meth c G nL Z pc lv st h k j := by
  intro H locs ls cells slots hR hS hL h1 h2
  exact lv_goto V.1 V.2.1 d ht (kk H locs ls cells slots hR hS hL h1 h2)
theorem g_ifnonnull (V : gaV p l s m args meth c G cc own nL ws ret nm) {x : Nat} {off : Int} {t : Nat} (d : decode cc pc = .ok (.ifnonnull off, 3)) (ht : (pc : Int) + off = (t : Int)) (kk : gaP p l e R s m args below meth c G nL Z t lv st h k j) : gaP p l e R s m args below meth c G nL Z pc lv (.ref x :: st) h k j := by
  intro H locs ls cells slots hR hS hL h1 h2
  exact lv_ifnonnull V.1 V.2.1 d ht (kk H locs ls cells slots hR hS hL h1 h2)
theorem g_tableIn (V : gaV p l s m args meth c G cc own nL ws ret nm) {dflt lo hi : Int} {offs : Array Int} {len : Nat} {x : Int32} {off : Int} {t : Nat} (d : decode cc pc = .ok (.tableswitch dflt lo hi offs, len)) (h3 : ¬ x.toInt < lo) (h4 : ¬ hi < x.toInt) (ho : offs[(x.toInt - lo).toNat]? = some off) (ht : (pc : Int) + off = (t : Int)) (kk : gaP p l e R s m args below meth c G nL Z t lv st h k j) : gaP p l e R s m args below meth c G nL Z pc lv (.int x :: st) h k j := by
  intro H locs ls cells slots hR hS hL h1 h2
  exact lv_tableIn V.1 V.2.1 d h3 h4 ho ht (kk H locs ls cells slots hR hS hL h1 h2)
theorem g_tableOut (V : gaV p l s m args meth c G cc own nL ws ret nm) {dflt lo hi : Int} {offs : Array Int} {len : Nat} {x : Int32} {t : Nat} (d : decode cc pc = .ok (.tableswitch dflt lo hi offs, len)) (h3 : x.toInt < lo ∨ hi < x.toInt) (ht : (pc : Int) + dflt = (t : Int)) (kk : gaP p l e R s m args below meth c G nL Z t lv st h k j) : gaP p l e R s m args below meth c G nL Z pc lv (.int x :: st) h k j := by
  intro H locs ls cells slots hR hS hL h1 h2
  exact lv_tableOut V.1 V.2.1 d h3 ht (kk H locs ls cells slots hR hS hL h1 h2)
def gaMask (lv : List (Option Value)) (bs : List Bool) : List (Option Value) := List.zipWith (fun v b => if b = true then v else none) lv bs
theorem gaMask_at {lv : List (Option Value)} {bs : List Bool} {i : Nat} {v : Value} (hq : (gaMask lv bs)[i]? = some (some v)) : lv[i]? = some (some v) := by
  unfold gaMask at hq
  rw [List.getElem?_zipWith] at hq
  cases h1 : lv[i]? with
  | none => rw [h1] at hq; simp at hq
  | some o =>
    cases h2 : bs[i]? with
    | none => rw [h1, h2] at hq; simp at hq
    | some b =>
      rw [h1, h2] at hq
      cases b <;> simp at hq
      rw [hq]
theorem g_less {bs : List Bool} {lv2 : List (Option Value)} (hb : gaMask lv bs = lv2) (kk : gaP p l e R s m args below meth c G nL Z pc lv2 st h k j) : gaP p l e R s m args below meth c G nL Z pc lv st h k j := by
  subst hb
  intro H locs ls cells slots hR hS hL h1 h2
  exact kk H locs ls cells slots hR hS ⟨hL.1, hL.2.1, fun i v hq => hL.2.2 i v (gaMask_at hq)⟩ h1 h2
theorem g_vret (V : gaV p l s m args meth c G cc own nL ws ret nm) (hr : ret = none) (d : decode cc pc = .ok (.return_, 1)) (hq : Q none h) : gaP p l e R s m args below meth c G nL (gaZ below G Q X args s R) pc lv [] h k j := by
  intro H locs ls cells slots hR hS hL h1 h2
  refine W.widen (k := R.cells) (n := R.slots) (by omega) (by omega) (vx_ret ?_)
  exact W.vret V.1 V.2.1 (V.2.2.2.2.2.1.trans hr) (fun t ht hW => ⟨none, h, rfl, hq, by rw [ht]; exact hR.moved hW.alike, hS.F ht⟩) hS.2.2 d V.2.2.2.2.2.2.1
theorem g_iret (V : gaV p l s m args meth c G cc own nL ws ret nm) {ty : FieldType} {x : Int32} (hr : ret = some ty) (hn : narrow ty (.int x) = .int x) (d : decode cc pc = .ok (.ireturn, 1)) (hq : Q (some (.int x)) h) : gaP p l e R s m args below meth c G nL (gaZ below G Q X args s R) pc lv [.int x] h k j := by
  intro H locs ls cells slots hR hS hL h1 h2
  refine W.widen (k := R.cells) (n := R.slots) (by omega) (by omega) (vx_ret ?_)
  exact W.zret V.1 V.2.1 (V.2.2.2.2.2.1.trans hr) hn (fun t ht hW => ⟨some (.int x), h, rfl, hq, by rw [ht]; exact hR.moved hW.alike, hS.F ht⟩) hS.2.2 d V.2.2.2.2.2.2.1
theorem g_lret (V : gaV p l s m args meth c G cc own nL ws ret nm) {x : Int64} (hr : ret = some .long) (d : decode cc pc = .ok (.lreturn, 1)) (hq : Q (some (.long x)) h) : gaP p l e R s m args below meth c G nL (gaZ below G Q X args s R) pc lv [.long x] h k j := by
  intro H locs ls cells slots hR hS hL h1 h2
  refine W.widen (k := R.cells) (n := R.slots) (by omega) (by omega) (vx_ret ?_)
  exact W.lret V.1 V.2.1 (V.2.2.2.2.2.1.trans hr) (fun t ht hW => ⟨some (.long x), h, rfl, hq, by rw [ht]; exact hR.moved hW.alike, hS.F ht⟩) hS.2.2 d V.2.2.2.2.2.2.1
theorem g_aret (V : gaV p l s m args meth c G cc own nL ws ret nm) {rt : FieldType} {x : Nat} (hr : ret = some rt) (hrt : (∃ n, rt = .object n) ∨ ∃ t, rt = .array t) (d : decode cc pc = .ok (.areturn, 1)) (hq : Q (some (.ref x)) h) : gaP p l e R s m args below meth c G nL (gaZ below G Q X args s R) pc lv [.ref x] h k j := by
  intro H locs ls cells slots hR hS hL h1 h2
  refine W.widen (k := R.cells) (n := R.slots) (by omega) (by omega) (vx_ret ?_)
  exact W.aret V.1 V.2.1 (V.2.2.2.2.2.1.trans hr) hrt (Or.inr ⟨x, rfl⟩) (fun t ht hW => ⟨some (.ref x), h, rfl, hq, by rw [ht]; exact hR.moved hW.alike, hS.F ht⟩) hS.2.2 d V.2.2.2.2.2.2.1
end GAR
section GAH
variable {H : Heap}
variable {p : Program} {l : Launch} {e : Env} {R : Room} {s : State} {m : MethodId} {args : Array Value} {below : List Frame} {meth : Method} {c : Code} {G : gaG} {cc : ByteArray} {own : String} {nL : Nat} {ws : List Cond} {ret : Option FieldType} {nm : String} {Q : Option Value → gaH → Prop} {X : String → gaH → Prop} {Z : State → Prop}
variable {pc n : Nat} {lv : List (Option Value)} {st : List Value} {h : gaH} {k j : Nat}
theorem gaR.obj (hR : gaR G s h H) {a ci : Nat} {fs : List Value} (hci : ci < 100) (ha : h a = some (ci, fs)) : va_P G.1 vwCl [(a, .inr (ci, fs))] H ∧ G.2.2.1 ≤ a := by
  rcases hR a _ ha with ⟨q1, q2, q3⟩ | ⟨q1, -⟩
  · refine ⟨fun z q hq => ?_, q2⟩
    have hz : z < 1 := (List.getElem?_eq_some_iff.mp hq).1
    rw [show z = 0 by omega] at hq
    cases hq
    exact q3.1 hci
  · dsimp only at q1
    omega
theorem g_get (V : gaV p l s m args meth c G cc own nL ws ret nm) {C ref : String} {T : u_T} {N ci index : Nat} (f : Nat) (hc : vwCl[ci]? = some (C, T, N)) (hin : ∀ w ∈ u_ws C T N, w ∈ ws) (hf : f < N) (hci : ci < 100) (hlink : Cond.fieldLink own index ref (T f).2.1 (T f).2.2.1 ∈ ws) (hsame : (T f).1 = ref)
    {a : Nat} {fs : List Value} {v : Value} (ha : h a = some (ci, fs)) (hv : fs[f]? = some v) (d : decode cc pc = .ok (.getfield index, 3)) (hn : pc + 3 = n)
    (kk : gaP p l e R s m args below meth c G nL Z n lv (v :: st) h k j) : gaP p l e R s m args below meth c G nL Z pc lv (.ref a :: st) h k j := by
  subst hn
  intro H locs ls cells slots hR hS hL h1 h2
  obtain ⟨hP, -⟩ := hR.obj hci ha
  exact va_get V.1 V.2.1 V.2.2.2.2.1 hin V.2.2.2.1 V.2.2.2.2.2.2.2.2.2.1.1 hP 0 rfl hc f hf (V.2.2.2.2.1 _ hlink) (fun x hx => by rw [← hsame]; exact hx) hv d (kk H locs ls cells slots hR hS hL h1 h2)
theorem g_getN (V : gaV p l s m args meth c G cc own nL ws ret nm) {C ref host : String} {T : u_T} {N ci index : Nat} (f : Nat) (hc : vwCl[ci]? = some (C, T, N)) (hin : ∀ w ∈ u_ws C T N, w ∈ ws) (hf : f < N) (hci : ci < 100) (hlink : Cond.fieldLinkNest own index ref (T f).2.1 (T f).2.2.1 host ∈ gaNests) (hsame : (T f).1 = ref)
    {a : Nat} {fs : List Value} {v : Value} (ha : h a = some (ci, fs)) (hv : fs[f]? = some v) (d : decode cc pc = .ok (.getfield index, 3)) (hn : pc + 3 = n)
    (kk : gaP p l e R s m args below meth c G nL Z n lv (v :: st) h k j) : gaP p l e R s m args below meth c G nL Z pc lv (.ref a :: st) h k j := by
  subst hn
  intro H locs ls cells slots hR hS hL h1 h2
  obtain ⟨hP, -⟩ := hR.obj hci ha
  exact va_getN V.1 V.2.1 V.2.2.2.2.1 hin V.2.2.2.1 V.2.2.2.2.2.2.2.2.2.1.1 hP 0 rfl hc f hf (va_Nw.use rfl (V.2.2.2.2.2.2.2.2.2.1.2.2.2.2.2.2.1 _ hlink)) (fun x hx => by rw [← hsame]; exact hx) hv d (kk H locs ls cells slots hR hS hL h1 h2)
/-- a field's new value in the heap's picture -/
theorem gaR.put (hR : gaR G s h H) {H1 : Heap} {a ci f : Nat} {fs : List Value} {v : Value} {C : String} {T : u_T} {N : Nat} (hc : vwCl[ci]? = some (C, T, N)) (hci : ci < 100) (hB : G.2.2.1 ≤ a) (hl : f < fs.length) (hf : f < N) (hap : ∀ x y, x < N → y < N → x ≠ y → (G.1.2 ci) x ≠ (G.1.2 ci) y)
    {cell : Cell} (q2 : cell.cls = G.1.1 ci) (q3 : cell.vm = .none) (q4 : ∀ k, k < N → cell.slots[G.1.2 ci k]? = some (vp_V fs k)) (e1 : H1[a]? = some (cell.setSlot (G.1.2 ci f) v)) (oq : ∀ q : Nat, q ≠ a → H1[q]? = H[q]?) : gaR G s (gaUp h a (ci, fs.set f v)) H1 := by
  refine hR.set (by dsimp only; omega) hB ⟨fun _ => ?_, fun q => ?_⟩ (fun q hq _ => oq q hq)
  · exact ⟨_, hc, t_OB.to (V := updV (vp_V fs) f v) ⟨_, e1, q2, q3, t_set q4 hap hf v⟩ (fun j _ => vp_updV_set hl v j)⟩
  · dsimp only at q
    omega
theorem g_put (V : gaV p l s m args meth c G cc own nL ws ret nm) {C ref : String} {T : u_T} {N ci index : Nat} (f : Nat) (ty0 : Nat → FieldType) (hty : ∀ k, k < N → parseFieldDescriptor (T k).2.2.1 = some (ty0 k)) (hnm : ∀ a, a < N → ∀ b, b < N → a ≠ b → (T a).2.1 ≠ (T b).2.1)
    (hc : vwCl[ci]? = some (C, T, N)) (hin : ∀ w ∈ u_ws C T N, w ∈ ws) (hf : f < N) (hci : ci < 100) (hlink : Cond.fieldLink own index ref (T f).2.1 (T f).2.2.1 ∈ ws) (hsame : (T f).1 = ref) (hfin : (T f).2.2.2 = false)
    {a : Nat} {fs : List Value} {v : Value} (hnr : narrow (ty0 f) v = v) (hfit : fits (ty0 f) v = true) (ha : h a = some (ci, fs)) (hl : f < fs.length) (d : decode cc pc = .ok (.putfield index, 3)) (hn : pc + 3 = n)
    (kk : gaP p l e R s m args below meth c G nL Z n lv st (gaUp h a (ci, fs.set f v)) k j) : gaP p l e R s m args below meth c G nL Z pc lv (v :: .ref a :: st) h k j := by
  subst hn
  intro H locs ls cells slots hR hS hL h1 h2
  obtain ⟨hP, hB⟩ := hR.obj hci ha
  have hK := V.2.2.2.2.2.2.2.2.2.1.1
  have hts := V.2.2.2.2.1
  have hap := va_apart (own := own) hts hin ty0 hty hnm hK hc
  obtain ⟨r, g1, cell, q1, q2, q3, q4⟩ := hP 0 _ rfl
  have hr : r = (C, T, N) := Option.some.inj (g1.symm.trans hc)
  subst hr
  obtain ⟨hSl, hfc, kC, hkC, hkind⟩ := hK.1 ci _ hc
  obtain ⟨cf, kf, fi, fd, hi, hsl⟩ := hSl f hf
  have hlay := hts _ (hin _ (u_in_lay hf))
  unfold u_lay at hlay
  rw [if_neg (by rw [hfin]; decide)] at hlay
  have hst := (u_facts hfc hkC (u_lays hts hin hf) hi).1
  have h6 := u_store hfc hkC hkind hlay hi (hty f hf) hnr hfit
  subst hsame
  refine W.putK V.1 V.2.1 (f := fd) ⟨V.2.2.2.1, hts _ hlink, ⟨_, _, _, hi⟩, hst⟩ (by rw [q2]; exact h6) q1 q3 (by rw [hsl]; exact k2_hasslot (q4 f hf)) rfl rfl d fun H' e1 e2 e3 => ?_
  rw [hsl] at e1
  exact kk H' _ ls cells slots (hR.put hc hci hB hl hf hap q2 q3 q4 e1 e3) (hS.put e2 e3 hB) hL h1 h2
theorem g_putN (V : gaV p l s m args meth c G cc own nL ws ret nm) {C ref host : String} {T : u_T} {N ci index : Nat} (f : Nat) (ty0 : Nat → FieldType) (hty : ∀ k, k < N → parseFieldDescriptor (T k).2.2.1 = some (ty0 k)) (hnm : ∀ a, a < N → ∀ b, b < N → a ≠ b → (T a).2.1 ≠ (T b).2.1)
    (hc : vwCl[ci]? = some (C, T, N)) (hin : ∀ w ∈ u_ws C T N, w ∈ ws) (hf : f < N) (hci : ci < 100) (hlink : Cond.fieldLinkNest own index ref (T f).2.1 (T f).2.2.1 host ∈ gaNests) (hsame : (T f).1 = ref) (hfin : (T f).2.2.2 = false)
    {a : Nat} {fs : List Value} {v : Value} (hnr : narrow (ty0 f) v = v) (hfit : fits (ty0 f) v = true) (ha : h a = some (ci, fs)) (hl : f < fs.length) (d : decode cc pc = .ok (.putfield index, 3)) (hn : pc + 3 = n)
    (kk : gaP p l e R s m args below meth c G nL Z n lv st (gaUp h a (ci, fs.set f v)) k j) : gaP p l e R s m args below meth c G nL Z pc lv (v :: .ref a :: st) h k j := by
  subst hn
  intro H locs ls cells slots hR hS hL h1 h2
  obtain ⟨hP, hB⟩ := hR.obj hci ha
  have hK := V.2.2.2.2.2.2.2.2.2.1.1
  have hts := V.2.2.2.2.1
  have hap := va_apart (own := own) hts hin ty0 hty hnm hK hc
  obtain ⟨r, g1, cell, q1, q2, q3, q4⟩ := hP 0 _ rfl
  have hr : r = (C, T, N) := Option.some.inj (g1.symm.trans hc)
  subst hr
  obtain ⟨hSl, hfc, kC, hkC, hkind⟩ := hK.1 ci _ hc
  obtain ⟨cf, kf, fi, fd, hi, hsl⟩ := hSl f hf
  have hlay := hts _ (hin _ (u_in_lay hf))
  unfold u_lay at hlay
  rw [if_neg (by rw [hfin]; decide)] at hlay
  have hst := (u_facts hfc hkC (u_lays hts hin hf) hi).1
  have h6 := u_store hfc hkC hkind hlay hi (hty f hf) hnr hfit
  subst hsame
  refine va_WputK V.1 V.2.1 (f := fd) V.2.2.2.1 (va_Nw.use rfl (V.2.2.2.2.2.2.2.2.2.1.2.2.2.2.2.2.1 _ hlink)) hi hst (by rw [q2]; exact h6) q1 q3 (by rw [hsl]; exact k2_hasslot (q4 f hf)) rfl rfl d fun H' e1 e2 e3 => ?_
  rw [hsl] at e1
  exact kk H' _ ls cells slots (hR.put hc hci hB hl hf hap q2 q3 q4 e1 e3) (hS.put e2 e3 hB) hL h1 h2
theorem g_putF (V : gaV p l s m args meth c G cc own nL ws ret nm) {C ref : String} {T : u_T} {N ci index : Nat} (f : Nat) (ty0 : Nat → FieldType) (hty : ∀ k, k < N → parseFieldDescriptor (T k).2.2.1 = some (ty0 k)) (hnm : ∀ a, a < N → ∀ b, b < N → a ≠ b → (T a).2.1 ≠ (T b).2.1)
    (hc : vwCl[ci]? = some (C, T, N)) (hin : ∀ w ∈ u_ws C T N, w ∈ ws) (hf : f < N) (hci : ci < 100) (hlink : Cond.fieldLink own index ref (T f).2.1 (T f).2.2.1 ∈ ws) (hsame : (T f).1 = ref) (hfin : (T f).2.2.2 = true) (hin2 : nm = "<init>") (hdecl : (T f).1 = own)
    {a : Nat} {fs : List Value} {v : Value} (hnr : narrow (ty0 f) v = v) (hfit : fits (ty0 f) v = true) (ha : h a = some (ci, fs)) (hl : f < fs.length) (d : decode cc pc = .ok (.putfield index, 3)) (hn : pc + 3 = n)
    (kk : gaP p l e R s m args below meth c G nL Z n lv st (gaUp h a (ci, fs.set f v)) k j) : gaP p l e R s m args below meth c G nL Z pc lv (v :: .ref a :: st) h k j := by
  subst hn
  intro H locs ls cells slots hR hS hL h1 h2
  obtain ⟨hP, hB⟩ := hR.obj hci ha
  have hK := V.2.2.2.2.2.2.2.2.2.1.1
  have hts := V.2.2.2.2.1
  have hown := V.2.2.2.1
  have hap := va_apart (own := own) hts hin ty0 hty hnm hK hc
  obtain ⟨r, g1, cell, q1, q2, q3, q4⟩ := hP 0 _ rfl
  have hr : r = (C, T, N) := Option.some.inj (g1.symm.trans hc)
  subst hr
  obtain ⟨hSl, hfc, kC, hkC, hkind⟩ := hK.1 ci _ hc
  obtain ⟨cf, kf, fi, fd, hi, hsl⟩ := hSl f hf
  have hlay := hts _ (hin _ (u_in_lay hf))
  unfold u_lay at hlay
  rw [if_pos hfin] at hlay
  have hst := (u_facts hfc hkC (u_lays hts hin hf) hi).1
  have hcf : m.cls = cf := by
    obtain ⟨_, _, c', _, _, _, -, -, hf', -, -, -, hown2, -⟩ := Cond.laysFinal_spec hlay
    have e1 : c' = cf := by have := hi.symm.trans hf'; simp at this; exact this.1.symm
    rw [hdecl] at hown2
    rw [← e1]; exact Option.some.inj (hown.symm.trans hown2)
  have h6 := u_fits hfc hkC hkind (Or.inr hlay) hi (hty f hf) hnr hfit
  subst hsame
  refine W.putFinK V.1 V.2.1 hown (hts _ hlink) hi hst hcf (V.2.2.2.2.2.2.2.2.1.trans hin2) (by rw [q2]; exact h6) q1 q3 (by rw [hsl]; exact k2_hasslot (q4 f hf)) rfl rfl d fun H' e1 e2 e3 => ?_
  rw [hsl] at e1
  exact kk H' _ ls cells slots (hR.put hc hci hB hl hf hap q2 q3 q4 e1 e3) (hS.put e2 e3 hB) hL h1 h2
theorem gaClamp {i : Int32} {N : Nat} (h0 : ¬ i < 0) (hi : i.toNatClampNeg < N) {cell : Cell} (hN : N ≤ cell.slots.size) : ¬ (i < 0 ∨ cell.slots.size ≤ i.toNatClampNeg) := by
  rintro (q | q)
  · exact h0 q
  · omega
theorem g_iaload (V : gaV p l s m args meth c G cc own nL ws ret nm) {a t : Nat} {vs : List Value} {i x : Int32} (ha : h a = some (t, vs)) (ht : t = 102 ∨ t = 102 + 1000) (h0 : ¬ i < 0) (hv : vs[i.toNatClampNeg]? = some (.int x)) (d : decode cc pc = .ok (.iaload, 1)) (hn : pc + 1 = n)
    (kk : gaP p l e R s m args below meth c G nL Z n lv (.int x :: st) h k j) : gaP p l e R s m args below meth c G nL Z pc lv (.int i :: .ref a :: st) h k j := by
  subst hn
  intro H locs ls cells slots hR hS hL h1 h2
  obtain ⟨cell, g1, g2, g3, g4, g5, g6⟩ := hR.arr V.2.2.2.2.2.2.2.2.2.1.2.1 ha ht (by simp [gaT])
  exact W.iald V.1 V.2.1 g1 g2 g3 (gaClamp h0 (List.getElem?_eq_some_iff.mp hv).1 g5) (g6 _ _ hv) rfl rfl d (kk H locs ls cells slots hR hS hL h1 h2)
theorem g_baloadZ (V : gaV p l s m args meth c G cc own nL ws ret nm) {a t : Nat} {vs : List Value} {i x : Int32} (ha : h a = some (t, vs)) (ht : t = 100 ∨ t = 100 + 1000) (h0 : ¬ i < 0) (hv : vs[i.toNatClampNeg]? = some (.int x)) (d : decode cc pc = .ok (.baload, 1)) (hn : pc + 1 = n)
    (kk : gaP p l e R s m args below meth c G nL Z n lv (.int x :: st) h k j) : gaP p l e R s m args below meth c G nL Z pc lv (.int i :: .ref a :: st) h k j := by
  subst hn
  intro H locs ls cells slots hR hS hL h1 h2
  obtain ⟨cell, g1, g2, g3, g4, g5, g6⟩ := hR.arr V.2.2.2.2.2.2.2.2.2.1.2.1 ha ht (by simp [gaT])
  exact W.zald V.1 V.2.1 g1 g2 g3 (gaClamp h0 (List.getElem?_eq_some_iff.mp hv).1 g5) (g6 _ _ hv) rfl rfl d (kk H locs ls cells slots hR hS hL h1 h2)
theorem g_baloadB (V : gaV p l s m args meth c G cc own nL ws ret nm) {a t : Nat} {vs : List Value} {i x : Int32} (ha : h a = some (t, vs)) (ht : t = 101 ∨ t = 101 + 1000) (h0 : ¬ i < 0) (hv : vs[i.toNatClampNeg]? = some (.int x)) (d : decode cc pc = .ok (.baload, 1)) (hn : pc + 1 = n)
    (kk : gaP p l e R s m args below meth c G nL Z n lv (.int x :: st) h k j) : gaP p l e R s m args below meth c G nL Z pc lv (.int i :: .ref a :: st) h k j := by
  subst hn
  intro H locs ls cells slots hR hS hL h1 h2
  obtain ⟨cell, g1, g2, g3, g4, g5, g6⟩ := hR.arr V.2.2.2.2.2.2.2.2.2.1.2.1 ha ht (by simp [gaT])
  exact W.bald V.1 V.2.1 g1 g2 g3 (gaClamp h0 (List.getElem?_eq_some_iff.mp hv).1 g5) (g6 _ _ hv) rfl rfl d (kk H locs ls cells slots hR hS hL h1 h2)
theorem g_aaload (V : gaV p l s m args meth c G cc own nL ws ret nm) {a t b : Nat} {vs : List Value} {i : Int32} (ha : h a = some (t, vs)) (ht : t = 110 ∨ t = 111 ∨ t = 112) (h0 : ¬ i < 0) (hv : vs[i.toNatClampNeg]? = some (.ref b)) (d : decode cc pc = .ok (.aaload, 1)) (hn : pc + 1 = n)
    (kk : gaP p l e R s m args below meth c G nL Z n lv (.ref b :: st) h k j) : gaP p l e R s m args below meth c G nL Z pc lv (.int i :: .ref a :: st) h k j := by
  subst hn
  intro H locs ls cells slots hR hS hL h1 h2
  obtain ⟨cell, g1, g2, g3, g4, g5, g6⟩ := hR.arr V.2.2.2.2.2.2.2.2.2.1.2.1 ha (Or.inl rfl) (by rcases ht with rfl | rfl | rfl <;> simp [gaT])
  exact W.aald V.1 V.2.1 g1 g2 (by rcases ht with rfl | rfl | rfl <;> rfl) g3 (gaClamp h0 (List.getElem?_eq_some_iff.mp hv).1 g5) (g6 _ _ hv) rfl rfl d (kk H locs ls cells slots hR hS hL h1 h2)
theorem g_arraylength (V : gaV p l s m args meth c G cc own nL ws ret nm) {a t t0 : Nat} {vs : List Value} (ha : h a = some (t, vs)) (hT : gaT t0) (ht : t = t0 ∨ t = t0 + 1000) (d : decode cc pc = .ok (.arraylength, 1)) (hn : pc + 1 = n)
    (kk : gaP p l e R s m args below meth c G nL Z n lv (.int (Int32.ofNat vs.length) :: st) h k j) : gaP p l e R s m args below meth c G nL Z pc lv (.ref a :: st) h k j := by
  subst hn
  intro H locs ls cells slots hR hS hL h1 h2
  obtain ⟨cell, g1, g2, g3, g4, g5, g6⟩ := hR.arr V.2.2.2.2.2.2.2.2.2.1.2.1 ha ht hT
  exact W.alen V.1 V.2.1 g1 g2 g4 rfl rfl d (kk H locs ls cells slots hR hS hL h1 h2)
theorem gaR.mine (hR : gaR G s h H) {a t : Nat} {vs : List Value} (ha : h a = some (t, vs)) (h1 : 100 ≤ t) (h2 : t < 1000) : H[a]? = some { cls := G.2.1 t, slots := vs.toArray, vm := .none } ∧ G.2.2.1 ≤ a := by
  rcases hR a _ ha with ⟨q1, q2, q3⟩ | ⟨q1, -⟩
  · exact ⟨q3.2 h1, q2⟩
  · dsimp only at q1
    omega
theorem gaR.ast (hR : gaR G s h H) {H1 : Heap} {a t i : Nat} {vs : List Value} {v : Value} (h1 : 100 ≤ t) (h2 : t < 1000) (hB : G.2.2.1 ≤ a) (e1 : H1[a]? = some (Cell.setSlot { cls := G.2.1 t, slots := vs.toArray, vm := .none } i v)) (oq : ∀ q : Nat, q ≠ a → H1[q]? = H[q]?) : gaR G s (gaUp h a (t, vs.set i v)) H1 := by
  refine hR.set h2 hB ⟨fun q => ?_, fun _ => ?_⟩ (fun q hq _ => oq q hq)
  · dsimp only at q
    omega
  · rw [e1]
    simp [Cell.setSlot]
theorem g_iastore (V : gaV p l s m args meth c G cc own nL ws ret nm) {a : Nat} {vs : List Value} {i x : Int32} (ha : h a = some (102, vs)) (h0 : ¬ i < 0) (hi : i.toNatClampNeg < vs.length) (d : decode cc pc = .ok (.iastore, 1)) (hn : pc + 1 = n)
    (kk : gaP p l e R s m args below meth c G nL Z n lv st (gaUp h a (102, vs.set i.toNatClampNeg (.int x))) k j) : gaP p l e R s m args below meth c G nL Z pc lv (.int x :: .int i :: .ref a :: st) h k j := by
  subst hn
  intro H locs ls cells slots hR hS hL h1 h2
  obtain ⟨g1, hB⟩ := hR.mine ha (by decide) (by decide)
  exact W.iast V.1 V.2.1 g1 (V.2.2.2.2.2.2.2.2.2.1.2.1.arr (t := 102) (by simp [gaT]) _) (fun q => by cases q) (gaClamp (N := vs.length) h0 hi (by simp)) rfl rfl d (fun H' e1 e2 e3 => kk H' _ ls cells slots (hR.ast (by decide) (by decide) hB e1 e3) (hS.put e2 e3 hB) hL h1 h2)
theorem g_bastoreZ (V : gaV p l s m args meth c G cc own nL ws ret nm) {a : Nat} {vs : List Value} {i x : Int32} (ha : h a = some (100, vs)) (h0 : ¬ i < 0) (hi : i.toNatClampNeg < vs.length) (d : decode cc pc = .ok (.bastore, 1)) (hn : pc + 1 = n)
    (kk : gaP p l e R s m args below meth c G nL Z n lv st (gaUp h a (100, vs.set i.toNatClampNeg (narrow .boolean (.int x)))) k j) : gaP p l e R s m args below meth c G nL Z pc lv (.int x :: .int i :: .ref a :: st) h k j := by
  subst hn
  intro H locs ls cells slots hR hS hL h1 h2
  obtain ⟨g1, hB⟩ := hR.mine ha (by decide) (by decide)
  exact W.zast V.1 V.2.1 g1 (V.2.2.2.2.2.2.2.2.2.1.2.1.arr (t := 100) (by simp [gaT]) _) (fun q => by cases q) (gaClamp (N := vs.length) h0 hi (by simp)) rfl rfl d (fun H' e1 e2 e3 => kk H' _ ls cells slots (hR.ast (by decide) (by decide) hB e1 e3) (hS.put e2 e3 hB) hL h1 h2)
theorem g_bastoreB (V : gaV p l s m args meth c G cc own nL ws ret nm) {a : Nat} {vs : List Value} {i x : Int32} (ha : h a = some (101, vs)) (h0 : ¬ i < 0) (hi : i.toNatClampNeg < vs.length) (d : decode cc pc = .ok (.bastore, 1)) (hn : pc + 1 = n)
    (kk : gaP p l e R s m args below meth c G nL Z n lv st (gaUp h a (101, vs.set i.toNatClampNeg (narrow .byte (.int x)))) k j) : gaP p l e R s m args below meth c G nL Z pc lv (.int x :: .int i :: .ref a :: st) h k j := by
  subst hn
  intro H locs ls cells slots hR hS hL h1 h2
  obtain ⟨g1, hB⟩ := hR.mine ha (by decide) (by decide)
  exact W.bast V.1 V.2.1 g1 (V.2.2.2.2.2.2.2.2.2.1.2.1.arr (t := 101) (by simp [gaT]) _) (fun q => by cases q) (gaClamp (N := vs.length) h0 hi (by simp)) rfl rfl d (fun H' e1 e2 e3 => kk H' _ ls cells slots (hR.ast (by decide) (by decide) hB e1 e3) (hS.put e2 e3 hB) hL h1 h2)
end GAH
section GAN
variable {p : Program} {l : Launch} {e : Env} {R : Room} {s : State} {m : MethodId} {args : Array Value} {below : List Frame} {meth : Method} {c : Code} {G : gaG} {cc : ByteArray} {own : String} {nL : Nat} {ws : List Cond} {ret : Option FieldType} {nm : String} {Q : Option Value → gaH → Prop} {X : String → gaH → Prop} {Z : State → Prop}
variable {pc n : Nat} {lv : List (Option Value)} {st : List Value} {h : gaH} {k j : Nat} {H : Heap} {locs : List Loc} {cells slots : Nat}
theorem gaR.kept (hR : gaR G s h H) {H1 : Heap} (hq : ∀ q : Nat, q < H.size → H1[q]? = H[q]?) : gaR G s h H1 := by
  intro b e2 hb
  have hl := hR.lt hb
  rcases hR b e2 hb with ⟨q1, q2, q3⟩ | ⟨q1, q3⟩
  · exact Or.inl ⟨q1, q2, q3.kept (hq b hl)⟩
  · exact Or.inr ⟨q1, q3.kept (hq b hl)⟩
theorem gaF.le (h : gaF G s s.heap) (hS : va_S (gaA G) s.heap H locs) : G.2.2.1 ≤ H.size := Nat.le_trans h.2.2.1 hS.1
theorem va_S.grow {A : Nat → Prop} {H0 H1 : Heap} (hS : va_S A H0 H locs) (hz : H.size ≤ H1.size) (hq : ∀ q : Nat, q < H.size → H1[q]? = H[q]?) : va_S A H0 H1 locs :=
  ⟨Nat.le_trans hS.1 hz, fun x h1 h2 => (hq x (Nat.lt_of_lt_of_le h1 hS.1)).trans (hS.2.1 x h1 h2), hS.2.2⟩
theorem g_new (V : gaV p l s m args meth c G cc own nL ws ret nm) {C : String} {T : u_T} {N ci index : Nat} (ty0 : Nat → FieldType) (hty : ∀ k, k < N → parseFieldDescriptor (T k).2.2.1 = some (ty0 k)) (hc : vwCl[ci]? = some (C, T, N)) (hin : ∀ w ∈ u_ws C T N, w ∈ ws) (hci : ci < 100)
    (hcl : Cond.classLink own index C ∈ ws) (hinst : Cond.instantiable C N ∈ ws) (hini : Cond.initialized C ∈ ws) {fs : List Value} (hfs : ∀ q, q < N → defaultValue (ty0 q) = vp_V fs q) (d : decode cc pc = .ok (.new index, 3)) (hn : pc + 3 = n) (hk : 1 ≤ k) (hj : N ≤ j)
    (kk : ∀ a : Nat, h a = none → gaP p l e R s m args below meth c G nL Z n lv (.ref a :: st) (gaUp h a (ci, fs)) (k - 1) (j - N)) : gaP p l e R s m args below meth c G nL Z pc lv st h k j := by
  subst hn
  intro H locs ls cells slots hR hS hL h1 h2
  have hts := V.2.2.2.2.1
  have hF := V.2.2.2.2.2.2.2.2.2.1
  have hKn := hF.1.1 ci _ hc
  refine W.newcK V.1 V.2.1 V.2.2.2.1 (hts _ hcl) (hts _ hinst) (hts _ hini) rfl d (by omega) (by omega) hKn.2.1 rfl fun H1 kC hkC e1 z1 o1 => ?_
  refine kk H.size hR.fresh H1 locs ls (cells + 1) (slots + N) (hR.set (by dsimp only; omega) (hF.le hS) ⟨fun _ => ⟨_, hc, (u_born ty0 hts hin hKn hkC e1 hty).to hfs⟩, fun q => ?_⟩ (fun q _ hq => o1 q hq)) (hS.grow (by omega) o1) hL (by omega) (by omega)
  dsimp only at q
  omega
theorem g_newarray (V : gaV p l s m args meth c G cc own nL ws ret nm) {atype : ArrayType} {t : Nat} (hT : t = 100 ∨ t = 101 ∨ t = 102) (hty : newarray.typeOf atype = gaTy t) (harr : Cond.arrayClass (newarray.typeOf atype) ∈ ws) {x : Int32} (h0 : ¬ x < 0) (hb : x.toNatClampNeg ≤ 100000) (d : decode cc pc = .ok (.newarray atype, 2)) (hn : pc + 2 = n) (hk : 1 ≤ k) (hj : x.toNatClampNeg ≤ j)
    (kk : ∀ a : Nat, h a = none → gaP p l e R s m args below meth c G nL Z n lv (.ref a :: st) (gaUp h a (t, List.replicate x.toNatClampNeg (.int 0))) (k - 1) (j - x.toNatClampNeg)) : gaP p l e R s m args below meth c G nL Z pc lv (.int x :: st) h k j := by
  subst hn
  intro H locs ls cells slots hR hS hL h1 h2
  have hF := V.2.2.2.2.2.2.2.2.2.1
  have hT2 : gaT t := by unfold gaT; omega
  obtain ⟨kA, comp, f1, f2, f3, f4⟩ := hF.2.1 t hT2
  have hdef : defaultValue (newarray.typeOf atype) = .int 0 := by rw [hty]; rcases hT with rfl | rfl | rfl <;> rfl
  have hcb : componentBytes (newarray.typeOf atype) ≤ 8 := by rw [hty]; rcases hT with rfl | rfl | rfl <;> decide
  refine W.newa V.1 V.2.1 (V.2.2.2.2.1 _ harr) rfl d rfl h0 ?_ (by omega) (by omega) fun cA kA2 comp2 g1 g2 g3 => ?_
  · calc x.toNatClampNeg * componentBytes (newarray.typeOf atype) ≤ 100000 * 8 := Nat.mul_le_mul hb hcb
      _ ≤ 536870912 := by decide
  · rw [hty] at g1
    cases Option.some.inj (f1.symm.trans g1)
    rw [hdef]
    refine kk H.size hR.fresh _ locs ls (cells + 1) (slots + x.toNatClampNeg) (hR.set (by dsimp only; omega) (hF.le hS) ⟨fun q => ?_, fun _ => ?_⟩ (fun q _ hq => ?_)) (hS.grow (by simp) (fun q hq => ?_)) hL (by omega) (by omega)
    · dsimp only at q
      omega
    · simp
    · rw [Array.getElem?_push, if_neg (Nat.ne_of_lt hq)]
    · rw [Array.getElem?_push, if_neg (Nat.ne_of_lt hq)]
theorem g_anewarray (V : gaV p l s m args meth c G cc own nL ws ret nm) {t index : Nat} (hT : t = 110 ∨ t = 111) (hcl : Cond.classLink own index (gaCn t) ∈ ws) {x : Int32} (h0 : ¬ x < 0) (hb : x.toNatClampNeg ≤ 100000) (d : decode cc pc = .ok (.anewarray index, 3)) (hn : pc + 3 = n) (hk : 1 ≤ k) (hj : x.toNatClampNeg ≤ j)
    (kk : ∀ a : Nat, h a = none → gaP p l e R s m args below meth c G nL Z n lv (.ref a :: st) (gaUp h a (t, List.replicate x.toNatClampNeg .null)) (k - 1) (j - x.toNatClampNeg)) : gaP p l e R s m args below meth c G nL Z pc lv (.int x :: st) h k j := by
  subst hn
  intro H locs ls cells slots hR hS hL h1 h2
  have hF := V.2.2.2.2.2.2.2.2.2.1
  have hT2 : gaT t := by unfold gaT; omega
  obtain ⟨kA, comp, f1, f2, f3, f4⟩ := hF.2.1 t hT2
  have hty : gaTy t = .object (gaCn t) := by rcases hT with rfl | rfl <;> rfl
  have hov := hF.2.2.2.2.2.2.2.2 t (by omega)
  rw [hty] at hov f1
  refine W.anew V.1 V.2.1 V.2.2.2.1 (V.2.2.2.2.1 _ hcl) hov rfl d rfl h0 (by omega) (by omega) (by omega) fun cA kA2 comp2 g1 g2 g3 g4 => ?_
  cases Option.some.inj (f1.symm.trans g1)
  refine kk H.size hR.fresh _ locs ls (cells + 1) (slots + x.toNatClampNeg) (hR.set (by dsimp only; omega) (hF.le hS) ⟨fun q => ?_, fun _ => ?_⟩ (fun q _ hq => ?_)) (hS.grow (by simp) (fun q hq => ?_)) hL (by omega) (by omega)
  · dsimp only at q
    omega
  · simp
  · rw [Array.getElem?_push, if_neg (Nat.ne_of_lt hq)]
  · rw [Array.getElem?_push, if_neg (Nat.ne_of_lt hq)]
theorem g_anewarrayA (V : gaV p l s m args meth c G cc own nL ws ret nm) {index : Nat} (hcl : Cond.classLink own index "[I" ∈ ws) {x : Int32} (h0 : ¬ x < 0) (hb : x.toNatClampNeg ≤ 100000) (d : decode cc pc = .ok (.anewarray index, 3)) (hn : pc + 3 = n) (hk : 1 ≤ k) (hj : x.toNatClampNeg ≤ j)
    (kk : ∀ a : Nat, h a = none → gaP p l e R s m args below meth c G nL Z n lv (.ref a :: st) (gaUp h a (112, List.replicate x.toNatClampNeg .null)) (k - 1) (j - x.toNatClampNeg)) : gaP p l e R s m args below meth c G nL Z pc lv (.int x :: st) h k j := by
  subst hn
  intro H locs ls cells slots hR hS hL h1 h2
  have hF := V.2.2.2.2.2.2.2.2.2.1
  obtain ⟨kA, comp, f1, f2, f3, f4⟩ := hF.2.1 112 (by simp [gaT])
  have hov : (Cond.arrayOver (.array .int)).before #[] s = true := hF.2.2.2.2.2.2.2.2 112 (by omega)
  have f1 : s.vm.findClass ("[" ++ (FieldType.array .int).toString) = some (G.2.1 112) := f1
  refine W.anewA V.1 V.2.1 (t := .int) V.2.2.2.1 (V.2.2.2.2.1 _ hcl) hov rfl d rfl h0 (by omega) (by omega) (by omega) fun cA kA2 comp2 g1 g2 g3 g4 => ?_
  cases Option.some.inj (f1.symm.trans g1)
  refine kk H.size hR.fresh _ locs ls (cells + 1) (slots + x.toNatClampNeg) (hR.set (by dsimp only; omega) (hF.le hS) ⟨fun q => ?_, fun _ => ?_⟩ (fun q _ hq => ?_)) (hS.grow (by simp) (fun q hq => ?_)) hL (by omega) (by omega)
  · dsimp only at q
    omega
  · simp
  · rw [Array.getElem?_push, if_neg (Nat.ne_of_lt hq)]
  · rw [Array.getElem?_push, if_neg (Nat.ne_of_lt hq)]
theorem g_aastoreO (V : gaV p l s m args meth c G cc own nL ws ret nm) {a b t ci N : Nat} {T : u_T} {vs fs : List Value} {i : Int32} (hT : t = 110 ∨ t = 111) (hc : vwCl[ci]? = some (gaCn t, T, N)) (hci : ci < 100) (ha : h a = some (t, vs)) (hv : h b = some (ci, fs)) (h0 : ¬ i < 0) (hi : i.toNatClampNeg < vs.length) (d : decode cc pc = .ok (.aastore, 1)) (hn : pc + 1 = n)
    (kk : gaP p l e R s m args below meth c G nL Z n lv st (gaUp h a (t, vs.set i.toNatClampNeg (.ref b))) k j) : gaP p l e R s m args below meth c G nL Z pc lv (.ref b :: .int i :: .ref a :: st) h k j := by
  subst hn
  intro H locs ls cells slots hR hS hL h1 h2
  have hF := V.2.2.2.2.2.2.2.2.2.1
  obtain ⟨g1, hB⟩ := hR.mine ha (by omega) (by omega)
  obtain ⟨hP, -⟩ := hR.obj hci hv
  obtain ⟨r', hr', cellV, v1, v2, v3, -⟩ := hP 0 _ rfl
  have hcls := (hF.1.1 ci _ hc).2
  obtain ⟨kA, comp, f1, f2, f3, f4⟩ := hF.2.1 t (by unfold gaT; omega)
  have hcomp : comp = G.1.1 ci := Option.some.inj ((f4 (by omega)).symm.trans hcls.1)
  subst hcomp
  obtain ⟨kC, hkC, -⟩ := hcls.2
  exact W.aast V.1 V.2.1 g1 (fun q h => by cases h) (fun h => by cases h) f2 f3 (by rcases hT with rfl | rfl <;> rfl) hkC ⟨h0, by simpa using hi⟩ v1 (fun q h => by rw [v3] at h; cases h) (by rw [v2]; exact hkC) (by rw [v2]; exact va_assign hcls) rfl rfl d (fun H' e1 e2 e3 => kk H' _ ls cells slots (hR.ast (by omega) (by omega) hB e1 e3) (hS.put e2 e3 hB) hL h1 h2)
theorem g_aastoreA (V : gaV p l s m args meth c G cc own nL ws ret nm) {a b : Nat} {vs xs : List Value} {i : Int32} (hasg : s.vm.assignable (G.2.1 102) (G.2.1 102) = true) (ha : h a = some (112, vs)) (hv : h b = some (102, xs)) (h0 : ¬ i < 0) (hi : i.toNatClampNeg < vs.length) (d : decode cc pc = .ok (.aastore, 1)) (hn : pc + 1 = n)
    (kk : gaP p l e R s m args below meth c G nL Z n lv st (gaUp h a (112, vs.set i.toNatClampNeg (.ref b))) k j) : gaP p l e R s m args below meth c G nL Z pc lv (.ref b :: .int i :: .ref a :: st) h k j := by
  subst hn
  intro H locs ls cells slots hR hS hL h1 h2
  have hF := V.2.2.2.2.2.2.2.2.2.1
  obtain ⟨g1, hB⟩ := hR.mine ha (by decide) (by decide)
  obtain ⟨v1, -⟩ := hR.mine hv (by decide) (by decide)
  obtain ⟨kA, comp, f1, f2, f3, f4⟩ := hF.2.1 112 (by simp [gaT])
  obtain ⟨kI, compI, i1, i2, i3, -⟩ := hF.2.1 102 (by simp [gaT])
  have f4 : s.vm.findClass "[I" = some comp := f4 (by decide)
  have i1 : s.vm.findClass "[I" = some (G.2.1 102) := i1
  have hcomp : comp = G.2.1 102 := Option.some.inj (f4.symm.trans i1)
  subst hcomp
  exact W.aast V.1 V.2.1 g1 (fun q h => by cases h) (fun h => by cases h) f2 f3 rfl i2 ⟨h0, by simpa using hi⟩ v1 (fun q h => by cases h) i2 hasg rfl rfl d (fun H' e1 e2 e3 => kk H' _ ls cells slots (hR.ast (by decide) (by decide) hB e1 e3) (hS.put e2 e3 hB) hL h1 h2)
theorem g_gets (V : gaV p l s m args meth c G cc own nL ws ret nm) {C f d0 : String} {v : Value} {index : Nat} (hZ : va_Z C f d0 v (gaA G) s s.heap) (hlink : Cond.fieldLink own index C f d0 ∈ ws) (d : decode cc pc = .ok (.getstatic index, 3)) (hn : pc + 3 = n)
    (kk : gaP p l e R s m args below meth c G nL Z n lv (v :: st) h k j) : gaP p l e R s m args below meth c G nL Z pc lv st h k j := by
  subst hn
  intro H locs ls cells slots hR hS hL h1 h2
  exact va_gets V.1 V.2.1 hZ hS V.2.2.2.1 (V.2.2.2.2.1 _ hlink) (fun _ q => q) d (kk H locs ls cells slots hR hS hL h1 h2)
theorem g_objInit (V : gaV p l s m args meth c G cc own nL ws ret nm) {a index : Nat} (w1 : Cond.methodLink own index Lib.objectInit ∈ ws) (w2 : Cond.instanceMethod Lib.objectInit ∈ ws) (w3 : Cond.code Lib.objectInit ⟨#[0xb1]⟩ 1 none ∈ ws) (d : decode cc pc = .ok (.invokespecial index, 3)) (hfr : 1 ≤ R.frames) (hlo : 20 ≤ R.locals) (hcat : (st.map fun v => v.category).sum ≤ 8) (hn : pc + 3 = n)
    (kk : gaP p l e R s m args below meth c G nL Z n lv st h k j) : gaP p l e R s m args below meth c G nL Z pc lv (.ref a :: st) h k j := by
  subst hn
  intro H locs ls cells slots hR hS hL h1 h2
  have hr := lv_room (pc := pc) (m := m) (ls := ls) (rest := .ref a :: st) hcat
  have hts := V.2.2.2.2.1
  exact W.objInit V.1 V.2.1 V.2.2.2.1 (hts _ w1) (hts _ w2) (hts _ w3) rfl (by rw [V.2.2.1]; exact hL.1) rfl d hfr (by omega) (kk H locs ls cells slots hR hS hL h1 h2)
end GAN
/-! ===== BEGIN a constructor that throws (launches without stack traces) ===== -/
section VXIA
variable {p : Program} {l : Launch} {e : Env} {R : Room} {s : State} {m : MethodId} {args : Array Value} {below : List Frame} {meth : Method} {c : Code} {T : State} {locs : List Loc} {cells slots : Nat}
theorem vx_callI (X : Stand p l e R s m args below meth c T locs cells slots) (hexec : p.tables.exec = Jvm.exec) {own : String} {index : Nat} {y : MethodName} {bytes : ByteArray} {maxL : Nat}
    (hown : s.vm.findClass own = some m.cls) (hy1 : y.name = "<init>") (hlink : (Cond.methodLink own index y).before args s = true) (hinst : (Cond.instanceMethod y).before args s = true)
    (hcode : (Cond.code y bytes maxL none).before args s = true) (hy : y.cls ≠ "java/lang/invoke/MethodHandle" ∧ y.cls ≠ "java/lang/invoke/VarHandle")
    {W9 : Nat} {Pre : Pt → Array Value → Prop} {Post : Pt → Array Value → Option Value → Pt → Prop} {PostX : Pt → Array Value → Addr → Pt → Prop} (hK : vx_Back l R p e below s args y 3 W9 Pre Post PostX)
    {g : JFrame} (hg : g.method = m) (hsize : g.locals.size = c.maxLocals) {a : Addr} {argsL rest : List Value} (hlen : ∀ sig, parseMethodDescriptor y.desc = some sig → argsL.length = sig.parameters.length)
    (hstack : g.stack = argsL.reverse ++ .ref a :: rest) (hW : 2 * g.monitorRoom + (rest.map fun v => v.category).sum ≤ W9) (hdg : decode c.code g.pc = .ok (.invokespecial index, 3))
    (hpre : ∀ vm₁, s.WarmedH vm₁ → Pre ⟨T.setVm vm₁, locs, cells, slots⟩ (Value.ref a :: argsL).toArray) :
    (∃ (v : Option Value) (vm₁ : Vm) (B : Pt), s.WarmedH vm₁ ∧ Stand p l e R s m args below meth c B.U B.locs B.cells B.slots ∧ Post ⟨T.setVm vm₁, locs, cells, slots⟩ (Value.ref a :: argsL).toArray v B ∧
      ∀ target, Steps p.tables e below (B.U.setTop { g with pc := g.pc + 3, stack := v.toList ++ rest }) target → Steps p.tables e below (T.setTop g) target) ∨
    (∃ (q : Addr) (vm₁ : Vm) (B : Pt), s.WarmedH vm₁ ∧ Stand p l e R s m args below meth c B.U B.locs B.cells B.slots ∧ PostX ⟨T.setVm vm₁, locs, cells, slots⟩ (Value.ref a :: argsL).toArray q B ∧
      Steps p.tables e below (T.setTop g) ((B.U.setTop { g with stack := rest }).pushFrame (.throwing q))) := by
  subst hg
  have hpl : e.platform.magicAccessors = ({} : Platform).magicAccessors := by rw [X.admits.platform]
  obtain ⟨mk, methM, cM, kP, vm₁, hnamed, hmethM, hcodeM, -, hlocalsM, -, hkP, -, hW₁, hstep₁⟩ := Steps.initColdArgs (e := e) X.here hexec X.warmed hpl hown hy1 hy hlink hinst hcode (f := g) rfl hlen hstack hdg
  have X₁ := X.noted hW₁
  rcases hK g.method meth c ⟨T.setVm vm₁, locs, cells, slots⟩ { g with stack := rest } (.invokespecial index) mk (Value.ref a :: argsL).toArray X₁ rfl hsize hdg hW (X₁.named hnamed) (hpre vm₁ X₁.warmed) with ⟨v, B, X', hpost, hsteps⟩ | ⟨q, B, X', hpost, hsteps⟩
  · exact Or.inl ⟨v, vm₁, B, X₁.warmed, X', hpost, fun target h => hstep₁ _ fun acts => by rw [doInvoke_state]; exact hsteps.trans h⟩
  · exact Or.inr ⟨q, vm₁, B, X₁.warmed, X', hpost, hstep₁ _ fun acts => by rw [doInvoke_state]; exact hsteps⟩
end VXIA
section VXIB
variable {p : Program} {l : Launch} {e : Env} {R : Room} {s : State} {m : MethodId} {args : Array Value} {below : List Frame} {meth : Method} {c : Code} {H : Heap} {locs : List Loc} {cells slots : Nat}
variable {y : MethodName} {bytes cc : ByteArray} {maxL nL mc ms n index : Nat} {ret : Option FieldType} {ws : List Cond} {rm : Room} {Pc : Array Value → State → Prop} {Qc : Array Value → State → Outcome → State → Prop} {XC : String → State → State → Prop} {free : Addr → Prop} {Ts : List Cond} {own C : String} {b : Addr} {As rest : List Value} {g : JFrame}
theorem vx_runI (S : CallFix p m c cc nL s args Ts own) (hM : vx_Met l y ws rm Pc Qc XC mc ms free) (cw : CallB R s args own index y bytes maxL none ws rm mc ms n ∧ y.name = "<init>" ∧ (Cond.instanceMethod y).before args s = true) (hp : PreS s H Pc (.ref b :: As))
    (hg : g.method = m) (hn : As.length = n) (hsize : g.locals.size = nL) (hstack : g.stack = As.reverse ++ .ref b :: rest) (hW : 2 * g.monitorRoom + (rest.map fun v => v.category).sum ≤ 8) (hdg : decode cc g.pc = .ok (.invokespecial index, 3)) (hf : cells + mc ≤ R.cells ∧ slots + ms ≤ R.slots) :
    vx_Run p l e R s m args below meth c H locs cells slots mc ms g rest (Qc (Value.ref b :: As).toArray) XC free := by
  have hK : vx_Back l R p e below s args y 3 8 (PreOf R mc ms Pc) (PostOf Qc mc ms free) (vx_Post XC mc ms free) := vx_callBack cw.1 hM hp.1
  obtain ⟨⟨-, -, -, -, -, -, hcode, -, hy, hlen, hl⟩, hy1, hin⟩ := cw
  obtain ⟨hx, hb, hml, ho, -⟩ := S
  have hPc := hp.2
  intro T hT X
  rcases vx_callI X hx (bytes := bytes) (maxL := maxL) ho hy1 hl hin hcode hy hK hg (hsize.trans hml.symm) (a := b) (argsL := As) (rest := rest) (fun sig h => hn.trans (hlen sig h)) hstack hW (by rw [hb]; exact hdg)
    (fun vm₁ hW₁ => ⟨hf.1, hf.2, hPc (T.setVm vm₁) hT hW₁⟩) with ⟨v, vm₁, ⟨U', l2, c2, s2⟩, hW₁, X', ⟨g', mk, t, L, e1, e2, hq, h1, hL, h2, h3⟩, st⟩ | ⟨q, vm₁, ⟨U', l2, c2, s2⟩, hW₁, X', ⟨g', mk, t, L, E, ce, e1, e2, hq, hce, hcv, hcl, h1, hL, h2, h3⟩, st⟩
  · dsimp only [Pt.U, Pt.locs, Pt.cells, Pt.slots] at X' e1 e2 h1 h2 h3 st
    subst h1; subst h2; subst h3
    exact Or.inl ⟨v, (T.setVm vm₁).calling g' mk (Value.ref b :: As).toArray, t, U', L, hT, X', hL, e1, e2, hq, st⟩
  · dsimp only [Pt.U, Pt.locs, Pt.cells, Pt.slots] at X' e1 e2 h1 h2 h3 st hcl
    subst h1; subst h2; subst h3
    exact Or.inr ⟨q, (T.setVm vm₁).calling g' mk (Value.ref b :: As).toArray, t, U', L, E, ce, hT, X', hL, e1, e2, hq, hce, hcv, vx_cls hW₁ hcl, st⟩
end VXIB
/-! ===== END ===== -/
/-! ===== BEGIN a private constructor of a nest mate that throws ===== -/
section VXIC
variable {p : Program} {l : Launch} {e : Env} {R : Room} {s : State} {m : MethodId} {args : Array Value} {below : List Frame} {meth : Method} {c : Code} {T : State} {locs : List Loc} {cells slots : Nat}
theorem vx_callIN (X : Stand p l e R s m args below meth c T locs cells slots) (hexec : p.tables.exec = Jvm.exec) {own : String} {index : Nat} {host : String} {y : MethodName} {bytes : ByteArray} {maxL : Nat}
    (hown : s.vm.findClass own = some m.cls) (hy1 : y.name = "<init>") (hlink : (Cond.methodLinkNest own index y host).before args s = true) (hinst : (Cond.instanceMethod y).before args s = true)
    (hcode : (Cond.code y bytes maxL none).before args s = true) (hy : y.cls ≠ "java/lang/invoke/MethodHandle" ∧ y.cls ≠ "java/lang/invoke/VarHandle")
    {W9 : Nat} {Pre : Pt → Array Value → Prop} {Post : Pt → Array Value → Option Value → Pt → Prop} {PostX : Pt → Array Value → Addr → Pt → Prop} (hK : vx_Back l R p e below s args y 3 W9 Pre Post PostX)
    {g : JFrame} (hg : g.method = m) (hsize : g.locals.size = c.maxLocals) {a : Addr} {argsL rest : List Value} (hlen : ∀ sig, parseMethodDescriptor y.desc = some sig → argsL.length = sig.parameters.length)
    (hstack : g.stack = argsL.reverse ++ .ref a :: rest) (hW : 2 * g.monitorRoom + (rest.map fun v => v.category).sum ≤ W9) (hdg : decode c.code g.pc = .ok (.invokespecial index, 3))
    (hpre : ∀ vm₁, s.WarmedH vm₁ → Pre ⟨T.setVm vm₁, locs, cells, slots⟩ (Value.ref a :: argsL).toArray) :
    (∃ (v : Option Value) (vm₁ : Vm) (B : Pt), s.WarmedH vm₁ ∧ Stand p l e R s m args below meth c B.U B.locs B.cells B.slots ∧ Post ⟨T.setVm vm₁, locs, cells, slots⟩ (Value.ref a :: argsL).toArray v B ∧
      ∀ target, Steps p.tables e below (B.U.setTop { g with pc := g.pc + 3, stack := v.toList ++ rest }) target → Steps p.tables e below (T.setTop g) target) ∨
    (∃ (q : Addr) (vm₁ : Vm) (B : Pt), s.WarmedH vm₁ ∧ Stand p l e R s m args below meth c B.U B.locs B.cells B.slots ∧ PostX ⟨T.setVm vm₁, locs, cells, slots⟩ (Value.ref a :: argsL).toArray q B ∧
      Steps p.tables e below (T.setTop g) ((B.U.setTop { g with stack := rest }).pushFrame (.throwing q))) := by
  subst hg
  have hpl : e.platform.magicAccessors = ({} : Platform).magicAccessors := by rw [X.admits.platform]
  obtain ⟨mk, methM, cM, kP, vm₁, hnamed, hmethM, hcodeM, -, hlocalsM, -, hkP, -, hW₁, hstep₁⟩ := Steps.initColdArgsNest (e := e) X.here hexec X.warmed hpl hown hy1 hy hlink hinst hcode (f := g) rfl hlen hstack hdg
  have X₁ := X.noted hW₁
  rcases hK g.method meth c ⟨T.setVm vm₁, locs, cells, slots⟩ { g with stack := rest } (.invokespecial index) mk (Value.ref a :: argsL).toArray X₁ rfl hsize hdg hW (X₁.named hnamed) (hpre vm₁ X₁.warmed) with ⟨v, B, X', hpost, hsteps⟩ | ⟨q, B, X', hpost, hsteps⟩
  · exact Or.inl ⟨v, vm₁, B, X₁.warmed, X', hpost, fun target h => hstep₁ _ fun acts => by rw [doInvoke_state]; exact hsteps.trans h⟩
  · exact Or.inr ⟨q, vm₁, B, X₁.warmed, X', hpost, hstep₁ _ fun acts => by rw [doInvoke_state]; exact hsteps⟩
end VXIC
section VXID
variable {p : Program} {l : Launch} {e : Env} {R : Room} {s : State} {m : MethodId} {args : Array Value} {below : List Frame} {meth : Method} {c : Code} {H : Heap} {locs : List Loc} {cells slots : Nat}
theorem vx_runIN {y : MethodName} {bytes cc : ByteArray} {maxL nL mc ms n index : Nat} {ws : List Cond} {rm : Room} {Pc : Array Value → State → Prop} {Qc : Array Value → State → Outcome → State → Prop} {XC : String → State → State → Prop} {free : Addr → Prop} {Ts : List Cond} {own host : String} {b : Addr} {As rest : List Value} {g : JFrame}
    (S : CallFix p m c cc nL s args Ts own) (hM : vx_Met l y ws rm Pc Qc XC mc ms free) (cw : va_CN R s args own index y host bytes maxL none ws rm mc ms n ∧ y.name = "<init>" ∧ (Cond.instanceMethod y).before args s = true) (hp : PreS s H Pc (.ref b :: As))
    (hg : g.method = m) (hn : As.length = n) (hsize : g.locals.size = nL) (hstack : g.stack = As.reverse ++ .ref b :: rest) (hW : 2 * g.monitorRoom + (rest.map fun v => v.category).sum ≤ 8) (hdg : decode cc g.pc = .ok (.invokespecial index, 3)) (hf : cells + mc ≤ R.cells ∧ slots + ms ≤ R.slots) :
    vx_Run p l e R s m args below meth c H locs cells slots mc ms g rest (Qc (Value.ref b :: As).toArray) XC free := by
  obtain ⟨⟨⟨hrc, hrs, hfr, hlo, hws, hcw⟩, hcode, hini, hy, hlen, hl⟩, hx1, hx2⟩ := cw
  have hK : vx_Back l R p e below s args y 3 8 (PreOf R mc ms Pc) (PostOf Qc mc ms free) (vx_Post XC mc ms free) := vx_back (bytes := bytes) (maxL := maxL) (ret := none) hM hp.1 hrc hrs hfr hlo hws hcw (fun a' U hW => word_at hW (Or.inl (by first | rfl | simp [Cond.onTables, Cond.keeps, Cond.steady])) hini)
  obtain ⟨hx, hb, hml, ho, -⟩ := S
  have hPc := hp.2
  intro T hT X
  rcases vx_callIN X hx (bytes := bytes) (maxL := maxL) ho hx1 hl hx2 hcode hy hK hg (hsize.trans hml.symm) (a := b) (argsL := As) (rest := rest) (fun sig h => hn.trans (hlen sig h)) hstack hW (by rw [hb]; exact hdg)
    (fun vm₁ hW₁ => ⟨hf.1, hf.2, hPc (T.setVm vm₁) hT hW₁⟩) with ⟨v, vm₁, ⟨U', l2, c2, s2⟩, hW₁, X', ⟨g', mk, t, L, e1, e2, hq, h1, hL, h2, h3⟩, st⟩ | ⟨q, vm₁, ⟨U', l2, c2, s2⟩, hW₁, X', ⟨g', mk, t, L, E, ce, e1, e2, hq, hce, hcv, hcl, h1, hL, h2, h3⟩, st⟩
  · dsimp only [Pt.U, Pt.locs, Pt.cells, Pt.slots] at X' e1 e2 h1 h2 h3 st
    subst h1; subst h2; subst h3
    exact Or.inl ⟨v, (T.setVm vm₁).calling g' mk (Value.ref b :: As).toArray, t, U', L, hT, X', hL, e1, e2, hq, st⟩
  · dsimp only [Pt.U, Pt.locs, Pt.cells, Pt.slots] at X' e1 e2 h1 h2 h3 st hcl
    subst h1; subst h2; subst h3
    exact Or.inr ⟨q, (T.setVm vm₁).calling g' mk (Value.ref b :: As).toArray, t, U', L, E, ce, hT, X', hL, e1, e2, hq, hce, hcv, vx_cls hW₁ hcl, st⟩
end VXID
/-! ===== END ===== -/
/-! ===== BEGIN a method of a class above, found by the receiver, that may throw (follows va_callVU, va_runU of this kit) ===== -/
section
variable {p : Program} {l : Launch} {e : Env} {R : Room} {s : State} {m : MethodId} {args : Array Value} {below : List Frame} {meth : Method} {c : Code} {H : Heap} {locs : List Loc} {cells slots : Nat}
theorem vx_callVU {T : State} {locs : List Loc} {cells slots : Nat} (X : Stand p l e R s m args below meth c T locs cells slots) (hexec : p.tables.exec = Jvm.exec) {own C owner : String} {index : Nat} {x y : MethodName} {bytes : ByteArray} {maxL : Nat} {ret : Option FieldType}
    (hown : s.vm.findClass own = some m.cls) (hlink : (Cond.methodLink own index x).before args s = true) (hsame : (Cond.sameMethod x.cls owner x.name x.desc).before args s = true)
    (hd0 : va_Decl s ⟨owner, x.name, x.desc⟩) (howner : owner ≠ "java/lang/invoke/MethodHandle" ∧ owner ≠ "java/lang/invoke/VarHandle")
    (hsel : (Cond.selects C x y).before args s = true) (hinst : (Cond.instanceMethod y).before args s = true) (hcode : (Cond.code y bytes maxL ret).before args s = true)
    {W : Nat} {Pre : Pt → Array Value → Prop} {Post : Pt → Array Value → Option Value → Pt → Prop} {PostX : Pt → Array Value → Addr → Pt → Prop} (hK : vx_Back l R p e below s args y 3 W Pre Post PostX)
    {b : Addr} {cellB : Cell} (hcell : T.heap[b]? = some cellB) (hobj : cellB.vm.isStatics = false) (hcls : s.vm.findClass C = some cellB.cls)
    {g : JFrame} (hg : g.method = m) (hsize : g.locals.size = c.maxLocals) {argsL rest : List Value} (hlen : ∀ sig, parseMethodDescriptor x.desc = some sig → argsL.length = sig.parameters.length)
    (hstack : g.stack = argsL.reverse ++ .ref b :: rest) (hW : 2 * g.monitorRoom + (rest.map fun v => v.category).sum ≤ W) (hdg : decode c.code g.pc = .ok (.invokevirtual index, 3))
    (hpre : ∀ vm₁, s.WarmedH vm₁ → Pre ⟨T.setVm vm₁, locs, cells, slots⟩ (Value.ref b :: argsL).toArray) :
    (∃ (v : Option Value) (vm₁ : Vm) (B : Pt), s.WarmedH vm₁ ∧ Stand p l e R s m args below meth c B.U B.locs B.cells B.slots ∧ Post ⟨T.setVm vm₁, locs, cells, slots⟩ (Value.ref b :: argsL).toArray v B ∧
      ∀ target, Steps p.tables e below (B.U.setTop { g with pc := g.pc + 3, stack := v.toList ++ rest }) target → Steps p.tables e below (T.setTop g) target) ∨
    (∃ (q : Addr) (vm₁ : Vm) (B : Pt), s.WarmedH vm₁ ∧ Stand p l e R s m args below meth c B.U B.locs B.cells B.slots ∧ PostX ⟨T.setVm vm₁, locs, cells, slots⟩ (Value.ref b :: argsL).toArray q B ∧
      Steps p.tables e below (T.setTop g) ((B.U.setTop { g with stack := rest }).pushFrame (.throwing q))) := by
  obtain ⟨r0, r, hn, hrm, hstR, hsigR⟩ := hd0
  obtain ⟨cn, ck, r1, hcn, hck, hni, hf, hn1⟩ := Cond.sameMethod_found hsame
  cases hn.symm.trans hn1
  obtain ⟨mk, methM, hnamed, hmethM, -, habM⟩ := Cond.instanceMethod_spec hinst
  obtain ⟨c2, r2, m2, q1, q2, q3, q4, kP, hkP, hkPi⟩ := Cond.selects_spec hsel
  cases hcls.symm.trans q1
  cases hf.symm.trans q2
  cases hnamed.symm.trans q3
  have hselP : selectMethod e.platform s.vm cellB.cls r0 = .method mk := by rw [Launch.admits_selectMethod X.admits]; exact q4
  obtain ⟨vm₁, X₁, hstep₁⟩ := X.invokevirtualUp hexec hown hlink hsame howner hn hrm hstR (a := b) (cell := cellB) hcell
    (fun z h => by rw [h] at hobj; cases hobj) hselP hmethM habM hkP hkPi (g := g) hg (argsL := argsL) (rest := rest) (hlen _ hsigR) hstack hdg
  rcases hK m meth c ⟨T.setVm vm₁, locs, cells, slots⟩ { g with stack := rest } (.invokevirtual index) mk (Value.ref b :: argsL).toArray X₁ hg hsize hdg hW (X₁.named hnamed) (hpre vm₁ X₁.warmed) with ⟨v, B, X', hpost, hsteps⟩ | ⟨q, B, X', hpost, hsteps⟩
  · exact Or.inl ⟨v, vm₁, B, X₁.warmed, X', hpost, fun target h => hstep₁ _ fun acts => by rw [doInvoke_state]; exact hsteps.trans h⟩
  · exact Or.inr ⟨q, vm₁, B, X₁.warmed, X', hpost, hstep₁ _ fun acts => by rw [doInvoke_state]; exact hsteps⟩
theorem vx_runU {x y : MethodName} {bytes cc : ByteArray} {maxL nL mc ms n index : Nat} {ret : Option FieldType} {ws : List Cond} {rm : Room} {Pc : Array Value → State → Prop} {Qc : Array Value → State → Outcome → State → Prop} {XC : String → State → State → Prop} {free : Addr → Prop} {Ts : List Cond} {own C owner : String} {b : Addr} {As rest : List Value} {g : JFrame}
    (S : CallFix p m c cc nL s args Ts own) (hM : vx_Met l y ws rm Pc Qc XC mc ms free) (cw : va_CU R s args own C owner index x y bytes maxL ret ws rm mc ms n) (hp : PreV s H C b Pc As)
    (hg : g.method = m) (hn : As.length = n) (hsize : g.locals.size = nL) (hstack : g.stack = As.reverse ++ .ref b :: rest) (hW : 2 * g.monitorRoom + (rest.map fun v => v.category).sum ≤ 8) (hdg : decode cc g.pc = .ok (.invokevirtual index, 3)) (hf : cells + mc ≤ R.cells ∧ slots + ms ≤ R.slots) :
    vx_Run p l e R s m args below meth c H locs cells slots mc ms g rest (Qc (Value.ref b :: As).toArray) XC free := by
  obtain ⟨hrc, hrs, hfr, hlo, hws, hcw⟩ := cw.back
  have hini := cw.init
  have hK : vx_Back l R p e below s args y 3 8 (PreOf R mc ms Pc) (PostOf Qc mc ms free) (vx_Post XC mc ms free) := vx_back (bytes := bytes) (maxL := maxL) (ret := ret) hM hp.1 hrc hrs hfr hlo hws hcw (fun a' U hW => word_at hW (Or.inl (by first | rfl | simp [Cond.onTables, Cond.keeps, Cond.steady])) hini)
  obtain ⟨hx, hb, hml, ho, -⟩ := S
  obtain ⟨-, ⟨cellB, hcB, hoB, hclB⟩, hPc⟩ := hp
  intro T hT X
  rcases vx_callVU X hx (C := C) (owner := owner) (bytes := bytes) (maxL := maxL) (ret := ret) ho cw.link cw.same cw.decl cw.notMH cw.sel cw.inst cw.code hK (by rw [hT]; exact hcB) hoB hclB hg (hsize.trans hml.symm) (argsL := As) (rest := rest) (fun sig h => hn.trans (cw.len sig h)) hstack hW (by rw [hb]; exact hdg)
    (fun vm₁ hW₁ => ⟨hf.1, hf.2, hPc (T.setVm vm₁) hT hW₁⟩) with ⟨v, vm₁, ⟨U', l2, c2, s2⟩, hW₁, X', ⟨g', mk, t, L, e1, e2, hq, h1, hL, h2, h3⟩, st⟩ | ⟨q, vm₁, ⟨U', l2, c2, s2⟩, hW₁, X', ⟨g', mk, t, L, E, ce, e1, e2, hq, hce, hcv, hcl, h1, hL, h2, h3⟩, st⟩
  · dsimp only [Pt.U, Pt.locs, Pt.cells, Pt.slots] at X' e1 e2 h1 h2 h3 st
    subst h1; subst h2; subst h3
    exact Or.inl ⟨v, (T.setVm vm₁).calling g' mk (Value.ref b :: As).toArray, t, U', L, hT, X', hL, e1, e2, hq, st⟩
  · dsimp only [Pt.U, Pt.locs, Pt.cells, Pt.slots] at X' e1 e2 h1 h2 h3 st hcl
    subst h1; subst h2; subst h3
    exact Or.inr ⟨q, (T.setVm vm₁).calling g' mk (Value.ref b :: As).toArray, t, U', L, E, ce, hT, X', hL, e1, e2, hq, hce, hcv, vx_cls hW₁ hcl, st⟩
end
/-! ===== END ===== -/
/-! ===== BEGIN super.m(..) that may throw (follows va_callSU, va_runSU) ===== -/
section
variable {p : Program} {l : Launch} {e : Env} {R : Room} {s : State} {m : MethodId} {args : Array Value} {below : List Frame} {meth : Method} {c : Code} {H : Heap} {locs : List Loc} {cells slots : Nat}
theorem vx_callSU {T : State} {locs : List Loc} {cells slots : Nat} (X : Stand p l e R s m args below meth c T locs cells slots) (hexec : p.tables.exec = Jvm.exec) {own : String} {index : Nat} {y : MethodName} {bytes : ByteArray} {maxL : Nat} {ret : Option FieldType}
    (hown : s.vm.findClass own = some m.cls) (hlink : (Cond.methodLink own index y).before args s = true) (hsame : (Cond.sameMethod y.cls y.cls y.name y.desc).before args s = true) (hsup : (Cond.superclass own y.cls).before args s = true)
    (hinst : (Cond.instanceMethod y).before args s = true) (hcode : (Cond.code y bytes maxL ret).before args s = true) (hno : y.name ≠ "<init>")
    {W : Nat} {Pre : Pt → Array Value → Prop} {Post : Pt → Array Value → Option Value → Pt → Prop} {PostX : Pt → Array Value → Addr → Pt → Prop} (hK : vx_Back l R p e below s args y 3 W Pre Post PostX)
    {b : Addr} {cellB : Cell} {kB : Class} (hcell : T.heap[b]? = some cellB) (hobj : cellB.vm.isStatics = false) (hkB : s.vm.classes[cellB.cls]? = some kB)
    {g : JFrame} (hg : g.method = m) (hsize : g.locals.size = c.maxLocals) {argsL rest : List Value} (hlen : ∀ sig, parseMethodDescriptor y.desc = some sig → argsL.length = sig.parameters.length)
    (hstack : g.stack = argsL.reverse ++ .ref b :: rest) (hW : 2 * g.monitorRoom + (rest.map fun v => v.category).sum ≤ W) (hdg : decode c.code g.pc = .ok (.invokespecial index, 3))
    (hpre : ∀ vm₁, s.WarmedH vm₁ → Pre ⟨T.setVm vm₁, locs, cells, slots⟩ (Value.ref b :: argsL).toArray) :
    (∃ (v : Option Value) (vm₁ : Vm) (B : Pt), s.WarmedH vm₁ ∧ Stand p l e R s m args below meth c B.U B.locs B.cells B.slots ∧ Post ⟨T.setVm vm₁, locs, cells, slots⟩ (Value.ref b :: argsL).toArray v B ∧
      ∀ target, Steps p.tables e below (B.U.setTop { g with pc := g.pc + 3, stack := v.toList ++ rest }) target → Steps p.tables e below (T.setTop g) target) ∨
    (∃ (q : Addr) (vm₁ : Vm) (B : Pt), s.WarmedH vm₁ ∧ Stand p l e R s m args below meth c B.U B.locs B.cells B.slots ∧ PostX ⟨T.setVm vm₁, locs, cells, slots⟩ (Value.ref b :: argsL).toArray q B ∧
      Steps p.tables e below (T.setTop g) ((B.U.setTop { g with stack := rest }).pushFrame (.throwing q))) := by
  obtain ⟨mk, methM, hnamed, hmethM, hstM, habM⟩ := Cond.instanceMethod_spec hinst
  obtain ⟨methM', cM, hmethM', -, -, -, -, -, -, hsigM⟩ := Cond.code_spec hnamed hcode
  cases hmethM.symm.trans hmethM'
  obtain ⟨ps, dk, kp, hps, hdk, hkp, hsuper, -, -, hnid⟩ := Cond.superclass_spec hown hsup
  have hn : s.methodNamed? ⟨y.cls, y.name, y.desc⟩ = some mk := hnamed
  have hpm : ps = mk.cls := Option.some.inj (hps.symm.trans (findClass_of_methodNamed hnamed))
  have hsub : s.vm.isSubclass ps mk.cls = true := by rw [hpm]; simp [Vm.isSubclass, Vm.isSubclassAux]
  obtain ⟨vm₁, X₁, hstep₁⟩ := X.invokespecialUp hexec hown hlink hsame hn hmethM hstM habM hno hdk hnid hps hsuper hsub (a := b) (cell := cellB) hcell
    (fun z h => by rw [h] at hobj; cases hobj) hkB (g := g) hg (argsL := argsL) (rest := rest) (hlen _ hsigM) hstack hdg
  rcases hK m meth c ⟨T.setVm vm₁, locs, cells, slots⟩ { g with stack := rest } (.invokespecial index) mk (Value.ref b :: argsL).toArray X₁ hg hsize hdg hW (X₁.named hnamed) (hpre vm₁ X₁.warmed) with ⟨v, B, X', hpost, hsteps⟩ | ⟨q, B, X', hpost, hsteps⟩
  · exact Or.inl ⟨v, vm₁, B, X₁.warmed, X', hpost, fun target h => hstep₁ _ (by rw [doInvoke_state]; exact hsteps.trans h)⟩
  · exact Or.inr ⟨q, vm₁, B, X₁.warmed, X', hpost, hstep₁ _ (by rw [doInvoke_state]; exact hsteps)⟩
theorem vx_runSU {y : MethodName} {bytes cc : ByteArray} {maxL nL mc ms n index : Nat} {ret : Option FieldType} {ws : List Cond} {rm : Room} {Pc : Array Value → State → Prop} {Qc : Array Value → State → Outcome → State → Prop} {XC : String → State → State → Prop} {free : Addr → Prop} {Ts : List Cond} {own C : String} {cC : ClassId} {b : Addr} {As rest : List Value} {g : JFrame}
    (hat : ClassAt s C cC) (S : CallFix p m c cc nL s args Ts own) (hM : vx_Met l y ws rm Pc Qc XC mc ms free) (cw : va_CS R s args own index y bytes maxL ret ws rm mc ms n) (hp : PreV s H C b Pc As)
    (hg : g.method = m) (hn : As.length = n) (hsize : g.locals.size = nL) (hstack : g.stack = As.reverse ++ .ref b :: rest) (hW : 2 * g.monitorRoom + (rest.map fun v => v.category).sum ≤ 8) (hdg : decode cc g.pc = .ok (.invokespecial index, 3)) (hf : cells + mc ≤ R.cells ∧ slots + ms ≤ R.slots) :
    vx_Run p l e R s m args below meth c H locs cells slots mc ms g rest (Qc (Value.ref b :: As).toArray) XC free := by
  obtain ⟨⟨hrc, hrs, hfr, hlo, hws, hcw⟩, hl1, hl2, hl3, hl4, hini, hcode, hno, hlen⟩ := cw
  have hK : vx_Back l R p e below s args y 3 8 (PreOf R mc ms Pc) (PostOf Qc mc ms free) (vx_Post XC mc ms free) := vx_back (bytes := bytes) (maxL := maxL) (ret := ret) hM hp.1 hrc hrs hfr hlo hws hcw (fun a' U hW => word_at hW (Or.inl (by first | rfl | simp [Cond.onTables, Cond.keeps, Cond.steady])) hini)
  obtain ⟨hx, hb, hml, ho, -⟩ := S
  obtain ⟨-, ⟨cellB, hcB, hoB, hclB⟩, hPc⟩ := hp
  obtain ⟨hfc, kB, hkB, -⟩ := hat
  cases hfc.symm.trans hclB
  intro T hT X
  rcases vx_callSU X hx (bytes := bytes) (maxL := maxL) (ret := ret) ho hl1 hl2 hl3 hl4 hcode hno hK (by rw [hT]; exact hcB) hoB hkB hg (hsize.trans hml.symm) (argsL := As) (rest := rest) (fun sig h => hn.trans (hlen sig h)) hstack hW (by rw [hb]; exact hdg)
    (fun vm₁ hW₁ => ⟨hf.1, hf.2, hPc (T.setVm vm₁) hT hW₁⟩) with ⟨v, vm₁, ⟨U', l2, c2, s2⟩, hW₁, X', ⟨g', mk, t, L, e1, e2, hq, h1, hL, h2, h3⟩, st⟩ | ⟨q, vm₁, ⟨U', l2, c2, s2⟩, hW₁, X', ⟨g', mk, t, L, E, ce, e1, e2, hq, hce, hcv, hcl, h1, hL, h2, h3⟩, st⟩
  · dsimp only [Pt.U, Pt.locs, Pt.cells, Pt.slots] at X' e1 e2 h1 h2 h3 st
    subst h1; subst h2; subst h3
    exact Or.inl ⟨v, (T.setVm vm₁).calling g' mk (Value.ref b :: As).toArray, t, U', L, hT, X', hL, e1, e2, hq, st⟩
  · dsimp only [Pt.U, Pt.locs, Pt.cells, Pt.slots] at X' e1 e2 h1 h2 h3 st hcl
    subst h1; subst h2; subst h3
    exact Or.inr ⟨q, (T.setVm vm₁).calling g' mk (Value.ref b :: As).toArray, t, U', L, E, ce, hT, X', hL, e1, e2, hq, hce, hcv, vx_cls hW₁ hcl, st⟩
end
/-! ===== END ===== -/
/-! ===== BEGIN a private method of a nest mate that may throw (follows va_callVN, va_callSN, va_runVN, va_runSN) ===== -/
section
variable {p : Program} {l : Launch} {e : Env} {R : Room} {s : State} {m : MethodId} {args : Array Value} {below : List Frame} {meth : Method} {c : Code} {H : Heap} {locs : List Loc} {cells slots : Nat}
variable {T : State}
theorem vx_callVN (X : Stand p l e R s m args below meth c T locs cells slots) (hexec : p.tables.exec = Jvm.exec) {own C : String} {index : Nat} {host : String} {y : MethodName} {bytes : ByteArray} {maxL : Nat} {ret : Option FieldType}
    (hown : s.vm.findClass own = some m.cls) (hlink : (Cond.methodLinkNest own index y host).before args s = true) (hinst : (Cond.instanceMethod y).before args s = true) (hsel : (Cond.selects C y y).before args s = true)
    (hcode : (Cond.code y bytes maxL ret).before args s = true) (hy : y.cls ≠ "java/lang/invoke/MethodHandle" ∧ y.cls ≠ "java/lang/invoke/VarHandle")
    {W : Nat} {Pre : Pt → Array Value → Prop} {Post : Pt → Array Value → Option Value → Pt → Prop} {PostX : Pt → Array Value → Addr → Pt → Prop} (hK : vx_Back l R p e below s args y 3 W Pre Post PostX)
    {b : Addr} {cellB : Cell} (hcell : T.heap[b]? = some cellB) (hobj : cellB.vm.isStatics = false) (hcls : s.vm.findClass C = some cellB.cls)
    {g : JFrame} (hg : g.method = m) (hsize : g.locals.size = c.maxLocals) {argsL rest : List Value} (hlen : ∀ sig, parseMethodDescriptor y.desc = some sig → argsL.length = sig.parameters.length)
    (hstack : g.stack = argsL.reverse ++ .ref b :: rest) (hW : 2 * g.monitorRoom + (rest.map fun v => v.category).sum ≤ W) (hdg : decode c.code g.pc = .ok (.invokevirtual index, 3))
    (hpre : ∀ vm₁, s.WarmedH vm₁ → Pre ⟨T.setVm vm₁, locs, cells, slots⟩ (Value.ref b :: argsL).toArray) :
    (∃ (v : Option Value) (vm₁ : Vm) (B : Pt), s.WarmedH vm₁ ∧ Stand p l e R s m args below meth c B.U B.locs B.cells B.slots ∧ Post ⟨T.setVm vm₁, locs, cells, slots⟩ (Value.ref b :: argsL).toArray v B ∧
      ∀ target, Steps p.tables e below (B.U.setTop { g with pc := g.pc + 3, stack := v.toList ++ rest }) target → Steps p.tables e below (T.setTop g) target) ∨
    (∃ (q : Addr) (vm₁ : Vm) (B : Pt), s.WarmedH vm₁ ∧ Stand p l e R s m args below meth c B.U B.locs B.cells B.slots ∧ PostX ⟨T.setVm vm₁, locs, cells, slots⟩ (Value.ref b :: argsL).toArray q B ∧
      Steps p.tables e below (T.setTop g) ((B.U.setTop { g with stack := rest }).pushFrame (.throwing q))) := by
  obtain ⟨mk, methM, hnamed, hmethM, hstM, habM⟩ := Cond.instanceMethod_spec hinst
  obtain ⟨methM', cM, hmethM', -, -, -, -, -, -, hsigM⟩ := Cond.code_spec hnamed hcode
  cases hmethM.symm.trans hmethM'
  obtain ⟨c2, r2, m2, q1, q2, q3, q4, kP, hkP, hkPi⟩ := Cond.selects_spec hsel
  cases hcls.symm.trans q1
  cases (State.methodFound?_of_named hnamed hy).symm.trans q2
  cases hnamed.symm.trans q3
  have hselP : selectMethod e.platform s.vm cellB.cls mk = .method mk := by rw [Launch.admits_selectMethod X.admits]; exact q4
  obtain ⟨vm₁, X₁, hstep₁⟩ := X.invokevirtualNest hexec hown hlink hnamed hmethM hstM hkP hkPi hy (a := b) (cell := cellB) hcell
    (fun z h => by rw [h] at hobj; cases hobj) hselP hmethM habM hkP hkPi (g := g) hg (argsL := argsL) (rest := rest) (hlen _ hsigM) hstack hdg
  rcases hK m meth c ⟨T.setVm vm₁, locs, cells, slots⟩ { g with stack := rest } (.invokevirtual index) mk (Value.ref b :: argsL).toArray X₁ hg hsize hdg hW (X₁.named hnamed) (hpre vm₁ X₁.warmed) with ⟨v, B, X', hpost, hsteps⟩ | ⟨q, B, X', hpost, hsteps⟩
  · exact Or.inl ⟨v, vm₁, B, X₁.warmed, X', hpost, fun target h => hstep₁ _ fun acts => by rw [doInvoke_state]; exact hsteps.trans h⟩
  · exact Or.inr ⟨q, vm₁, B, X₁.warmed, X', hpost, hstep₁ _ fun acts => by rw [doInvoke_state]; exact hsteps⟩
theorem vx_callSN (X : Stand p l e R s m args below meth c T locs cells slots) (hexec : p.tables.exec = Jvm.exec) {own : String} {index : Nat} {host : String} {y : MethodName} {bytes : ByteArray} {maxL : Nat} {ret : Option FieldType}
    (hown : s.vm.findClass own = some m.cls) (hlink : (Cond.methodLinkNest own index y host).before args s = true) (hstat : (Cond.static y).before args s = true) (hinit : (Cond.initialized y.cls).before args s = true)
    (hcode : (Cond.code y bytes maxL ret).before args s = true) (hy : y.cls ≠ "java/lang/invoke/MethodHandle" ∧ y.cls ≠ "java/lang/invoke/VarHandle")
    {W : Nat} {Pre : Pt → Array Value → Prop} {Post : Pt → Array Value → Option Value → Pt → Prop} {PostX : Pt → Array Value → Addr → Pt → Prop} (hK : vx_Back l R p e below s args y 3 W Pre Post PostX)
    {g : JFrame} (hg : g.method = m) (hsize : g.locals.size = c.maxLocals) {argsL rest : List Value} (hlen : ∀ sig, parseMethodDescriptor y.desc = some sig → argsL.length = sig.parameters.length)
    (hstack : g.stack = argsL.reverse ++ rest) (hW : 2 * g.monitorRoom + (rest.map fun v => v.category).sum ≤ W) (hdg : decode c.code g.pc = .ok (.invokestatic index, 3))
    (hpre : ∀ vm₁, s.WarmedH vm₁ → Pre ⟨T.setVm vm₁, locs, cells, slots⟩ argsL.toArray) :
    (∃ (v : Option Value) (vm₁ : Vm) (B : Pt), s.WarmedH vm₁ ∧ Stand p l e R s m args below meth c B.U B.locs B.cells B.slots ∧ Post ⟨T.setVm vm₁, locs, cells, slots⟩ argsL.toArray v B ∧
      ∀ target, Steps p.tables e below (B.U.setTop { g with pc := g.pc + 3, stack := v.toList ++ rest }) target → Steps p.tables e below (T.setTop g) target) ∨
    (∃ (q : Addr) (vm₁ : Vm) (B : Pt), s.WarmedH vm₁ ∧ Stand p l e R s m args below meth c B.U B.locs B.cells B.slots ∧ PostX ⟨T.setVm vm₁, locs, cells, slots⟩ argsL.toArray q B ∧
      Steps p.tables e below (T.setTop g) ((B.U.setTop { g with stack := rest }).pushFrame (.throwing q))) := by
  obtain ⟨mk, hnamed⟩ := Cond.code_named hcode
  obtain ⟨methM, cM, hmethM, -, -, -, -, -, -, hsigM⟩ := Cond.code_spec hnamed hcode
  have hstatic : methM.isStatic = true := Cond.static_spec hnamed hmethM hstat
  obtain ⟨kP, hkP, -⟩ := className_of_methodNamed hnamed
  have hinitP : kP.init = .initialized := Cond.initialized_spec (findClass_of_methodNamed hnamed) hkP hinit
  obtain ⟨vm₁, X₁, hstep₁⟩ := X.invokestaticNest hexec hown hlink hnamed hmethM hstatic hkP hinitP hy (g := g) hg (argsL := argsL) (rest := rest) (hlen _ hsigM) hstack hdg
  rcases hK m meth c ⟨T.setVm vm₁, locs, cells, slots⟩ { g with stack := rest } (.invokestatic index) mk argsL.toArray X₁ hg hsize hdg hW (X₁.named hnamed) (hpre vm₁ X₁.warmed) with ⟨v, B, X', hpost, hsteps⟩ | ⟨q, B, X', hpost, hsteps⟩
  · exact Or.inl ⟨v, vm₁, B, X₁.warmed, X', hpost, fun target h => hstep₁ _ fun acts => by rw [doInvoke_state]; exact hsteps.trans h⟩
  · exact Or.inr ⟨q, vm₁, B, X₁.warmed, X', hpost, hstep₁ _ fun acts => by rw [doInvoke_state]; exact hsteps⟩
theorem vx_runVN {y : MethodName} {bytes cc : ByteArray} {maxL nL mc ms n index : Nat} {ret : Option FieldType} {ws : List Cond} {rm : Room} {Pc : Array Value → State → Prop} {Qc : Array Value → State → Outcome → State → Prop} {XC : String → State → State → Prop} {free : Addr → Prop} {Ts : List Cond} {own C host : String} {b : Addr} {As rest : List Value} {g : JFrame}
    (S : CallFix p m c cc nL s args Ts own) (hM : vx_Met l y ws rm Pc Qc XC mc ms free) (cw : va_CN R s args own index y host bytes maxL ret ws rm mc ms n ∧ (Cond.instanceMethod y).before args s = true ∧ (Cond.selects C y y).before args s = true) (hp : PreV s H C b Pc As)
    (hg : g.method = m) (hn : As.length = n) (hsize : g.locals.size = nL) (hstack : g.stack = As.reverse ++ .ref b :: rest) (hW : 2 * g.monitorRoom + (rest.map fun v => v.category).sum ≤ 8) (hdg : decode cc g.pc = .ok (.invokevirtual index, 3)) (hf : cells + mc ≤ R.cells ∧ slots + ms ≤ R.slots) :
    vx_Run p l e R s m args below meth c H locs cells slots mc ms g rest (Qc (Value.ref b :: As).toArray) XC free := by
  obtain ⟨⟨⟨hrc, hrs, hfr, hlo, hws, hcw⟩, hcode, hini, hy, hlen, hl⟩, hx1, hx2⟩ := cw
  have hK : vx_Back l R p e below s args y 3 8 (PreOf R mc ms Pc) (PostOf Qc mc ms free) (vx_Post XC mc ms free) := vx_back (bytes := bytes) (maxL := maxL) (ret := ret) hM hp.1 hrc hrs hfr hlo hws hcw (fun a' U hW => word_at hW (Or.inl (by first | rfl | simp [Cond.onTables, Cond.keeps, Cond.steady])) hini)
  obtain ⟨hx, hb, hml, ho, -⟩ := S
  obtain ⟨-, ⟨cellB, hcB, hoB, hclB⟩, hPc⟩ := hp
  intro T hT X
  rcases vx_callVN X hx (C := C) (bytes := bytes) (maxL := maxL) (ret := ret) ho hl hx1 hx2 hcode hy hK (by rw [hT]; exact hcB) hoB hclB hg (hsize.trans hml.symm) (argsL := As) (rest := rest) (fun sig h => hn.trans (hlen sig h)) hstack hW (by rw [hb]; exact hdg)
    (fun vm₁ hW₁ => ⟨hf.1, hf.2, hPc (T.setVm vm₁) hT hW₁⟩) with ⟨v, vm₁, ⟨U', l2, c2, s2⟩, hW₁, X', ⟨g', mk, t, L, e1, e2, hq, h1, hL, h2, h3⟩, st⟩ | ⟨q, vm₁, ⟨U', l2, c2, s2⟩, hW₁, X', ⟨g', mk, t, L, E, ce, e1, e2, hq, hce, hcv, hcl, h1, hL, h2, h3⟩, st⟩
  · dsimp only [Pt.U, Pt.locs, Pt.cells, Pt.slots] at X' e1 e2 h1 h2 h3 st
    subst h1; subst h2; subst h3
    exact Or.inl ⟨v, (T.setVm vm₁).calling g' mk (Value.ref b :: As).toArray, t, U', L, hT, X', hL, e1, e2, hq, st⟩
  · dsimp only [Pt.U, Pt.locs, Pt.cells, Pt.slots] at X' e1 e2 h1 h2 h3 st hcl
    subst h1; subst h2; subst h3
    exact Or.inr ⟨q, (T.setVm vm₁).calling g' mk (Value.ref b :: As).toArray, t, U', L, E, ce, hT, X', hL, e1, e2, hq, hce, hcv, vx_cls hW₁ hcl, st⟩
theorem vx_runSN {y : MethodName} {bytes cc : ByteArray} {maxL nL mc ms n index : Nat} {ret : Option FieldType} {ws : List Cond} {rm : Room} {Pc : Array Value → State → Prop} {Qc : Array Value → State → Outcome → State → Prop} {XC : String → State → State → Prop} {free : Addr → Prop} {Ts : List Cond} {own host : String} {As rest : List Value} {g : JFrame}
    (S : CallFix p m c cc nL s args Ts own) (hM : vx_Met l y ws rm Pc Qc XC mc ms free) (cw : va_CN R s args own index y host bytes maxL ret ws rm mc ms n ∧ (Cond.static y).before args s = true ∧ True) (hp : PreS s H Pc As)
    (hg : g.method = m) (hn : As.length = n) (hsize : g.locals.size = nL) (hstack : g.stack = As.reverse ++ rest) (hW : 2 * g.monitorRoom + (rest.map fun v => v.category).sum ≤ 8) (hdg : decode cc g.pc = .ok (.invokestatic index, 3)) (hf : cells + mc ≤ R.cells ∧ slots + ms ≤ R.slots) :
    vx_Run p l e R s m args below meth c H locs cells slots mc ms g rest (Qc As.toArray) XC free := by
  obtain ⟨⟨⟨hrc, hrs, hfr, hlo, hws, hcw⟩, hcode, hini, hy, hlen, hl⟩, hx1, hx2⟩ := cw
  have hK : vx_Back l R p e below s args y 3 8 (PreOf R mc ms Pc) (PostOf Qc mc ms free) (vx_Post XC mc ms free) := vx_back (bytes := bytes) (maxL := maxL) (ret := ret) hM hp.1 hrc hrs hfr hlo hws hcw (fun a' U hW => word_at hW (Or.inl (by first | rfl | simp [Cond.onTables, Cond.keeps, Cond.steady])) hini)
  obtain ⟨hx, hb, hml, ho, -⟩ := S
  have hPc := hp.2
  intro T hT X
  rcases vx_callSN X hx (bytes := bytes) (maxL := maxL) (ret := ret) ho hl hx1 hini hcode hy hK hg (hsize.trans hml.symm) (argsL := As) (rest := rest) (fun sig h => hn.trans (hlen sig h)) hstack hW (by rw [hb]; exact hdg)
    (fun vm₁ hW₁ => ⟨hf.1, hf.2, hPc (T.setVm vm₁) hT hW₁⟩) with ⟨v, vm₁, ⟨U', l2, c2, s2⟩, hW₁, X', ⟨g', mk, t, L, e1, e2, hq, h1, hL, h2, h3⟩, st⟩ | ⟨q, vm₁, ⟨U', l2, c2, s2⟩, hW₁, X', ⟨g', mk, t, L, E, ce, e1, e2, hq, hce, hcv, hcl, h1, hL, h2, h3⟩, st⟩
  · dsimp only [Pt.U, Pt.locs, Pt.cells, Pt.slots] at X' e1 e2 h1 h2 h3 st
    subst h1; subst h2; subst h3
    exact Or.inl ⟨v, (T.setVm vm₁).calling g' mk As.toArray, t, U', L, hT, X', hL, e1, e2, hq, st⟩
  · dsimp only [Pt.U, Pt.locs, Pt.cells, Pt.slots] at X' e1 e2 h1 h2 h3 st hcl
    subst h1; subst h2; subst h3
    exact Or.inr ⟨q, (T.setVm vm₁).calling g' mk As.toArray, t, U', L, E, ce, hT, X', hL, e1, e2, hq, hce, hcv, vx_cls hW₁ hcl, st⟩
end
/-! ===== END ===== -/
theorem gaIn {ws : List Cond} (h : ∀ w ∈ ws, w ∈ gaW) : GoodIn gaW ws := fun w hw => ⟨h w hw, gaW_good (h w hw)⟩
theorem gaIn1 {a : Cond} {ws : List Cond} (ha : a ∈ gaW) (h : ∀ w ∈ ws, w ∈ gaW) : ∀ w ∈ a :: ws, w ∈ gaW := fun w hw => (List.mem_cons.mp hw).elim (fun e => e ▸ ha) (h w)
theorem gaIn0 : ∀ w ∈ gaW, w ∈ gaW := fun _ h => h
/-- a method's words: its own code, and all that the tables say -/
abbrev gaM (y : MethodName) (cc : ByteArray) (nL : Nat) (ret : Option FieldType) : List Cond := .code y cc nL ret :: gaW
abbrev gaNoMH (y : MethodName) : Prop := y.cls ≠ "java/lang/invoke/MethodHandle" ∧ y.cls ≠ "java/lang/invoke/VarHandle"
section GAU
variable {ws : List Cond}
variable {p : Program} {l : Launch} {e : Env} {R : Room} {s : State} {m : MethodId} {args : Array Value} {below : List Frame} {meth : Method} {c : Code} {G : gaG} {cc : ByteArray} {own : String} {nL : Nat} {ret : Option FieldType} {nm : String} {Q : Option Value → gaH → Prop} {X : String → gaH → Prop} {Z : State → Prop}
variable {pc n : Nat} {lv : List (Option Value)} {st : List Value} {h : gaH} {k j : Nat} {H : Heap} {locs : List Loc} {cells slots : Nat}
theorem gaBlind (av : List Value) : FrameBlind (va_Pc av (fun U => gaR G U h U.heap ∧ gaF G U U.heap)) :=
  fun _ U g mk q => ⟨q.1, q.2.1.moved (u := U) (U := U.calling g mk _) (Vm.Alike.refl U.vm), gaF.same (u := U) (U := U.calling g mk _) rfl q.2.2⟩
theorem gaPre (V : gaV p l s m args meth c G cc own nL gaW ret nm) (hR : gaR G s h H) (hS : va_S (gaA G) s.heap H locs) (av : List Value) : ∀ U : State, U.heap = H → s.WarmedH U.vm → va_Pc av (fun U => gaR G U h U.heap ∧ gaF G U U.heap) av.toArray U := by
  intro U hU hW
  refine ⟨rfl, ?_, ?_⟩
  · rw [hU]
    exact hR.moved hW.alike
  · rw [hU]
    exact V.2.2.2.2.2.2.2.2.2.1.on hS hW
theorem gaRecv (V : gaV p l s m args meth c G cc own nL gaW ret nm) (hR : gaR G s h H) {C : String} {T : u_T} {N ci b : Nat} {fs : List Value} (hc : vwCl[ci]? = some (C, T, N)) (hci : ci < 100) (hb : h b = some (ci, fs)) : ∃ cellB : Cell, H[b]? = some cellB ∧ cellB.vm.isStatics = false ∧ s.vm.findClass C = some cellB.cls :=
  va_recv V.2.2.2.2.2.2.2.2.2.1.1 (hR.obj hci hb).1 hc (q0 := 0) rfl
theorem gaAfter (V : gaV p l s m args meth c G cc own nL gaW ret nm) {ls : Array Slot} {st0 : List Value} {mc ms : Nat} {a : Array Value} {Q2 : Option Value → gaH → Prop} {X2 : String → gaH → Prop}
    (hr : vx_Run p l e R s m args below meth c H locs cells slots mc ms (F0 m pc ls st0) st (gaQ G Q2 a) (gaX G X2) (gaA G)) (hS : va_S (gaA G) s.heap H locs) (hL : gaL ls nL lv) (h1 : cells + k ≤ R.cells) (h2 : slots + j ≤ R.slots) (hk : mc ≤ k) (hj : ms ≤ j) (hX : ∀ E h', X2 E h' → gaO p l e R s m args below meth c G nL Z pc lv E h' (k - mc) (j - ms))
    (kk : ∀ v h', Q2 v h' → gaP p l e R s m args below meth c G nL Z (pc + 3) lv (v.toList ++ st) h' (k - mc) (j - ms)) :
    W p l e R s m args below meth c H locs cells slots Z (F0 m pc ls st0) := by
  intro T hT X9
  rcases hr T hT X9 with ⟨v, st₀, t, T', L, e0, X', hL', e1, e2, ⟨v', h', hv, hq, hR', hF⟩, hst⟩ | ⟨q, st₀, t, T', L, E, ce, e0, X', hL', e1, e2, ⟨h', hx, hR', hF⟩, hce, hcv, hcl, hst⟩
  · cases hv
    obtain ⟨k1, k2, k3⟩ := vx_keep e0 e1 hS (fun _ _ q => q) (fun _ q => q) hL' hF
    have hal : s.vm.Alike t.vm := by rw [← e2]; exact X'.warmed.alike
    have hR2 : gaR G s h' T'.heap := by rw [e1]; exact hR'.moved hal.symm
    obtain ⟨t2, a1, b1⟩ := kk v h' hq T'.heap (locs ++ L) ls (cells + mc) (slots + ms) hR2 k3 hL (by omega) (by omega) T' rfl X'
    exact ⟨t2, hst t2 a1, b1⟩
  · obtain ⟨k1, k2, k3⟩ := vx_keep e0 e1 hS (fun _ _ q => q) (fun _ q => q) hL' hF
    have hal : s.vm.Alike t.vm := by rw [← e2]; exact X'.warmed.alike
    have hR2 : gaR G s h' T'.heap := by rw [e1]; exact hR'.moved hal.symm
    have hout : vx_W p l e R s m args below meth c T'.heap (locs ++ L) (cells + mc) (slots + ms) Z (F0 m pc ls st) q :=
      hX E h' hx T'.heap (locs ++ L) ls st (cells + mc) (slots + ms) q ce hR2 k3 hL (by omega) (by omega) (by rw [e1]; exact hce) hcv hcl
    obtain ⟨t2, a1, b1⟩ := hout T' rfl X'
    exact ⟨t2, hst.trans a1, b1⟩
theorem gaO_out (hT : ∀ x ∈ c.exceptionTable.toList, False) (V : gaV p l s m args meth c G cc own nL ws ret nm) {E : String} (hx : X E h) : gaO p l e R s m args below meth c G nL (gaZ below G Q X args s R) pc lv E h k j := by
  intro H locs ls rest cells slots q ce hR hS hL h1 h2 hce hcv hcl
  exact vx_out (fun x hx9 => (hT x hx9).elim) V.2.2.2.2.2.2.1 hce hcv hcl (fun t2 ht hW => ⟨h, hx, by rw [ht]; exact hR.moved hW, hS.F ht⟩) hS.2.2 (by omega) (by omega)
theorem gaX_all (hT : ∀ x ∈ c.exceptionTable.toList, False) (V : gaV p l s m args meth c G cc own nL ws ret nm) : ∀ E h', X E h' → gaO p l e R s m args below meth c G nL (gaZ below G Q X args s R) pc lv E h' k j := fun _ _ hx => gaO_out hT V hx
theorem g_callV (V : gaV p l s m args meth c G cc own nL gaW ret nm) {y : MethodName} {C : String} {T : u_T} {N ci b index maxL nP : Nat} {fs : List Value} {bytes : ByteArray} {retf : Option FieldType} {rm : Room} {As st0 : List Value} {Q2 : Option Value → gaH → Prop} {X2 : String → gaH → Prop}
    (hM : gaC l G y (gaM y bytes maxL retf) rm (.ref b :: As) h Q2 X2) (w1 : Cond.methodLink own index y ∈ gaW) (w2 : Cond.instanceMethod y ∈ gaW) (w3 : Cond.selects C y y ∈ gaW) (w4 : Cond.initialized C ∈ gaW) (w5 : Cond.code y bytes maxL retf ∈ gaW)
    (hd : y.cls = C ∧ y.cls ≠ "java/lang/invoke/MethodHandle" ∧ y.cls ≠ "java/lang/invoke/VarHandle" ∧ (parseMethodDescriptor y.desc).map (fun d => d.parameters.length) = some nP) (hRm : rm.frames + 1 ≤ R.frames ∧ 8 + (maxL + 11) + rm.locals ≤ R.locals)
    (hc : vwCl[ci]? = some (C, T, N)) (hci : ci < 100) (hb : h b = some (ci, fs)) (hnp : As.length = nP) (hst : st0 = As.reverse ++ .ref b :: st) (hcat : (st.map fun v => v.category).sum ≤ 8) (d : decode cc pc = .ok (.invokevirtual index, 3)) (hk : rm.cells ≤ k) (hj : rm.slots ≤ j) (hn : pc + 3 = n) (hX : ∀ E h', X2 E h' → gaO p l e R s m args below meth c G nL Z pc lv E h' (k - rm.cells) (j - rm.slots))
    (kk : ∀ v h', Q2 v h' → gaP p l e R s m args below meth c G nL Z n lv (v.toList ++ st) h' (k - rm.cells) (j - rm.slots)) : gaP p l e R s m args below meth c G nL Z pc lv st0 h k j := by
  subst hn
  subst hst
  intro H locs ls cells slots hR hS hL h1 h2
  exact gaAfter V (vx_runV (As := As) (rest := st) ⟨V.1, V.2.1, V.2.2.1, V.2.2.2.1, V.2.2.2.2.1⟩ hM (cwV nP V.2.2.2.2.1 (gaIn (by unfold wsV; exact gaIn1 w1 (gaIn1 w2 (gaIn1 w3 (gaIn1 w4 (gaIn1 w5 gaIn0)))))) rfl rfl rfl hd hRm) ⟨gaBlind _, gaRecv V hR hc hci hb, gaPre V hR hS _⟩ rfl hnp hL.1 rfl (lv_room hcat) d ⟨by omega, by omega⟩) hS hL h1 h2 hk hj hX kk
theorem g_callS (V : gaV p l s m args meth c G cc own nL gaW ret nm) {y : MethodName} {index maxL nP : Nat} {bytes : ByteArray} {retf : Option FieldType} {rm : Room} {As st0 : List Value} {Q2 : Option Value → gaH → Prop} {X2 : String → gaH → Prop}
    (hM : gaC l G y (gaM y bytes maxL retf) rm As h Q2 X2) (w1 : Cond.methodLink own index y ∈ gaW) (w2 : Cond.static y ∈ gaW) (w4 : Cond.initialized y.cls ∈ gaW) (w5 : Cond.code y bytes maxL retf ∈ gaW)
    (hd : y.cls ≠ "java/lang/invoke/MethodHandle" ∧ y.cls ≠ "java/lang/invoke/VarHandle" ∧ (parseMethodDescriptor y.desc).map (fun d => d.parameters.length) = some nP) (hRm : rm.frames + 1 ≤ R.frames ∧ 8 + (maxL + 11) + rm.locals ≤ R.locals)
    (hnp : As.length = nP) (hst : st0 = As.reverse ++ st) (hcat : (st.map fun v => v.category).sum ≤ 8) (d : decode cc pc = .ok (.invokestatic index, 3)) (hk : rm.cells ≤ k) (hj : rm.slots ≤ j) (hn : pc + 3 = n) (hX : ∀ E h', X2 E h' → gaO p l e R s m args below meth c G nL Z pc lv E h' (k - rm.cells) (j - rm.slots))
    (kk : ∀ v h', Q2 v h' → gaP p l e R s m args below meth c G nL Z n lv (v.toList ++ st) h' (k - rm.cells) (j - rm.slots)) : gaP p l e R s m args below meth c G nL Z pc lv st0 h k j := by
  subst hn
  subst hst
  intro H locs ls cells slots hR hS hL h1 h2
  have hts := V.2.2.2.2.1
  exact gaAfter V (vx_runS (As := As) (rest := st) ⟨V.1, V.2.1, V.2.2.1, V.2.2.2.1, V.2.2.2.2.1⟩ hM ⟨callB_of nP hts (gaIn (gaIn1 w5 gaIn0)) rfl rfl rfl (hts _ w4) (hts _ w1) hd hRm, hts _ w2⟩ ⟨gaBlind _, gaPre V hR hS _⟩ rfl hnp hL.1 rfl (lv_room hcat) d ⟨by omega, by omega⟩) hS hL h1 h2 hk hj hX kk
theorem g_callSN (V : gaV p l s m args meth c G cc own nL gaW ret nm) {y : MethodName} {host : String} {index maxL nP : Nat} {bytes : ByteArray} {retf : Option FieldType} {rm : Room} {As st0 : List Value} {Q2 : Option Value → gaH → Prop} {X2 : String → gaH → Prop}
    (hM : gaC l G y (gaM y bytes maxL retf) rm As h Q2 X2) (w1 : Cond.methodLinkNest own index y host ∈ gaNests) (w2 : Cond.static y ∈ gaW) (w4 : Cond.initialized y.cls ∈ gaW) (w5 : Cond.code y bytes maxL retf ∈ gaW)
    (hd : y.cls ≠ "java/lang/invoke/MethodHandle" ∧ y.cls ≠ "java/lang/invoke/VarHandle" ∧ (parseMethodDescriptor y.desc).map (fun d => d.parameters.length) = some nP) (hRm : rm.frames + 1 ≤ R.frames ∧ 8 + (maxL + 11) + rm.locals ≤ R.locals)
    (hnp : As.length = nP) (hst : st0 = As.reverse ++ st) (hcat : (st.map fun v => v.category).sum ≤ 8) (d : decode cc pc = .ok (.invokestatic index, 3)) (hk : rm.cells ≤ k) (hj : rm.slots ≤ j) (hn : pc + 3 = n) (hX : ∀ E h', X2 E h' → gaO p l e R s m args below meth c G nL Z pc lv E h' (k - rm.cells) (j - rm.slots))
    (kk : ∀ v h', Q2 v h' → gaP p l e R s m args below meth c G nL Z n lv (v.toList ++ st) h' (k - rm.cells) (j - rm.slots)) : gaP p l e R s m args below meth c G nL Z pc lv st0 h k j := by
  subst hn
  subst hst
  intro H locs ls cells slots hR hS hL h1 h2
  have hts := V.2.2.2.2.1
  exact gaAfter V (vx_runSN (As := As) (rest := st) ⟨V.1, V.2.1, V.2.2.1, V.2.2.2.1, V.2.2.2.2.1⟩ hM ⟨va_cnB nP hts (gaIn (gaIn1 w5 gaIn0)) rfl rfl rfl (V.2.2.2.2.2.2.2.2.2.1.2.2.2.2.2.2.1 _ w1) (hts _ w4) hd hRm, hts _ w2, trivial⟩ ⟨gaBlind _, gaPre V hR hS _⟩ rfl hnp hL.1 rfl (lv_room hcat) d ⟨by omega, by omega⟩) hS hL h1 h2 hk hj hX kk
theorem g_callI (V : gaV p l s m args meth c G cc own nL gaW ret nm) {y : MethodName} {b index maxL nP : Nat} {bytes : ByteArray} {rm : Room} {As st0 : List Value} {Q2 : Option Value → gaH → Prop} {X2 : String → gaH → Prop}
    (hM : gaC l G y (gaM y bytes maxL none) rm (.ref b :: As) h Q2 X2) (w1 : Cond.methodLink own index y ∈ gaW) (w2 : Cond.instanceMethod y ∈ gaW) (w4 : Cond.initialized y.cls ∈ gaW) (w5 : Cond.code y bytes maxL none ∈ gaW) (hinit : y.name = "<init>")
    (hd : y.cls ≠ "java/lang/invoke/MethodHandle" ∧ y.cls ≠ "java/lang/invoke/VarHandle" ∧ (parseMethodDescriptor y.desc).map (fun d => d.parameters.length) = some nP) (hRm : rm.frames + 1 ≤ R.frames ∧ 8 + (maxL + 11) + rm.locals ≤ R.locals)
    (hnp : As.length = nP) (hst : st0 = As.reverse ++ .ref b :: st) (hcat : (st.map fun v => v.category).sum ≤ 8) (d : decode cc pc = .ok (.invokespecial index, 3)) (hk : rm.cells ≤ k) (hj : rm.slots ≤ j) (hn : pc + 3 = n) (hX : ∀ E h', X2 E h' → gaO p l e R s m args below meth c G nL Z pc lv E h' (k - rm.cells) (j - rm.slots))
    (kk : ∀ v h', Q2 v h' → gaP p l e R s m args below meth c G nL Z n lv (v.toList ++ st) h' (k - rm.cells) (j - rm.slots)) : gaP p l e R s m args below meth c G nL Z pc lv st0 h k j := by
  subst hn
  subst hst
  intro H locs ls cells slots hR hS hL h1 h2
  have hts := V.2.2.2.2.1
  exact gaAfter V (vx_runI (As := As) (rest := st) ⟨V.1, V.2.1, V.2.2.1, V.2.2.2.1, V.2.2.2.2.1⟩ hM ⟨callB_of nP hts (gaIn (gaIn1 w5 gaIn0)) rfl rfl rfl (hts _ w4) (hts _ w1) hd hRm, hinit, hts _ w2⟩ ⟨gaBlind _, gaPre V hR hS _⟩ rfl hnp hL.1 rfl (lv_room hcat) d ⟨by omega, by omega⟩) hS hL h1 h2 hk hj hX kk
theorem g_callIN (V : gaV p l s m args meth c G cc own nL gaW ret nm) {y : MethodName} {host : String} {b index maxL nP : Nat} {bytes : ByteArray} {rm : Room} {As st0 : List Value} {Q2 : Option Value → gaH → Prop} {X2 : String → gaH → Prop}
    (hM : gaC l G y (gaM y bytes maxL none) rm (.ref b :: As) h Q2 X2) (w1 : Cond.methodLinkNest own index y host ∈ gaNests) (w2 : Cond.instanceMethod y ∈ gaW) (w4 : Cond.initialized y.cls ∈ gaW) (w5 : Cond.code y bytes maxL none ∈ gaW) (hinit : y.name = "<init>")
    (hd : y.cls ≠ "java/lang/invoke/MethodHandle" ∧ y.cls ≠ "java/lang/invoke/VarHandle" ∧ (parseMethodDescriptor y.desc).map (fun d => d.parameters.length) = some nP) (hRm : rm.frames + 1 ≤ R.frames ∧ 8 + (maxL + 11) + rm.locals ≤ R.locals)
    (hnp : As.length = nP) (hst : st0 = As.reverse ++ .ref b :: st) (hcat : (st.map fun v => v.category).sum ≤ 8) (d : decode cc pc = .ok (.invokespecial index, 3)) (hk : rm.cells ≤ k) (hj : rm.slots ≤ j) (hn : pc + 3 = n) (hX : ∀ E h', X2 E h' → gaO p l e R s m args below meth c G nL Z pc lv E h' (k - rm.cells) (j - rm.slots))
    (kk : ∀ v h', Q2 v h' → gaP p l e R s m args below meth c G nL Z n lv (v.toList ++ st) h' (k - rm.cells) (j - rm.slots)) : gaP p l e R s m args below meth c G nL Z pc lv st0 h k j := by
  subst hn
  subst hst
  intro H locs ls cells slots hR hS hL h1 h2
  have hts := V.2.2.2.2.1
  exact gaAfter V (vx_runIN (As := As) (rest := st) ⟨V.1, V.2.1, V.2.2.1, V.2.2.2.1, V.2.2.2.2.1⟩ hM ⟨va_cnB nP hts (gaIn (gaIn1 w5 gaIn0)) rfl rfl rfl (V.2.2.2.2.2.2.2.2.2.1.2.2.2.2.2.2.1 _ w1) (hts _ w4) hd hRm, hinit, hts _ w2⟩ ⟨gaBlind _, gaPre V hR hS _⟩ rfl hnp hL.1 rfl (lv_room hcat) d ⟨by omega, by omega⟩) hS hL h1 h2 hk hj hX kk
/-- a method of the class above, found by the receiver -/
theorem g_callU (V : gaV p l s m args meth c G cc own nL gaW ret nm) {x y : MethodName} {C owner : String} {T : u_T} {N ci b index maxL nP : Nat} {fs : List Value} {bytes : ByteArray} {retf : Option FieldType} {rm : Room} {As st0 : List Value} {Q2 : Option Value → gaH → Prop} {X2 : String → gaH → Prop}
    (hM : gaC l G y (gaM y bytes maxL retf) rm (.ref b :: As) h Q2 X2) (w1 : Cond.methodLink own index x ∈ gaW) (w6 : Cond.sameMethod x.cls owner x.name x.desc ∈ gaW) (w2 : Cond.instanceMethod y ∈ gaW) (w3 : Cond.selects C x y ∈ gaW) (w4 : Cond.initialized y.cls ∈ gaW) (w5 : Cond.code y bytes maxL retf ∈ gaW)
    (hyx : y = ⟨owner, x.name, x.desc⟩) (hd : owner ≠ "java/lang/invoke/MethodHandle" ∧ owner ≠ "java/lang/invoke/VarHandle" ∧ (parseMethodDescriptor x.desc).map (fun d => d.parameters.length) = some nP) (hRm : rm.frames + 1 ≤ R.frames ∧ 8 + (maxL + 11) + rm.locals ≤ R.locals)
    (hc : vwCl[ci]? = some (C, T, N)) (hci : ci < 100) (hb : h b = some (ci, fs)) (hnp : As.length = nP) (hst : st0 = As.reverse ++ .ref b :: st) (hcat : (st.map fun v => v.category).sum ≤ 8) (d : decode cc pc = .ok (.invokevirtual index, 3)) (hk : rm.cells ≤ k) (hj : rm.slots ≤ j) (hn : pc + 3 = n) (hX : ∀ E h', X2 E h' → gaO p l e R s m args below meth c G nL Z pc lv E h' (k - rm.cells) (j - rm.slots))
    (kk : ∀ v h', Q2 v h' → gaP p l e R s m args below meth c G nL Z n lv (v.toList ++ st) h' (k - rm.cells) (j - rm.slots)) : gaP p l e R s m args below meth c G nL Z pc lv st0 h k j := by
  subst hn
  subst hst
  intro H locs ls cells slots hR hS hL h1 h2
  exact gaAfter V (vx_runU (As := As) (rest := st) ⟨V.1, V.2.1, V.2.2.1, V.2.2.2.1, V.2.2.2.2.1⟩ hM (va_cwU nP V.2.2.2.2.1 (gaIn (by unfold va_wsU; exact gaIn1 w1 (gaIn1 w6 (gaIn1 w3 (gaIn1 w2 (gaIn1 w4 (gaIn1 w5 gaIn0))))))) rfl rfl rfl hyx hd hRm) ⟨gaBlind _, gaRecv V hR hc hci hb, gaPre V hR hS _⟩ rfl hnp hL.1 rfl (lv_room hcat) d ⟨by omega, by omega⟩) hS hL h1 h2 hk hj hX kk
/-- super.m(..) -/
theorem g_callSU (V : gaV p l s m args meth c G cc own nL gaW ret nm) {y : MethodName} {C : String} {T : u_T} {N ci b index maxL nP : Nat} {fs : List Value} {bytes : ByteArray} {retf : Option FieldType} {rm : Room} {As st0 : List Value} {Q2 : Option Value → gaH → Prop} {X2 : String → gaH → Prop}
    (hM : gaC l G y (gaM y bytes maxL retf) rm (.ref b :: As) h Q2 X2) (w1 : Cond.methodLink own index y ∈ gaW) (w6 : Cond.sameMethod y.cls y.cls y.name y.desc ∈ gaW) (w7 : Cond.superclass own y.cls ∈ gaW) (w2 : Cond.instanceMethod y ∈ gaW) (w4 : Cond.initialized y.cls ∈ gaW) (w5 : Cond.code y bytes maxL retf ∈ gaW)
    (hd : y.name ≠ "<init>" ∧ (parseMethodDescriptor y.desc).map (fun d => d.parameters.length) = some nP) (hRm : rm.frames + 1 ≤ R.frames ∧ 8 + (maxL + 11) + rm.locals ≤ R.locals)
    (hc : vwCl[ci]? = some (C, T, N)) (hci : ci < 100) (hb : h b = some (ci, fs)) (hnp : As.length = nP) (hst : st0 = As.reverse ++ .ref b :: st) (hcat : (st.map fun v => v.category).sum ≤ 8) (d : decode cc pc = .ok (.invokespecial index, 3)) (hk : rm.cells ≤ k) (hj : rm.slots ≤ j) (hn : pc + 3 = n) (hX : ∀ E h', X2 E h' → gaO p l e R s m args below meth c G nL Z pc lv E h' (k - rm.cells) (j - rm.slots))
    (kk : ∀ v h', Q2 v h' → gaP p l e R s m args below meth c G nL Z n lv (v.toList ++ st) h' (k - rm.cells) (j - rm.slots)) : gaP p l e R s m args below meth c G nL Z pc lv st0 h k j := by
  subst hn
  subst hst
  intro H locs ls cells slots hR hS hL h1 h2
  exact gaAfter V (vx_runSU (As := As) (rest := st) (V.2.2.2.2.2.2.2.2.2.1.1.1 ci _ hc).2 ⟨V.1, V.2.1, V.2.2.1, V.2.2.2.1, V.2.2.2.2.1⟩ hM (va_cwSU nP V.2.2.2.2.1 (gaIn (by unfold va_wsSU; exact gaIn1 w1 (gaIn1 w6 (gaIn1 w7 (gaIn1 w2 (gaIn1 w4 (gaIn1 w5 gaIn0))))))) rfl rfl rfl hd hRm) ⟨gaBlind _, gaRecv V hR hc hci hb, gaPre V hR hS _⟩ rfl hnp hL.1 rfl (lv_room hcat) d ⟨by omega, by omega⟩) hS hL h1 h2 hk hj hX kk
/-- throw new E("text") -/
theorem g_throw (hT : ∀ x ∈ c.exceptionTable.toList, False) (V : gaV p l s m args meth c G cc own nL gaW ret nm) {cls text : String} {names : List String} {ik is ic sa : Nat} (hcls : Bundle.fit cls = true) (hnames : ∀ n ∈ names, Bundle.fit n = true)
    (w1 : Cond.classLink own ik cls ∈ gaW) (w2 : Cond.initialized cls ∈ gaW) (hstr : (own, is, text, sa) ∈ gaStrs) (hat1 : ∀ w ∈ (vx_atS own ic cls names).filter goodWord, w ∈ gaW) (hat2 : ∀ w ∈ (vx_atS own ic cls names).filter (fun w => !goodWord w), w ∈ gaNests)
    (hgood : ∀ w ∈ Cond.classLink own ik cls :: Cond.initialized cls :: vx_atS own ic cls names, vx_ot w = true)
    (d0 : decode cc pc = .ok (.new ik, 3)) (d3 : decode cc (pc + 3) = .ok (.dup, 1)) (d4 : decode cc (pc + 4) = .ok (.ldc_w is, 3)) (d7 : decode cc (pc + 7) = .ok (.invokespecial ic, 3)) (d10 : decode cc (pc + 10) = .ok (.athrow, 1))
    (hRf : names.length + 3 < R.frames) (hRl : (st.map fun v => v.category).sum + (13 * (names.length + 1) + 43) ≤ R.locals) (hk : 1 ≤ k) (hj : 6 ≤ j) (hX : X cls h) : gaP p l e R s m args below meth c G nL (gaZ below G Q X args s R) pc lv st h k j := by
  intro H locs ls cells slots hR hS hL h1 h2
  have hts := V.2.2.2.2.1
  have hF := V.2.2.2.2.2.2.2.2.2.1
  have hstr9 := hF.2.2.2.2.2.1 _ hstr
  dsimp only at hstr9
  refine vx_throwSW V.1 V.2.1 V.2.2.2.2.2.2.2.2.2.2 V.2.2.2.1 hcls hnames (hts _ w1) (hts _ w2) hstr9 (vx_hat (fun w hw => hts w (hat1 w hw)) (fun w hw => hat2 w hw) (fun w hw => va_Nw.use (gaNest_tab (gaNests_ok w hw)) (hF.2.2.2.2.2.2.1 w hw))) hgood hF.2.2.2.2.1.1 hF.2.2.2.2.1.2 hS (by rw [V.2.2.1]; exact hL.1) d0 d3 d4 d7 d10 (fun x hx => (hT x hx).elim) hRf hRl (by omega) (by omega) V.2.2.2.2.2.2.1 ?_ hS.2.2 (by omega) (by omega)
  intro t hal hz hq
  refine ⟨h, hX, (hR.kept hq).moved hal, Nat.le_trans hS.1 hz, fun q q1 q2 => (hq q (Nat.lt_of_lt_of_le q1 hS.1)).trans (hS.2.1 q q1 q2)⟩
theorem g_start {l : Launch} {G : gaG} {y : MethodName} {cc : ByteArray} {nL : Nat} {ret : Option FieldType} {rm : Room} {av : List Value} {h : gaH} {Q : Option Value → gaH → Prop} {X : String → gaH → Prop} (hy : plainName y.cls = true) (hst : l.stackTraces = false) (hav : (lg_sl av).length ≤ nL) {lv : List (Option Value)} (hlv : ∀ (i : Nat) (v : Value), lv[i]? = some (some v) → (i, v) ∈ lv_args 0 av) (w : Cond.code y cc nL ret ∈ gaW)
    (body : ∀ (p : Program) (e : Env) (s : State) (m : MethodId) (args : Array Value) (below : List Frame) (meth : Method) (c : Code), gaV p l s m args meth c G cc y.cls nL gaW ret y.name → (∀ x ∈ c.exceptionTable.toList, False) → gaP p l e rm s m args below meth c G nL (gaZ below G Q X args s rm) 0 lv [] h rm.cells rm.slots) : gaC l G y (gaM y cc nL ret) rm av h Q X := by
  refine vx_ofW (cc := cc) (maxL := nL) (ret := ret) hy rfl ?_
  intro p e s m args below meth c s₁ B hml htab hv
  obtain ⟨rfl, hR, hF⟩ := hv
  have hts := atoms_spec (ws := gaM y cc nL ret) B.pre
  have hle := lv_entry av (n := nL) hav
  rw [lg_entry_eq]
  exact body p e s m _ below meth c ⟨B.exec, B.bytes, hml, findClass_of_methodNamed B.named, fun w hw => hts w (List.mem_cons_of_mem _ hw), B.returns, B.notSynchronized, trivial, (name_of_methodNamed B.named B.method).1, hF, hst⟩ htab s.heap [] _ 0 0 hR va_S.rf ⟨hle.1, hle.2.1, fun i v hi => hle.2.2 (i, v) (hlv i v hi)⟩ (Nat.le_of_eq (Nat.zero_add _)) (Nat.le_of_eq (Nat.zero_add _))
end GAU
/-! Whole numbers in the place of the machine's ints; the words of weakest preconditions over abstract heaps. -/
abbrev gi (x : Int) : Value := .int (Int32.ofInt x)
abbrev gR (x : Int) : Prop := -2147483648 ≤ x ∧ x ≤ 2147483647
theorem gi_lt {x y : Int} (hx : gR x) (hy : gR y) : (Int32.ofInt x < Int32.ofInt y) = (x < y) := propext (Int32.ofInt_lt_iff_lt hx.1 hx.2 hy.1 hy.2)
theorem gi_le {x y : Int} (hx : gR x) (hy : gR y) : (Int32.ofInt x ≤ Int32.ofInt y) = (x ≤ y) := propext (Int32.ofInt_le_iff_le hx.1 hx.2 hy.1 hy.2)
theorem gi_to {x : Int} (hx : gR x) : (Int32.ofInt x).toInt = x := Int32.toInt_ofInt_of_le hx.1 (by have := hx.2; omega)
theorem gi_eq {x y : Int} (hx : gR x) (hy : gR y) : (Int32.ofInt x = Int32.ofInt y) = (x = y) := propext ⟨fun q => by rw [← gi_to hx, ← gi_to hy, q], fun q => by rw [q]⟩
theorem gi_0 : (0 : Int32) = Int32.ofInt 0 := rfl
theorem gi_clamp {x : Int} (h0 : 0 ≤ x) (h1 : x ≤ 2147483647) : (Int32.ofInt x).toNatClampNeg = x.toNat := Int32.toNatClampNeg_ofInt_of_le (by omega) (by omega)
theorem gi_nn {x : Int} (h0 : 0 ≤ x) (h1 : x ≤ 2147483647) : ¬ Int32.ofInt x < 0 := by rw [gi_0, gi_lt ⟨by omega, h1⟩ ⟨by decide, by decide⟩]; omega
theorem gi_len (n : Nat) : Int32.ofNat n = Int32.ofInt (n : Int) := Int32.ofInt_eq_ofNat.symm
def gAnd (x y : Int) : Int := (Int32.ofInt x &&& Int32.ofInt y).toInt
def gOr (x y : Int) : Int := (Int32.ofInt x ||| Int32.ofInt y).toInt
def gShl (x y : Int) : Int := (Int32.ofInt x <<< (Int32.ofInt y &&& 31)).toInt
def gShr (x y : Int) : Int := (Int32.ofInt x >>> (Int32.ofInt y &&& 31)).toInt
def gUshr (x y : Int) : Int := (((Int32.ofInt x).toUInt32 >>> ((Int32.ofInt y).toUInt32 &&& Int32.toUInt32 31)).toInt32).toInt
def gDiv (x y : Int) : Int := (Int32.ofInt x / Int32.ofInt y).toInt
def gRem (x y : Int) : Int := (Int32.ofInt x - Int32.ofInt x / Int32.ofInt y * Int32.ofInt y).toInt
def gI2b (x : Int) : Int := ((Int32.ofInt x).toInt8.toInt32).toInt
def gI2c (x : Int) : Int := (((Int32.ofInt x).toUInt32 % 65536).toInt32).toInt
def gI2l (x : Int) : Int64 := (Int32.ofInt x).toInt64
theorem gi_back (x : Int32) : Int32.ofInt x.toInt = x := Int32.ofInt_toInt x
theorem gR_toInt (x : Int32) : gR x.toInt := ⟨Int32.le_toInt x, by have := Int32.toInt_lt x; omega⟩
def gI (h : gaH) (a ci f : Nat) (K : Int → Prop) : Prop := ∃ fs x, h a = some (ci, fs) ∧ fs[f]? = some (gi x) ∧ K x
def gA (h : gaH) (a ci f : Nat) (K : Nat → Prop) : Prop := ∃ fs x, h a = some (ci, fs) ∧ fs[f]? = some (.ref x) ∧ K x
def gL (h : gaH) (a ci f : Nat) (K : Int64 → Prop) : Prop := ∃ fs x, h a = some (ci, fs) ∧ fs[f]? = some (.long x) ∧ K x
def gPF (h : gaH) (a ci f : Nat) (v : Value) (K : gaH → Prop) : Prop := ∃ fs, h a = some (ci, fs) ∧ f < fs.length ∧ K (gaUp h a (ci, fs.set f v))
def gLI (h : gaH) (a t : Nat) (i : Int) (K : Int → Prop) : Prop := ∃ t' vs x, h a = some (t', vs) ∧ (t' = t ∨ t' = t + 1000) ∧ 0 ≤ i ∧ i ≤ 2147483647 ∧ vs[i.toNat]? = some (gi x) ∧ K x
def gLA (h : gaH) (a t : Nat) (i : Int) (K : Nat → Prop) : Prop := ∃ vs x, h a = some (t, vs) ∧ 0 ≤ i ∧ i ≤ 2147483647 ∧ vs[i.toNat]? = some (.ref x) ∧ K x
def gSI (h : gaH) (a t : Nat) (i : Int) (v : Value) (K : gaH → Prop) : Prop := ∃ vs, h a = some (t, vs) ∧ 0 ≤ i ∧ i ≤ 2147483647 ∧ i.toNat < vs.length ∧ K (gaUp h a (t, vs.set i.toNat v))
def gAL (h : gaH) (a t : Nat) (K : Int → Prop) : Prop := ∃ t' vs, h a = some (t', vs) ∧ (t' = t ∨ t' = t + 1000) ∧ K (vs.length : Int)
def gNA (h : gaH) (t : Nat) (v : Value) (x : Int) (c s : Nat) (K : Nat → gaH → Nat → Nat → Prop) : Prop := 0 ≤ x ∧ x ≤ 100000 ∧ 1 ≤ c ∧ x.toNat ≤ s ∧ ∀ a : Nat, h a = none → ∃ c2 s2, c2 = c - 1 ∧ s2 = s - x.toNat ∧ K a (gaUp h a (t, List.replicate x.toNat v)) c2 s2
def gNO (h : gaH) (ci n : Nat) (fs : List Value) (c s : Nat) (K : Nat → gaH → Nat → Nat → Prop) : Prop := 1 ≤ c ∧ n ≤ s ∧ ∀ a : Nat, h a = none → ∃ c2 s2, c2 = c - 1 ∧ s2 = s - n ∧ K a (gaUp h a (ci, fs)) c2 s2
def gHas (h : gaH) (a ci : Nat) : Prop := ∃ fs, h a = some (ci, fs)
def gQi (Q : Int → gaH → Prop) : Option Value → gaH → Prop := fun v h => ∃ r : Int, v = some (gi r) ∧ Q r h
def gQl (Q : Int64 → gaH → Prop) : Option Value → gaH → Prop := fun v h => ∃ r : Int64, v = some (.long r) ∧ Q r h
def gQa (Q : Nat → gaH → Prop) : Option Value → gaH → Prop := fun v h => ∃ r : Nat, v = some (.ref r) ∧ Q r h
def gQv (Q : gaH → Prop) : Option Value → gaH → Prop := fun v h => v = none ∧ Q h
theorem ga_t {c : Prop} [Decidable c] {A B : Prop} (q : c) (hw : if c then A else B) : A := by rwa [if_pos q] at hw
theorem ga_f {c : Prop} [Decidable c] {A B : Prop} (q : ¬ c) (hw : if c then A else B) : B := by rwa [if_neg q] at hw
theorem ga_bool {x : Int} (h : x = 0 ∨ x = 1) : narrow .boolean (gi x) = gi x := by rcases h with rfl | rfl <;> rfl
theorem ga_cat {L : List Value} (h : Nat.ble ((L.map fun v => v.category).sum) 8 = true) : (L.map fun v => v.category).sum ≤ 8 := Nat.le_of_ble_eq_true h
def gaArgs : List Value → List (Option Value)
  | [] => []
  | v :: vs => some v :: (if v.category = 2 then none :: gaArgs vs else gaArgs vs)
theorem gaArgs_mem : ∀ (av : List Value) (i j : Nat) (v : Value), (gaArgs av)[j]? = some (some v) → (i + j, v) ∈ lv_args i av
  | [], i, j, v, hq => by simp [gaArgs] at hq
  | w :: vs, i, j, v, hq => by
    unfold gaArgs at hq
    unfold lv_args
    cases j with
    | zero =>
      rw [List.getElem?_cons_zero] at hq
      cases hq
      exact List.mem_cons_self
    | succ j =>
      rw [List.getElem?_cons_succ] at hq
      refine List.mem_cons_of_mem _ ?_
      by_cases hc : w.category = 2
      · rw [if_pos hc] at hq ⊢
        cases j with
        | zero => rw [List.getElem?_cons_zero] at hq; cases hq
        | succ j =>
          rw [List.getElem?_cons_succ] at hq
          have := gaArgs_mem vs (i + 2) j v hq
          rwa [show i + 2 + j = i + (j + 1 + 1) by omega] at this
      · rw [if_neg hc] at hq ⊢
        have := gaArgs_mem vs (i + 1) j v hq
        rwa [show i + 1 + j = i + (j + 1) by omega] at this
theorem gaArgs_pad {av : List Value} {z : Nat} {lv : List (Option Value)} (hlv : gaArgs av ++ List.replicate z none = lv) : ∀ (i : Nat) (v : Value), lv[i]? = some (some v) → (i, v) ∈ lv_args 0 av := by
  subst hlv
  intro i v hq
  by_cases hl : i < (gaArgs av).length
  · rw [List.getElem?_append_left hl] at hq
    have := gaArgs_mem av 0 i v hq
    rwa [Nat.zero_add] at this
  · rw [List.getElem?_append_right (by omega)] at hq
    have := List.mem_of_getElem? hq
    have := List.eq_of_mem_replicate this
    cases this
section GAW
variable {p : Program} {l : Launch} {e : Env} {R : Room} {s : State} {m : MethodId} {args : Array Value} {below : List Frame} {meth : Method} {c : Code} {G : gaG} {cc : ByteArray} {own : String} {nL : Nat} {ws : List Cond} {ret : Option FieldType} {nm : String} {Q : Option Value → gaH → Prop} {X : String → gaH → Prop} {Z : State → Prop}
variable {pc n : Nat} {lv : List (Option Value)} {st : List Value} {h : gaH} {k j : Nat}
theorem gi_iadd (V : gaV p l s m args meth c G cc own nL ws ret nm) {x y : Int} (d : decode cc pc = .ok (.iadd, 1))  (hn : pc + 1 = n)
    (kk : gaP p l e R s m args below meth c G nL Z n lv (.int (Int32.ofInt (x + y)) :: st) h k j) : gaP p l e R s m args below meth c G nL Z pc lv (.int (Int32.ofInt y) :: .int (Int32.ofInt x) :: st) h k j := g_iadd V d hn (by rw [← Int32.ofInt_add]; exact kk)
theorem gi_isub (V : gaV p l s m args meth c G cc own nL ws ret nm) {x y : Int} (d : decode cc pc = .ok (.isub, 1))  (hn : pc + 1 = n)
    (kk : gaP p l e R s m args below meth c G nL Z n lv (.int (Int32.ofInt (x - y)) :: st) h k j) : gaP p l e R s m args below meth c G nL Z pc lv (.int (Int32.ofInt y) :: .int (Int32.ofInt x) :: st) h k j := g_isub V d hn (by rw [← Int32.ofInt_sub]; exact kk)
theorem gi_imul (V : gaV p l s m args meth c G cc own nL ws ret nm) {x y : Int} (d : decode cc pc = .ok (.imul, 1))  (hn : pc + 1 = n)
    (kk : gaP p l e R s m args below meth c G nL Z n lv (.int (Int32.ofInt (x * y)) :: st) h k j) : gaP p l e R s m args below meth c G nL Z pc lv (.int (Int32.ofInt y) :: .int (Int32.ofInt x) :: st) h k j := g_imul V d hn (by rw [← Int32.ofInt_mul]; exact kk)
theorem gi_iand (V : gaV p l s m args meth c G cc own nL ws ret nm) {x y : Int} (d : decode cc pc = .ok (.iand, 1))  (hn : pc + 1 = n)
    (kk : gaP p l e R s m args below meth c G nL Z n lv (.int (Int32.ofInt (gAnd x y)) :: st) h k j) : gaP p l e R s m args below meth c G nL Z pc lv (.int (Int32.ofInt y) :: .int (Int32.ofInt x) :: st) h k j := g_iand V d hn (by unfold gAnd at kk; rw [gi_back] at kk; exact kk)
theorem gi_ior (V : gaV p l s m args meth c G cc own nL ws ret nm) {x y : Int} (d : decode cc pc = .ok (.ior, 1))  (hn : pc + 1 = n)
    (kk : gaP p l e R s m args below meth c G nL Z n lv (.int (Int32.ofInt (gOr x y)) :: st) h k j) : gaP p l e R s m args below meth c G nL Z pc lv (.int (Int32.ofInt y) :: .int (Int32.ofInt x) :: st) h k j := g_ior V d hn (by unfold gOr at kk; rw [gi_back] at kk; exact kk)
theorem gi_ishl (V : gaV p l s m args meth c G cc own nL ws ret nm) {x y : Int} (d : decode cc pc = .ok (.ishl, 1))  (hn : pc + 1 = n)
    (kk : gaP p l e R s m args below meth c G nL Z n lv (.int (Int32.ofInt (gShl x y)) :: st) h k j) : gaP p l e R s m args below meth c G nL Z pc lv (.int (Int32.ofInt y) :: .int (Int32.ofInt x) :: st) h k j := g_ishl V d hn (by unfold gShl at kk; rw [gi_back] at kk; exact kk)
theorem gi_ishr (V : gaV p l s m args meth c G cc own nL ws ret nm) {x y : Int} (d : decode cc pc = .ok (.ishr, 1))  (hn : pc + 1 = n)
    (kk : gaP p l e R s m args below meth c G nL Z n lv (.int (Int32.ofInt (gShr x y)) :: st) h k j) : gaP p l e R s m args below meth c G nL Z pc lv (.int (Int32.ofInt y) :: .int (Int32.ofInt x) :: st) h k j := g_ishr V d hn (by unfold gShr at kk; rw [gi_back] at kk; exact kk)
theorem gi_iushr (V : gaV p l s m args meth c G cc own nL ws ret nm) {x y : Int} (d : decode cc pc = .ok (.iushr, 1))  (hn : pc + 1 = n)
    (kk : gaP p l e R s m args below meth c G nL Z n lv (.int (Int32.ofInt (gUshr x y)) :: st) h k j) : gaP p l e R s m args below meth c G nL Z pc lv (.int (Int32.ofInt y) :: .int (Int32.ofInt x) :: st) h k j := g_iushr V d hn (by unfold gUshr at kk; rw [gi_back] at kk; exact kk)
theorem gi_idiv (V : gaV p l s m args meth c G cc own nL ws ret nm) {x y : Int} (d : decode cc pc = .ok (.idiv, 1)) (hy : gR y) (h0 : ¬ y = 0) (hn : pc + 1 = n)
    (kk : gaP p l e R s m args below meth c G nL Z n lv (.int (Int32.ofInt (gDiv x y)) :: st) h k j) : gaP p l e R s m args below meth c G nL Z pc lv (.int (Int32.ofInt y) :: .int (Int32.ofInt x) :: st) h k j := g_idiv V d (by rw [gi_0, gi_eq hy ⟨by decide, by decide⟩]; exact h0) hn (by unfold gDiv at kk; rw [gi_back] at kk; exact kk)
theorem gi_irem (V : gaV p l s m args meth c G cc own nL ws ret nm) {x y : Int} (d : decode cc pc = .ok (.irem, 1)) (hy : gR y) (h0 : ¬ y = 0) (hn : pc + 1 = n)
    (kk : gaP p l e R s m args below meth c G nL Z n lv (.int (Int32.ofInt (gRem x y)) :: st) h k j) : gaP p l e R s m args below meth c G nL Z pc lv (.int (Int32.ofInt y) :: .int (Int32.ofInt x) :: st) h k j := g_irem V d (by rw [gi_0, gi_eq hy ⟨by decide, by decide⟩]; exact h0) hn (by unfold gRem at kk; rw [gi_back] at kk; exact kk)
theorem gi_ineg (V : gaV p l s m args meth c G cc own nL ws ret nm) {x : Int} (d : decode cc pc = .ok (.ineg, 1)) (hn : pc + 1 = n)
    (kk : gaP p l e R s m args below meth c G nL Z n lv (.int (Int32.ofInt (-x)) :: st) h k j) : gaP p l e R s m args below meth c G nL Z pc lv (.int (Int32.ofInt x) :: st) h k j := g_ineg V d hn (by rw [← Int32.neg_ofInt] at kk; exact kk)
theorem gi_i2b (V : gaV p l s m args meth c G cc own nL ws ret nm) {x : Int} (d : decode cc pc = .ok (.i2b, 1)) (hn : pc + 1 = n)
    (kk : gaP p l e R s m args below meth c G nL Z n lv (.int (Int32.ofInt (gI2b x)) :: st) h k j) : gaP p l e R s m args below meth c G nL Z pc lv (.int (Int32.ofInt x) :: st) h k j := g_i2b V d hn (by unfold gI2b at kk; rw [gi_back] at kk; exact kk)
theorem gi_i2c (V : gaV p l s m args meth c G cc own nL ws ret nm) {x : Int} (d : decode cc pc = .ok (.i2c, 1)) (hn : pc + 1 = n)
    (kk : gaP p l e R s m args below meth c G nL Z n lv (.int (Int32.ofInt (gI2c x)) :: st) h k j) : gaP p l e R s m args below meth c G nL Z pc lv (.int (Int32.ofInt x) :: st) h k j := g_i2c V d hn (by unfold gI2c at kk; rw [gi_back] at kk; exact kk)
theorem gi_i2l (V : gaV p l s m args meth c G cc own nL ws ret nm) {x : Int} (d : decode cc pc = .ok (.i2l, 1)) (hn : pc + 1 = n)
    (kk : gaP p l e R s m args below meth c G nL Z n lv (.long (gI2l x) :: st) h k j) : gaP p l e R s m args below meth c G nL Z pc lv (.int (Int32.ofInt x) :: st) h k j := g_i2l V d hn kk
theorem gi_iinc (V : gaV p l s m args meth c G cc own nL ws ret nm) {i : Nat} {q x : Int} {lv2 : List (Option Value)} (d : decode cc pc = .ok (.iinc i q, 3)) (hi : i < nL) (hl : lv[i]? = some (some (.int (Int32.ofInt x)))) (hok : gaOk lv i = true) (hlv : lv.set i (some (.int (Int32.ofInt (x + q)))) = lv2) (hn : pc + 3 = n)
    (kk : gaP p l e R s m args below meth c G nL Z n lv2 st h k j) : gaP p l e R s m args below meth c G nL Z pc lv st h k j := g_iinc V d hi hl rfl hok (by rw [← Int32.ofInt_add]; exact hlv) hn kk
theorem gi_if_eq (V : gaV p l s m args meth c G cc own nL ws ret nm) {x : Int} {off : Int} {t : Nat} (d : decode cc pc = .ok (.ifCond .eq off, 3)) (ht : (pc : Int) + off = (t : Int)) (hn : pc + 3 = n) (hx : gR x)
    (kt : x = 0 → gaP p l e R s m args below meth c G nL Z t lv st h k j) (kf : ¬ (x = 0) → gaP p l e R s m args below meth c G nL Z n lv st h k j) : gaP p l e R s m args below meth c G nL Z pc lv (.int (Int32.ofInt x) :: st) h k j := by
  have h00 : gR 0 := ⟨by decide, by decide⟩
  refine g_if_eq V d ht hn (fun q => kt ?_) (fun q => kf ?_) <;> (rw [gi_0, gi_eq hx h00] at q; exact q)
theorem gi_if_ne (V : gaV p l s m args meth c G cc own nL ws ret nm) {x : Int} {off : Int} {t : Nat} (d : decode cc pc = .ok (.ifCond .ne off, 3)) (ht : (pc : Int) + off = (t : Int)) (hn : pc + 3 = n) (hx : gR x)
    (kt : ¬ x = 0 → gaP p l e R s m args below meth c G nL Z t lv st h k j) (kf : x = 0 → gaP p l e R s m args below meth c G nL Z n lv st h k j) : gaP p l e R s m args below meth c G nL Z pc lv (.int (Int32.ofInt x) :: st) h k j := by
  have h00 : gR 0 := ⟨by decide, by decide⟩
  refine g_if_ne V d ht hn (fun q => kt ?_) (fun q => kf ?_) <;> (rw [gi_0, gi_eq hx h00] at q; exact q)
theorem gi_if_lt (V : gaV p l s m args meth c G cc own nL ws ret nm) {x : Int} {off : Int} {t : Nat} (d : decode cc pc = .ok (.ifCond .lt off, 3)) (ht : (pc : Int) + off = (t : Int)) (hn : pc + 3 = n) (hx : gR x)
    (kt : x < 0 → gaP p l e R s m args below meth c G nL Z t lv st h k j) (kf : ¬ (x < 0) → gaP p l e R s m args below meth c G nL Z n lv st h k j) : gaP p l e R s m args below meth c G nL Z pc lv (.int (Int32.ofInt x) :: st) h k j := by
  have h00 : gR 0 := ⟨by decide, by decide⟩
  refine g_if_lt V d ht hn (fun q => kt ?_) (fun q => kf ?_) <;> (rw [gi_0, gi_lt hx h00] at q; exact q)
theorem gi_if_ge (V : gaV p l s m args meth c G cc own nL ws ret nm) {x : Int} {off : Int} {t : Nat} (d : decode cc pc = .ok (.ifCond .ge off, 3)) (ht : (pc : Int) + off = (t : Int)) (hn : pc + 3 = n) (hx : gR x)
    (kt : 0 ≤ x → gaP p l e R s m args below meth c G nL Z t lv st h k j) (kf : ¬ (0 ≤ x) → gaP p l e R s m args below meth c G nL Z n lv st h k j) : gaP p l e R s m args below meth c G nL Z pc lv (.int (Int32.ofInt x) :: st) h k j := by
  have h00 : gR 0 := ⟨by decide, by decide⟩
  refine g_if_ge V d ht hn (fun q => kt ?_) (fun q => kf ?_) <;> (rw [gi_0, gi_le h00 hx] at q; exact q)
theorem gi_if_gt (V : gaV p l s m args meth c G cc own nL ws ret nm) {x : Int} {off : Int} {t : Nat} (d : decode cc pc = .ok (.ifCond .gt off, 3)) (ht : (pc : Int) + off = (t : Int)) (hn : pc + 3 = n) (hx : gR x)
    (kt : 0 < x → gaP p l e R s m args below meth c G nL Z t lv st h k j) (kf : ¬ (0 < x) → gaP p l e R s m args below meth c G nL Z n lv st h k j) : gaP p l e R s m args below meth c G nL Z pc lv (.int (Int32.ofInt x) :: st) h k j := by
  have h00 : gR 0 := ⟨by decide, by decide⟩
  refine g_if_gt V d ht hn (fun q => kt ?_) (fun q => kf ?_) <;> (rw [gi_0, gi_lt h00 hx] at q; exact q)
theorem gi_if_le (V : gaV p l s m args meth c G cc own nL ws ret nm) {x : Int} {off : Int} {t : Nat} (d : decode cc pc = .ok (.ifCond .le off, 3)) (ht : (pc : Int) + off = (t : Int)) (hn : pc + 3 = n) (hx : gR x)
    (kt : x ≤ 0 → gaP p l e R s m args below meth c G nL Z t lv st h k j) (kf : ¬ (x ≤ 0) → gaP p l e R s m args below meth c G nL Z n lv st h k j) : gaP p l e R s m args below meth c G nL Z pc lv (.int (Int32.ofInt x) :: st) h k j := by
  have h00 : gR 0 := ⟨by decide, by decide⟩
  refine g_if_le V d ht hn (fun q => kt ?_) (fun q => kf ?_) <;> (rw [gi_0, gi_le hx h00] at q; exact q)
theorem gi_icmp_eq (V : gaV p l s m args meth c G cc own nL ws ret nm) {x y : Int} {off : Int} {t : Nat} (d : decode cc pc = .ok (.if_icmp .eq off, 3)) (ht : (pc : Int) + off = (t : Int)) (hn : pc + 3 = n) (hx : gR x) (hy : gR y)
    (kt : x = y → gaP p l e R s m args below meth c G nL Z t lv st h k j) (kf : ¬ (x = y) → gaP p l e R s m args below meth c G nL Z n lv st h k j) : gaP p l e R s m args below meth c G nL Z pc lv (.int (Int32.ofInt y) :: .int (Int32.ofInt x) :: st) h k j := by
  refine g_icmp_eq V d ht hn (fun q => kt ?_) (fun q => kf ?_) <;> (rw [gi_eq hx hy] at q; exact q)
theorem gi_icmp_ne (V : gaV p l s m args meth c G cc own nL ws ret nm) {x y : Int} {off : Int} {t : Nat} (d : decode cc pc = .ok (.if_icmp .ne off, 3)) (ht : (pc : Int) + off = (t : Int)) (hn : pc + 3 = n) (hx : gR x) (hy : gR y)
    (kt : ¬ x = y → gaP p l e R s m args below meth c G nL Z t lv st h k j) (kf : x = y → gaP p l e R s m args below meth c G nL Z n lv st h k j) : gaP p l e R s m args below meth c G nL Z pc lv (.int (Int32.ofInt y) :: .int (Int32.ofInt x) :: st) h k j := by
  refine g_icmp_ne V d ht hn (fun q => kt ?_) (fun q => kf ?_) <;> (rw [gi_eq hx hy] at q; exact q)
theorem gi_icmp_lt (V : gaV p l s m args meth c G cc own nL ws ret nm) {x y : Int} {off : Int} {t : Nat} (d : decode cc pc = .ok (.if_icmp .lt off, 3)) (ht : (pc : Int) + off = (t : Int)) (hn : pc + 3 = n) (hx : gR x) (hy : gR y)
    (kt : x < y → gaP p l e R s m args below meth c G nL Z t lv st h k j) (kf : ¬ (x < y) → gaP p l e R s m args below meth c G nL Z n lv st h k j) : gaP p l e R s m args below meth c G nL Z pc lv (.int (Int32.ofInt y) :: .int (Int32.ofInt x) :: st) h k j := by
  refine g_icmp_lt V d ht hn (fun q => kt ?_) (fun q => kf ?_) <;> (rw [gi_lt hx hy] at q; exact q)
theorem gi_icmp_ge (V : gaV p l s m args meth c G cc own nL ws ret nm) {x y : Int} {off : Int} {t : Nat} (d : decode cc pc = .ok (.if_icmp .ge off, 3)) (ht : (pc : Int) + off = (t : Int)) (hn : pc + 3 = n) (hx : gR x) (hy : gR y)
    (kt : y ≤ x → gaP p l e R s m args below meth c G nL Z t lv st h k j) (kf : ¬ (y ≤ x) → gaP p l e R s m args below meth c G nL Z n lv st h k j) : gaP p l e R s m args below meth c G nL Z pc lv (.int (Int32.ofInt y) :: .int (Int32.ofInt x) :: st) h k j := by
  refine g_icmp_ge V d ht hn (fun q => kt ?_) (fun q => kf ?_) <;> (rw [gi_le hy hx] at q; exact q)
theorem gi_icmp_gt (V : gaV p l s m args meth c G cc own nL ws ret nm) {x y : Int} {off : Int} {t : Nat} (d : decode cc pc = .ok (.if_icmp .gt off, 3)) (ht : (pc : Int) + off = (t : Int)) (hn : pc + 3 = n) (hx : gR x) (hy : gR y)
    (kt : y < x → gaP p l e R s m args below meth c G nL Z t lv st h k j) (kf : ¬ (y < x) → gaP p l e R s m args below meth c G nL Z n lv st h k j) : gaP p l e R s m args below meth c G nL Z pc lv (.int (Int32.ofInt y) :: .int (Int32.ofInt x) :: st) h k j := by
  refine g_icmp_gt V d ht hn (fun q => kt ?_) (fun q => kf ?_) <;> (rw [gi_lt hy hx] at q; exact q)
theorem gi_icmp_le (V : gaV p l s m args meth c G cc own nL ws ret nm) {x y : Int} {off : Int} {t : Nat} (d : decode cc pc = .ok (.if_icmp .le off, 3)) (ht : (pc : Int) + off = (t : Int)) (hn : pc + 3 = n) (hx : gR x) (hy : gR y)
    (kt : x ≤ y → gaP p l e R s m args below meth c G nL Z t lv st h k j) (kf : ¬ (x ≤ y) → gaP p l e R s m args below meth c G nL Z n lv st h k j) : gaP p l e R s m args below meth c G nL Z pc lv (.int (Int32.ofInt y) :: .int (Int32.ofInt x) :: st) h k j := by
  refine g_icmp_le V d ht hn (fun q => kt ?_) (fun q => kf ?_) <;> (rw [gi_le hx hy] at q; exact q)
theorem gi_iaload (V : gaV p l s m args meth c G cc own nL ws ret nm) {a t : Nat} {vs : List Value} {i x : Int} (ha : h a = some (t, vs)) (ht : t = 102 ∨ t = 102 + 1000) (h0 : 0 ≤ i) (h9 : i ≤ 2147483647) (hv : vs[i.toNat]? = some (gi x)) (d : decode cc pc = .ok (.iaload, 1)) (hn : pc + 1 = n)
    (kk : gaP p l e R s m args below meth c G nL Z n lv (gi x :: st) h k j) : gaP p l e R s m args below meth c G nL Z pc lv (gi i :: .ref a :: st) h k j := g_iaload V ha ht (gi_nn h0 h9) (by rw [gi_clamp h0 h9]; exact hv) d hn kk
theorem gi_baloadZ (V : gaV p l s m args meth c G cc own nL ws ret nm) {a t : Nat} {vs : List Value} {i x : Int} (ha : h a = some (t, vs)) (ht : t = 100 ∨ t = 100 + 1000) (h0 : 0 ≤ i) (h9 : i ≤ 2147483647) (hv : vs[i.toNat]? = some (gi x)) (d : decode cc pc = .ok (.baload, 1)) (hn : pc + 1 = n)
    (kk : gaP p l e R s m args below meth c G nL Z n lv (gi x :: st) h k j) : gaP p l e R s m args below meth c G nL Z pc lv (gi i :: .ref a :: st) h k j := g_baloadZ V ha ht (gi_nn h0 h9) (by rw [gi_clamp h0 h9]; exact hv) d hn kk
theorem gi_baloadB (V : gaV p l s m args meth c G cc own nL ws ret nm) {a t : Nat} {vs : List Value} {i x : Int} (ha : h a = some (t, vs)) (ht : t = 101 ∨ t = 101 + 1000) (h0 : 0 ≤ i) (h9 : i ≤ 2147483647) (hv : vs[i.toNat]? = some (gi x)) (d : decode cc pc = .ok (.baload, 1)) (hn : pc + 1 = n)
    (kk : gaP p l e R s m args below meth c G nL Z n lv (gi x :: st) h k j) : gaP p l e R s m args below meth c G nL Z pc lv (gi i :: .ref a :: st) h k j := g_baloadB V ha ht (gi_nn h0 h9) (by rw [gi_clamp h0 h9]; exact hv) d hn kk
theorem gi_aaload (V : gaV p l s m args meth c G cc own nL ws ret nm) {a t b : Nat} {vs : List Value} {i : Int} (ha : h a = some (t, vs)) (ht : t = 110 ∨ t = 111 ∨ t = 112) (h0 : 0 ≤ i) (h9 : i ≤ 2147483647) (hv : vs[i.toNat]? = some (.ref b)) (d : decode cc pc = .ok (.aaload, 1)) (hn : pc + 1 = n)
    (kk : gaP p l e R s m args below meth c G nL Z n lv (.ref b :: st) h k j) : gaP p l e R s m args below meth c G nL Z pc lv (gi i :: .ref a :: st) h k j := g_aaload V ha ht (gi_nn h0 h9) (by rw [gi_clamp h0 h9]; exact hv) d hn kk
theorem gi_arraylength (V : gaV p l s m args meth c G cc own nL ws ret nm) {a t t0 : Nat} {vs : List Value} (hT : gaT t0) (ha : h a = some (t, vs)) (ht : t = t0 ∨ t = t0 + 1000) (d : decode cc pc = .ok (.arraylength, 1)) (hn : pc + 1 = n)
    (kk : gaP p l e R s m args below meth c G nL Z n lv (gi (vs.length : Int) :: st) h k j) : gaP p l e R s m args below meth c G nL Z pc lv (.ref a :: st) h k j := g_arraylength V ha hT ht d hn (by rw [gi_len]; exact kk)
theorem gi_iastore (V : gaV p l s m args meth c G cc own nL ws ret nm) {a : Nat} {vs : List Value} {i x : Int} (ha : h a = some (102, vs)) (h0 : 0 ≤ i) (h9 : i ≤ 2147483647) (hi : i.toNat < vs.length) (d : decode cc pc = .ok (.iastore, 1)) (hn : pc + 1 = n)
    (kk : gaP p l e R s m args below meth c G nL Z n lv st (gaUp h a (102, vs.set i.toNat (gi x))) k j) : gaP p l e R s m args below meth c G nL Z pc lv (gi x :: gi i :: .ref a :: st) h k j := g_iastore V ha (gi_nn h0 h9) (by rw [gi_clamp h0 h9]; exact hi) d hn (by rw [gi_clamp h0 h9]; exact kk)
theorem gi_bastoreZ (V : gaV p l s m args meth c G cc own nL ws ret nm) {a : Nat} {vs : List Value} {i x : Int} (hb : narrow .boolean (gi x) = gi x) (ha : h a = some (100, vs)) (h0 : 0 ≤ i) (h9 : i ≤ 2147483647) (hi : i.toNat < vs.length) (d : decode cc pc = .ok (.bastore, 1)) (hn : pc + 1 = n)
    (kk : gaP p l e R s m args below meth c G nL Z n lv st (gaUp h a (100, vs.set i.toNat (gi x))) k j) : gaP p l e R s m args below meth c G nL Z pc lv (gi x :: gi i :: .ref a :: st) h k j := g_bastoreZ V ha (gi_nn h0 h9) (by rw [gi_clamp h0 h9]; exact hi) d hn (by rw [gi_clamp h0 h9, hb]; exact kk)
theorem gi_bastoreB (V : gaV p l s m args meth c G cc own nL ws ret nm) {a : Nat} {vs : List Value} {i x : Int} (hb : narrow .byte (gi x) = gi x) (ha : h a = some (101, vs)) (h0 : 0 ≤ i) (h9 : i ≤ 2147483647) (hi : i.toNat < vs.length) (d : decode cc pc = .ok (.bastore, 1)) (hn : pc + 1 = n)
    (kk : gaP p l e R s m args below meth c G nL Z n lv st (gaUp h a (101, vs.set i.toNat (gi x))) k j) : gaP p l e R s m args below meth c G nL Z pc lv (gi x :: gi i :: .ref a :: st) h k j := g_bastoreB V ha (gi_nn h0 h9) (by rw [gi_clamp h0 h9]; exact hi) d hn (by rw [gi_clamp h0 h9, hb]; exact kk)
theorem gi_newarray (V : gaV p l s m args meth c G cc own nL ws ret nm) {atype : ArrayType} {t : Nat} (hT : t = 100 ∨ t = 101 ∨ t = 102) (hty : newarray.typeOf atype = gaTy t) (harr : Cond.arrayClass (newarray.typeOf atype) ∈ ws) {x : Int} (h0 : 0 ≤ x) (hb : x ≤ 100000) (d : decode cc pc = .ok (.newarray atype, 2)) (hn : pc + 2 = n) (hk : 1 ≤ k) (hj : x.toNat ≤ j)
    (kk : ∀ a : Nat, h a = none → gaP p l e R s m args below meth c G nL Z n lv (.ref a :: st) (gaUp h a (t, List.replicate x.toNat (gi 0))) (k - 1) (j - x.toNat)) : gaP p l e R s m args below meth c G nL Z pc lv (gi x :: st) h k j := by
  have e := gi_clamp h0 (show x ≤ 2147483647 by omega)
  refine g_newarray V hT hty harr (gi_nn h0 (by omega)) (by rw [e]; omega) d hn hk (by rw [e]; exact hj) ?_
  rw [e]
  exact kk
theorem gi_anewarray (V : gaV p l s m args meth c G cc own nL ws ret nm) {t index : Nat} (hT : t = 110 ∨ t = 111) (hcl : Cond.classLink own index (gaCn t) ∈ ws) {x : Int} (h0 : 0 ≤ x) (hb : x ≤ 100000) (d : decode cc pc = .ok (.anewarray index, 3)) (hn : pc + 3 = n) (hk : 1 ≤ k) (hj : x.toNat ≤ j)
    (kk : ∀ a : Nat, h a = none → gaP p l e R s m args below meth c G nL Z n lv (.ref a :: st) (gaUp h a (t, List.replicate x.toNat .null)) (k - 1) (j - x.toNat)) : gaP p l e R s m args below meth c G nL Z pc lv (gi x :: st) h k j := by
  have e := gi_clamp h0 (show x ≤ 2147483647 by omega)
  refine g_anewarray V hT hcl (gi_nn h0 (by omega)) (by rw [e]; omega) d hn hk (by rw [e]; exact hj) ?_
  rw [e]
  exact kk
theorem gi_anewarrayA (V : gaV p l s m args meth c G cc own nL ws ret nm) {index : Nat} (hcl : Cond.classLink own index "[I" ∈ ws) {x : Int} (h0 : 0 ≤ x) (hb : x ≤ 100000) (d : decode cc pc = .ok (.anewarray index, 3)) (hn : pc + 3 = n) (hk : 1 ≤ k) (hj : x.toNat ≤ j)
    (kk : ∀ a : Nat, h a = none → gaP p l e R s m args below meth c G nL Z n lv (.ref a :: st) (gaUp h a (112, List.replicate x.toNat .null)) (k - 1) (j - x.toNat)) : gaP p l e R s m args below meth c G nL Z pc lv (gi x :: st) h k j := by
  have e := gi_clamp h0 (show x ≤ 2147483647 by omega)
  refine g_anewarrayA V hcl (gi_nn h0 (by omega)) (by rw [e]; omega) d hn hk (by rw [e]; exact hj) ?_
  rw [e]
  exact kk
theorem gi_aastoreO (V : gaV p l s m args meth c G cc own nL ws ret nm) {a b t ci N : Nat} {T : u_T} {vs : List Value} {i : Int} (hT : t = 110 ∨ t = 111) (hc : vwCl[ci]? = some (gaCn t, T, N)) (hci : ci < 100) (ha : h a = some (t, vs)) (hv : gHas h b ci) (h0 : 0 ≤ i) (h9 : i ≤ 2147483647) (hi : i.toNat < vs.length) (d : decode cc pc = .ok (.aastore, 1)) (hn : pc + 1 = n)
    (kk : gaP p l e R s m args below meth c G nL Z n lv st (gaUp h a (t, vs.set i.toNat (.ref b))) k j) : gaP p l e R s m args below meth c G nL Z pc lv (.ref b :: gi i :: .ref a :: st) h k j := by
  obtain ⟨fs, hv⟩ := hv
  exact g_aastoreO V hT hc hci ha hv (gi_nn h0 h9) (by rw [gi_clamp h0 h9]; exact hi) d hn (by rw [gi_clamp h0 h9]; exact kk)
theorem ga_asg (vm : Vm) (c : ClassId) : vm.assignable c c = true := by
  show vm.assignableAux (255 + 1) c c = true
  rw [Vm.assignableAux]
  simp
theorem gi_aastoreA (V : gaV p l s m args meth c G cc own nL ws ret nm) {a b : Nat} {vs : List Value} {i : Int} (ha : h a = some (112, vs)) (hv : gHas h b 102) (h0 : 0 ≤ i) (h9 : i ≤ 2147483647) (hi : i.toNat < vs.length) (d : decode cc pc = .ok (.aastore, 1)) (hn : pc + 1 = n)
    (kk : gaP p l e R s m args below meth c G nL Z n lv st (gaUp h a (112, vs.set i.toNat (.ref b))) k j) : gaP p l e R s m args below meth c G nL Z pc lv (.ref b :: gi i :: .ref a :: st) h k j := by
  obtain ⟨fs, hv⟩ := hv
  exact g_aastoreA V (ga_asg _ _) ha hv (gi_nn h0 h9) (by rw [gi_clamp h0 h9]; exact hi) d hn (by rw [gi_clamp h0 h9]; exact kk)
theorem gi_mmax (V : gaV p l s m args meth c G cc own nL ws ret nm) {index : Nat} (hlink : Cond.methodLink own index Lib.Math.max.name ∈ ws) (hstat : Cond.static Lib.Math.max.name ∈ ws) (hini : Cond.initialized "java/lang/Math" ∈ ws) (hcode : Cond.code Lib.Math.max.name Lib.Math.max.code 2 (some .int) ∈ ws) (hfr : 1 ≤ R.frames) (hlo : 24 ≤ R.locals) (hcat : (st.map fun v => v.category).sum ≤ 8) {x y : Int} (hx : gR x) (hy : gR y) (d : decode cc pc = .ok (.invokestatic index, 3)) (hn : pc + 3 = n)
    (kk : gaP p l e R s m args below meth c G nL Z n lv (gi (max x y) :: st) h k j) : gaP p l e R s m args below meth c G nL Z pc lv (gi y :: gi x :: st) h k j := by
  subst hn
  intro H locs ls cells slots hR hS hL h1 h2
  have hts := V.2.2.2.2.1
  have key := kk H locs ls cells slots hR hS hL h1 h2
  refine va_mmax V.1 V.2.1 (by rw [V.2.2.1]; exact hL.1.symm) V.2.2.2.1 (hts _ hlink) (hts _ hstat) (hts _ hini) (hts _ hcode) hfr (by omega) (by omega) (by omega) d ?_
  have e9 : (if Int32.ofInt x < Int32.ofInt y then Int32.ofInt y else Int32.ofInt x) = Int32.ofInt (max x y) := by
    simp only [gi_lt hx hy, gi_lt hy hx]
    by_cases hq : x < y
    · rw [if_pos hq]; congr 1; omega
    · rw [if_neg hq]; congr 1; omega
  rw [e9]
  exact key
theorem gi_mmin (V : gaV p l s m args meth c G cc own nL ws ret nm) {index : Nat} (hlink : Cond.methodLink own index Lib.Math.min.name ∈ ws) (hstat : Cond.static Lib.Math.min.name ∈ ws) (hini : Cond.initialized "java/lang/Math" ∈ ws) (hcode : Cond.code Lib.Math.min.name Lib.Math.min.code 2 (some .int) ∈ ws) (hfr : 1 ≤ R.frames) (hlo : 24 ≤ R.locals) (hcat : (st.map fun v => v.category).sum ≤ 8) {x y : Int} (hx : gR x) (hy : gR y) (d : decode cc pc = .ok (.invokestatic index, 3)) (hn : pc + 3 = n)
    (kk : gaP p l e R s m args below meth c G nL Z n lv (gi (min x y) :: st) h k j) : gaP p l e R s m args below meth c G nL Z pc lv (gi y :: gi x :: st) h k j := by
  subst hn
  intro H locs ls cells slots hR hS hL h1 h2
  have hts := V.2.2.2.2.1
  have key := kk H locs ls cells slots hR hS hL h1 h2
  refine va_mmin V.1 V.2.1 (by rw [V.2.2.1]; exact hL.1.symm) V.2.2.2.1 (hts _ hlink) (hts _ hstat) (hts _ hini) (hts _ hcode) hfr (by omega) (by omega) (by omega) d ?_
  have e9 : (if Int32.ofInt y < Int32.ofInt x then Int32.ofInt y else Int32.ofInt x) = Int32.ofInt (min x y) := by
    simp only [gi_lt hx hy, gi_lt hy hx]
    by_cases hq : y < x
    · rw [if_pos hq]; congr 1; omega
    · rw [if_neg hq]; congr 1; omega
  rw [e9]
  exact key
theorem ga_re {k2 j2 : Nat} (e2 : k2 = k) (e3 : j2 = j) (kk : gaP p l e R s m args below meth c G nL Z pc lv st h k2 j2) : gaP p l e R s m args below meth c G nL Z pc lv st h k j := by
  subst e2; subst e3; exact kk
theorem gaO_re {E : String} {k2 j2 : Nat} (e2 : k2 = k) (e3 : j2 = j) (kk : gaO p l e R s m args below meth c G nL Z pc lv E h k2 j2) : gaO p l e R s m args below meth c G nL Z pc lv E h k j := by
  subst e2; subst e3; exact kk
theorem g_stk {st2 : List Value} {k2 j2 : Nat} (e1 : st = st2) (e2 : k = k2) (e3 : j = j2) (kk : gaP p l e R s m args below meth c G nL Z pc lv st2 h k2 j2) : gaP p l e R s m args below meth c G nL Z pc lv st h k j := by
  subst e1; subst e2; subst e3; exact kk
theorem ga_ki {Q2 : Int → gaH → Prop} {k2 j2 : Nat} (kk : ∀ r h', Q2 r h' → gaP p l e R s m args below meth c G nL Z n lv (gi r :: st) h' k2 j2) : ∀ v h', gQi Q2 v h' → gaP p l e R s m args below meth c G nL Z n lv (v.toList ++ st) h' k2 j2 := by
  rintro v h' ⟨r, rfl, hq⟩
  exact kk r h' hq
theorem ga_kl {Q2 : Int64 → gaH → Prop} {k2 j2 : Nat} (kk : ∀ r h', Q2 r h' → gaP p l e R s m args below meth c G nL Z n lv (.long r :: st) h' k2 j2) : ∀ v h', gQl Q2 v h' → gaP p l e R s m args below meth c G nL Z n lv (v.toList ++ st) h' k2 j2 := by
  rintro v h' ⟨r, rfl, hq⟩
  exact kk r h' hq
theorem ga_ka {Q2 : Nat → gaH → Prop} {k2 j2 : Nat} (kk : ∀ r h', Q2 r h' → gaP p l e R s m args below meth c G nL Z n lv (.ref r :: st) h' k2 j2) : ∀ v h', gQa Q2 v h' → gaP p l e R s m args below meth c G nL Z n lv (v.toList ++ st) h' k2 j2 := by
  rintro v h' ⟨r, rfl, hq⟩
  exact kk r h' hq
theorem ga_kv {Q2 : gaH → Prop} {k2 j2 : Nat} (kk : ∀ h', Q2 h' → gaP p l e R s m args below meth c G nL Z n lv st h' k2 j2) : ∀ v h', gQv Q2 v h' → gaP p l e R s m args below meth c G nL Z n lv (v.toList ++ st) h' k2 j2 := by
  rintro v h' ⟨rfl, hq⟩
  exact kk h' hq
theorem gaV.nt (V : gaV p l s m args meth c G cc own nL ws ret nm) : l.stackTraces = false := V.2.2.2.2.2.2.2.2.2.2
theorem gaV.z0 (V : gaV p l s m args meth c G cc own nL ws ret nm) : va_Z RX0 "CODES_FOR_A" "[I" (.ref (G.2.2.2 0)) (gaA G) s s.heap := V.2.2.2.2.2.2.2.2.2.1.2.2.2.1.1
theorem gaV.z1 (V : gaV p l s m args meth c G cc own nL ws ret nm) : va_Z RJ0 "COMPACT_STRINGS" "Z" (gi 1) (gaA G) s s.heap := V.2.2.2.2.2.2.2.2.2.1.2.2.2.1.2.1
theorem gaV.z2 (V : gaV p l s m args meth c G cc own nL ws ret nm) : va_Z RJ6 "DigitOnes" "[B" (.ref (G.2.2.2 1)) (gaA G) s s.heap := V.2.2.2.2.2.2.2.2.2.1.2.2.2.1.2.2.1
theorem gaV.z3 (V : gaV p l s m args meth c G cc own nL ws ret nm) : va_Z RJ6 "DigitTens" "[B" (.ref (G.2.2.2 2)) (gaA G) s s.heap := V.2.2.2.2.2.2.2.2.2.1.2.2.2.1.2.2.2
end GAW
/-! Two longs held against each other. -/
def gCmp (x y : Int64) : Int := (lg_cmp x y).toInt
theorem gCmp_self (x : Int64) : gCmp x x = 0 := by simp [gCmp, lg_cmp]
theorem gCmp_R (x y : Int64) : gR (gCmp x y) := gR_toInt _
section GLC
variable {p : Program} {l : Launch} {e : Env} {R : Room} {s : State} {m : MethodId} {args : Array Value} {below : List Frame} {meth : Method} {c : Code} {G : gaG} {cc : ByteArray} {own : String} {nL : Nat} {ws : List Cond} {ret : Option FieldType} {nm : String} {Z : State → Prop}
variable {pc n : Nat} {lv : List (Option Value)} {st : List Value} {h : gaH} {k j : Nat}
theorem gi_lcmp (V : gaV p l s m args meth c G cc own nL ws ret nm) {x y : Int64} (d : decode cc pc = .ok (.lcmp, 1)) (hn : pc + 1 = n)
    (kk : gaP p l e R s m args below meth c G nL Z n lv (.int (Int32.ofInt (gCmp x y)) :: st) h k j) : gaP p l e R s m args below meth c G nL Z pc lv (.long y :: .long x :: st) h k j := by
  subst hn
  unfold gCmp at kk
  rw [gi_back] at kk
  intro H locs ls cells slots hR hS hL h1 h2
  exact W.lcmp V.1 V.2.1 d (kk H locs ls cells slots hR hS hL h1 h2)
end GLC
section GLE
variable {p : Program} {l : Launch} {e : Env} {R : Room} {s : State} {m : MethodId} {args : Array Value} {below : List Frame} {meth : Method} {c : Code} {G : gaG} {cc : ByteArray} {own : String} {nL : Nat} {ws : List Cond} {ret : Option FieldType} {nm : String} {Z : State → Prop}
variable {pc n : Nat} {lv : List (Option Value)} {st : List Value} {h : gaH} {k j : Nat}
theorem gi_icmp_eqF (V : gaV p l s m args meth c G cc own nL ws ret nm) {x y : Int} {off : Int} {t : Nat} (d : decode cc pc = .ok (.if_icmp .eq off, 3)) (ht : (pc : Int) + off = (t : Int)) (q : x = y)
    (kt : gaP p l e R s m args below meth c G nL Z t lv st h k j) : gaP p l e R s m args below meth c G nL Z pc lv (.int (Int32.ofInt y) :: .int (Int32.ofInt x) :: st) h k j :=
  g_icmp_eq V d ht rfl (fun _ => kt) (fun z => absurd (congrArg Int32.ofInt q) z)
end GLE
