/-! ABSTRACT HEAPS. A cell is a tag and its values: a tag below 100 is the number of its class in vwCl (the values are its fields), 100 and up an array (gaTy: of what), 1000 more an array that nothing writes to. gaR: the heap holds what the abstract heap says. gaP: from this place of the method, with these locals, this stack, this abstract heap, that many cells and slots still to be spent, the method comes to its end. -/
abbrev gaE : Type := Nat × List Value
abbrev gaH : Type := Nat → Option gaE
/-- layout of classes, array classes by tag, the first own address, places of static arrays and texts -/
abbrev gaG : Type := va_G × (Nat → ClassId) × Nat × (Nat → Nat)
def gaTy (t : Nat) : FieldType := if t = 100 then .boolean else if t = 101 then .byte else if t = 102 then .int else if t = 110 then .object RX4 else if t = 111 then .object RX0 else .object RX4
def gaCn (t : Nat) : String := if t = 110 then RX4 else if t = 111 then RX0 else RX4
def gaT (t : Nat) : Prop := t = 100 ∨ t = 101 ∨ t = 102 ∨ t = 110 ∨ t = 111 ∨ t = 112
def gaA (G : gaG) : Nat → Prop := fun q => G.2.2.1 ≤ q
def gaUp (h : gaH) (a : Nat) (e : gaE) : gaH := fun b => if b = a then some e else h b
theorem gaUp_self (h : gaH) (a : Nat) (e : gaE) : gaUp h a e a = some e := by simp [gaUp]
theorem gaUp_ne (h : gaH) {a b : Nat} (e : gaE) (hb : b ≠ a) : gaUp h a e b = h b := by simp [gaUp, hb]
def gaAt (G : gaG) (a : Nat) (e : gaE) (H : Heap) : Prop := (e.1 < 100 → va_at G.1 vwCl (a, .inr e) H) ∧ (100 ≤ e.1 → H[a]? = some { cls := G.2.1 e.1, slots := e.2.toArray, vm := .none })
def gaRo (s : State) (a : Nat) (e : gaE) (H : Heap) : Prop := ∃ cell : Cell, H[a]? = some cell ∧ s.isArrayOf cell (gaTy (e.1 - 1000)) ∧ cell.vm ≠ .unknown ∧ cell.slots.size.toInt32 = Int32.ofNat e.2.length ∧ e.2.length ≤ cell.slots.size ∧ ∀ (j : Nat) (v : Value), e.2[j]? = some v → cell.slots[j]? = some v
def gaR (G : gaG) (s : State) (h : gaH) (H : Heap) : Prop := ∀ (a : Nat) (e : gaE), h a = some e → (e.1 < 1000 ∧ G.2.2.1 ≤ a ∧ gaAt G a e H) ∨ (1000 ≤ e.1 ∧ gaRo s a e H)
theorem gaAt.lt {G : gaG} {a : Nat} {e : gaE} {H : Heap} (h : gaAt G a e H) : a < H.size := by
  by_cases h1 : e.1 < 100
  · exact va_at.lt (h.1 h1)
  · exact (Array.getElem?_eq_some_iff.mp (h.2 (by omega))).1
theorem gaAt.kept {G : gaG} {a : Nat} {e : gaE} {H H1 : Heap} (h : gaAt G a e H) (hq : H1[a]? = H[a]?) : gaAt G a e H1 :=
  ⟨fun h1 => va_at.kept (h.1 h1) hq, fun h1 => hq.trans (h.2 h1)⟩
theorem gaRo.kept {s : State} {a : Nat} {e : gaE} {H H1 : Heap} (h : gaRo s a e H) (hq : H1[a]? = H[a]?) : gaRo s a e H1 := by
  obtain ⟨cell, h1, h2⟩ := h
  exact ⟨cell, hq.trans h1, h2⟩
theorem gaRo.lt {s : State} {a : Nat} {e : gaE} {H : Heap} (h : gaRo s a e H) : a < H.size := by
  obtain ⟨cell, h1, h2⟩ := h
  exact (Array.getElem?_eq_some_iff.mp h1).1
theorem gaR.lt {G : gaG} {s : State} {h : gaH} {H : Heap} (hR : gaR G s h H) {a : Nat} {e : gaE} (ha : h a = some e) : a < H.size := by
  rcases hR a e ha with ⟨-, -, h1⟩ | ⟨-, h1⟩
  · exact h1.lt
  · exact h1.lt
theorem gaR.fresh {G : gaG} {s : State} {h : gaH} {H : Heap} (hR : gaR G s h H) : h H.size = none := by
  cases hh : h H.size with
  | none => rfl
  | some e => exact absurd (hR.lt hh) (Nat.lt_irrefl _)
theorem gaR.set {G : gaG} {s : State} {h : gaH} {H H1 : Heap} (hR : gaR G s h H) {a : Nat} {e : gaE} (h1 : e.1 < 1000) (hB : G.2.2.1 ≤ a) (ha : gaAt G a e H1) (oq : ∀ q : Nat, q ≠ a → q < H.size → H1[q]? = H[q]?) : gaR G s (gaUp h a e) H1 := by
  intro b e2 hb
  by_cases hba : b = a
  · subst hba
    rw [gaUp_self] at hb
    cases hb
    exact Or.inl ⟨h1, hB, ha⟩
  · rw [gaUp_ne _ _ hba] at hb
    have hl := hR.lt hb
    rcases hR b e2 hb with ⟨q1, q2, q3⟩ | ⟨q1, q3⟩
    · exact Or.inl ⟨q1, q2, q3.kept (oq b hba hl)⟩
    · exact Or.inr ⟨q1, q3.kept (oq b hba hl)⟩
theorem gaR.moved {G : gaG} {u U : State} {h : gaH} {H : Heap} (hvm : u.vm.Alike U.vm) (hR : gaR G u h H) : gaR G U h H := by
  intro a e ha
  rcases hR a e ha with q | ⟨q1, cell, q2, q3, q4⟩
  · exact Or.inl q
  · exact Or.inr ⟨q1, cell, q2, State.isArrayOf_alike hvm q3, q4⟩
/-- what the tables say of the array classes -/
def gaK (G : gaG) (s : State) : Prop := ∀ t : Nat, gaT t → ∃ (kA : Class) (comp : ClassId), s.vm.findClass ("[" ++ (gaTy t).toString) = some (G.2.1 t) ∧ s.vm.classes[G.2.1 t]? = some kA ∧ kA.kind = .array comp (gaTy t) ∧ (110 ≤ t → s.vm.findClass (gaCn t) = some comp)
theorem gaK.moved {G : gaG} {u U : State} (hvm : u.vm.Alike U.vm) (h : gaK G u) : gaK G U := by
  intro t ht
  obtain ⟨kA, comp, h1, h2, h3, h4⟩ := h t ht
  obtain ⟨k', hk', he⟩ := hvm.2.2 _ _ h2
  exact ⟨k', comp, by rw [hvm.findClass]; exact h1, hk', by rw [he]; exact h3, fun q => by rw [hvm.findClass]; exact h4 q⟩
theorem gaK.arr {G : gaG} {s : State} (h : gaK G s) {t : Nat} (ht : gaT t) (vs : Array Value) : s.isArrayOf { cls := G.2.1 t, slots := vs, vm := .none } (gaTy t) := by
  obtain ⟨kA, comp, h1, h2, h3, h4⟩ := h t ht
  exact ⟨fun k h => (by cases h), kA, h2, comp, h3⟩
theorem gaR.arr {G : gaG} {s : State} {h : gaH} {H : Heap} (hR : gaR G s h H) (hK : gaK G s) {a t t' : Nat} {vs : List Value} (ha : h a = some (t', vs)) (ht : t' = t ∨ t' = t + 1000) (hT : gaT t) :
    ∃ cell : Cell, H[a]? = some cell ∧ s.isArrayOf cell (gaTy t) ∧ cell.vm ≠ .unknown ∧ cell.slots.size.toInt32 = Int32.ofNat vs.length ∧ vs.length ≤ cell.slots.size ∧ ∀ (j : Nat) (v : Value), vs[j]? = some v → cell.slots[j]? = some v := by
  have hT' := hT
  unfold gaT at hT'
  rcases hR a _ ha with ⟨q1, q2, q3⟩ | ⟨q1, cell, q3, q4, q5⟩
  · dsimp only at q1
    have e : t' = t := by omega
    subst e
    have h1 := q3.2 (by dsimp only; omega)
    refine ⟨_, h1, hK.arr hT _, (fun q => by cases q), ?_, ?_, fun j v hj => ?_⟩
    · first | rfl | simp
    · first | (simp; done) | (dsimp only; omega)
    · simpa using hj
  · dsimp only at q1 q4
    have e : t' = t + 1000 := by omega
    subst e
    rw [Nat.add_sub_cancel] at q4
    exact ⟨cell, q3, q4, q5⟩
/-- words that the tables decide and that a call hands on by premises of their own: links of nest mates, casts -/
def gaNest (w : Cond) : Bool := match w with
  | .fieldLinkNest .. => true
  | .methodLinkNest .. => true
  | .castable .. => true
  | .declares .. => true
  | _ => false
theorem gaNest_tab {w : Cond} (h : gaNest w = true) : w.onTables = true := by
  cases w <;> first | rfl | (simp [gaNest] at h)
theorem gaNests_ok : ∀ w ∈ gaNests, gaNest w = true := by decide +kernel
theorem gaNest.warm {w : Cond} {s U : State} (hg : gaNest w = true) (hW : s.WarmedH U.vm) (h : va_Nw w s) : va_Nw w U := by
  cases w <;> first | exact va_Nw.warmF hW h | exact va_Nw.warmM hW h | exact va_Nw.warmC hW h | exact va_Nw.warmD hW h | (simp [gaNest] at hg)
/-- what is said of the start of each method: the tables, the statics, the texts of the class's messages -/
def gaF (G : gaG) (s : State) (H : Heap) : Prop :=
  va_K G.1 vwCl [] s ∧ gaK G s ∧ G.2.2.1 ≤ H.size ∧
  (va_Z RX0 "CODES_FOR_A" "[I" (.ref (G.2.2.2 0)) (gaA G) s H ∧ va_Z RX0 "CODES_FOR_A" "[I" (.ref (G.2.2.2 0)) (gaA G) s H ∧ va_Z RX0 "CODES_FOR_A" "[I" (.ref (G.2.2.2 0)) (gaA G) s H ∧ va_Z RX0 "CODES_FOR_A" "[I" (.ref (G.2.2.2 0)) (gaA G) s H) ∧
  (vx_Zq Bundle.tN "UNASSIGNED_STACK" Bundle.steD (gaA G) s H ∧ vx_Zq Bundle.tN "SUPPRESSED_SENTINEL" Bundle.listD (gaA G) s H) ∧
  (∀ q ∈ gaStrs, vk_R q.1 q.2.1 q.2.2.1 (G.2.2.2 q.2.2.2) s) ∧ (∀ w ∈ gaNests, va_Nw w s) ∧ (∀ q ∈ gaNcs, va_Nc q.1 q.2 s) ∧ (∀ t : Nat, 110 ≤ t ∧ t ≤ 112 → (Cond.arrayOver (gaTy t)).before #[] s = true)
theorem gaOver.moved {ty : FieldType} {u U : State} (hvm : u.vm.Alike U.vm) (h : (Cond.arrayOver ty).before #[] u = true) : (Cond.arrayOver ty).before #[] U = true := by
  have e := Cond.arrayOver_setVmC (args := #[]) hvm ty
  rw [h] at e
  exact e
theorem gaF.same {G : gaG} {u U : State} {H : Heap} (hv : U.vm = u.vm) (h : gaF G u H) : gaF G U H := by
  obtain ⟨h1, h2, h3, ⟨z1, z2, z3, z4⟩, ⟨y1, y2⟩, h6, h7, h8, h9⟩ := h
  have hvm : u.vm.Alike U.vm := by rw [hv]; exact Vm.Alike.refl _
  exact ⟨va_K.moved hvm h1, h2.moved hvm, h3, ⟨va_Z.moved hvm z1, va_Z.moved hvm z2, va_Z.moved hvm z3, va_Z.moved hvm z4⟩, ⟨vx_Zq.moved hvm y1, vx_Zq.moved hvm y2⟩,
    fun q hq => vk_R.same hv (h6 q hq), fun w hw => va_Nw.same (gaNest_tab (gaNests_ok w hw)) hv.symm (h7 w hw), fun q hq => va_Nc.moved hvm (h8 q hq), fun t ht => gaOver.moved hvm (h9 t ht)⟩
theorem gaF.on {G : gaG} {s U : State} {H : Heap} {locs : List Loc} (h : gaF G s s.heap) (hS : va_S (gaA G) s.heap H locs) (hW : s.WarmedH U.vm) : gaF G U H := by
  obtain ⟨h1, h2, h3, ⟨z1, z2, z3, z4⟩, ⟨y1, y2⟩, h6, h7, h8, h9⟩ := h
  have hvm := hW.alike
  have hq : ∀ a : Nat, a < s.heap.size → ¬ gaA G a → H[a]? = s.heap[a]? := hS.2.1
  exact ⟨va_K.moved hvm h1, h2.moved hvm, Nat.le_trans h3 hS.1, ⟨va_Z.moved hvm (z1.kept hq), va_Z.moved hvm (z2.kept hq), va_Z.moved hvm (z3.kept hq), va_Z.moved hvm (z4.kept hq)⟩, ⟨vx_Zq.moved hvm (y1.kept hq), vx_Zq.moved hvm (y2.kept hq)⟩,
    fun q hq => vk_R.warm hW (h6 q hq), fun w hw => gaNest.warm (gaNests_ok w hw) hW (h7 w hw), fun q hq => va_Nc.moved hvm (h8 q hq), fun t ht => gaOver.moved hvm (h9 t ht)⟩
def gaQ (G : gaG) (Q : Option Value → gaH → Prop) : Array Value → State → Outcome → State → Prop := fun _ st o t => ∃ (v : Option Value) (h' : gaH), o = .returned v ∧ Q v h' ∧ gaR G t h' t.heap ∧ va_F (gaA G) st t
def gaX (G : gaG) (X : String → gaH → Prop) : String → State → State → Prop := fun E st t => ∃ h' : gaH, X E h' ∧ gaR G t h' t.heap ∧ va_F (gaA G) st t
/-- a method's contract -/
def gaC (l : Launch) (G : gaG) (y : MethodName) (ws : List Cond) (rm : Room) (av : List Value) (h : gaH) (Q : Option Value → gaH → Prop) (X : String → gaH → Prop) : Prop :=
  vx_Met l y ws rm (va_Pc av (fun U => gaR G U h U.heap ∧ gaF G U U.heap)) (gaQ G Q) (gaX G X) rm.cells rm.slots (gaA G)
/-- locals by their numbers -/
def gaL (ls : Array Slot) (nL : Nat) (lv : List (Option Value)) : Prop := ls.size = nL ∧ lv_wf ls ∧ ∀ (i : Nat) (v : Value), lv[i]? = some (some v) → ls[i]? = some (.val v)
def gaPairs (lv : List (Option Value)) : List (Nat × Value) := (List.range lv.length).filterMap (fun i => match lv[i]? with | some (some v) => some (i, v) | _ => none)
theorem gaPairs_mem {lv : List (Option Value)} {i : Nat} {v : Value} : (i, v) ∈ gaPairs lv ↔ lv[i]? = some (some v) := by
  unfold gaPairs
  rw [List.mem_filterMap]
  constructor
  · rintro ⟨j, hj, h⟩
    cases hx : lv[j]? with
    | none => rw [hx] at h; cases h
    | some o =>
      cases o with
      | none => rw [hx] at h; cases h
      | some w =>
        rw [hx] at h
        cases h
        exact hx
  · intro h
    refine ⟨i, List.mem_range.mpr (List.getElem?_eq_some_iff.mp h).1, ?_⟩
    rw [h]
theorem gaL.has {ls : Array Slot} {nL : Nat} {lv : List (Option Value)} (h : gaL ls nL lv) : lv_has ls nL (gaPairs lv) := ⟨h.1, h.2.1, fun q hq => h.2.2 q.1 q.2 (gaPairs_mem.mp hq)⟩
/-- no second half of a long stands at i -/
def gaOk (lv : List (Option Value)) (i : Nat) : Bool := match i with
  | 0 => true
  | j + 1 => match lv[j]? with
    | some (some v) => v.category != 2
    | _ => true
theorem gaL.set1 {ls : Array Slot} {nL : Nat} {lv : List (Option Value)} {i : Nat} {v : Value} (hok : gaOk lv i = true)
    (hl : lv_has ls nL ((i, v) :: (gaPairs lv).filter (fun q => !(q.1 == i) && !(q.1 + 1 == i && q.2.category == 2)))) : gaL ls nL (lv.set i (some v)) := by
  refine ⟨hl.1, hl.2.1, fun j w hj => ?_⟩
  by_cases hji : j = i
  · subst hji
    have hlt : j < lv.length := by
      have := (List.getElem?_eq_some_iff.mp hj).1
      simpa using this
    rw [List.getElem?_set_self hlt] at hj
    cases hj
    exact hl.2.2 _ List.mem_cons_self
  · rw [List.getElem?_set_ne (fun q => hji q.symm)] at hj
    refine hl.2.2 (j, w) (List.mem_cons_of_mem _ (List.mem_filter.mpr ⟨gaPairs_mem.mpr hj, ?_⟩))
    have h2 : ¬ (j + 1 = i ∧ w.category = 2) := by
      rintro ⟨q1, q2⟩
      subst q1
      simp only [gaOk, hj] at hok
      simp [q2] at hok
    simp only [Bool.and_eq_true, Bool.not_eq_true', beq_eq_false_iff_ne, ne_eq, Bool.and_eq_false_iff]
    refine ⟨hji, ?_⟩
    by_cases q : j + 1 = i
    · exact Or.inr fun z => h2 ⟨q, z⟩
    · exact Or.inl q
theorem gaL.set2 {ls : Array Slot} {nL : Nat} {lv : List (Option Value)} {i : Nat} {v : Value} (hok : gaOk lv i = true)
    (hl : lv_has ls nL ((i, v) :: (gaPairs lv).filter (fun q => !(q.1 == i) && (!(q.1 == i + 1) && !(q.1 + 1 == i && q.2.category == 2))))) : gaL ls nL ((lv.set i (some v)).set (i + 1) none) := by
  refine ⟨hl.1, hl.2.1, fun j w hj => ?_⟩
  by_cases hji1 : j = i + 1
  · subst hji1
    have hlt : i + 1 < ((lv.set i (some v)).set (i + 1) none).length := (List.getElem?_eq_some_iff.mp hj).1
    rw [List.getElem?_set_self (by simpa using hlt)] at hj
    cases hj
  · rw [List.getElem?_set_ne (fun q => hji1 q.symm)] at hj
    by_cases hji : j = i
    · subst hji
      have hlt : j < lv.length := by
        have := (List.getElem?_eq_some_iff.mp hj).1
        simpa using this
      rw [List.getElem?_set_self hlt] at hj
      cases hj
      exact hl.2.2 _ List.mem_cons_self
    · rw [List.getElem?_set_ne (fun q => hji q.symm)] at hj
      refine hl.2.2 (j, w) (List.mem_cons_of_mem _ (List.mem_filter.mpr ⟨gaPairs_mem.mpr hj, ?_⟩))
      have h2 : ¬ (j + 1 = i ∧ w.category = 2) := by
        rintro ⟨q1, q2⟩
        subst q1
        simp only [gaOk, hj] at hok
        simp [q2] at hok
      simp only [Bool.and_eq_true, Bool.not_eq_true', beq_eq_false_iff_ne, ne_eq, Bool.and_eq_false_iff]
      refine ⟨hji, hji1, ?_⟩
      by_cases q : j + 1 = i
      · exact Or.inr fun z => h2 ⟨q, z⟩
      · exact Or.inl q
/-- what holds all along a method's body -/
def gaV (p : Program) (l : Launch) (s : State) (m : MethodId) (args : Array Value) (meth : Method) (c : Code) (G : gaG) (cc : ByteArray) (own : String) (nL : Nat) (ws : List Cond) (ret : Option FieldType) (nm : String) : Prop :=
  p.tables.exec = Jvm.exec ∧ c.code = cc ∧ c.maxLocals = nL ∧ s.vm.findClass own = some m.cls ∧ (∀ w ∈ ws, w.before args s = true) ∧ meth.sig.returnType = ret ∧ meth.locks = false ∧ True ∧ meth.name = nm ∧ gaF G s s.heap ∧ l.stackTraces = false
def gaP (p : Program) (l : Launch) (e : Env) (R : Room) (s : State) (m : MethodId) (args : Array Value) (below : List Frame) (meth : Method) (c : Code) (G : gaG) (nL : Nat) (Z : State → Prop)
    (pc : Nat) (lv : List (Option Value)) (st : List Value) (h : gaH) (k n : Nat) : Prop :=
  ∀ (H : Heap) (locs : List Loc) (ls : Array Slot) (cells slots : Nat), gaR G s h H → va_S (gaA G) s.heap H locs → gaL ls nL lv → cells + k ≤ R.cells → slots + n ≤ R.slots →
    W p l e R s m args below meth c H locs cells slots Z (F0 m pc ls st)
/-- a method's end, returned or thrown -/
abbrev gaZ (below : List Frame) (G : gaG) (Q : Option Value → gaH → Prop) (X : String → gaH → Prop) (args : Array Value) (s : State) (R : Room) : State → Prop := vx_MQ below (gaQ G Q) (gaX G X) args s R.cells R.slots (gaA G)
/-- an exception of this class that comes up at this place leads to the end -/
def gaO (p : Program) (l : Launch) (e : Env) (R : Room) (s : State) (m : MethodId) (args : Array Value) (below : List Frame) (meth : Method) (c : Code) (G : gaG) (nL : Nat) (Z : State → Prop)
    (pc : Nat) (lv : List (Option Value)) (E : String) (h : gaH) (k n : Nat) : Prop :=
  ∀ (H : Heap) (locs : List Loc) (ls : Array Slot) (rest : List Value) (cells slots : Nat) (q : Addr) (ce : Cell), gaR G s h H → va_S (gaA G) s.heap H locs → gaL ls nL lv → cells + k ≤ R.cells → slots + n ≤ R.slots →
    H[q]? = some ce → ce.vm = .none → s.vm.findClass E = some ce.cls → vx_W p l e R s m args below meth c H locs cells slots Z (F0 m pc ls rest) q
