/-! What the JDK's own methods ask for beside: a text of the class, copies of byte arrays, casts. -/
def gCL (h : gaH) (a t : Nat) (c s : Nat) (K : Nat → gaH → Nat → Nat → Prop) : Prop := ∃ vs : List Value, h a = some (t, vs) ∧ (∀ v ∈ vs, fits (gaTy t) v = true) ∧ 1 ≤ c ∧ vs.length ≤ s ∧ ∀ q : Nat, h q = none → ∃ c2 s2, c2 = c - 1 ∧ s2 = s - vs.length ∧ K q (gaUp h q (t, vs)) c2 s2
/-- what is copied is told by its length and by what its values are alone -/
def gCP (h : gaH) (a0 a t : Nat) (sp dp n : Int) (K : gaH → Prop) : Prop := ∃ vs ws : List Value, h a0 = some (t, vs) ∧ h a = some (t, ws) ∧ 0 ≤ sp ∧ 0 ≤ dp ∧ 0 ≤ n ∧ sp + n ≤ 2147483647 ∧ dp + n ≤ 2147483647 ∧ sp + n ≤ (vs.length : Int) ∧ dp + n ≤ (ws.length : Int) ∧ (∀ v ∈ vs, fits (gaTy t) v = true) ∧ ∀ us : List Value, us.length = ws.length → (∀ v ∈ us, v ∈ vs ∨ v ∈ ws) → K (gaUp h a (t, us))
theorem ga_pairs : ∀ (xs : List (Value × Nat)) (c : Cell) (at_ : Nat) (P : Value → Prop), (∀ v ∈ c.slots.toList, P v) → (∀ q ∈ xs, P q.1) → ∀ v ∈ (c.storePairs at_ xs).slots.toList, P v
  | [], c, at_, P, h1, h2 => h1
  | x :: xs, c, at_, P, h1, h2 => by
    show ∀ v ∈ ((c.setSlot (at_ + x.2) x.1).storePairs at_ xs).slots.toList, P v
    refine ga_pairs xs _ at_ P ?_ (fun q hq => h2 q (List.mem_cons_of_mem _ hq))
    intro v hv
    have e : (c.setSlot (at_ + x.2) x.1).slots.toList = c.slots.toList.set (at_ + x.2) x.1 := by simp [Cell.setSlot]
    rw [e] at hv
    rcases List.mem_or_eq_of_mem_set hv with q | q
    · exact h1 v q
    · rw [q]; exact h2 x List.mem_cons_self
section GAJ
variable {p : Program} {l : Launch} {e : Env} {R : Room} {s : State} {m : MethodId} {args : Array Value} {below : List Frame} {meth : Method} {c : Code} {G : gaG} {cc : ByteArray} {own : String} {nL : Nat} {ret : Option FieldType} {nm : String} {Z : State → Prop}
variable {pc n : Nat} {lv : List (Option Value)} {st : List Value} {h : gaH} {k j : Nat}
theorem g_ldcS (V : gaV p l s m args meth c G cc own nL gaW ret nm) {i sa : Nat} {text : String} (hstr : (own, i, text, sa) ∈ gaStrs) (d : decode cc pc = .ok (.ldc i, 2)) (hn : pc + 2 = n)
    (kk : gaP p l e R s m args below meth c G nL Z n lv (.ref (G.2.2.2 sa) :: st) h k j) : gaP p l e R s m args below meth c G nL Z pc lv st h k j := by
  subst hn
  intro H locs ls cells slots hR hS hL h1 h2
  exact va_ldcS V.1 V.2.1 V.2.2.2.1 (V.2.2.2.2.2.2.2.2.2.1.2.2.2.2.2.1 _ hstr) d (kk H locs ls cells slots hR hS hL h1 h2)
theorem g_clone (V : gaV p l s m args meth c G cc own nL gaW ret nm) {index a : Nat} {vs : List Value} (w1 : Cond.methodLink own index ⟨"[B", "clone", "()Ljava/lang/Object;"⟩ ∈ gaW) (w2 : Cond.sameMethod "[B" "java/lang/Object" "clone" "()Ljava/lang/Object;" ∈ gaW)
    (w3 : Cond.native ⟨"java/lang/Object", "clone", "()Ljava/lang/Object;"⟩ ∈ gaW) (w4 : Cond.instanceMethod ⟨"java/lang/Object", "clone", "()Ljava/lang/Object;"⟩ ∈ gaW) (w5 : Cond.selects "[B" ⟨"[B", "clone", "()Ljava/lang/Object;"⟩ ⟨"java/lang/Object", "clone", "()Ljava/lang/Object;"⟩ ∈ gaW)
    (w6 : Cond.castable "[B" "java/lang/Cloneable" ∈ gaNests) (hfr : 1 ≤ R.frames) (hlo : 40 ≤ R.locals) (hcat : (st.map fun v => v.category).sum ≤ 8)
    (ha : h a = some (101, vs)) (hfit : ∀ v ∈ vs, fits (gaTy 101) v = true) (d : decode cc pc = .ok (.invokevirtual index, 3)) (hn : pc + 3 = n) (hk : 1 ≤ k) (hj : vs.length ≤ j)
    (kk : ∀ q : Nat, h q = none → gaP p l e R s m args below meth c G nL Z n lv (.ref q :: st) (gaUp h q (101, vs)) (k - 1) (j - vs.length)) : gaP p l e R s m args below meth c G nL Z pc lv (.ref a :: st) h k j := by
  subst hn
  intro H locs ls cells slots hR hS hL h1 h2
  have hts := V.2.2.2.2.1
  have hF := V.2.2.2.2.2.2.2.2.2.1
  obtain ⟨g1, hB⟩ := hR.mine ha (by decide) (by decide)
  obtain ⟨kA, comp, f1, f2, f3, f4⟩ := hF.2.1 101 (by simp [gaT])
  have f1 : s.vm.findClass "[B" = some (G.2.1 101) := f1
  obtain ⟨c0, t0, q1, q2, q3⟩ := Cond.castable_spec (va_Nw.use (A := args) rfl (hF.2.2.2.2.2.2.1 _ w6))
  cases f1.symm.trans q1
  intro T hT X
  obtain ⟨vm', X', stp⟩ := X.cloneArray V.1 V.2.2.2.1 (hts _ w1) (hts _ w2) (hts _ w3) (hts _ w4) (hts _ w5) (a := a) (cell := { cls := G.2.1 101, slots := vs.toArray, vm := .none }) (by rw [hT]; exact g1) (fun k h => by cases h) (fun h => by cases h) f1 q2 q3
    (fun i v hv => by
      obtain ⟨kB, hkB, heB⟩ := X.warmed.alike.2.2 _ _ f2
      have hkk : kB.kind = .array comp (gaTy 101) := by rw [heB]; exact f3
      have hm : v ∈ vs := by
        have := List.mem_of_getElem? (l := vs) (i := i) (a := v) (by simpa using hv)
        exact this
      simpa [State.fitsSlot, State.slotType?, hkB, hkk] using hfit v hm)
    (g := F0 m pc ls (.ref a :: st)) rfl (by show ls.size = _; rw [V.2.2.1]; exact hL.1) rfl (by rw [V.2.1]; exact d) hfr (by show 2 * 0 + _ + 14 ≤ _; omega) (by omega) (by show slots + vs.toArray.size ≤ _; simp; omega) (hloader := Vm.clonesLoader_of_array f2 f3)
  obtain ⟨t, b1, b2⟩ := kk H.size hR.fresh (H.push { cls := G.2.1 101, slots := vs.toArray, vm := .none }) locs ls (cells + 1) (slots + vs.length) (hR.set (show 101 < 1000 by decide) (hF.le hS) ⟨fun q => by dsimp only at q; omega, fun _ => by simp⟩ (fun q _ hq => by rw [Array.getElem?_push, if_neg (Nat.ne_of_lt hq)]))
    (hS.grow (by simp) (fun q hq => by rw [Array.getElem?_push, if_neg (Nat.ne_of_lt hq)])) hL (by omega) (by omega) ((T.setVm vm').pushCell { cls := G.2.1 101, slots := vs.toArray }) (by show T.heap.push _ = _; rw [hT]) X'
  exact ⟨t, stp t (by rw [hT]; exact b1), b2⟩
theorem g_castB (V : gaV p l s m args meth c G cc own nL gaW ret nm) {index a : Nat} {vs : List Value} (w1 : Cond.classLink own index "[B" ∈ gaW) (ha : h a = some (101, vs)) (d : decode cc pc = .ok (.checkcast index, 3)) (hn : pc + 3 = n)
    (kk : gaP p l e R s m args below meth c G nL Z n lv (.ref a :: st) h k j) : gaP p l e R s m args below meth c G nL Z pc lv (.ref a :: st) h k j := by
  subst hn
  intro H locs ls cells slots hR hS hL h1 h2
  have hts := V.2.2.2.2.1
  have hF := V.2.2.2.2.2.2.2.2.2.1
  obtain ⟨g1, hB⟩ := hR.mine ha (by decide) (by decide)
  obtain ⟨kA, comp, f1, f2, f3, f4⟩ := hF.2.1 101 (by simp [gaT])
  have f1 : s.vm.findClass "[B" = some (G.2.1 101) := f1
  intro T hT X
  obtain ⟨vm', X', stp⟩ := X.checkcastYes V.1 V.2.2.2.1 (hts _ w1) (by rw [hT]; exact g1) rfl f1 (ga_asg _ _) (g := F0 m pc ls (.ref a :: st)) rfl rfl (by rw [V.2.1]; exact d)
  obtain ⟨t, a1, b1⟩ := kk H locs ls cells slots hR hS hL h1 h2 (T.setVm vm') hT X'
  exact ⟨t, stp t a1, b1⟩
theorem ga_le3 {a b c : Nat} (h1 : a ≤ 8) (h2 : b ≤ 50) (h3 : 60 ≤ c) : 2 * 0 + a + b ≤ c := by omega
theorem ga_nfw : nativeFrameWords "java/lang/System" "arraycopy" 5 + 11 ≤ 50 := by decide +kernel
theorem g_acopy (V : gaV p l s m args meth c G cc own nL gaW ret nm) {index a0 a : Nat} {vs xs : List Value} {sp dp m0 : Int} (w1 : Cond.methodLink own index arraycopyName ∈ gaW) (w2 : Cond.native arraycopyName ∈ gaW) (w3 : Cond.static arraycopyName ∈ gaW) (w4 : Cond.initialized "java/lang/System" ∈ gaW)
    (hfr : 1 ≤ R.frames) (hlo : 60 ≤ R.locals) (hcat : (st.map fun v => v.category).sum ≤ 8) (hne : a0 ≠ a) (ha0 : h a0 = some (101, vs)) (ha : h a = some (101, xs)) (z1 : 0 ≤ sp) (z2 : 0 ≤ dp) (z3 : 0 ≤ m0) (z4 : sp + m0 ≤ 2147483647) (z5 : dp + m0 ≤ 2147483647) (z6 : sp + m0 ≤ (vs.length : Int)) (z7 : dp + m0 ≤ (xs.length : Int))
    (hfit : ∀ v ∈ vs, fits (gaTy 101) v = true) (d : decode cc pc = .ok (.invokestatic index, 3)) (hn : pc + 3 = n)
    (kk : ∀ us : List Value, us.length = xs.length → (∀ v ∈ us, v ∈ vs ∨ v ∈ xs) → gaP p l e R s m args below meth c G nL Z n lv st (gaUp h a (101, us)) k j) : gaP p l e R s m args below meth c G nL Z pc lv (gi m0 :: gi dp :: .ref a :: gi sp :: .ref a0 :: st) h k j := by
  subst hn
  intro H locs ls cells slots hR hS hL h1 h2
  have hts := V.2.2.2.2.1
  have hF := V.2.2.2.2.2.2.2.2.2.1
  obtain ⟨g0, hB0⟩ := hR.mine ha0 (by decide) (by decide)
  obtain ⟨g1, hB⟩ := hR.mine ha (by decide) (by decide)
  obtain ⟨kA, comp, f1, f2, f3, f4⟩ := hF.2.1 101 (by simp [gaT])
  have e1 := gi_clamp z1 (show sp ≤ 2147483647 by omega)
  have e2 := gi_clamp z2 (show dp ≤ 2147483647 by omega)
  have e3 := gi_clamp z3 (show m0 ≤ 2147483647 by omega)
  have i1 := gi_to (show gR sp from ⟨by omega, by omega⟩)
  have i2 := gi_to (show gR dp from ⟨by omega, by omega⟩)
  have i3 := gi_to (show gR m0 from ⟨by omega, by omega⟩)
  have hin : ∀ i, i < m0.toNat → vs.toArray.getD (sp.toNat + i) .null ∈ vs := by
    intro i hi
    have hlt : sp.toNat + i < vs.length := by omega
    rw [Array.getD_eq_getD_getElem?, List.getElem?_toArray, List.getElem?_eq_getElem hlt]
    exact List.getElem_mem hlt
  intro T hT X
  obtain ⟨vm', X', stp⟩ := X.arraycopy V.1 V.2.2.2.1 (hts _ w1) (hts _ w2) (hts _ w3) (hts _ w4) (src := a0) (dst := a) (cs := { cls := G.2.1 101, slots := vs.toArray, vm := .none }) (cd := { cls := G.2.1 101, slots := xs.toArray, vm := .none }) (srcPos := Int32.ofInt sp) (destPos := Int32.ofInt dp) (n := Int32.ofInt m0)
    (by rw [hT]; exact g0) (by rw [hT]; exact g1) (fun _ h => by cases h) (fun _ h => by cases h) (fun h => by cases h) (fun h => by cases h) f2 f2 f3 f3 (by decide) (gi_nn z1 (by omega)) (gi_nn z2 (by omega)) (gi_nn z3 (by omega))
    (by rw [i1, i3]; show ¬ _ > ((vs.toArray.size : Nat) : Int); simp; omega) (by rw [i2, i3]; show ¬ _ > ((xs.toArray.size : Nat) : Int); simp; omega)
    (fun vm₁ _ i hi => by
      rw [e3] at hi
      rw [e1]
      have hm := hin i hi
      have hf := hfit _ hm
      refine ⟨hf, ?_⟩
      show State.takes _ _ (vs.toArray.getD (sp.toNat + i) .null)
      generalize vs.toArray.getD (sp.toNat + i) .null = v at hf
      cases v <;> first | exact trivial | (exfalso; revert hf; simp [gaTy, fits]))
    (g := F0 m pc ls (gi m0 :: gi dp :: .ref a :: gi sp :: .ref a0 :: st)) rfl (by show ls.size = _; rw [V.2.2.1]; exact hL.1) (rest := st) rfl (by rw [V.2.1]; exact d) hfr (ga_le3 hcat ga_nfw hlo)
  obtain ⟨u1, u2, u3, u4, u5⟩ := Cell.storePairs_facts { cls := G.2.1 101, slots := xs.toArray, vm := .none } (Int32.ofInt dp).toNatClampNeg (({ cls := G.2.1 101, slots := vs.toArray, vm := .none } : Cell).stretch (Int32.ofInt sp).toNatClampNeg (Int32.ofInt m0).toNatClampNeg).zipIdx
  have hcell : copied { cls := G.2.1 101, slots := vs.toArray, vm := .none } { cls := G.2.1 101, slots := xs.toArray, vm := .none } (Int32.ofInt sp) (Int32.ofInt dp) (Int32.ofInt m0) = ({ cls := G.2.1 101, slots := xs.toArray, vm := .none } : Cell).storePairs (Int32.ofInt dp).toNatClampNeg (({ cls := G.2.1 101, slots := vs.toArray, vm := .none } : Cell).stretch (Int32.ofInt sp).toNatClampNeg (Int32.ofInt m0).toNatClampNeg).zipIdx := rfl
  have hall : ∀ v ∈ (({ cls := G.2.1 101, slots := xs.toArray, vm := .none } : Cell).storePairs (Int32.ofInt dp).toNatClampNeg (({ cls := G.2.1 101, slots := vs.toArray, vm := .none } : Cell).stretch (Int32.ofInt sp).toNatClampNeg (Int32.ofInt m0).toNatClampNeg).zipIdx).slots.toList, v ∈ vs ∨ v ∈ xs := by
    refine ga_pairs _ _ _ (fun v => v ∈ vs ∨ v ∈ xs) (fun v hv => Or.inr (by simpa using hv)) ?_
    rintro ⟨v, i⟩ hq
    have hv := List.fst_mem_of_mem_zipIdx hq
    unfold Cell.stretch at hv
    obtain ⟨i2, hi2, rfl⟩ := List.mem_map.mp hv
    have := List.mem_range.mp hi2
    rw [e3] at this
    rw [e1]
    exact Or.inl (hin i2 this)
  rw [hcell] at X' stp
  generalize ({ cls := G.2.1 101, slots := xs.toArray, vm := .none } : Cell).storePairs (Int32.ofInt dp).toNatClampNeg (({ cls := G.2.1 101, slots := vs.toArray, vm := .none } : Cell).stretch (Int32.ofInt sp).toNatClampNeg (Int32.ofInt m0).toNatClampNeg).zipIdx = cn at X' stp u1 u2 u3 u4 u5 hall
  have hcn : cn = { cls := G.2.1 101, slots := cn.slots.toList.toArray, vm := .none } := by
    cases cn
    simp at u1 u2 u4 u5
    subst u1 u2 u4 u5
    rfl
  have hlen : cn.slots.toList.length = xs.length := by simpa using u3
  have hl : a < H.size := (Array.getElem?_eq_some_iff.mp g1).1
  have oq : ∀ q : Nat, q ≠ a → (H.setIfInBounds a cn)[q]? = H[q]? := fun q hq => by simp [Array.getElem?_setIfInBounds, Ne.symm hq]
  obtain ⟨t, b1, b2⟩ := kk cn.slots.toList hlen hall (H.setIfInBounds a cn) _ ls cells slots (hR.set (show 101 < 1000 by decide) hB ⟨fun q => by dsimp only at q; omega, fun _ => by rw [← hcn]; simp [Array.getElem?_setIfInBounds, hl]⟩ (fun q hq _ => oq q hq))
    ⟨by simp; exact hS.1, fun q q1 q2 => by
      rw [oq q (fun e9 => q2 (by rw [e9]; exact hB))]
      exact hS.2.1 q q1 q2, fun q hq => by
      rcases List.mem_append.mp hq with h | h
      · exact hS.2.2 q h
      · obtain ⟨z, -, hz⟩ := List.mem_map.mp h
        rw [← hz]
        exact hB⟩ hL h1 h2 _ (by show T.heap.setIfInBounds a cn = _; rw [hT]) X'
  exact ⟨t, stp t b1, b2⟩
/-- a method of the class above that the receiver's class has made anew -/
theorem g_callO (V : gaV p l s m args meth c G cc own nL gaW ret nm) {x y : MethodName} {C owner : String} {T : u_T} {N ci b index maxL nP : Nat} {fs : List Value} {bytes : ByteArray} {retf : Option FieldType} {rm : Room} {As st0 : List Value} {Q2 : Option Value → gaH → Prop} {X2 : String → gaH → Prop} {b0 : ByteArray} {m0 : Nat} {r0 : Option FieldType}
    (hM : gaC l G y (gaM y bytes maxL retf) rm (.ref b :: As) h Q2 X2) (w1 : Cond.methodLink own index x ∈ gaW) (w6 : Cond.sameMethod x.cls owner x.name x.desc ∈ gaW) (w8 : Cond.instanceMethod ⟨owner, x.name, x.desc⟩ ∈ gaW) (w2 : Cond.instanceMethod y ∈ gaW) (w3 : Cond.selects C x y ∈ gaW) (w4 : Cond.initialized y.cls ∈ gaW) (w5 : Cond.code y bytes maxL retf ∈ gaW) (w7 : Cond.code ⟨owner, x.name, x.desc⟩ b0 m0 r0 ∈ gaW)
    (hd : owner ≠ "java/lang/invoke/MethodHandle" ∧ owner ≠ "java/lang/invoke/VarHandle" ∧ (parseMethodDescriptor x.desc).map (fun d => d.parameters.length) = some nP) (hRm : rm.frames + 1 ≤ R.frames ∧ 8 + (maxL + 11) + rm.locals ≤ R.locals)
    (hc : vwCl[ci]? = some (C, T, N)) (hci : ci < 100) (hb : h b = some (ci, fs)) (hnp : As.length = nP) (hst : st0 = As.reverse ++ .ref b :: st) (hcat : (st.map fun v => v.category).sum ≤ 8) (d : decode cc pc = .ok (.invokevirtual index, 3)) (hk : rm.cells ≤ k) (hj : rm.slots ≤ j) (hn : pc + 3 = n) (hX : ∀ E h', X2 E h' → gaO p l e R s m args below meth c G nL Z pc lv E h' (k - rm.cells) (j - rm.slots))
    (kk : ∀ v h', Q2 v h' → gaP p l e R s m args below meth c G nL Z n lv (v.toList ++ st) h' (k - rm.cells) (j - rm.slots)) : gaP p l e R s m args below meth c G nL Z pc lv st0 h k j := by
  subst hn
  subst hst
  intro H locs ls cells slots hR hS hL h1 h2
  exact gaAfter V (vx_runU (As := As) (rest := st) ⟨V.1, V.2.1, V.2.2.1, V.2.2.2.1, V.2.2.2.2.1⟩ hM (va_cwO nP V.2.2.2.2.1 (gaIn (by unfold va_wsO; exact gaIn1 w1 (gaIn1 w6 (gaIn1 w8 (gaIn1 w3 (gaIn1 w2 (gaIn1 w4 (gaIn1 w5 gaIn0)))))))) rfl rfl rfl w7 hd hRm) ⟨gaBlind _, gaRecv V hR hc hci hb, gaPre V hR hS _⟩ rfl hnp hL.1 rfl (lv_room hcat) d ⟨by omega, by omega⟩) hS hL h1 h2 hk hj hX kk
end GAJ
section GAL
variable {p : Program} {l : Launch} {e : Env} {R : Room} {s : State} {m : MethodId} {args : Array Value} {below : List Frame} {meth : Method} {c : Code} {G : gaG} {cc : ByteArray} {own : String} {nL : Nat} {ws : List Cond} {ret : Option FieldType} {nm : String} {Z : State → Prop}
variable {pc n : Nat} {lv : List (Option Value)} {st : List Value} {h : gaH} {k j : Nat}
/-- a method with a table of exceptions: its words -/
abbrev gaMW (y : MethodName) (cc : ByteArray) (nL : Nat) (ret : Option FieldType) (hh : List (Nat × Nat × Nat × Nat)) : List Cond := .codeWith y cc nL ret hh :: gaW
theorem gaO_catch (V : gaV p l s m args meth c G cc own nL gaW ret nm) {E name : String} {tb : List ExceptionTableEntry} (hT : c.exceptionTable.toList = tb) (pre : List ExceptionTableEntry) (x : ExceptionTableEntry) (suf : List ExceptionTableEntry) (hsplit : tb = pre ++ x :: suf)
    (hpass : ∀ z ∈ pre, z.catchType ≠ 0 ∧ ∃ nm : String, Cond.classLink own z.catchType nm ∈ gaW ∧ (E, nm) ∈ gaNcs) (hx : covers x pc = true) (h0 : x.catchType ≠ 0) (hlink : Cond.classLink own x.catchType name ∈ gaW) (hcast : Cond.castable E name ∈ gaNests)
    {t : Nat} (ht : x.handlerPc = t) (kk : ∀ q : Nat, gaP p l e R s m args below meth c G nL Z t lv [.ref q] h k j) : gaO p l e R s m args below meth c G nL Z pc lv E h k j := by
  subst ht
  intro H locs ls rest cells slots q ce hR hS hL h1 h2 hce hcv hcl
  have hts := V.2.2.2.2.1
  have hF := V.2.2.2.2.2.2.2.2.2.1
  exact vx_catch V.2.2.2.1 pre x suf (hT.trans hsplit) (fun z hz => by
    obtain ⟨z0, nm9, z1, z2⟩ := hpass z hz
    exact Or.inr ⟨z0, nm9, hts _ z1, hF.2.2.2.2.2.2.2.1 _ z2⟩) hx h0 (hts _ hlink) (va_Nw.use rfl (hF.2.2.2.2.2.2.1 _ hcast)) hce hcv hcl (kk q H locs ls cells slots hR hS hL h1 h2)
theorem g_startW {l : Launch} {G : gaG} {y : MethodName} {cc : ByteArray} {nL : Nat} {ret : Option FieldType} {hh : List (Nat × Nat × Nat × Nat)} {rm : Room} {av : List Value} {h : gaH} {Q : Option Value → gaH → Prop} {X : String → gaH → Prop} (hy : plainName y.cls = true) (hst : l.stackTraces = false) (hav : (lg_sl av).length ≤ nL) {lv : List (Option Value)} (hlv : ∀ (i : Nat) (v : Value), lv[i]? = some (some v) → (i, v) ∈ lv_args 0 av) (w : Cond.codeWith y cc nL ret hh ∈ gaW)
    (body : ∀ (p : Program) (e : Env) (s : State) (m : MethodId) (args : Array Value) (below : List Frame) (meth : Method) (c : Code), gaV p l s m args meth c G cc y.cls nL gaW ret y.name → c.exceptionTable.toList = tableOf hh → gaP p l e rm s m args below meth c G nL (gaZ below G Q X args s rm) 0 lv [] h rm.cells rm.slots) : gaC l G y (gaMW y cc nL ret hh) rm av h Q X := by
  refine vx_ofWH (cc := cc) (maxL := nL) (ret := ret) (hh := hh) hy rfl ?_
  intro p e s m args below meth c s₁ B hml hv
  obtain ⟨rfl, hR, hF⟩ := hv
  have hts := atoms_spec (ws := gaMW y cc nL ret hh) B.pre
  have htab := vx_table (x := y) B (hts _ List.mem_cons_self)
  have hle := lv_entry av (n := nL) hav
  rw [lg_entry_eq]
  exact body p e s m _ below meth c ⟨B.exec, B.bytes, hml, findClass_of_methodNamed B.named, fun w hw => hts w (List.mem_cons_of_mem _ hw), B.returns, B.notSynchronized, trivial, (name_of_methodNamed B.named B.method).1, hF, hst⟩ htab s.heap [] _ 0 0 hR va_S.rf ⟨hle.1, hle.2.1, fun i v hi => hle.2.2 (i, v) (hlv i v hi)⟩ (Nat.le_of_eq (Nat.zero_add _)) (Nat.le_of_eq (Nat.zero_add _))
theorem g_callSX (V : gaV p l s m args meth c G cc own nL gaW ret nm) {y : MethodName} {index maxL nP : Nat} {bytes : ByteArray} {retf : Option FieldType} {hh : List (Nat × Nat × Nat × Nat)} {rm : Room} {As st0 : List Value} {Q2 : Option Value → gaH → Prop} {X2 : String → gaH → Prop}
    (hM : gaC l G y (gaMW y bytes maxL retf hh) rm As h Q2 X2) (w1 : Cond.methodLink own index y ∈ gaW) (w2 : Cond.static y ∈ gaW) (w4 : Cond.initialized y.cls ∈ gaW) (w5 : Cond.codeWith y bytes maxL retf hh ∈ gaW)
    (hd : y.cls ≠ "java/lang/invoke/MethodHandle" ∧ y.cls ≠ "java/lang/invoke/VarHandle" ∧ (parseMethodDescriptor y.desc).map (fun d => d.parameters.length) = some nP) (hRm : rm.frames + 1 ≤ R.frames ∧ 8 + (maxL + 11) + rm.locals ≤ R.locals)
    (hnp : As.length = nP) (hst : st0 = As.reverse ++ st) (hcat : (st.map fun v => v.category).sum ≤ 8) (d : decode cc pc = .ok (.invokestatic index, 3)) (hk : rm.cells ≤ k) (hj : rm.slots ≤ j) (hn : pc + 3 = n) (hX : ∀ E h', X2 E h' → gaO p l e R s m args below meth c G nL Z pc lv E h' (k - rm.cells) (j - rm.slots))
    (kk : ∀ v h', Q2 v h' → gaP p l e R s m args below meth c G nL Z n lv (v.toList ++ st) h' (k - rm.cells) (j - rm.slots)) : gaP p l e R s m args below meth c G nL Z pc lv st0 h k j := by
  subst hn
  subst hst
  intro H locs ls cells slots hR hS hL h1 h2
  exact gaAfter V (vx_runSX (As := As) (rest := st) ⟨V.1, V.2.1, V.2.2.1, V.2.2.2.1, V.2.2.2.2.1⟩ hM (vx_cwSW nP V.2.2.2.2.1 (gaIn (by unfold va_wsS; exact gaIn1 w1 (gaIn1 w2 (gaIn1 w4 (gaIn1 w5 gaIn0))))) rfl rfl rfl hd hRm) ⟨gaBlind _, gaPre V hR hS _⟩ rfl hnp hL.1 rfl (lv_room hcat) d ⟨by omega, by omega⟩) hS hL h1 h2 hk hj hX kk
theorem g_pop2 (V : gaV p l s m args meth c G cc own nL ws ret nm) {v : Value} (d : decode cc pc = .ok (.pop2, 1)) (hv : v.category = 2) (hn : pc + 1 = n)
    (kk : gaP p l e R s m args below meth c G nL Z n lv st h k j) : gaP p l e R s m args below meth c G nL Z pc lv (v :: st) h k j := by
  subst hn
  intro H locs ls cells slots hR hS hL h1 h2
  exact lv_pop2_2 V.1 V.2.1 d hv (kk H locs ls cells slots hR hS hL h1 h2)
theorem gi_tableIn (V : gaV p l s m args meth c G cc own nL ws ret nm) {dflt lo hi : Int} {offs : Array Int} {len : Nat} {x v : Int} {off : Int} {t : Nat} (d : decode cc pc = .ok (.tableswitch dflt lo hi offs, len)) (hx : gR x) (hv : x = v) (h3 : ¬ v < lo) (h4 : ¬ hi < v) (ho : offs[(v - lo).toNat]? = some off) (ht : (pc : Int) + off = (t : Int))
    (kk : gaP p l e R s m args below meth c G nL Z t lv st h k j) : gaP p l e R s m args below meth c G nL Z pc lv (gi x :: st) h k j := by
  subst hv
  have e := gi_to hx
  exact g_tableIn V d (by rw [e]; exact h3) (by rw [e]; exact h4) (by rw [e]; exact ho) ht kk
theorem gi_tableOut (V : gaV p l s m args meth c G cc own nL ws ret nm) {dflt lo hi : Int} {offs : Array Int} {len : Nat} {x : Int} {t : Nat} (d : decode cc pc = .ok (.tableswitch dflt lo hi offs, len)) (hx : gR x) (h3 : x < lo ∨ hi < x) (ht : (pc : Int) + dflt = (t : Int))
    (kk : gaP p l e R s m args below meth c G nL Z t lv st h k j) : gaP p l e R s m args below meth c G nL Z pc lv (gi x :: st) h k j := by
  have e := gi_to hx
  exact g_tableOut V d (by rw [e]; exact h3) ht kk
theorem ga_none : ∀ E h', (fun (_ : String) (_ : gaH) => False) E h' → gaO p l e R s m args below meth c G nL Z pc lv E h' k j := fun _ _ hx => hx.elim
end GAL
