theorem gaIn {ws : List Cond} (h : ∀ w ∈ ws, w ∈ gaW) : GoodIn gaW ws := fun w hw => ⟨h w hw, gaW_good (h w hw)⟩
theorem gaIn1 {a : Cond} {ws : List Cond} (ha : a ∈ gaW) (h : ∀ w ∈ ws, w ∈ gaW) : ∀ w ∈ a :: ws, w ∈ gaW := fun w hw => (List.mem_cons.mp hw).elim (fun e => e ▸ ha) (h w)
theorem gaIn0 : ∀ w ∈ gaW, w ∈ gaW := fun _ h => h
/-- a method's words: its own code, and all that the tables say -/
abbrev gaM (y : MethodName) (cc : ByteArray) (nL : Nat) (ret : Option FieldType) : List Cond := .code y cc nL ret :: gaW
abbrev gaNoMH (y : MethodName) : Prop := y.cls ≠ "java/lang/invoke/MethodHandle" ∧ y.cls ≠ "java/lang/invoke/VarHandle"
section GAU
variable {ws : List Cond}
variable {p : Program} {l : Launch} {e : Env} {R : Room} {s : State} {m : MethodId} {args : Array Value} {below : List Frame} {meth : Method} {c : Code} {G : gaG} {cc : ByteArray} {own : String} {nL : Nat} {ret : Option FieldType} {nm : String} {Q : Option Value → gaH → Prop} {X : String → gaH → Prop} {Z : State → Prop}
variable {pc n : Nat} {lv : List (Option Value)} {st : List Value} {h : gaH} {k j : Nat} {H : Heap} {locs : List Loc} {cells slots : Nat}
theorem gaBlind (av : List Value) : FrameBlind (va_Pc av (fun U => gaR G U h U.heap ∧ gaF G U U.heap)) :=
  fun _ U g mk q => ⟨q.1, q.2.1.moved (u := U) (U := U.calling g mk _) (Vm.Alike.refl U.vm), gaF.same (u := U) (U := U.calling g mk _) rfl q.2.2⟩
theorem gaPre (V : gaV p l s m args meth c G cc own nL gaW ret nm) (hR : gaR G s h H) (hS : va_S (gaA G) s.heap H locs) (av : List Value) : ∀ U : State, U.heap = H → s.WarmedH U.vm → va_Pc av (fun U => gaR G U h U.heap ∧ gaF G U U.heap) av.toArray U := by
  intro U hU hW
  refine ⟨rfl, ?_, ?_⟩
  · rw [hU]
    exact hR.moved hW.alike
  · rw [hU]
    exact V.2.2.2.2.2.2.2.2.2.1.on hS hW
theorem gaRecv (V : gaV p l s m args meth c G cc own nL gaW ret nm) (hR : gaR G s h H) {C : String} {T : u_T} {N ci b : Nat} {fs : List Value} (hc : vwCl[ci]? = some (C, T, N)) (hci : ci < 100) (hb : h b = some (ci, fs)) : ∃ cellB : Cell, H[b]? = some cellB ∧ cellB.vm.isStatics = false ∧ s.vm.findClass C = some cellB.cls :=
  va_recv V.2.2.2.2.2.2.2.2.2.1.1 (hR.obj hci hb).1 hc (q0 := 0) rfl
theorem gaAfter (V : gaV p l s m args meth c G cc own nL gaW ret nm) {ls : Array Slot} {st0 : List Value} {mc ms : Nat} {a : Array Value} {Q2 : Option Value → gaH → Prop} {X2 : String → gaH → Prop}
    (hr : vx_Run p l e R s m args below meth c H locs cells slots mc ms (F0 m pc ls st0) st (gaQ G Q2 a) (gaX G X2) (gaA G)) (hS : va_S (gaA G) s.heap H locs) (hL : gaL ls nL lv) (h1 : cells + k ≤ R.cells) (h2 : slots + j ≤ R.slots) (hk : mc ≤ k) (hj : ms ≤ j) (hX : ∀ E h', X2 E h' → gaO p l e R s m args below meth c G nL Z pc lv E h' (k - mc) (j - ms))
    (kk : ∀ v h', Q2 v h' → gaP p l e R s m args below meth c G nL Z (pc + 3) lv (v.toList ++ st) h' (k - mc) (j - ms)) :
    W p l e R s m args below meth c H locs cells slots Z (F0 m pc ls st0) := by
  intro T hT X9
  rcases hr T hT X9 with ⟨v, st₀, t, T', L, e0, X', hL', e1, e2, ⟨v', h', hv, hq, hR', hF⟩, hst⟩ | ⟨q, st₀, t, T', L, E, ce, e0, X', hL', e1, e2, ⟨h', hx, hR', hF⟩, hce, hcv, hcl, hst⟩
  · cases hv
    obtain ⟨k1, k2, k3⟩ := vx_keep e0 e1 hS (fun _ _ q => q) (fun _ q => q) hL' hF
    have hal : s.vm.Alike t.vm := by rw [← e2]; exact X'.warmed.alike
    have hR2 : gaR G s h' T'.heap := by rw [e1]; exact hR'.moved hal.symm
    obtain ⟨t2, a1, b1⟩ := kk v h' hq T'.heap (locs ++ L) ls (cells + mc) (slots + ms) hR2 k3 hL (by omega) (by omega) T' rfl X'
    exact ⟨t2, hst t2 a1, b1⟩
  · obtain ⟨k1, k2, k3⟩ := vx_keep e0 e1 hS (fun _ _ q => q) (fun _ q => q) hL' hF
    have hal : s.vm.Alike t.vm := by rw [← e2]; exact X'.warmed.alike
    have hR2 : gaR G s h' T'.heap := by rw [e1]; exact hR'.moved hal.symm
    have hout : vx_W p l e R s m args below meth c T'.heap (locs ++ L) (cells + mc) (slots + ms) Z (F0 m pc ls st) q :=
      hX E h' hx T'.heap (locs ++ L) ls st (cells + mc) (slots + ms) q ce hR2 k3 hL (by omega) (by omega) (by rw [e1]; exact hce) hcv hcl
    obtain ⟨t2, a1, b1⟩ := hout T' rfl X'
    exact ⟨t2, hst.trans a1, b1⟩
theorem gaO_out (hT : ∀ x ∈ c.exceptionTable.toList, False) (V : gaV p l s m args meth c G cc own nL ws ret nm) {E : String} (hx : X E h) : gaO p l e R s m args below meth c G nL (gaZ below G Q X args s R) pc lv E h k j := by
  intro H locs ls rest cells slots q ce hR hS hL h1 h2 hce hcv hcl
  exact vx_out (fun x hx9 => (hT x hx9).elim) V.2.2.2.2.2.2.1 hce hcv hcl (fun t2 ht hW => ⟨h, hx, by rw [ht]; exact hR.moved hW, hS.F ht⟩) hS.2.2 (by omega) (by omega)
theorem gaX_all (hT : ∀ x ∈ c.exceptionTable.toList, False) (V : gaV p l s m args meth c G cc own nL ws ret nm) : ∀ E h', X E h' → gaO p l e R s m args below meth c G nL (gaZ below G Q X args s R) pc lv E h' k j := fun _ _ hx => gaO_out hT V hx
theorem g_callV (V : gaV p l s m args meth c G cc own nL gaW ret nm) {y : MethodName} {C : String} {T : u_T} {N ci b index maxL nP : Nat} {fs : List Value} {bytes : ByteArray} {retf : Option FieldType} {rm : Room} {As st0 : List Value} {Q2 : Option Value → gaH → Prop} {X2 : String → gaH → Prop}
    (hM : gaC l G y (gaM y bytes maxL retf) rm (.ref b :: As) h Q2 X2) (w1 : Cond.methodLink own index y ∈ gaW) (w2 : Cond.instanceMethod y ∈ gaW) (w3 : Cond.selects C y y ∈ gaW) (w4 : Cond.initialized C ∈ gaW) (w5 : Cond.code y bytes maxL retf ∈ gaW)
    (hd : y.cls = C ∧ y.cls ≠ "java/lang/invoke/MethodHandle" ∧ y.cls ≠ "java/lang/invoke/VarHandle" ∧ (parseMethodDescriptor y.desc).map (fun d => d.parameters.length) = some nP) (hRm : rm.frames + 1 ≤ R.frames ∧ 8 + (maxL + 11) + rm.locals ≤ R.locals)
    (hc : vwCl[ci]? = some (C, T, N)) (hci : ci < 100) (hb : h b = some (ci, fs)) (hnp : As.length = nP) (hst : st0 = As.reverse ++ .ref b :: st) (hcat : (st.map fun v => v.category).sum ≤ 8) (d : decode cc pc = .ok (.invokevirtual index, 3)) (hk : rm.cells ≤ k) (hj : rm.slots ≤ j) (hn : pc + 3 = n) (hX : ∀ E h', X2 E h' → gaO p l e R s m args below meth c G nL Z pc lv E h' (k - rm.cells) (j - rm.slots))
    (kk : ∀ v h', Q2 v h' → gaP p l e R s m args below meth c G nL Z n lv (v.toList ++ st) h' (k - rm.cells) (j - rm.slots)) : gaP p l e R s m args below meth c G nL Z pc lv st0 h k j := by
  subst hn
  subst hst
  intro H locs ls cells slots hR hS hL h1 h2
  exact gaAfter V (vx_runV (As := As) (rest := st) ⟨V.1, V.2.1, V.2.2.1, V.2.2.2.1, V.2.2.2.2.1⟩ hM (cwV nP V.2.2.2.2.1 (gaIn (by unfold wsV; exact gaIn1 w1 (gaIn1 w2 (gaIn1 w3 (gaIn1 w4 (gaIn1 w5 gaIn0)))))) rfl rfl rfl hd hRm) ⟨gaBlind _, gaRecv V hR hc hci hb, gaPre V hR hS _⟩ rfl hnp hL.1 rfl (lv_room hcat) d ⟨by omega, by omega⟩) hS hL h1 h2 hk hj hX kk
theorem g_callS (V : gaV p l s m args meth c G cc own nL gaW ret nm) {y : MethodName} {index maxL nP : Nat} {bytes : ByteArray} {retf : Option FieldType} {rm : Room} {As st0 : List Value} {Q2 : Option Value → gaH → Prop} {X2 : String → gaH → Prop}
    (hM : gaC l G y (gaM y bytes maxL retf) rm As h Q2 X2) (w1 : Cond.methodLink own index y ∈ gaW) (w2 : Cond.static y ∈ gaW) (w4 : Cond.initialized y.cls ∈ gaW) (w5 : Cond.code y bytes maxL retf ∈ gaW)
    (hd : y.cls ≠ "java/lang/invoke/MethodHandle" ∧ y.cls ≠ "java/lang/invoke/VarHandle" ∧ (parseMethodDescriptor y.desc).map (fun d => d.parameters.length) = some nP) (hRm : rm.frames + 1 ≤ R.frames ∧ 8 + (maxL + 11) + rm.locals ≤ R.locals)
    (hnp : As.length = nP) (hst : st0 = As.reverse ++ st) (hcat : (st.map fun v => v.category).sum ≤ 8) (d : decode cc pc = .ok (.invokestatic index, 3)) (hk : rm.cells ≤ k) (hj : rm.slots ≤ j) (hn : pc + 3 = n) (hX : ∀ E h', X2 E h' → gaO p l e R s m args below meth c G nL Z pc lv E h' (k - rm.cells) (j - rm.slots))
    (kk : ∀ v h', Q2 v h' → gaP p l e R s m args below meth c G nL Z n lv (v.toList ++ st) h' (k - rm.cells) (j - rm.slots)) : gaP p l e R s m args below meth c G nL Z pc lv st0 h k j := by
  subst hn
  subst hst
  intro H locs ls cells slots hR hS hL h1 h2
  have hts := V.2.2.2.2.1
  exact gaAfter V (vx_runS (As := As) (rest := st) ⟨V.1, V.2.1, V.2.2.1, V.2.2.2.1, V.2.2.2.2.1⟩ hM ⟨callB_of nP hts (gaIn (gaIn1 w5 gaIn0)) rfl rfl rfl (hts _ w4) (hts _ w1) hd hRm, hts _ w2⟩ ⟨gaBlind _, gaPre V hR hS _⟩ rfl hnp hL.1 rfl (lv_room hcat) d ⟨by omega, by omega⟩) hS hL h1 h2 hk hj hX kk
theorem g_callSN (V : gaV p l s m args meth c G cc own nL gaW ret nm) {y : MethodName} {host : String} {index maxL nP : Nat} {bytes : ByteArray} {retf : Option FieldType} {rm : Room} {As st0 : List Value} {Q2 : Option Value → gaH → Prop} {X2 : String → gaH → Prop}
    (hM : gaC l G y (gaM y bytes maxL retf) rm As h Q2 X2) (w1 : Cond.methodLinkNest own index y host ∈ gaNests) (w2 : Cond.static y ∈ gaW) (w4 : Cond.initialized y.cls ∈ gaW) (w5 : Cond.code y bytes maxL retf ∈ gaW)
    (hd : y.cls ≠ "java/lang/invoke/MethodHandle" ∧ y.cls ≠ "java/lang/invoke/VarHandle" ∧ (parseMethodDescriptor y.desc).map (fun d => d.parameters.length) = some nP) (hRm : rm.frames + 1 ≤ R.frames ∧ 8 + (maxL + 11) + rm.locals ≤ R.locals)
    (hnp : As.length = nP) (hst : st0 = As.reverse ++ st) (hcat : (st.map fun v => v.category).sum ≤ 8) (d : decode cc pc = .ok (.invokestatic index, 3)) (hk : rm.cells ≤ k) (hj : rm.slots ≤ j) (hn : pc + 3 = n) (hX : ∀ E h', X2 E h' → gaO p l e R s m args below meth c G nL Z pc lv E h' (k - rm.cells) (j - rm.slots))
    (kk : ∀ v h', Q2 v h' → gaP p l e R s m args below meth c G nL Z n lv (v.toList ++ st) h' (k - rm.cells) (j - rm.slots)) : gaP p l e R s m args below meth c G nL Z pc lv st0 h k j := by
  subst hn
  subst hst
  intro H locs ls cells slots hR hS hL h1 h2
  have hts := V.2.2.2.2.1
  exact gaAfter V (vx_runSN (As := As) (rest := st) ⟨V.1, V.2.1, V.2.2.1, V.2.2.2.1, V.2.2.2.2.1⟩ hM ⟨va_cnB nP hts (gaIn (gaIn1 w5 gaIn0)) rfl rfl rfl (V.2.2.2.2.2.2.2.2.2.1.2.2.2.2.2.2.1 _ w1) (hts _ w4) hd hRm, hts _ w2, trivial⟩ ⟨gaBlind _, gaPre V hR hS _⟩ rfl hnp hL.1 rfl (lv_room hcat) d ⟨by omega, by omega⟩) hS hL h1 h2 hk hj hX kk
theorem g_callI (V : gaV p l s m args meth c G cc own nL gaW ret nm) {y : MethodName} {b index maxL nP : Nat} {bytes : ByteArray} {rm : Room} {As st0 : List Value} {Q2 : Option Value → gaH → Prop} {X2 : String → gaH → Prop}
    (hM : gaC l G y (gaM y bytes maxL none) rm (.ref b :: As) h Q2 X2) (w1 : Cond.methodLink own index y ∈ gaW) (w2 : Cond.instanceMethod y ∈ gaW) (w4 : Cond.initialized y.cls ∈ gaW) (w5 : Cond.code y bytes maxL none ∈ gaW) (hinit : y.name = "<init>")
    (hd : y.cls ≠ "java/lang/invoke/MethodHandle" ∧ y.cls ≠ "java/lang/invoke/VarHandle" ∧ (parseMethodDescriptor y.desc).map (fun d => d.parameters.length) = some nP) (hRm : rm.frames + 1 ≤ R.frames ∧ 8 + (maxL + 11) + rm.locals ≤ R.locals)
    (hnp : As.length = nP) (hst : st0 = As.reverse ++ .ref b :: st) (hcat : (st.map fun v => v.category).sum ≤ 8) (d : decode cc pc = .ok (.invokespecial index, 3)) (hk : rm.cells ≤ k) (hj : rm.slots ≤ j) (hn : pc + 3 = n) (hX : ∀ E h', X2 E h' → gaO p l e R s m args below meth c G nL Z pc lv E h' (k - rm.cells) (j - rm.slots))
    (kk : ∀ v h', Q2 v h' → gaP p l e R s m args below meth c G nL Z n lv (v.toList ++ st) h' (k - rm.cells) (j - rm.slots)) : gaP p l e R s m args below meth c G nL Z pc lv st0 h k j := by
  subst hn
  subst hst
  intro H locs ls cells slots hR hS hL h1 h2
  have hts := V.2.2.2.2.1
  exact gaAfter V (vx_runI (As := As) (rest := st) ⟨V.1, V.2.1, V.2.2.1, V.2.2.2.1, V.2.2.2.2.1⟩ hM ⟨callB_of nP hts (gaIn (gaIn1 w5 gaIn0)) rfl rfl rfl (hts _ w4) (hts _ w1) hd hRm, hinit, hts _ w2⟩ ⟨gaBlind _, gaPre V hR hS _⟩ rfl hnp hL.1 rfl (lv_room hcat) d ⟨by omega, by omega⟩) hS hL h1 h2 hk hj hX kk
theorem g_callIN (V : gaV p l s m args meth c G cc own nL gaW ret nm) {y : MethodName} {host : String} {b index maxL nP : Nat} {bytes : ByteArray} {rm : Room} {As st0 : List Value} {Q2 : Option Value → gaH → Prop} {X2 : String → gaH → Prop}
    (hM : gaC l G y (gaM y bytes maxL none) rm (.ref b :: As) h Q2 X2) (w1 : Cond.methodLinkNest own index y host ∈ gaNests) (w2 : Cond.instanceMethod y ∈ gaW) (w4 : Cond.initialized y.cls ∈ gaW) (w5 : Cond.code y bytes maxL none ∈ gaW) (hinit : y.name = "<init>")
    (hd : y.cls ≠ "java/lang/invoke/MethodHandle" ∧ y.cls ≠ "java/lang/invoke/VarHandle" ∧ (parseMethodDescriptor y.desc).map (fun d => d.parameters.length) = some nP) (hRm : rm.frames + 1 ≤ R.frames ∧ 8 + (maxL + 11) + rm.locals ≤ R.locals)
    (hnp : As.length = nP) (hst : st0 = As.reverse ++ .ref b :: st) (hcat : (st.map fun v => v.category).sum ≤ 8) (d : decode cc pc = .ok (.invokespecial index, 3)) (hk : rm.cells ≤ k) (hj : rm.slots ≤ j) (hn : pc + 3 = n) (hX : ∀ E h', X2 E h' → gaO p l e R s m args below meth c G nL Z pc lv E h' (k - rm.cells) (j - rm.slots))
    (kk : ∀ v h', Q2 v h' → gaP p l e R s m args below meth c G nL Z n lv (v.toList ++ st) h' (k - rm.cells) (j - rm.slots)) : gaP p l e R s m args below meth c G nL Z pc lv st0 h k j := by
  subst hn
  subst hst
  intro H locs ls cells slots hR hS hL h1 h2
  have hts := V.2.2.2.2.1
  exact gaAfter V (vx_runIN (As := As) (rest := st) ⟨V.1, V.2.1, V.2.2.1, V.2.2.2.1, V.2.2.2.2.1⟩ hM ⟨va_cnB nP hts (gaIn (gaIn1 w5 gaIn0)) rfl rfl rfl (V.2.2.2.2.2.2.2.2.2.1.2.2.2.2.2.2.1 _ w1) (hts _ w4) hd hRm, hinit, hts _ w2⟩ ⟨gaBlind _, gaPre V hR hS _⟩ rfl hnp hL.1 rfl (lv_room hcat) d ⟨by omega, by omega⟩) hS hL h1 h2 hk hj hX kk
/-- a method of the class above, found by the receiver -/
theorem g_callU (V : gaV p l s m args meth c G cc own nL gaW ret nm) {x y : MethodName} {C owner : String} {T : u_T} {N ci b index maxL nP : Nat} {fs : List Value} {bytes : ByteArray} {retf : Option FieldType} {rm : Room} {As st0 : List Value} {Q2 : Option Value → gaH → Prop} {X2 : String → gaH → Prop}
    (hM : gaC l G y (gaM y bytes maxL retf) rm (.ref b :: As) h Q2 X2) (w1 : Cond.methodLink own index x ∈ gaW) (w6 : Cond.sameMethod x.cls owner x.name x.desc ∈ gaW) (w2 : Cond.instanceMethod y ∈ gaW) (w3 : Cond.selects C x y ∈ gaW) (w4 : Cond.initialized y.cls ∈ gaW) (w5 : Cond.code y bytes maxL retf ∈ gaW)
    (hyx : y = ⟨owner, x.name, x.desc⟩) (hd : owner ≠ "java/lang/invoke/MethodHandle" ∧ owner ≠ "java/lang/invoke/VarHandle" ∧ (parseMethodDescriptor x.desc).map (fun d => d.parameters.length) = some nP) (hRm : rm.frames + 1 ≤ R.frames ∧ 8 + (maxL + 11) + rm.locals ≤ R.locals)
    (hc : vwCl[ci]? = some (C, T, N)) (hci : ci < 100) (hb : h b = some (ci, fs)) (hnp : As.length = nP) (hst : st0 = As.reverse ++ .ref b :: st) (hcat : (st.map fun v => v.category).sum ≤ 8) (d : decode cc pc = .ok (.invokevirtual index, 3)) (hk : rm.cells ≤ k) (hj : rm.slots ≤ j) (hn : pc + 3 = n) (hX : ∀ E h', X2 E h' → gaO p l e R s m args below meth c G nL Z pc lv E h' (k - rm.cells) (j - rm.slots))
    (kk : ∀ v h', Q2 v h' → gaP p l e R s m args below meth c G nL Z n lv (v.toList ++ st) h' (k - rm.cells) (j - rm.slots)) : gaP p l e R s m args below meth c G nL Z pc lv st0 h k j := by
  subst hn
  subst hst
  intro H locs ls cells slots hR hS hL h1 h2
  exact gaAfter V (vx_runU (As := As) (rest := st) ⟨V.1, V.2.1, V.2.2.1, V.2.2.2.1, V.2.2.2.2.1⟩ hM (va_cwU nP V.2.2.2.2.1 (gaIn (by unfold va_wsU; exact gaIn1 w1 (gaIn1 w6 (gaIn1 w3 (gaIn1 w2 (gaIn1 w4 (gaIn1 w5 gaIn0))))))) rfl rfl rfl hyx hd hRm) ⟨gaBlind _, gaRecv V hR hc hci hb, gaPre V hR hS _⟩ rfl hnp hL.1 rfl (lv_room hcat) d ⟨by omega, by omega⟩) hS hL h1 h2 hk hj hX kk
/-- super.m(..) -/
theorem g_callSU (V : gaV p l s m args meth c G cc own nL gaW ret nm) {y : MethodName} {C : String} {T : u_T} {N ci b index maxL nP : Nat} {fs : List Value} {bytes : ByteArray} {retf : Option FieldType} {rm : Room} {As st0 : List Value} {Q2 : Option Value → gaH → Prop} {X2 : String → gaH → Prop}
    (hM : gaC l G y (gaM y bytes maxL retf) rm (.ref b :: As) h Q2 X2) (w1 : Cond.methodLink own index y ∈ gaW) (w6 : Cond.sameMethod y.cls y.cls y.name y.desc ∈ gaW) (w7 : Cond.superclass own y.cls ∈ gaW) (w2 : Cond.instanceMethod y ∈ gaW) (w4 : Cond.initialized y.cls ∈ gaW) (w5 : Cond.code y bytes maxL retf ∈ gaW)
    (hd : y.name ≠ "<init>" ∧ (parseMethodDescriptor y.desc).map (fun d => d.parameters.length) = some nP) (hRm : rm.frames + 1 ≤ R.frames ∧ 8 + (maxL + 11) + rm.locals ≤ R.locals)
    (hc : vwCl[ci]? = some (C, T, N)) (hci : ci < 100) (hb : h b = some (ci, fs)) (hnp : As.length = nP) (hst : st0 = As.reverse ++ .ref b :: st) (hcat : (st.map fun v => v.category).sum ≤ 8) (d : decode cc pc = .ok (.invokespecial index, 3)) (hk : rm.cells ≤ k) (hj : rm.slots ≤ j) (hn : pc + 3 = n) (hX : ∀ E h', X2 E h' → gaO p l e R s m args below meth c G nL Z pc lv E h' (k - rm.cells) (j - rm.slots))
    (kk : ∀ v h', Q2 v h' → gaP p l e R s m args below meth c G nL Z n lv (v.toList ++ st) h' (k - rm.cells) (j - rm.slots)) : gaP p l e R s m args below meth c G nL Z pc lv st0 h k j := by
  subst hn
  subst hst
  intro H locs ls cells slots hR hS hL h1 h2
  exact gaAfter V (vx_runSU (As := As) (rest := st) (V.2.2.2.2.2.2.2.2.2.1.1.1 ci _ hc).2 ⟨V.1, V.2.1, V.2.2.1, V.2.2.2.1, V.2.2.2.2.1⟩ hM (va_cwSU nP V.2.2.2.2.1 (gaIn (by unfold va_wsSU; exact gaIn1 w1 (gaIn1 w6 (gaIn1 w7 (gaIn1 w2 (gaIn1 w4 (gaIn1 w5 gaIn0))))))) rfl rfl rfl hd hRm) ⟨gaBlind _, gaRecv V hR hc hci hb, gaPre V hR hS _⟩ rfl hnp hL.1 rfl (lv_room hcat) d ⟨by omega, by omega⟩) hS hL h1 h2 hk hj hX kk
/-- throw new E("text") -/
theorem g_throw (hT : ∀ x ∈ c.exceptionTable.toList, False) (V : gaV p l s m args meth c G cc own nL gaW ret nm) {cls text : String} {names : List String} {ik is ic sa : Nat} (hcls : Bundle.fit cls = true) (hnames : ∀ n ∈ names, Bundle.fit n = true)
    (w1 : Cond.classLink own ik cls ∈ gaW) (w2 : Cond.initialized cls ∈ gaW) (hstr : (own, is, text, sa) ∈ gaStrs) (hat1 : ∀ w ∈ (vx_atS own ic cls names).filter goodWord, w ∈ gaW) (hat2 : ∀ w ∈ (vx_atS own ic cls names).filter (fun w => !goodWord w), w ∈ gaNests)
    (hgood : ∀ w ∈ Cond.classLink own ik cls :: Cond.initialized cls :: vx_atS own ic cls names, vx_ot w = true)
    (d0 : decode cc pc = .ok (.new ik, 3)) (d3 : decode cc (pc + 3) = .ok (.dup, 1)) (d4 : decode cc (pc + 4) = .ok (.ldc_w is, 3)) (d7 : decode cc (pc + 7) = .ok (.invokespecial ic, 3)) (d10 : decode cc (pc + 10) = .ok (.athrow, 1))
    (hRf : names.length + 3 < R.frames) (hRl : (st.map fun v => v.category).sum + (13 * (names.length + 1) + 43) ≤ R.locals) (hk : 1 ≤ k) (hj : 6 ≤ j) (hX : X cls h) : gaP p l e R s m args below meth c G nL (gaZ below G Q X args s R) pc lv st h k j := by
  intro H locs ls cells slots hR hS hL h1 h2
  have hts := V.2.2.2.2.1
  have hF := V.2.2.2.2.2.2.2.2.2.1
  have hstr9 := hF.2.2.2.2.2.1 _ hstr
  dsimp only at hstr9
  refine vx_throwSW V.1 V.2.1 V.2.2.2.2.2.2.2.2.2.2 V.2.2.2.1 hcls hnames (hts _ w1) (hts _ w2) hstr9 (vx_hat (fun w hw => hts w (hat1 w hw)) (fun w hw => hat2 w hw) (fun w hw => va_Nw.use (gaNest_tab (gaNests_ok w hw)) (hF.2.2.2.2.2.2.1 w hw))) hgood hF.2.2.2.2.1.1 hF.2.2.2.2.1.2 hS (by rw [V.2.2.1]; exact hL.1) d0 d3 d4 d7 d10 (fun x hx => (hT x hx).elim) hRf hRl (by omega) (by omega) V.2.2.2.2.2.2.1 ?_ hS.2.2 (by omega) (by omega)
  intro t hal hz hq
  refine ⟨h, hX, (hR.kept hq).moved hal, Nat.le_trans hS.1 hz, fun q q1 q2 => (hq q (Nat.lt_of_lt_of_le q1 hS.1)).trans (hS.2.1 q q1 q2)⟩
theorem g_start {l : Launch} {G : gaG} {y : MethodName} {cc : ByteArray} {nL : Nat} {ret : Option FieldType} {rm : Room} {av : List Value} {h : gaH} {Q : Option Value → gaH → Prop} {X : String → gaH → Prop} (hy : plainName y.cls = true) (hst : l.stackTraces = false) (hav : (lg_sl av).length ≤ nL) {lv : List (Option Value)} (hlv : ∀ (i : Nat) (v : Value), lv[i]? = some (some v) → (i, v) ∈ lv_args 0 av) (w : Cond.code y cc nL ret ∈ gaW)
    (body : ∀ (p : Program) (e : Env) (s : State) (m : MethodId) (args : Array Value) (below : List Frame) (meth : Method) (c : Code), gaV p l s m args meth c G cc y.cls nL gaW ret y.name → (∀ x ∈ c.exceptionTable.toList, False) → gaP p l e rm s m args below meth c G nL (gaZ below G Q X args s rm) 0 lv [] h rm.cells rm.slots) : gaC l G y (gaM y cc nL ret) rm av h Q X := by
  refine vx_ofW (cc := cc) (maxL := nL) (ret := ret) hy rfl ?_
  intro p e s m args below meth c s₁ B hml htab hv
  obtain ⟨rfl, hR, hF⟩ := hv
  have hts := atoms_spec (ws := gaM y cc nL ret) B.pre
  have hle := lv_entry av (n := nL) hav
  rw [lg_entry_eq]
  exact body p e s m _ below meth c ⟨B.exec, B.bytes, hml, findClass_of_methodNamed B.named, fun w hw => hts w (List.mem_cons_of_mem _ hw), B.returns, B.notSynchronized, trivial, (name_of_methodNamed B.named B.method).1, hF, hst⟩ htab s.heap [] _ 0 0 hR va_S.rf ⟨hle.1, hle.2.1, fun i v hi => hle.2.2 (i, v) (hlv i v hi)⟩ (Nat.le_of_eq (Nat.zero_add _)) (Nat.le_of_eq (Nat.zero_add _))
end GAU
