section GAN
variable {p : Program} {l : Launch} {e : Env} {R : Room} {s : State} {m : MethodId} {args : Array Value} {below : List Frame} {meth : Method} {c : Code} {G : gaG} {cc : ByteArray} {own : String} {nL : Nat} {ws : List Cond} {ret : Option FieldType} {nm : String} {Q : Option Value → gaH → Prop} {X : String → gaH → Prop} {Z : State → Prop}
variable {pc n : Nat} {lv : List (Option Value)} {st : List Value} {h : gaH} {k j : Nat} {H : Heap} {locs : List Loc} {cells slots : Nat}
theorem gaR.kept (hR : gaR G s h H) {H1 : Heap} (hq : ∀ q : Nat, q < H.size → H1[q]? = H[q]?) : gaR G s h H1 := by
  intro b e2 hb
  have hl := hR.lt hb
  rcases hR b e2 hb with ⟨q1, q2, q3⟩ | ⟨q1, q3⟩
  · exact Or.inl ⟨q1, q2, q3.kept (hq b hl)⟩
  · exact Or.inr ⟨q1, q3.kept (hq b hl)⟩
theorem gaF.le (h : gaF G s s.heap) (hS : va_S (gaA G) s.heap H locs) : G.2.2.1 ≤ H.size := Nat.le_trans h.2.2.1 hS.1
theorem va_S.grow {A : Nat → Prop} {H0 H1 : Heap} (hS : va_S A H0 H locs) (hz : H.size ≤ H1.size) (hq : ∀ q : Nat, q < H.size → H1[q]? = H[q]?) : va_S A H0 H1 locs :=
  ⟨Nat.le_trans hS.1 hz, fun x h1 h2 => (hq x (Nat.lt_of_lt_of_le h1 hS.1)).trans (hS.2.1 x h1 h2), hS.2.2⟩
theorem g_new (V : gaV p l s m args meth c G cc own nL ws ret nm) {C : String} {T : u_T} {N ci index : Nat} (ty0 : Nat → FieldType) (hty : ∀ k, k < N → parseFieldDescriptor (T k).2.2.1 = some (ty0 k)) (hc : vwCl[ci]? = some (C, T, N)) (hin : ∀ w ∈ u_ws C T N, w ∈ ws) (hci : ci < 100)
    (hcl : Cond.classLink own index C ∈ ws) (hinst : Cond.instantiable C N ∈ ws) (hini : Cond.initialized C ∈ ws) {fs : List Value} (hfs : ∀ q, q < N → defaultValue (ty0 q) = vp_V fs q) (d : decode cc pc = .ok (.new index, 3)) (hn : pc + 3 = n) (hk : 1 ≤ k) (hj : N ≤ j)
    (kk : ∀ a : Nat, h a = none → gaP p l e R s m args below meth c G nL Z n lv (.ref a :: st) (gaUp h a (ci, fs)) (k - 1) (j - N)) : gaP p l e R s m args below meth c G nL Z pc lv st h k j := by
  subst hn
  intro H locs ls cells slots hR hS hL h1 h2
  have hts := V.2.2.2.2.1
  have hF := V.2.2.2.2.2.2.2.2.2.1
  have hKn := hF.1.1 ci _ hc
  refine W.newcK V.1 V.2.1 V.2.2.2.1 (hts _ hcl) (hts _ hinst) (hts _ hini) rfl d (by omega) (by omega) hKn.2.1 rfl fun H1 kC hkC e1 z1 o1 => ?_
  refine kk H.size hR.fresh H1 locs ls (cells + 1) (slots + N) (hR.set (by dsimp only; omega) (hF.le hS) ⟨fun _ => ⟨_, hc, (u_born ty0 hts hin hKn hkC e1 hty).to hfs⟩, fun q => ?_⟩ (fun q _ hq => o1 q hq)) (hS.grow (by omega) o1) hL (by omega) (by omega)
  dsimp only at q
  omega
theorem g_newarray (V : gaV p l s m args meth c G cc own nL ws ret nm) {atype : ArrayType} {t : Nat} (hT : t = 100 ∨ t = 101 ∨ t = 102) (hty : newarray.typeOf atype = gaTy t) (harr : Cond.arrayClass (newarray.typeOf atype) ∈ ws) {x : Int32} (h0 : ¬ x < 0) (hb : x.toNatClampNeg ≤ 100000) (d : decode cc pc = .ok (.newarray atype, 2)) (hn : pc + 2 = n) (hk : 1 ≤ k) (hj : x.toNatClampNeg ≤ j)
    (kk : ∀ a : Nat, h a = none → gaP p l e R s m args below meth c G nL Z n lv (.ref a :: st) (gaUp h a (t, List.replicate x.toNatClampNeg (.int 0))) (k - 1) (j - x.toNatClampNeg)) : gaP p l e R s m args below meth c G nL Z pc lv (.int x :: st) h k j := by
  subst hn
  intro H locs ls cells slots hR hS hL h1 h2
  have hF := V.2.2.2.2.2.2.2.2.2.1
  have hT2 : gaT t := by unfold gaT; omega
  obtain ⟨kA, comp, f1, f2, f3, f4⟩ := hF.2.1 t hT2
  have hdef : defaultValue (newarray.typeOf atype) = .int 0 := by rw [hty]; rcases hT with rfl | rfl | rfl <;> rfl
  have hcb : componentBytes (newarray.typeOf atype) ≤ 8 := by rw [hty]; rcases hT with rfl | rfl | rfl <;> decide
  refine W.newa V.1 V.2.1 (V.2.2.2.2.1 _ harr) rfl d rfl h0 ?_ (by omega) (by omega) fun cA kA2 comp2 g1 g2 g3 => ?_
  · calc x.toNatClampNeg * componentBytes (newarray.typeOf atype) ≤ 100000 * 8 := Nat.mul_le_mul hb hcb
      _ ≤ 536870912 := by decide
  · rw [hty] at g1
    cases Option.some.inj (f1.symm.trans g1)
    rw [hdef]
    refine kk H.size hR.fresh _ locs ls (cells + 1) (slots + x.toNatClampNeg) (hR.set (by dsimp only; omega) (hF.le hS) ⟨fun q => ?_, fun _ => ?_⟩ (fun q _ hq => ?_)) (hS.grow (by simp) (fun q hq => ?_)) hL (by omega) (by omega)
    · dsimp only at q
      omega
    · simp
    · rw [Array.getElem?_push, if_neg (Nat.ne_of_lt hq)]
    · rw [Array.getElem?_push, if_neg (Nat.ne_of_lt hq)]
theorem g_anewarray (V : gaV p l s m args meth c G cc own nL ws ret nm) {t index : Nat} (hT : t = 110 ∨ t = 111) (hcl : Cond.classLink own index (gaCn t) ∈ ws) {x : Int32} (h0 : ¬ x < 0) (hb : x.toNatClampNeg ≤ 100000) (d : decode cc pc = .ok (.anewarray index, 3)) (hn : pc + 3 = n) (hk : 1 ≤ k) (hj : x.toNatClampNeg ≤ j)
    (kk : ∀ a : Nat, h a = none → gaP p l e R s m args below meth c G nL Z n lv (.ref a :: st) (gaUp h a (t, List.replicate x.toNatClampNeg .null)) (k - 1) (j - x.toNatClampNeg)) : gaP p l e R s m args below meth c G nL Z pc lv (.int x :: st) h k j := by
  subst hn
  intro H locs ls cells slots hR hS hL h1 h2
  have hF := V.2.2.2.2.2.2.2.2.2.1
  have hT2 : gaT t := by unfold gaT; omega
  obtain ⟨kA, comp, f1, f2, f3, f4⟩ := hF.2.1 t hT2
  have hty : gaTy t = .object (gaCn t) := by rcases hT with rfl | rfl <;> rfl
  have hov := hF.2.2.2.2.2.2.2.2 t (by omega)
  rw [hty] at hov f1
  refine W.anew V.1 V.2.1 V.2.2.2.1 (V.2.2.2.2.1 _ hcl) hov rfl d rfl h0 (by omega) (by omega) (by omega) fun cA kA2 comp2 g1 g2 g3 g4 => ?_
  cases Option.some.inj (f1.symm.trans g1)
  refine kk H.size hR.fresh _ locs ls (cells + 1) (slots + x.toNatClampNeg) (hR.set (by dsimp only; omega) (hF.le hS) ⟨fun q => ?_, fun _ => ?_⟩ (fun q _ hq => ?_)) (hS.grow (by simp) (fun q hq => ?_)) hL (by omega) (by omega)
  · dsimp only at q
    omega
  · simp
  · rw [Array.getElem?_push, if_neg (Nat.ne_of_lt hq)]
  · rw [Array.getElem?_push, if_neg (Nat.ne_of_lt hq)]
theorem g_aastoreO (V : gaV p l s m args meth c G cc own nL ws ret nm) {a b t ci N : Nat} {T : u_T} {vs fs : List Value} {i : Int32} (hT : t = 110 ∨ t = 111) (hc : vwCl[ci]? = some (gaCn t, T, N)) (hci : ci < 100) (ha : h a = some (t, vs)) (hv : h b = some (ci, fs)) (h0 : ¬ i < 0) (hi : i.toNatClampNeg < vs.length) (d : decode cc pc = .ok (.aastore, 1)) (hn : pc + 1 = n)
    (kk : gaP p l e R s m args below meth c G nL Z n lv st (gaUp h a (t, vs.set i.toNatClampNeg (.ref b))) k j) : gaP p l e R s m args below meth c G nL Z pc lv (.ref b :: .int i :: .ref a :: st) h k j := by
  subst hn
  intro H locs ls cells slots hR hS hL h1 h2
  have hF := V.2.2.2.2.2.2.2.2.2.1
  obtain ⟨g1, hB⟩ := hR.mine ha (by omega) (by omega)
  obtain ⟨hP, -⟩ := hR.obj hci hv
  obtain ⟨r', hr', cellV, v1, v2, v3, -⟩ := hP 0 _ rfl
  have hcls := (hF.1.1 ci _ hc).2
  obtain ⟨kA, comp, f1, f2, f3, f4⟩ := hF.2.1 t (by unfold gaT; omega)
  have hcomp : comp = G.1.1 ci := Option.some.inj ((f4 (by omega)).symm.trans hcls.1)
  subst hcomp
  obtain ⟨kC, hkC, -⟩ := hcls.2
  exact W.aast V.1 V.2.1 g1 (fun q h => by cases h) (fun h => by cases h) f2 f3 (by rcases hT with rfl | rfl <;> rfl) hkC ⟨h0, by simpa using hi⟩ v1 (fun q h => by rw [v3] at h; cases h) (by rw [v2]; exact hkC) (by rw [v2]; exact va_assign hcls) rfl rfl d (fun H' e1 e2 e3 => kk H' _ ls cells slots (hR.ast (by omega) (by omega) hB e1 e3) (hS.put e2 e3 hB) hL h1 h2)
theorem g_gets (V : gaV p l s m args meth c G cc own nL ws ret nm) {C f d0 : String} {v : Value} {index : Nat} (hZ : va_Z C f d0 v (gaA G) s s.heap) (hlink : Cond.fieldLink own index C f d0 ∈ ws) (d : decode cc pc = .ok (.getstatic index, 3)) (hn : pc + 3 = n)
    (kk : gaP p l e R s m args below meth c G nL Z n lv (v :: st) h k j) : gaP p l e R s m args below meth c G nL Z pc lv st h k j := by
  subst hn
  intro H locs ls cells slots hR hS hL h1 h2
  exact va_gets V.1 V.2.1 hZ hS V.2.2.2.1 (V.2.2.2.2.1 _ hlink) (fun _ q => q) d (kk H locs ls cells slots hR hS hL h1 h2)
theorem g_objInit (V : gaV p l s m args meth c G cc own nL ws ret nm) {a index : Nat} (w1 : Cond.methodLink own index Lib.objectInit ∈ ws) (w2 : Cond.instanceMethod Lib.objectInit ∈ ws) (w3 : Cond.code Lib.objectInit ⟨#[0xb1]⟩ 1 none ∈ ws) (d : decode cc pc = .ok (.invokespecial index, 3)) (hfr : 1 ≤ R.frames) (hlo : 20 ≤ R.locals) (hcat : (st.map fun v => v.category).sum ≤ 8) (hn : pc + 3 = n)
    (kk : gaP p l e R s m args below meth c G nL Z n lv st h k j) : gaP p l e R s m args below meth c G nL Z pc lv (.ref a :: st) h k j := by
  subst hn
  intro H locs ls cells slots hR hS hL h1 h2
  have hr := lv_room (pc := pc) (m := m) (ls := ls) (rest := .ref a :: st) hcat
  have hts := V.2.2.2.2.1
  exact W.objInit V.1 V.2.1 V.2.2.2.1 (hts _ w1) (hts _ w2) (hts _ w3) rfl (by rw [V.2.2.1]; exact hL.1) rfl d hfr (by omega) (kk H locs ls cells slots hR hS hL h1 h2)
end GAN
