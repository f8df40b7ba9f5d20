section GAH
variable {H : Heap}
variable {p : Program} {l : Launch} {e : Env} {R : Room} {s : State} {m : MethodId} {args : Array Value} {below : List Frame} {meth : Method} {c : Code} {G : gaG} {cc : ByteArray} {own : String} {nL : Nat} {ws : List Cond} {ret : Option FieldType} {nm : String} {Q : Option Value → gaH → Prop} {X : String → gaH → Prop} {Z : State → Prop}
variable {pc n : Nat} {lv : List (Option Value)} {st : List Value} {h : gaH} {k j : Nat}
theorem gaR.obj (hR : gaR G s h H) {a ci : Nat} {fs : List Value} (hci : ci < 100) (ha : h a = some (ci, fs)) : va_P G.1 vwCl [(a, .inr (ci, fs))] H ∧ G.2.2.1 ≤ a := by
  rcases hR a _ ha with ⟨q1, q2, q3⟩ | ⟨q1, -⟩
  · refine ⟨fun z q hq => ?_, q2⟩
    have hz : z < 1 := (List.getElem?_eq_some_iff.mp hq).1
    rw [show z = 0 by omega] at hq
    cases hq
    exact q3.1 hci
  · dsimp only at q1
    omega
theorem g_get (V : gaV p l s m args meth c G cc own nL ws ret nm) {C ref : String} {T : u_T} {N ci index : Nat} (f : Nat) (hc : vwCl[ci]? = some (C, T, N)) (hin : ∀ w ∈ u_ws C T N, w ∈ ws) (hf : f < N) (hci : ci < 100) (hlink : Cond.fieldLink own index ref (T f).2.1 (T f).2.2.1 ∈ ws) (hsame : (T f).1 = ref)
    {a : Nat} {fs : List Value} {v : Value} (ha : h a = some (ci, fs)) (hv : fs[f]? = some v) (d : decode cc pc = .ok (.getfield index, 3)) (hn : pc + 3 = n)
    (kk : gaP p l e R s m args below meth c G nL Z n lv (v :: st) h k j) : gaP p l e R s m args below meth c G nL Z pc lv (.ref a :: st) h k j := by
  subst hn
  intro H locs ls cells slots hR hS hL h1 h2
  obtain ⟨hP, -⟩ := hR.obj hci ha
  exact va_get V.1 V.2.1 V.2.2.2.2.1 hin V.2.2.2.1 V.2.2.2.2.2.2.2.2.2.1.1 hP 0 rfl hc f hf (V.2.2.2.2.1 _ hlink) (fun x hx => by rw [← hsame]; exact hx) hv d (kk H locs ls cells slots hR hS hL h1 h2)
theorem g_getN (V : gaV p l s m args meth c G cc own nL ws ret nm) {C ref host : String} {T : u_T} {N ci index : Nat} (f : Nat) (hc : vwCl[ci]? = some (C, T, N)) (hin : ∀ w ∈ u_ws C T N, w ∈ ws) (hf : f < N) (hci : ci < 100) (hlink : Cond.fieldLinkNest own index ref (T f).2.1 (T f).2.2.1 host ∈ gaNests) (hsame : (T f).1 = ref)
    {a : Nat} {fs : List Value} {v : Value} (ha : h a = some (ci, fs)) (hv : fs[f]? = some v) (d : decode cc pc = .ok (.getfield index, 3)) (hn : pc + 3 = n)
    (kk : gaP p l e R s m args below meth c G nL Z n lv (v :: st) h k j) : gaP p l e R s m args below meth c G nL Z pc lv (.ref a :: st) h k j := by
  subst hn
  intro H locs ls cells slots hR hS hL h1 h2
  obtain ⟨hP, -⟩ := hR.obj hci ha
  exact va_getN V.1 V.2.1 V.2.2.2.2.1 hin V.2.2.2.1 V.2.2.2.2.2.2.2.2.2.1.1 hP 0 rfl hc f hf (va_Nw.use rfl (V.2.2.2.2.2.2.2.2.2.1.2.2.2.2.2.2.1 _ hlink)) (fun x hx => by rw [← hsame]; exact hx) hv d (kk H locs ls cells slots hR hS hL h1 h2)
/-- a field's new value in the heap's picture -/
theorem gaR.put (hR : gaR G s h H) {H1 : Heap} {a ci f : Nat} {fs : List Value} {v : Value} {C : String} {T : u_T} {N : Nat} (hc : vwCl[ci]? = some (C, T, N)) (hci : ci < 100) (hB : G.2.2.1 ≤ a) (hl : f < fs.length) (hf : f < N) (hap : ∀ x y, x < N → y < N → x ≠ y → (G.1.2 ci) x ≠ (G.1.2 ci) y)
    {cell : Cell} (q2 : cell.cls = G.1.1 ci) (q3 : cell.vm = .none) (q4 : ∀ k, k < N → cell.slots[G.1.2 ci k]? = some (vp_V fs k)) (e1 : H1[a]? = some (cell.setSlot (G.1.2 ci f) v)) (oq : ∀ q : Nat, q ≠ a → H1[q]? = H[q]?) : gaR G s (gaUp h a (ci, fs.set f v)) H1 := by
  refine hR.set (by dsimp only; omega) hB ⟨fun _ => ?_, fun q => ?_⟩ (fun q hq _ => oq q hq)
  · exact ⟨_, hc, t_OB.to (V := updV (vp_V fs) f v) ⟨_, e1, q2, q3, t_set q4 hap hf v⟩ (fun j _ => vp_updV_set hl v j)⟩
  · dsimp only at q
    omega
theorem g_put (V : gaV p l s m args meth c G cc own nL ws ret nm) {C ref : String} {T : u_T} {N ci index : Nat} (f : Nat) (ty0 : Nat → FieldType) (hty : ∀ k, k < N → parseFieldDescriptor (T k).2.2.1 = some (ty0 k)) (hnm : ∀ a, a < N → ∀ b, b < N → a ≠ b → (T a).2.1 ≠ (T b).2.1)
    (hc : vwCl[ci]? = some (C, T, N)) (hin : ∀ w ∈ u_ws C T N, w ∈ ws) (hf : f < N) (hci : ci < 100) (hlink : Cond.fieldLink own index ref (T f).2.1 (T f).2.2.1 ∈ ws) (hsame : (T f).1 = ref) (hfin : (T f).2.2.2 = false)
    {a : Nat} {fs : List Value} {v : Value} (hnr : narrow (ty0 f) v = v) (hfit : fits (ty0 f) v = true) (ha : h a = some (ci, fs)) (hl : f < fs.length) (d : decode cc pc = .ok (.putfield index, 3)) (hn : pc + 3 = n)
    (kk : gaP p l e R s m args below meth c G nL Z n lv st (gaUp h a (ci, fs.set f v)) k j) : gaP p l e R s m args below meth c G nL Z pc lv (v :: .ref a :: st) h k j := by
  subst hn
  intro H locs ls cells slots hR hS hL h1 h2
  obtain ⟨hP, hB⟩ := hR.obj hci ha
  have hK := V.2.2.2.2.2.2.2.2.2.1.1
  have hts := V.2.2.2.2.1
  have hap := va_apart (own := own) hts hin ty0 hty hnm hK hc
  obtain ⟨r, g1, cell, q1, q2, q3, q4⟩ := hP 0 _ rfl
  have hr : r = (C, T, N) := Option.some.inj (g1.symm.trans hc)
  subst hr
  obtain ⟨hSl, hfc, kC, hkC, hkind⟩ := hK.1 ci _ hc
  obtain ⟨cf, kf, fi, fd, hi, hsl⟩ := hSl f hf
  have hlay := hts _ (hin _ (u_in_lay hf))
  unfold u_lay at hlay
  rw [if_neg (by rw [hfin]; decide)] at hlay
  have hst := (u_facts hfc hkC (u_lays hts hin hf) hi).1
  have h6 := u_store hfc hkC hkind hlay hi (hty f hf) hnr hfit
  subst hsame
  refine W.putK V.1 V.2.1 (f := fd) ⟨V.2.2.2.1, hts _ hlink, ⟨_, _, _, hi⟩, hst⟩ (by rw [q2]; exact h6) q1 q3 (by rw [hsl]; exact k2_hasslot (q4 f hf)) rfl rfl d fun H' e1 e2 e3 => ?_
  rw [hsl] at e1
  exact kk H' _ ls cells slots (hR.put hc hci hB hl hf hap q2 q3 q4 e1 e3) (hS.put e2 e3 hB) hL h1 h2
theorem g_putN (V : gaV p l s m args meth c G cc own nL ws ret nm) {C ref host : String} {T : u_T} {N ci index : Nat} (f : Nat) (ty0 : Nat → FieldType) (hty : ∀ k, k < N → parseFieldDescriptor (T k).2.2.1 = some (ty0 k)) (hnm : ∀ a, a < N → ∀ b, b < N → a ≠ b → (T a).2.1 ≠ (T b).2.1)
    (hc : vwCl[ci]? = some (C, T, N)) (hin : ∀ w ∈ u_ws C T N, w ∈ ws) (hf : f < N) (hci : ci < 100) (hlink : Cond.fieldLinkNest own index ref (T f).2.1 (T f).2.2.1 host ∈ gaNests) (hsame : (T f).1 = ref) (hfin : (T f).2.2.2 = false)
    {a : Nat} {fs : List Value} {v : Value} (hnr : narrow (ty0 f) v = v) (hfit : fits (ty0 f) v = true) (ha : h a = some (ci, fs)) (hl : f < fs.length) (d : decode cc pc = .ok (.putfield index, 3)) (hn : pc + 3 = n)
    (kk : gaP p l e R s m args below meth c G nL Z n lv st (gaUp h a (ci, fs.set f v)) k j) : gaP p l e R s m args below meth c G nL Z pc lv (v :: .ref a :: st) h k j := by
  subst hn
  intro H locs ls cells slots hR hS hL h1 h2
  obtain ⟨hP, hB⟩ := hR.obj hci ha
  have hK := V.2.2.2.2.2.2.2.2.2.1.1
  have hts := V.2.2.2.2.1
  have hap := va_apart (own := own) hts hin ty0 hty hnm hK hc
  obtain ⟨r, g1, cell, q1, q2, q3, q4⟩ := hP 0 _ rfl
  have hr : r = (C, T, N) := Option.some.inj (g1.symm.trans hc)
  subst hr
  obtain ⟨hSl, hfc, kC, hkC, hkind⟩ := hK.1 ci _ hc
  obtain ⟨cf, kf, fi, fd, hi, hsl⟩ := hSl f hf
  have hlay := hts _ (hin _ (u_in_lay hf))
  unfold u_lay at hlay
  rw [if_neg (by rw [hfin]; decide)] at hlay
  have hst := (u_facts hfc hkC (u_lays hts hin hf) hi).1
  have h6 := u_store hfc hkC hkind hlay hi (hty f hf) hnr hfit
  subst hsame
  refine va_WputK V.1 V.2.1 (f := fd) V.2.2.2.1 (va_Nw.use rfl (V.2.2.2.2.2.2.2.2.2.1.2.2.2.2.2.2.1 _ hlink)) hi hst (by rw [q2]; exact h6) q1 q3 (by rw [hsl]; exact k2_hasslot (q4 f hf)) rfl rfl d fun H' e1 e2 e3 => ?_
  rw [hsl] at e1
  exact kk H' _ ls cells slots (hR.put hc hci hB hl hf hap q2 q3 q4 e1 e3) (hS.put e2 e3 hB) hL h1 h2
theorem g_putF (V : gaV p l s m args meth c G cc own nL ws ret nm) {C ref : String} {T : u_T} {N ci index : Nat} (f : Nat) (ty0 : Nat → FieldType) (hty : ∀ k, k < N → parseFieldDescriptor (T k).2.2.1 = some (ty0 k)) (hnm : ∀ a, a < N → ∀ b, b < N → a ≠ b → (T a).2.1 ≠ (T b).2.1)
    (hc : vwCl[ci]? = some (C, T, N)) (hin : ∀ w ∈ u_ws C T N, w ∈ ws) (hf : f < N) (hci : ci < 100) (hlink : Cond.fieldLink own index ref (T f).2.1 (T f).2.2.1 ∈ ws) (hsame : (T f).1 = ref) (hfin : (T f).2.2.2 = true) (hin2 : nm = "<init>") (hdecl : (T f).1 = own)
    {a : Nat} {fs : List Value} {v : Value} (hnr : narrow (ty0 f) v = v) (hfit : fits (ty0 f) v = true) (ha : h a = some (ci, fs)) (hl : f < fs.length) (d : decode cc pc = .ok (.putfield index, 3)) (hn : pc + 3 = n)
    (kk : gaP p l e R s m args below meth c G nL Z n lv st (gaUp h a (ci, fs.set f v)) k j) : gaP p l e R s m args below meth c G nL Z pc lv (v :: .ref a :: st) h k j := by
  subst hn
  intro H locs ls cells slots hR hS hL h1 h2
  obtain ⟨hP, hB⟩ := hR.obj hci ha
  have hK := V.2.2.2.2.2.2.2.2.2.1.1
  have hts := V.2.2.2.2.1
  have hown := V.2.2.2.1
  have hap := va_apart (own := own) hts hin ty0 hty hnm hK hc
  obtain ⟨r, g1, cell, q1, q2, q3, q4⟩ := hP 0 _ rfl
  have hr : r = (C, T, N) := Option.some.inj (g1.symm.trans hc)
  subst hr
  obtain ⟨hSl, hfc, kC, hkC, hkind⟩ := hK.1 ci _ hc
  obtain ⟨cf, kf, fi, fd, hi, hsl⟩ := hSl f hf
  have hlay := hts _ (hin _ (u_in_lay hf))
  unfold u_lay at hlay
  rw [if_pos hfin] at hlay
  have hst := (u_facts hfc hkC (u_lays hts hin hf) hi).1
  have hcf : m.cls = cf := by
    obtain ⟨_, _, c', _, _, _, -, -, hf', -, -, -, hown2, -⟩ := Cond.laysFinal_spec hlay
    have e1 : c' = cf := by have := hi.symm.trans hf'; simp at this; exact this.1.symm
    rw [hdecl] at hown2
    rw [← e1]; exact Option.some.inj (hown.symm.trans hown2)
  have h6 := u_fits hfc hkC hkind (Or.inr hlay) hi (hty f hf) hnr hfit
  subst hsame
  refine W.putFinK V.1 V.2.1 hown (hts _ hlink) hi hst hcf (V.2.2.2.2.2.2.2.2.1.trans hin2) (by rw [q2]; exact h6) q1 q3 (by rw [hsl]; exact k2_hasslot (q4 f hf)) rfl rfl d fun H' e1 e2 e3 => ?_
  rw [hsl] at e1
  exact kk H' _ ls cells slots (hR.put hc hci hB hl hf hap q2 q3 q4 e1 e3) (hS.put e2 e3 hB) hL h1 h2
theorem gaClamp {i : Int32} {N : Nat} (h0 : ¬ i < 0) (hi : i.toNatClampNeg < N) {cell : Cell} (hN : N ≤ cell.slots.size) : ¬ (i < 0 ∨ cell.slots.size ≤ i.toNatClampNeg) := by
  rintro (q | q)
  · exact h0 q
  · omega
theorem g_iaload (V : gaV p l s m args meth c G cc own nL ws ret nm) {a t : Nat} {vs : List Value} {i x : Int32} (ha : h a = some (t, vs)) (ht : t = 102 ∨ t = 102 + 1000) (h0 : ¬ i < 0) (hv : vs[i.toNatClampNeg]? = some (.int x)) (d : decode cc pc = .ok (.iaload, 1)) (hn : pc + 1 = n)
    (kk : gaP p l e R s m args below meth c G nL Z n lv (.int x :: st) h k j) : gaP p l e R s m args below meth c G nL Z pc lv (.int i :: .ref a :: st) h k j := by
  subst hn
  intro H locs ls cells slots hR hS hL h1 h2
  obtain ⟨cell, g1, g2, g3, g4, g5, g6⟩ := hR.arr V.2.2.2.2.2.2.2.2.2.1.2.1 ha ht (by simp [gaT])
  exact W.iald V.1 V.2.1 g1 g2 g3 (gaClamp h0 (List.getElem?_eq_some_iff.mp hv).1 g5) (g6 _ _ hv) rfl rfl d (kk H locs ls cells slots hR hS hL h1 h2)
theorem g_baloadZ (V : gaV p l s m args meth c G cc own nL ws ret nm) {a t : Nat} {vs : List Value} {i x : Int32} (ha : h a = some (t, vs)) (ht : t = 100 ∨ t = 100 + 1000) (h0 : ¬ i < 0) (hv : vs[i.toNatClampNeg]? = some (.int x)) (d : decode cc pc = .ok (.baload, 1)) (hn : pc + 1 = n)
    (kk : gaP p l e R s m args below meth c G nL Z n lv (.int x :: st) h k j) : gaP p l e R s m args below meth c G nL Z pc lv (.int i :: .ref a :: st) h k j := by
  subst hn
  intro H locs ls cells slots hR hS hL h1 h2
  obtain ⟨cell, g1, g2, g3, g4, g5, g6⟩ := hR.arr V.2.2.2.2.2.2.2.2.2.1.2.1 ha ht (by simp [gaT])
  exact W.zald V.1 V.2.1 g1 g2 g3 (gaClamp h0 (List.getElem?_eq_some_iff.mp hv).1 g5) (g6 _ _ hv) rfl rfl d (kk H locs ls cells slots hR hS hL h1 h2)
theorem g_baloadB (V : gaV p l s m args meth c G cc own nL ws ret nm) {a t : Nat} {vs : List Value} {i x : Int32} (ha : h a = some (t, vs)) (ht : t = 101 ∨ t = 101 + 1000) (h0 : ¬ i < 0) (hv : vs[i.toNatClampNeg]? = some (.int x)) (d : decode cc pc = .ok (.baload, 1)) (hn : pc + 1 = n)
    (kk : gaP p l e R s m args below meth c G nL Z n lv (.int x :: st) h k j) : gaP p l e R s m args below meth c G nL Z pc lv (.int i :: .ref a :: st) h k j := by
  subst hn
  intro H locs ls cells slots hR hS hL h1 h2
  obtain ⟨cell, g1, g2, g3, g4, g5, g6⟩ := hR.arr V.2.2.2.2.2.2.2.2.2.1.2.1 ha ht (by simp [gaT])
  exact W.bald V.1 V.2.1 g1 g2 g3 (gaClamp h0 (List.getElem?_eq_some_iff.mp hv).1 g5) (g6 _ _ hv) rfl rfl d (kk H locs ls cells slots hR hS hL h1 h2)
theorem g_aaload (V : gaV p l s m args meth c G cc own nL ws ret nm) {a t b : Nat} {vs : List Value} {i : Int32} (ha : h a = some (t, vs)) (ht : t = 110 ∨ t = 111 ∨ t = 112) (h0 : ¬ i < 0) (hv : vs[i.toNatClampNeg]? = some (.ref b)) (d : decode cc pc = .ok (.aaload, 1)) (hn : pc + 1 = n)
    (kk : gaP p l e R s m args below meth c G nL Z n lv (.ref b :: st) h k j) : gaP p l e R s m args below meth c G nL Z pc lv (.int i :: .ref a :: st) h k j := by
  subst hn
  intro H locs ls cells slots hR hS hL h1 h2
  obtain ⟨cell, g1, g2, g3, g4, g5, g6⟩ := hR.arr V.2.2.2.2.2.2.2.2.2.1.2.1 ha (Or.inl rfl) (by rcases ht with rfl | rfl | rfl <;> simp [gaT])
  exact W.aald V.1 V.2.1 g1 g2 (by rcases ht with rfl | rfl | rfl <;> rfl) g3 (gaClamp h0 (List.getElem?_eq_some_iff.mp hv).1 g5) (g6 _ _ hv) rfl rfl d (kk H locs ls cells slots hR hS hL h1 h2)
theorem g_arraylength (V : gaV p l s m args meth c G cc own nL ws ret nm) {a t t0 : Nat} {vs : List Value} (ha : h a = some (t, vs)) (hT : gaT t0) (ht : t = t0 ∨ t = t0 + 1000) (d : decode cc pc = .ok (.arraylength, 1)) (hn : pc + 1 = n)
    (kk : gaP p l e R s m args below meth c G nL Z n lv (.int (Int32.ofNat vs.length) :: st) h k j) : gaP p l e R s m args below meth c G nL Z pc lv (.ref a :: st) h k j := by
  subst hn
  intro H locs ls cells slots hR hS hL h1 h2
  obtain ⟨cell, g1, g2, g3, g4, g5, g6⟩ := hR.arr V.2.2.2.2.2.2.2.2.2.1.2.1 ha ht hT
  exact W.alen V.1 V.2.1 g1 g2 g4 rfl rfl d (kk H locs ls cells slots hR hS hL h1 h2)
theorem gaR.mine (hR : gaR G s h H) {a t : Nat} {vs : List Value} (ha : h a = some (t, vs)) (h1 : 100 ≤ t) (h2 : t < 1000) : H[a]? = some { cls := G.2.1 t, slots := vs.toArray, vm := .none } ∧ G.2.2.1 ≤ a := by
  rcases hR a _ ha with ⟨q1, q2, q3⟩ | ⟨q1, -⟩
  · exact ⟨q3.2 h1, q2⟩
  · dsimp only at q1
    omega
theorem gaR.ast (hR : gaR G s h H) {H1 : Heap} {a t i : Nat} {vs : List Value} {v : Value} (h1 : 100 ≤ t) (h2 : t < 1000) (hB : G.2.2.1 ≤ a) (e1 : H1[a]? = some (Cell.setSlot { cls := G.2.1 t, slots := vs.toArray, vm := .none } i v)) (oq : ∀ q : Nat, q ≠ a → H1[q]? = H[q]?) : gaR G s (gaUp h a (t, vs.set i v)) H1 := by
  refine hR.set h2 hB ⟨fun q => ?_, fun _ => ?_⟩ (fun q hq _ => oq q hq)
  · dsimp only at q
    omega
  · rw [e1]
    simp [Cell.setSlot]
theorem g_iastore (V : gaV p l s m args meth c G cc own nL ws ret nm) {a : Nat} {vs : List Value} {i x : Int32} (ha : h a = some (102, vs)) (h0 : ¬ i < 0) (hi : i.toNatClampNeg < vs.length) (d : decode cc pc = .ok (.iastore, 1)) (hn : pc + 1 = n)
    (kk : gaP p l e R s m args below meth c G nL Z n lv st (gaUp h a (102, vs.set i.toNatClampNeg (.int x))) k j) : gaP p l e R s m args below meth c G nL Z pc lv (.int x :: .int i :: .ref a :: st) h k j := by
  subst hn
  intro H locs ls cells slots hR hS hL h1 h2
  obtain ⟨g1, hB⟩ := hR.mine ha (by decide) (by decide)
  exact W.iast V.1 V.2.1 g1 (V.2.2.2.2.2.2.2.2.2.1.2.1.arr (t := 102) (by simp [gaT]) _) (fun q => by cases q) (gaClamp (N := vs.length) h0 hi (by simp)) rfl rfl d (fun H' e1 e2 e3 => kk H' _ ls cells slots (hR.ast (by decide) (by decide) hB e1 e3) (hS.put e2 e3 hB) hL h1 h2)
theorem g_bastoreZ (V : gaV p l s m args meth c G cc own nL ws ret nm) {a : Nat} {vs : List Value} {i x : Int32} (ha : h a = some (100, vs)) (h0 : ¬ i < 0) (hi : i.toNatClampNeg < vs.length) (d : decode cc pc = .ok (.bastore, 1)) (hn : pc + 1 = n)
    (kk : gaP p l e R s m args below meth c G nL Z n lv st (gaUp h a (100, vs.set i.toNatClampNeg (narrow .boolean (.int x)))) k j) : gaP p l e R s m args below meth c G nL Z pc lv (.int x :: .int i :: .ref a :: st) h k j := by
  subst hn
  intro H locs ls cells slots hR hS hL h1 h2
  obtain ⟨g1, hB⟩ := hR.mine ha (by decide) (by decide)
  exact W.zast V.1 V.2.1 g1 (V.2.2.2.2.2.2.2.2.2.1.2.1.arr (t := 100) (by simp [gaT]) _) (fun q => by cases q) (gaClamp (N := vs.length) h0 hi (by simp)) rfl rfl d (fun H' e1 e2 e3 => kk H' _ ls cells slots (hR.ast (by decide) (by decide) hB e1 e3) (hS.put e2 e3 hB) hL h1 h2)
theorem g_bastoreB (V : gaV p l s m args meth c G cc own nL ws ret nm) {a : Nat} {vs : List Value} {i x : Int32} (ha : h a = some (101, vs)) (h0 : ¬ i < 0) (hi : i.toNatClampNeg < vs.length) (d : decode cc pc = .ok (.bastore, 1)) (hn : pc + 1 = n)
    (kk : gaP p l e R s m args below meth c G nL Z n lv st (gaUp h a (101, vs.set i.toNatClampNeg (narrow .byte (.int x)))) k j) : gaP p l e R s m args below meth c G nL Z pc lv (.int x :: .int i :: .ref a :: st) h k j := by
  subst hn
  intro H locs ls cells slots hR hS hL h1 h2
  obtain ⟨g1, hB⟩ := hR.mine ha (by decide) (by decide)
  exact W.bast V.1 V.2.1 g1 (V.2.2.2.2.2.2.2.2.2.1.2.1.arr (t := 101) (by simp [gaT]) _) (fun q => by cases q) (gaClamp (N := vs.length) h0 hi (by simp)) rfl rfl d (fun H' e1 e2 e3 => kk H' _ ls cells slots (hR.ast (by decide) (by decide) hB e1 e3) (hS.put e2 e3 hB) hL h1 h2)
end GAH
