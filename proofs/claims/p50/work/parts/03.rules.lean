section GAR
variable {p : Program} {l : Launch} {e : Env} {R : Room} {s : State} {m : MethodId} {args : Array Value} {below : List Frame} {meth : Method} {c : Code} {G : gaG} {cc : ByteArray} {own : String} {nL : Nat} {ws : List Cond} {ret : Option FieldType} {nm : String} {Q : Option Value → gaH → Prop} {X : String → gaH → Prop} {Z : State → Prop}
variable {pc n : Nat} {lv : List (Option Value)} {st : List Value} {h : gaH} {k j : Nat}
theorem g_iload (V : gaV p l s m args meth c G cc own nL ws ret nm) {i : Nat} {x : Int32} (d : decode cc pc = .ok (.iload i, 2)) (hl : lv[i]? = some (some (.int x))) (hn : pc + 2 = n)
    (kk : gaP p l e R s m args below meth c G nL Z n lv (.int x :: st) h k j) : gaP p l e R s m args below meth c G nL Z pc lv (st) h k j := by
  subst hn
  intro H locs ls cells slots hR hS hL h1 h2
  exact lv_iload V.1 V.2.1 d (hL.2.2 i _ hl) (kk H locs ls cells slots hR hS hL h1 h2)
theorem g_iload_n (V : gaV p l s m args meth c G cc own nL ws ret nm) {i : Fin 4} {x : Int32} (d : decode cc pc = .ok (.iload_n i, 1)) (hl : lv[(i : Nat)]? = some (some (.int x))) (hn : pc + 1 = n)
    (kk : gaP p l e R s m args below meth c G nL Z n lv (.int x :: st) h k j) : gaP p l e R s m args below meth c G nL Z pc lv (st) h k j := by
  subst hn
  intro H locs ls cells slots hR hS hL h1 h2
  exact lv_iload_n V.1 V.2.1 d rfl (hL.2.2 _ _ hl) (kk H locs ls cells slots hR hS hL h1 h2)
theorem g_aload (V : gaV p l s m args meth c G cc own nL ws ret nm) {i : Nat} {x : Nat} (d : decode cc pc = .ok (.aload i, 2)) (hl : lv[i]? = some (some (.ref x))) (hn : pc + 2 = n)
    (kk : gaP p l e R s m args below meth c G nL Z n lv (.ref x :: st) h k j) : gaP p l e R s m args below meth c G nL Z pc lv (st) h k j := by
  subst hn
  intro H locs ls cells slots hR hS hL h1 h2
  exact lv_aload V.1 V.2.1 d (hL.2.2 i _ hl) (kk H locs ls cells slots hR hS hL h1 h2)
theorem g_aload_n (V : gaV p l s m args meth c G cc own nL ws ret nm) {i : Fin 4} {x : Nat} (d : decode cc pc = .ok (.aload_n i, 1)) (hl : lv[(i : Nat)]? = some (some (.ref x))) (hn : pc + 1 = n)
    (kk : gaP p l e R s m args below meth c G nL Z n lv (.ref x :: st) h k j) : gaP p l e R s m args below meth c G nL Z pc lv (st) h k j := by
  subst hn
  intro H locs ls cells slots hR hS hL h1 h2
  exact lv_aload_n V.1 V.2.1 d rfl (hL.2.2 _ _ hl) (kk H locs ls cells slots hR hS hL h1 h2)
theorem g_lload (V : gaV p l s m args meth c G cc own nL ws ret nm) {i : Nat} {x : Int64} (d : decode cc pc = .ok (.lload i, 2)) (hl : lv[i]? = some (some (.long x))) (hn : pc + 2 = n)
    (kk : gaP p l e R s m args below meth c G nL Z n lv (.long x :: st) h k j) : gaP p l e R s m args below meth c G nL Z pc lv (st) h k j := by
  subst hn
  intro H locs ls cells slots hR hS hL h1 h2
  exact lv_lload V.1 V.2.1 d (hL.2.2 i _ hl) (kk H locs ls cells slots hR hS hL h1 h2)
theorem g_lload_n (V : gaV p l s m args meth c G cc own nL ws ret nm) {i : Fin 4} {x : Int64} (d : decode cc pc = .ok (.lload_n i, 1)) (hl : lv[(i : Nat)]? = some (some (.long x))) (hn : pc + 1 = n)
    (kk : gaP p l e R s m args below meth c G nL Z n lv (.long x :: st) h k j) : gaP p l e R s m args below meth c G nL Z pc lv (st) h k j := by
  subst hn
  intro H locs ls cells slots hR hS hL h1 h2
  exact lv_lload_n V.1 V.2.1 d rfl (hL.2.2 _ _ hl) (kk H locs ls cells slots hR hS hL h1 h2)
theorem g_iconst (V : gaV p l s m args meth c G cc own nL ws ret nm) {i : Int} (v : Int32) (d : decode cc pc = .ok (.iconst i, 1)) (hv : Int32.ofInt i = v) (hn : pc + 1 = n)
    (kk : gaP p l e R s m args below meth c G nL Z n lv (.int v :: st) h k j) : gaP p l e R s m args below meth c G nL Z pc lv (st) h k j := by
  subst hn
  intro H locs ls cells slots hR hS hL h1 h2
  exact lv_iconst V.1 V.2.1 d hv (kk H locs ls cells slots hR hS hL h1 h2)
theorem g_bipush (V : gaV p l s m args meth c G cc own nL ws ret nm) {i : Int} (v : Int32) (d : decode cc pc = .ok (.bipush i, 2)) (hv : (Int8.ofInt i).toInt32 = v) (hn : pc + 2 = n)
    (kk : gaP p l e R s m args below meth c G nL Z n lv (.int v :: st) h k j) : gaP p l e R s m args below meth c G nL Z pc lv (st) h k j := by
  subst hn
  intro H locs ls cells slots hR hS hL h1 h2
  exact lv_bipush V.1 V.2.1 d hv (kk H locs ls cells slots hR hS hL h1 h2)
theorem g_sipush (V : gaV p l s m args meth c G cc own nL ws ret nm) {i : Int} (v : Int32) (d : decode cc pc = .ok (.sipush i, 3)) (hv : (Int16.ofInt i).toInt32 = v) (hn : pc + 3 = n)
    (kk : gaP p l e R s m args below meth c G nL Z n lv (.int v :: st) h k j) : gaP p l e R s m args below meth c G nL Z pc lv (st) h k j := by
  subst hn
  intro H locs ls cells slots hR hS hL h1 h2
  exact lv_sipush V.1 V.2.1 d hv (kk H locs ls cells slots hR hS hL h1 h2)
theorem g_lconst (V : gaV p l s m args meth c G cc own nL ws ret nm) {i : Fin 2} (v : Int64) (d : decode cc pc = .ok (.lconst i, 1)) (hv : Int64.ofNat (i : Nat) = v) (hn : pc + 1 = n)
    (kk : gaP p l e R s m args below meth c G nL Z n lv (.long v :: st) h k j) : gaP p l e R s m args below meth c G nL Z pc lv (st) h k j := by
  subst hn
  intro H locs ls cells slots hR hS hL h1 h2
  exact lv_lconst V.1 V.2.1 d hv (kk H locs ls cells slots hR hS hL h1 h2)
theorem g_aconst_null (V : gaV p l s m args meth c G cc own nL ws ret nm)  (d : decode cc pc = .ok (.aconst_null, 1))  (hn : pc + 1 = n)
    (kk : gaP p l e R s m args below meth c G nL Z n lv (.null :: st) h k j) : gaP p l e R s m args below meth c G nL Z pc lv (st) h k j := by
  subst hn
  intro H locs ls cells slots hR hS hL h1 h2
  exact lv_null V.1 V.2.1 d  (kk H locs ls cells slots hR hS hL h1 h2)
theorem g_iadd (V : gaV p l s m args meth c G cc own nL ws ret nm) {x y : Int32} (d : decode cc pc = .ok (.iadd, 1))  (hn : pc + 1 = n)
    (kk : gaP p l e R s m args below meth c G nL Z n lv (.int (x + y) :: st) h k j) : gaP p l e R s m args below meth c G nL Z pc lv (.int y :: .int x :: st) h k j := by
  subst hn
  intro H locs ls cells slots hR hS hL h1 h2
  exact lv_iadd V.1 V.2.1 d  (kk H locs ls cells slots hR hS hL h1 h2)
theorem g_isub (V : gaV p l s m args meth c G cc own nL ws ret nm) {x y : Int32} (d : decode cc pc = .ok (.isub, 1))  (hn : pc + 1 = n)
    (kk : gaP p l e R s m args below meth c G nL Z n lv (.int (x - y) :: st) h k j) : gaP p l e R s m args below meth c G nL Z pc lv (.int y :: .int x :: st) h k j := by
  subst hn
  intro H locs ls cells slots hR hS hL h1 h2
  exact lv_isub V.1 V.2.1 d  (kk H locs ls cells slots hR hS hL h1 h2)
theorem g_imul (V : gaV p l s m args meth c G cc own nL ws ret nm) {x y : Int32} (d : decode cc pc = .ok (.imul, 1))  (hn : pc + 1 = n)
    (kk : gaP p l e R s m args below meth c G nL Z n lv (.int (x * y) :: st) h k j) : gaP p l e R s m args below meth c G nL Z pc lv (.int y :: .int x :: st) h k j := by
  subst hn
  intro H locs ls cells slots hR hS hL h1 h2
  exact lv_imul V.1 V.2.1 d  (kk H locs ls cells slots hR hS hL h1 h2)
theorem g_iand (V : gaV p l s m args meth c G cc own nL ws ret nm) {x y : Int32} (d : decode cc pc = .ok (.iand, 1))  (hn : pc + 1 = n)
    (kk : gaP p l e R s m args below meth c G nL Z n lv (.int (x &&& y) :: st) h k j) : gaP p l e R s m args below meth c G nL Z pc lv (.int y :: .int x :: st) h k j := by
  subst hn
  intro H locs ls cells slots hR hS hL h1 h2
  exact lv_iand V.1 V.2.1 d  (kk H locs ls cells slots hR hS hL h1 h2)
theorem g_ior (V : gaV p l s m args meth c G cc own nL ws ret nm) {x y : Int32} (d : decode cc pc = .ok (.ior, 1))  (hn : pc + 1 = n)
    (kk : gaP p l e R s m args below meth c G nL Z n lv (.int (x ||| y) :: st) h k j) : gaP p l e R s m args below meth c G nL Z pc lv (.int y :: .int x :: st) h k j := by
  subst hn
  intro H locs ls cells slots hR hS hL h1 h2
  exact lv_ior V.1 V.2.1 d  (kk H locs ls cells slots hR hS hL h1 h2)
theorem g_ixor (V : gaV p l s m args meth c G cc own nL ws ret nm) {x y : Int32} (d : decode cc pc = .ok (.ixor, 1))  (hn : pc + 1 = n)
    (kk : gaP p l e R s m args below meth c G nL Z n lv (.int (x ^^^ y) :: st) h k j) : gaP p l e R s m args below meth c G nL Z pc lv (.int y :: .int x :: st) h k j := by
  subst hn
  intro H locs ls cells slots hR hS hL h1 h2
  exact lv_ixor V.1 V.2.1 d  (kk H locs ls cells slots hR hS hL h1 h2)
theorem g_ishl (V : gaV p l s m args meth c G cc own nL ws ret nm) {x y : Int32} (d : decode cc pc = .ok (.ishl, 1))  (hn : pc + 1 = n)
    (kk : gaP p l e R s m args below meth c G nL Z n lv (.int (x <<< (y &&& 31)) :: st) h k j) : gaP p l e R s m args below meth c G nL Z pc lv (.int y :: .int x :: st) h k j := by
  subst hn
  intro H locs ls cells slots hR hS hL h1 h2
  exact lv_ishl V.1 V.2.1 d  (kk H locs ls cells slots hR hS hL h1 h2)
theorem g_ishr (V : gaV p l s m args meth c G cc own nL ws ret nm) {x y : Int32} (d : decode cc pc = .ok (.ishr, 1))  (hn : pc + 1 = n)
    (kk : gaP p l e R s m args below meth c G nL Z n lv (.int (x >>> (y &&& 31)) :: st) h k j) : gaP p l e R s m args below meth c G nL Z pc lv (.int y :: .int x :: st) h k j := by
  subst hn
  intro H locs ls cells slots hR hS hL h1 h2
  exact lv_ishr V.1 V.2.1 d  (kk H locs ls cells slots hR hS hL h1 h2)
theorem g_iushr (V : gaV p l s m args meth c G cc own nL ws ret nm) {x y : Int32} (d : decode cc pc = .ok (.iushr, 1))  (hn : pc + 1 = n)
    (kk : gaP p l e R s m args below meth c G nL Z n lv (.int ((x.toUInt32 >>> (y.toUInt32 &&& Int32.toUInt32 31)).toInt32) :: st) h k j) : gaP p l e R s m args below meth c G nL Z pc lv (.int y :: .int x :: st) h k j := by
  subst hn
  intro H locs ls cells slots hR hS hL h1 h2
  exact lv_iushr V.1 V.2.1 d rfl (kk H locs ls cells slots hR hS hL h1 h2)
theorem g_idiv (V : gaV p l s m args meth c G cc own nL ws ret nm) {x y : Int32} (d : decode cc pc = .ok (.idiv, 1)) (hne : ¬ y = 0) (hn : pc + 1 = n)
    (kk : gaP p l e R s m args below meth c G nL Z n lv (.int (x / y) :: st) h k j) : gaP p l e R s m args below meth c G nL Z pc lv (.int y :: .int x :: st) h k j := by
  subst hn
  intro H locs ls cells slots hR hS hL h1 h2
  exact lv_idiv V.1 V.2.1 d hne (kk H locs ls cells slots hR hS hL h1 h2)
theorem g_irem (V : gaV p l s m args meth c G cc own nL ws ret nm) {x y : Int32} (d : decode cc pc = .ok (.irem, 1)) (hne : ¬ y = 0) (hn : pc + 1 = n)
    (kk : gaP p l e R s m args below meth c G nL Z n lv (.int (x - x / y * y) :: st) h k j) : gaP p l e R s m args below meth c G nL Z pc lv (.int y :: .int x :: st) h k j := by
  subst hn
  intro H locs ls cells slots hR hS hL h1 h2
  exact lv_irem V.1 V.2.1 d hne (kk H locs ls cells slots hR hS hL h1 h2)
theorem g_ineg (V : gaV p l s m args meth c G cc own nL ws ret nm) {x : Int32} (d : decode cc pc = .ok (.ineg, 1))  (hn : pc + 1 = n)
    (kk : gaP p l e R s m args below meth c G nL Z n lv (.int (-x) :: st) h k j) : gaP p l e R s m args below meth c G nL Z pc lv (.int x :: st) h k j := by
  subst hn
  intro H locs ls cells slots hR hS hL h1 h2
  exact lv_ineg V.1 V.2.1 d  (kk H locs ls cells slots hR hS hL h1 h2)
theorem g_i2l (V : gaV p l s m args meth c G cc own nL ws ret nm) {x : Int32} (d : decode cc pc = .ok (.i2l, 1))  (hn : pc + 1 = n)
    (kk : gaP p l e R s m args below meth c G nL Z n lv (.long x.toInt64 :: st) h k j) : gaP p l e R s m args below meth c G nL Z pc lv (.int x :: st) h k j := by
  subst hn
  intro H locs ls cells slots hR hS hL h1 h2
  exact lv_i2l V.1 V.2.1 d rfl (kk H locs ls cells slots hR hS hL h1 h2)
theorem g_i2b (V : gaV p l s m args meth c G cc own nL ws ret nm) {x : Int32} (d : decode cc pc = .ok (.i2b, 1))  (hn : pc + 1 = n)
    (kk : gaP p l e R s m args below meth c G nL Z n lv (.int x.toInt8.toInt32 :: st) h k j) : gaP p l e R s m args below meth c G nL Z pc lv (.int x :: st) h k j := by
  subst hn
  intro H locs ls cells slots hR hS hL h1 h2
  exact lv_i2b V.1 V.2.1 d rfl (kk H locs ls cells slots hR hS hL h1 h2)
theorem g_i2c (V : gaV p l s m args meth c G cc own nL ws ret nm) {x : Int32} (d : decode cc pc = .ok (.i2c, 1))  (hn : pc + 1 = n)
    (kk : gaP p l e R s m args below meth c G nL Z n lv (.int (x.toUInt32 % 65536).toInt32 :: st) h k j) : gaP p l e R s m args below meth c G nL Z pc lv (.int x :: st) h k j := by
  subst hn
  intro H locs ls cells slots hR hS hL h1 h2
  exact lv_i2c V.1 V.2.1 d rfl (kk H locs ls cells slots hR hS hL h1 h2)
theorem g_ladd (V : gaV p l s m args meth c G cc own nL ws ret nm) {x y : Int64} (d : decode cc pc = .ok (.ladd, 1))  (hn : pc + 1 = n)
    (kk : gaP p l e R s m args below meth c G nL Z n lv (.long (x + y) :: st) h k j) : gaP p l e R s m args below meth c G nL Z pc lv (.long y :: .long x :: st) h k j := by
  subst hn
  intro H locs ls cells slots hR hS hL h1 h2
  exact lv_ladd V.1 V.2.1 d  (kk H locs ls cells slots hR hS hL h1 h2)
theorem g_lmul (V : gaV p l s m args meth c G cc own nL ws ret nm) {x y : Int64} (d : decode cc pc = .ok (.lmul, 1))  (hn : pc + 1 = n)
    (kk : gaP p l e R s m args below meth c G nL Z n lv (.long (x * y) :: st) h k j) : gaP p l e R s m args below meth c G nL Z pc lv (.long y :: .long x :: st) h k j := by
  subst hn
  intro H locs ls cells slots hR hS hL h1 h2
  exact lv_lmul V.1 V.2.1 d  (kk H locs ls cells slots hR hS hL h1 h2)
theorem g_lcmp (V : gaV p l s m args meth c G cc own nL ws ret nm) {x y : Int64} (d : decode cc pc = .ok (.lcmp, 1))  (hn : pc + 1 = n)
    (kk : gaP p l e R s m args below meth c G nL Z n lv (.int (lg_cmp x y) :: st) h k j) : gaP p l e R s m args below meth c G nL Z pc lv (.long y :: .long x :: st) h k j := by
  subst hn
  intro H locs ls cells slots hR hS hL h1 h2
  exact W.lcmp V.1 V.2.1 d  (kk H locs ls cells slots hR hS hL h1 h2)
theorem g_dup (V : gaV p l s m args meth c G cc own nL ws ret nm) {v : Value} (d : decode cc pc = .ok (.dup, 1)) (hv : v.category = 1) (hn : pc + 1 = n)
    (kk : gaP p l e R s m args below meth c G nL Z n lv (v :: v :: st) h k j) : gaP p l e R s m args below meth c G nL Z pc lv (v :: st) h k j := by
  subst hn
  intro H locs ls cells slots hR hS hL h1 h2
  exact lv_dup V.1 V.2.1 d hv (kk H locs ls cells slots hR hS hL h1 h2)
theorem g_dup_x1 (V : gaV p l s m args meth c G cc own nL ws ret nm) {v w : Value} (d : decode cc pc = .ok (.dup_x1, 1)) (hv : v.category = 1) (hw : w.category = 1) (hn : pc + 1 = n)
    (kk : gaP p l e R s m args below meth c G nL Z n lv (v :: w :: v :: st) h k j) : gaP p l e R s m args below meth c G nL Z pc lv (v :: w :: st) h k j := by
  subst hn
  intro H locs ls cells slots hR hS hL h1 h2
  exact lv_dup_x1 V.1 V.2.1 d hv hw (kk H locs ls cells slots hR hS hL h1 h2)
theorem g_dup2 (V : gaV p l s m args meth c G cc own nL ws ret nm) {v w : Value} (d : decode cc pc = .ok (.dup2, 1)) (hv : v.category = 1) (hw : w.category = 1) (hn : pc + 1 = n)
    (kk : gaP p l e R s m args below meth c G nL Z n lv (v :: w :: v :: w :: st) h k j) : gaP p l e R s m args below meth c G nL Z pc lv (v :: w :: st) h k j := by
  subst hn
  intro H locs ls cells slots hR hS hL h1 h2
  exact lv_dup2_11 V.1 V.2.1 d hv hw (kk H locs ls cells slots hR hS hL h1 h2)
theorem g_pop (V : gaV p l s m args meth c G cc own nL ws ret nm) {v : Value} (d : decode cc pc = .ok (.pop, 1)) (hv : v.category = 1) (hn : pc + 1 = n)
    (kk : gaP p l e R s m args below meth c G nL Z n lv (st) h k j) : gaP p l e R s m args below meth c G nL Z pc lv (v :: st) h k j := by
  subst hn
  intro H locs ls cells slots hR hS hL h1 h2
  exact lv_pop V.1 V.2.1 d hv (kk H locs ls cells slots hR hS hL h1 h2)
theorem g_ldc (V : gaV p l s m args meth c G cc own nL ws ret nm) {i : Nat} (v : Int32) (d : decode cc pc = .ok (.ldc i, 2)) (hw : Cond.constant own i v ∈ ws) (hn : pc + 2 = n)
    (kk : gaP p l e R s m args below meth c G nL Z n lv (.int v :: st) h k j) : gaP p l e R s m args below meth c G nL Z pc lv st h k j := by
  subst hn
  intro H locs ls cells slots hR hS hL h1 h2
  exact lv_ldc V.1 V.2.1 V.2.2.2.1 (V.2.2.2.2.1 _ hw) d (kk H locs ls cells slots hR hS hL h1 h2)
theorem g_ldcw (V : gaV p l s m args meth c G cc own nL ws ret nm) {i : Nat} (v : Int32) (d : decode cc pc = .ok (.ldc_w i, 3)) (hw : Cond.constant own i v ∈ ws) (hn : pc + 3 = n)
    (kk : gaP p l e R s m args below meth c G nL Z n lv (.int v :: st) h k j) : gaP p l e R s m args below meth c G nL Z pc lv st h k j := by
  subst hn
  intro H locs ls cells slots hR hS hL h1 h2
  exact lv_ldcw V.1 V.2.1 V.2.2.2.1 (V.2.2.2.2.1 _ hw) d (kk H locs ls cells slots hR hS hL h1 h2)
theorem g_ldc2 (V : gaV p l s m args meth c G cc own nL ws ret nm) {i : Nat} (v : Int64) (d : decode cc pc = .ok (.ldc2_w i, 3)) (hw : Cond.constantLong own i v ∈ ws) (hn : pc + 3 = n)
    (kk : gaP p l e R s m args below meth c G nL Z n lv (.long v :: st) h k j) : gaP p l e R s m args below meth c G nL Z pc lv st h k j := by
  subst hn
  intro H locs ls cells slots hR hS hL h1 h2
  exact lv_ldc2 V.1 V.2.1 V.2.2.2.1 (V.2.2.2.2.1 _ hw) d (kk H locs ls cells slots hR hS hL h1 h2)
theorem g_istore (V : gaV p l s m args meth c G cc own nL ws ret nm) {i : Nat} {x : Int32} {lv2 : List (Option Value)} (d : decode cc pc = .ok (.istore i, 2)) (hi : i < nL) (hok : gaOk lv i = true) (hlv : lv.set i (some (.int x)) = lv2) (hn : pc + 2 = n)
    (kk : gaP p l e R s m args below meth c G nL Z n lv2 st h k j) : gaP p l e R s m args below meth c G nL Z pc lv (.int x :: st) h k j := by
  subst hn
  subst hlv
  intro H locs ls cells slots hR hS hL h1 h2
  exact lv_istore V.1 V.2.1 d hL.has hi rfl (fun ls2 hl2 => kk H locs ls2 cells slots hR hS (gaL.set1 hok hl2) h1 h2)
theorem g_istore_n (V : gaV p l s m args meth c G cc own nL ws ret nm) {i : Fin 4} {x : Int32} {lv2 : List (Option Value)} (d : decode cc pc = .ok (.istore_n i, 1)) (hi : (i : Nat) < nL) (hok : gaOk lv (i : Nat) = true) (hlv : lv.set (i : Nat) (some (.int x)) = lv2) (hn : pc + 1 = n)
    (kk : gaP p l e R s m args below meth c G nL Z n lv2 st h k j) : gaP p l e R s m args below meth c G nL Z pc lv (.int x :: st) h k j := by
  subst hn
  subst hlv
  intro H locs ls cells slots hR hS hL h1 h2
  exact lv_istore_n V.1 V.2.1 d rfl hL.has hi rfl (fun ls2 hl2 => kk H locs ls2 cells slots hR hS (gaL.set1 hok hl2) h1 h2)
theorem g_astore (V : gaV p l s m args meth c G cc own nL ws ret nm) {i : Nat} {x : Nat} {lv2 : List (Option Value)} (d : decode cc pc = .ok (.astore i, 2)) (hi : i < nL) (hok : gaOk lv i = true) (hlv : lv.set i (some (.ref x)) = lv2) (hn : pc + 2 = n)
    (kk : gaP p l e R s m args below meth c G nL Z n lv2 st h k j) : gaP p l e R s m args below meth c G nL Z pc lv (.ref x :: st) h k j := by
  subst hn
  subst hlv
  intro H locs ls cells slots hR hS hL h1 h2
  exact lv_astore V.1 V.2.1 d hL.has hi rfl (fun ls2 hl2 => kk H locs ls2 cells slots hR hS (gaL.set1 hok hl2) h1 h2)
theorem g_astore_n (V : gaV p l s m args meth c G cc own nL ws ret nm) {i : Fin 4} {x : Nat} {lv2 : List (Option Value)} (d : decode cc pc = .ok (.astore_n i, 1)) (hi : (i : Nat) < nL) (hok : gaOk lv (i : Nat) = true) (hlv : lv.set (i : Nat) (some (.ref x)) = lv2) (hn : pc + 1 = n)
    (kk : gaP p l e R s m args below meth c G nL Z n lv2 st h k j) : gaP p l e R s m args below meth c G nL Z pc lv (.ref x :: st) h k j := by
  subst hn
  subst hlv
  intro H locs ls cells slots hR hS hL h1 h2
  exact lv_astore_n V.1 V.2.1 d rfl hL.has hi rfl (fun ls2 hl2 => kk H locs ls2 cells slots hR hS (gaL.set1 hok hl2) h1 h2)
theorem g_lstore (V : gaV p l s m args meth c G cc own nL ws ret nm) {i : Nat} {x : Int64} {lv2 : List (Option Value)} (d : decode cc pc = .ok (.lstore i, 2)) (hi : i + 1 < nL) (hok : gaOk lv i = true) (hlv : (lv.set i (some (.long x))).set (i + 1) none = lv2) (hn : pc + 2 = n)
    (kk : gaP p l e R s m args below meth c G nL Z n lv2 st h k j) : gaP p l e R s m args below meth c G nL Z pc lv (.long x :: st) h k j := by
  subst hn
  subst hlv
  intro H locs ls cells slots hR hS hL h1 h2
  exact lv_lstore V.1 V.2.1 d hL.has hi rfl (fun ls2 hl2 => kk H locs ls2 cells slots hR hS (gaL.set2 hok hl2) h1 h2)
theorem g_lstore_n (V : gaV p l s m args meth c G cc own nL ws ret nm) {i : Fin 4} {x : Int64} {lv2 : List (Option Value)} (d : decode cc pc = .ok (.lstore_n i, 1)) (hi : (i : Nat) + 1 < nL) (hok : gaOk lv (i : Nat) = true) (hlv : (lv.set (i : Nat) (some (.long x))).set ((i : Nat) + 1) none = lv2) (hn : pc + 1 = n)
    (kk : gaP p l e R s m args below meth c G nL Z n lv2 st h k j) : gaP p l e R s m args below meth c G nL Z pc lv (.long x :: st) h k j := by
  subst hn
  subst hlv
  intro H locs ls cells slots hR hS hL h1 h2
  exact lv_lstore_n V.1 V.2.1 d rfl hL.has hi rfl (fun ls2 hl2 => kk H locs ls2 cells slots hR hS (gaL.set2 hok hl2) h1 h2)
theorem g_iinc (V : gaV p l s m args meth c G cc own nL ws ret nm) {i : Nat} {q : Int} {x v : Int32} {lv2 : List (Option Value)} (d : decode cc pc = .ok (.iinc i q, 3)) (hi : i < nL) (hl : lv[i]? = some (some (.int x))) (hv : Int32.ofInt q = v) (hok : gaOk lv i = true) (hlv : lv.set i (some (.int (x + v))) = lv2) (hn : pc + 3 = n)
    (kk : gaP p l e R s m args below meth c G nL Z n lv2 st h k j) : gaP p l e R s m args below meth c G nL Z pc lv st h k j := by
  subst hn
  subst hlv
  subst hv
  intro H locs ls cells slots hR hS hL h1 h2
  obtain ⟨z, hz⟩ := List.getElem?_of_mem (gaPairs_mem.mpr hl)
  exact lv_iinc V.1 V.2.1 d hL.has hz rfl hi rfl (fun ls2 hl2 => kk H locs ls2 cells slots hR hS (gaL.set1 hok hl2) h1 h2)
theorem g_if_eq (V : gaV p l s m args meth c G cc own nL ws ret nm) {x : Int32} {off : Int} {t : Nat} (d : decode cc pc = .ok (.ifCond .eq off, 3)) (ht : (pc : Int) + off = (t : Int)) (hn : pc + 3 = n)
    (kt : x = 0 → gaP p l e R s m args below meth c G nL Z t lv st h k j) (kf : ¬ (x = 0) → gaP p l e R s m args below meth c G nL Z n lv st h k j) : gaP p l e R s m args below meth c G nL Z pc lv (.int x :: st) h k j := by
  subst hn
  intro H locs ls cells slots hR hS hL h1 h2
  exact lv_if_eq V.1 V.2.1 d ht (fun q => kt q H locs ls cells slots hR hS hL h1 h2) (fun q => kf q H locs ls cells slots hR hS hL h1 h2)
theorem g_if_ne (V : gaV p l s m args meth c G cc own nL ws ret nm) {x : Int32} {off : Int} {t : Nat} (d : decode cc pc = .ok (.ifCond .ne off, 3)) (ht : (pc : Int) + off = (t : Int)) (hn : pc + 3 = n)
    (kt : ¬ x = 0 → gaP p l e R s m args below meth c G nL Z t lv st h k j) (kf : x = 0 → gaP p l e R s m args below meth c G nL Z n lv st h k j) : gaP p l e R s m args below meth c G nL Z pc lv (.int x :: st) h k j := by
  subst hn
  intro H locs ls cells slots hR hS hL h1 h2
  exact lv_if_ne V.1 V.2.1 d ht (fun q => kt q H locs ls cells slots hR hS hL h1 h2) (fun q => kf q H locs ls cells slots hR hS hL h1 h2)
theorem g_if_lt (V : gaV p l s m args meth c G cc own nL ws ret nm) {x : Int32} {off : Int} {t : Nat} (d : decode cc pc = .ok (.ifCond .lt off, 3)) (ht : (pc : Int) + off = (t : Int)) (hn : pc + 3 = n)
    (kt : x < 0 → gaP p l e R s m args below meth c G nL Z t lv st h k j) (kf : ¬ (x < 0) → gaP p l e R s m args below meth c G nL Z n lv st h k j) : gaP p l e R s m args below meth c G nL Z pc lv (.int x :: st) h k j := by
  subst hn
  intro H locs ls cells slots hR hS hL h1 h2
  exact lv_if_lt V.1 V.2.1 d ht (fun q => kt q H locs ls cells slots hR hS hL h1 h2) (fun q => kf q H locs ls cells slots hR hS hL h1 h2)
theorem g_if_ge (V : gaV p l s m args meth c G cc own nL ws ret nm) {x : Int32} {off : Int} {t : Nat} (d : decode cc pc = .ok (.ifCond .ge off, 3)) (ht : (pc : Int) + off = (t : Int)) (hn : pc + 3 = n)
    (kt : 0 ≤ x → gaP p l e R s m args below meth c G nL Z t lv st h k j) (kf : ¬ (0 ≤ x) → gaP p l e R s m args below meth c G nL Z n lv st h k j) : gaP p l e R s m args below meth c G nL Z pc lv (.int x :: st) h k j := by
  subst hn
  intro H locs ls cells slots hR hS hL h1 h2
  exact lv_if_ge V.1 V.2.1 d ht (fun q => kt q H locs ls cells slots hR hS hL h1 h2) (fun q => kf q H locs ls cells slots hR hS hL h1 h2)
theorem g_if_gt (V : gaV p l s m args meth c G cc own nL ws ret nm) {x : Int32} {off : Int} {t : Nat} (d : decode cc pc = .ok (.ifCond .gt off, 3)) (ht : (pc : Int) + off = (t : Int)) (hn : pc + 3 = n)
    (kt : 0 < x → gaP p l e R s m args below meth c G nL Z t lv st h k j) (kf : ¬ (0 < x) → gaP p l e R s m args below meth c G nL Z n lv st h k j) : gaP p l e R s m args below meth c G nL Z pc lv (.int x :: st) h k j := by
  subst hn
  intro H locs ls cells slots hR hS hL h1 h2
  exact lv_if_gt V.1 V.2.1 d ht (fun q => kt q H locs ls cells slots hR hS hL h1 h2) (fun q => kf q H locs ls cells slots hR hS hL h1 h2)
theorem g_if_le (V : gaV p l s m args meth c G cc own nL ws ret nm) {x : Int32} {off : Int} {t : Nat} (d : decode cc pc = .ok (.ifCond .le off, 3)) (ht : (pc : Int) + off = (t : Int)) (hn : pc + 3 = n)
    (kt : x ≤ 0 → gaP p l e R s m args below meth c G nL Z t lv st h k j) (kf : ¬ (x ≤ 0) → gaP p l e R s m args below meth c G nL Z n lv st h k j) : gaP p l e R s m args below meth c G nL Z pc lv (.int x :: st) h k j := by
  subst hn
  intro H locs ls cells slots hR hS hL h1 h2
  exact lv_if_le V.1 V.2.1 d ht (fun q => kt q H locs ls cells slots hR hS hL h1 h2) (fun q => kf q H locs ls cells slots hR hS hL h1 h2)
theorem g_icmp_eq (V : gaV p l s m args meth c G cc own nL ws ret nm) {x y : Int32} {off : Int} {t : Nat} (d : decode cc pc = .ok (.if_icmp .eq off, 3)) (ht : (pc : Int) + off = (t : Int)) (hn : pc + 3 = n)
    (kt : x = y → gaP p l e R s m args below meth c G nL Z t lv st h k j) (kf : ¬ (x = y) → gaP p l e R s m args below meth c G nL Z n lv st h k j) : gaP p l e R s m args below meth c G nL Z pc lv (.int y :: .int x :: st) h k j := by
  subst hn
  intro H locs ls cells slots hR hS hL h1 h2
  exact lv_icmp_eq V.1 V.2.1 d ht (fun q => kt q H locs ls cells slots hR hS hL h1 h2) (fun q => kf q H locs ls cells slots hR hS hL h1 h2)
theorem g_icmp_ne (V : gaV p l s m args meth c G cc own nL ws ret nm) {x y : Int32} {off : Int} {t : Nat} (d : decode cc pc = .ok (.if_icmp .ne off, 3)) (ht : (pc : Int) + off = (t : Int)) (hn : pc + 3 = n)
    (kt : ¬ x = y → gaP p l e R s m args below meth c G nL Z t lv st h k j) (kf : x = y → gaP p l e R s m args below meth c G nL Z n lv st h k j) : gaP p l e R s m args below meth c G nL Z pc lv (.int y :: .int x :: st) h k j := by
  subst hn
  intro H locs ls cells slots hR hS hL h1 h2
  exact lv_icmp_ne V.1 V.2.1 d ht (fun q => kt q H locs ls cells slots hR hS hL h1 h2) (fun q => kf q H locs ls cells slots hR hS hL h1 h2)
theorem g_icmp_lt (V : gaV p l s m args meth c G cc own nL ws ret nm) {x y : Int32} {off : Int} {t : Nat} (d : decode cc pc = .ok (.if_icmp .lt off, 3)) (ht : (pc : Int) + off = (t : Int)) (hn : pc + 3 = n)
    (kt : x < y → gaP p l e R s m args below meth c G nL Z t lv st h k j) (kf : ¬ (x < y) → gaP p l e R s m args below meth c G nL Z n lv st h k j) : gaP p l e R s m args below meth c G nL Z pc lv (.int y :: .int x :: st) h k j := by
  subst hn
  intro H locs ls cells slots hR hS hL h1 h2
  exact lv_icmp_lt V.1 V.2.1 d ht (fun q => kt q H locs ls cells slots hR hS hL h1 h2) (fun q => kf q H locs ls cells slots hR hS hL h1 h2)
theorem g_icmp_ge (V : gaV p l s m args meth c G cc own nL ws ret nm) {x y : Int32} {off : Int} {t : Nat} (d : decode cc pc = .ok (.if_icmp .ge off, 3)) (ht : (pc : Int) + off = (t : Int)) (hn : pc + 3 = n)
    (kt : y ≤ x → gaP p l e R s m args below meth c G nL Z t lv st h k j) (kf : ¬ (y ≤ x) → gaP p l e R s m args below meth c G nL Z n lv st h k j) : gaP p l e R s m args below meth c G nL Z pc lv (.int y :: .int x :: st) h k j := by
  subst hn
  intro H locs ls cells slots hR hS hL h1 h2
  exact lv_icmp_ge V.1 V.2.1 d ht (fun q => kt q H locs ls cells slots hR hS hL h1 h2) (fun q => kf q H locs ls cells slots hR hS hL h1 h2)
theorem g_icmp_gt (V : gaV p l s m args meth c G cc own nL ws ret nm) {x y : Int32} {off : Int} {t : Nat} (d : decode cc pc = .ok (.if_icmp .gt off, 3)) (ht : (pc : Int) + off = (t : Int)) (hn : pc + 3 = n)
    (kt : y < x → gaP p l e R s m args below meth c G nL Z t lv st h k j) (kf : ¬ (y < x) → gaP p l e R s m args below meth c G nL Z n lv st h k j) : gaP p l e R s m args below meth c G nL Z pc lv (.int y :: .int x :: st) h k j := by
  subst hn
  intro H locs ls cells slots hR hS hL h1 h2
  exact lv_icmp_gt V.1 V.2.1 d ht (fun q => kt q H locs ls cells slots hR hS hL h1 h2) (fun q => kf q H locs ls cells slots hR hS hL h1 h2)
theorem g_icmp_le (V : gaV p l s m args meth c G cc own nL ws ret nm) {x y : Int32} {off : Int} {t : Nat} (d : decode cc pc = .ok (.if_icmp .le off, 3)) (ht : (pc : Int) + off = (t : Int)) (hn : pc + 3 = n)
    (kt : x ≤ y → gaP p l e R s m args below meth c G nL Z t lv st h k j) (kf : ¬ (x ≤ y) → gaP p l e R s m args below meth c G nL Z n lv st h k j) : gaP p l e R s m args below meth c G nL Z pc lv (.int y :: .int x :: st) h k j := by
  subst hn
  intro H locs ls cells slots hR hS hL h1 h2
  exact lv_icmp_le V.1 V.2.1 d ht (fun q => kt q H locs ls cells slots hR hS hL h1 h2) (fun q => kf q H locs ls cells slots hR hS hL h1 h2)
theorem g_goto (V : gaV p l s m args meth c G cc own nL ws ret nm) {off : Int} {t : Nat} (d : decode cc pc = .ok (.goto off, 3)) (ht : (pc : Int) + off = (t : Int)) (kk : gaP p l e R s m args below meth c G nL Z t lv st h k j) : gaP p l e R s m args below meth c G nL Z pc lv st h k j := by
  intro H locs ls cells slots hR hS hL h1 h2
  exact lv_goto V.1 V.2.1 d ht (kk H locs ls cells slots hR hS hL h1 h2)
theorem g_ifnonnull (V : gaV p l s m args meth c G cc own nL ws ret nm) {x : Nat} {off : Int} {t : Nat} (d : decode cc pc = .ok (.ifnonnull off, 3)) (ht : (pc : Int) + off = (t : Int)) (kk : gaP p l e R s m args below meth c G nL Z t lv st h k j) : gaP p l e R s m args below meth c G nL Z pc lv (.ref x :: st) h k j := by
  intro H locs ls cells slots hR hS hL h1 h2
  exact lv_ifnonnull V.1 V.2.1 d ht (kk H locs ls cells slots hR hS hL h1 h2)
theorem g_tableIn (V : gaV p l s m args meth c G cc own nL ws ret nm) {dflt lo hi : Int} {offs : Array Int} {len : Nat} {x : Int32} {off : Int} {t : Nat} (d : decode cc pc = .ok (.tableswitch dflt lo hi offs, len)) (h3 : ¬ x.toInt < lo) (h4 : ¬ hi < x.toInt) (ho : offs[(x.toInt - lo).toNat]? = some off) (ht : (pc : Int) + off = (t : Int)) (kk : gaP p l e R s m args below meth c G nL Z t lv st h k j) : gaP p l e R s m args below meth c G nL Z pc lv (.int x :: st) h k j := by
  intro H locs ls cells slots hR hS hL h1 h2
  exact lv_tableIn V.1 V.2.1 d h3 h4 ho ht (kk H locs ls cells slots hR hS hL h1 h2)
theorem g_tableOut (V : gaV p l s m args meth c G cc own nL ws ret nm) {dflt lo hi : Int} {offs : Array Int} {len : Nat} {x : Int32} {t : Nat} (d : decode cc pc = .ok (.tableswitch dflt lo hi offs, len)) (h3 : x.toInt < lo ∨ hi < x.toInt) (ht : (pc : Int) + dflt = (t : Int)) (kk : gaP p l e R s m args below meth c G nL Z t lv st h k j) : gaP p l e R s m args below meth c G nL Z pc lv (.int x :: st) h k j := by
  intro H locs ls cells slots hR hS hL h1 h2
  exact lv_tableOut V.1 V.2.1 d h3 ht (kk H locs ls cells slots hR hS hL h1 h2)
def gaMask (lv : List (Option Value)) (bs : List Bool) : List (Option Value) := List.zipWith (fun v b => if b = true then v else none) lv bs
theorem gaMask_at {lv : List (Option Value)} {bs : List Bool} {i : Nat} {v : Value} (hq : (gaMask lv bs)[i]? = some (some v)) : lv[i]? = some (some v) := by
  unfold gaMask at hq
  rw [List.getElem?_zipWith] at hq
  cases h1 : lv[i]? with
  | none => rw [h1] at hq; simp at hq
  | some o =>
    cases h2 : bs[i]? with
    | none => rw [h1, h2] at hq; simp at hq
    | some b =>
      rw [h1, h2] at hq
      cases b <;> simp at hq
      rw [hq]
theorem g_less {bs : List Bool} {lv2 : List (Option Value)} (hb : gaMask lv bs = lv2) (kk : gaP p l e R s m args below meth c G nL Z pc lv2 st h k j) : gaP p l e R s m args below meth c G nL Z pc lv st h k j := by
  subst hb
  intro H locs ls cells slots hR hS hL h1 h2
  exact kk H locs ls cells slots hR hS ⟨hL.1, hL.2.1, fun i v hq => hL.2.2 i v (gaMask_at hq)⟩ h1 h2
theorem g_vret (V : gaV p l s m args meth c G cc own nL ws ret nm) (hr : ret = none) (d : decode cc pc = .ok (.return_, 1)) (hq : Q none h) : gaP p l e R s m args below meth c G nL (gaZ below G Q X args s R) pc lv [] h k j := by
  intro H locs ls cells slots hR hS hL h1 h2
  refine W.widen (k := R.cells) (n := R.slots) (by omega) (by omega) (vx_ret ?_)
  exact W.vret V.1 V.2.1 (V.2.2.2.2.2.1.trans hr) (fun t ht hW => ⟨none, h, rfl, hq, by rw [ht]; exact hR.moved hW.alike, hS.F ht⟩) hS.2.2 d V.2.2.2.2.2.2.1
theorem g_iret (V : gaV p l s m args meth c G cc own nL ws ret nm) {ty : FieldType} {x : Int32} (hr : ret = some ty) (hn : narrow ty (.int x) = .int x) (d : decode cc pc = .ok (.ireturn, 1)) (hq : Q (some (.int x)) h) : gaP p l e R s m args below meth c G nL (gaZ below G Q X args s R) pc lv [.int x] h k j := by
  intro H locs ls cells slots hR hS hL h1 h2
  refine W.widen (k := R.cells) (n := R.slots) (by omega) (by omega) (vx_ret ?_)
  exact W.zret V.1 V.2.1 (V.2.2.2.2.2.1.trans hr) hn (fun t ht hW => ⟨some (.int x), h, rfl, hq, by rw [ht]; exact hR.moved hW.alike, hS.F ht⟩) hS.2.2 d V.2.2.2.2.2.2.1
theorem g_lret (V : gaV p l s m args meth c G cc own nL ws ret nm) {x : Int64} (hr : ret = some .long) (d : decode cc pc = .ok (.lreturn, 1)) (hq : Q (some (.long x)) h) : gaP p l e R s m args below meth c G nL (gaZ below G Q X args s R) pc lv [.long x] h k j := by
  intro H locs ls cells slots hR hS hL h1 h2
  refine W.widen (k := R.cells) (n := R.slots) (by omega) (by omega) (vx_ret ?_)
  exact W.lret V.1 V.2.1 (V.2.2.2.2.2.1.trans hr) (fun t ht hW => ⟨some (.long x), h, rfl, hq, by rw [ht]; exact hR.moved hW.alike, hS.F ht⟩) hS.2.2 d V.2.2.2.2.2.2.1
theorem g_aret (V : gaV p l s m args meth c G cc own nL ws ret nm) {rt : FieldType} {x : Nat} (hr : ret = some rt) (hrt : (∃ n, rt = .object n) ∨ ∃ t, rt = .array t) (d : decode cc pc = .ok (.areturn, 1)) (hq : Q (some (.ref x)) h) : gaP p l e R s m args below meth c G nL (gaZ below G Q X args s R) pc lv [.ref x] h k j := by
  intro H locs ls cells slots hR hS hL h1 h2
  refine W.widen (k := R.cells) (n := R.slots) (by omega) (by omega) (vx_ret ?_)
  exact W.aret V.1 V.2.1 (V.2.2.2.2.2.1.trans hr) hrt (Or.inr ⟨x, rfl⟩) (fun t ht hW => ⟨some (.ref x), h, rfl, hq, by rw [ht]; exact hR.moved hW.alike, hS.F ht⟩) hS.2.2 d V.2.2.2.2.2.2.1
end GAR
