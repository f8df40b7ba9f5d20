/-! Whole numbers in the place of the machine's ints; the words of weakest preconditions over abstract heaps. -/
abbrev gi (x : Int) : Value := .int (Int32.ofInt x)
abbrev gR (x : Int) : Prop := -2147483648 ≤ x ∧ x ≤ 2147483647
theorem gi_lt {x y : Int} (hx : gR x) (hy : gR y) : (Int32.ofInt x < Int32.ofInt y) = (x < y) := propext (Int32.ofInt_lt_iff_lt hx.1 hx.2 hy.1 hy.2)
theorem gi_le {x y : Int} (hx : gR x) (hy : gR y) : (Int32.ofInt x ≤ Int32.ofInt y) = (x ≤ y) := propext (Int32.ofInt_le_iff_le hx.1 hx.2 hy.1 hy.2)
theorem gi_to {x : Int} (hx : gR x) : (Int32.ofInt x).toInt = x := Int32.toInt_ofInt_of_le hx.1 (by have := hx.2; omega)
theorem gi_eq {x y : Int} (hx : gR x) (hy : gR y) : (Int32.ofInt x = Int32.ofInt y) = (x = y) := propext ⟨fun q => by rw [← gi_to hx, ← gi_to hy, q], fun q => by rw [q]⟩
theorem gi_0 : (0 : Int32) = Int32.ofInt 0 := rfl
theorem gi_clamp {x : Int} (h0 : 0 ≤ x) (h1 : x ≤ 2147483647) : (Int32.ofInt x).toNatClampNeg = x.toNat := Int32.toNatClampNeg_ofInt_of_le (by omega) (by omega)
theorem gi_nn {x : Int} (h0 : 0 ≤ x) (h1 : x ≤ 2147483647) : ¬ Int32.ofInt x < 0 := by rw [gi_0, gi_lt ⟨by omega, h1⟩ ⟨by decide, by decide⟩]; omega
theorem gi_len (n : Nat) : Int32.ofNat n = Int32.ofInt (n : Int) := Int32.ofInt_eq_ofNat.symm
def gAnd (x y : Int) : Int := (Int32.ofInt x &&& Int32.ofInt y).toInt
def gOr (x y : Int) : Int := (Int32.ofInt x ||| Int32.ofInt y).toInt
def gShl (x y : Int) : Int := (Int32.ofInt x <<< (Int32.ofInt y &&& 31)).toInt
def gShr (x y : Int) : Int := (Int32.ofInt x >>> (Int32.ofInt y &&& 31)).toInt
def gUshr (x y : Int) : Int := (((Int32.ofInt x).toUInt32 >>> ((Int32.ofInt y).toUInt32 &&& Int32.toUInt32 31)).toInt32).toInt
def gDiv (x y : Int) : Int := (Int32.ofInt x / Int32.ofInt y).toInt
def gRem (x y : Int) : Int := (Int32.ofInt x - Int32.ofInt x / Int32.ofInt y * Int32.ofInt y).toInt
def gI2b (x : Int) : Int := ((Int32.ofInt x).toInt8.toInt32).toInt
def gI2c (x : Int) : Int := (((Int32.ofInt x).toUInt32 % 65536).toInt32).toInt
def gI2l (x : Int) : Int64 := (Int32.ofInt x).toInt64
theorem gi_back (x : Int32) : Int32.ofInt x.toInt = x := Int32.ofInt_toInt x
theorem gR_toInt (x : Int32) : gR x.toInt := ⟨Int32.le_toInt x, by have := Int32.toInt_lt x; omega⟩
def gI (h : gaH) (a ci f : Nat) (K : Int → Prop) : Prop := ∃ fs x, h a = some (ci, fs) ∧ fs[f]? = some (gi x) ∧ K x
def gA (h : gaH) (a ci f : Nat) (K : Nat → Prop) : Prop := ∃ fs x, h a = some (ci, fs) ∧ fs[f]? = some (.ref x) ∧ K x
def gL (h : gaH) (a ci f : Nat) (K : Int64 → Prop) : Prop := ∃ fs x, h a = some (ci, fs) ∧ fs[f]? = some (.long x) ∧ K x
def gPF (h : gaH) (a ci f : Nat) (v : Value) (K : gaH → Prop) : Prop := ∃ fs, h a = some (ci, fs) ∧ f < fs.length ∧ K (gaUp h a (ci, fs.set f v))
def gLI (h : gaH) (a t : Nat) (i : Int) (K : Int → Prop) : Prop := ∃ t' vs x, h a = some (t', vs) ∧ (t' = t ∨ t' = t + 1000) ∧ 0 ≤ i ∧ i ≤ 2147483647 ∧ vs[i.toNat]? = some (gi x) ∧ K x
def gLA (h : gaH) (a t : Nat) (i : Int) (K : Nat → Prop) : Prop := ∃ vs x, h a = some (t, vs) ∧ 0 ≤ i ∧ i ≤ 2147483647 ∧ vs[i.toNat]? = some (.ref x) ∧ K x
def gSI (h : gaH) (a t : Nat) (i : Int) (v : Value) (K : gaH → Prop) : Prop := ∃ vs, h a = some (t, vs) ∧ 0 ≤ i ∧ i ≤ 2147483647 ∧ i.toNat < vs.length ∧ K (gaUp h a (t, vs.set i.toNat v))
def gAL (h : gaH) (a t : Nat) (K : Int → Prop) : Prop := ∃ t' vs, h a = some (t', vs) ∧ (t' = t ∨ t' = t + 1000) ∧ K (vs.length : Int)
def gNA (h : gaH) (t : Nat) (v : Value) (x : Int) (c s : Nat) (K : Nat → gaH → Nat → Nat → Prop) : Prop := 0 ≤ x ∧ x ≤ 100000 ∧ 1 ≤ c ∧ x.toNat ≤ s ∧ ∀ a : Nat, h a = none → ∃ c2 s2, c2 = c - 1 ∧ s2 = s - x.toNat ∧ K a (gaUp h a (t, List.replicate x.toNat v)) c2 s2
def gNO (h : gaH) (ci n : Nat) (fs : List Value) (c s : Nat) (K : Nat → gaH → Nat → Nat → Prop) : Prop := 1 ≤ c ∧ n ≤ s ∧ ∀ a : Nat, h a = none → ∃ c2 s2, c2 = c - 1 ∧ s2 = s - n ∧ K a (gaUp h a (ci, fs)) c2 s2
def gHas (h : gaH) (a ci : Nat) : Prop := ∃ fs, h a = some (ci, fs)
def gQi (Q : Int → gaH → Prop) : Option Value → gaH → Prop := fun v h => ∃ r : Int, v = some (gi r) ∧ Q r h
def gQl (Q : Int64 → gaH → Prop) : Option Value → gaH → Prop := fun v h => ∃ r : Int64, v = some (.long r) ∧ Q r h
def gQa (Q : Nat → gaH → Prop) : Option Value → gaH → Prop := fun v h => ∃ r : Nat, v = some (.ref r) ∧ Q r h
def gQv (Q : gaH → Prop) : Option Value → gaH → Prop := fun v h => v = none ∧ Q h
theorem ga_t {c : Prop} [Decidable c] {A B : Prop} (q : c) (hw : if c then A else B) : A := by rwa [if_pos q] at hw
theorem ga_f {c : Prop} [Decidable c] {A B : Prop} (q : ¬ c) (hw : if c then A else B) : B := by rwa [if_neg q] at hw
theorem ga_bool {x : Int} (h : x = 0 ∨ x = 1) : narrow .boolean (gi x) = gi x := by rcases h with rfl | rfl <;> rfl
theorem ga_cat {L : List Value} (h : Nat.ble ((L.map fun v => v.category).sum) 8 = true) : (L.map fun v => v.category).sum ≤ 8 := Nat.le_of_ble_eq_true h
def gaArgs : List Value → List (Option Value)
  | [] => []
  | v :: vs => some v :: (if v.category = 2 then none :: gaArgs vs else gaArgs vs)
theorem gaArgs_mem : ∀ (av : List Value) (i j : Nat) (v : Value), (gaArgs av)[j]? = some (some v) → (i + j, v) ∈ lv_args i av
  | [], i, j, v, hq => by simp [gaArgs] at hq
  | w :: vs, i, j, v, hq => by
    unfold gaArgs at hq
    unfold lv_args
    cases j with
    | zero =>
      rw [List.getElem?_cons_zero] at hq
      cases hq
      exact List.mem_cons_self
    | succ j =>
      rw [List.getElem?_cons_succ] at hq
      refine List.mem_cons_of_mem _ ?_
      by_cases hc : w.category = 2
      · rw [if_pos hc] at hq ⊢
        cases j with
        | zero => rw [List.getElem?_cons_zero] at hq; cases hq
        | succ j =>
          rw [List.getElem?_cons_succ] at hq
          have := gaArgs_mem vs (i + 2) j v hq
          rwa [show i + 2 + j = i + (j + 1 + 1) by omega] at this
      · rw [if_neg hc] at hq ⊢
        have := gaArgs_mem vs (i + 1) j v hq
        rwa [show i + 1 + j = i + (j + 1) by omega] at this
theorem gaArgs_pad {av : List Value} {z : Nat} {lv : List (Option Value)} (hlv : gaArgs av ++ List.replicate z none = lv) : ∀ (i : Nat) (v : Value), lv[i]? = some (some v) → (i, v) ∈ lv_args 0 av := by
  subst hlv
  intro i v hq
  by_cases hl : i < (gaArgs av).length
  · rw [List.getElem?_append_left hl] at hq
    have := gaArgs_mem av 0 i v hq
    rwa [Nat.zero_add] at this
  · rw [List.getElem?_append_right (by omega)] at hq
    have := List.mem_of_getElem? hq
    have := List.eq_of_mem_replicate this
    cases this
section GAW
variable {p : Program} {l : Launch} {e : Env} {R : Room} {s : State} {m : MethodId} {args : Array Value} {below : List Frame} {meth : Method} {c : Code} {G : gaG} {cc : ByteArray} {own : String} {nL : Nat} {ws : List Cond} {ret : Option FieldType} {nm : String} {Q : Option Value → gaH → Prop} {X : String → gaH → Prop} {Z : State → Prop}
variable {pc n : Nat} {lv : List (Option Value)} {st : List Value} {h : gaH} {k j : Nat}
theorem gi_iadd (V : gaV p l s m args meth c G cc own nL ws ret nm) {x y : Int} (d : decode cc pc = .ok (.iadd, 1))  (hn : pc + 1 = n)
    (kk : gaP p l e R s m args below meth c G nL Z n lv (.int (Int32.ofInt (x + y)) :: st) h k j) : gaP p l e R s m args below meth c G nL Z pc lv (.int (Int32.ofInt y) :: .int (Int32.ofInt x) :: st) h k j := g_iadd V d hn (by rw [← Int32.ofInt_add]; exact kk)
theorem gi_isub (V : gaV p l s m args meth c G cc own nL ws ret nm) {x y : Int} (d : decode cc pc = .ok (.isub, 1))  (hn : pc + 1 = n)
    (kk : gaP p l e R s m args below meth c G nL Z n lv (.int (Int32.ofInt (x - y)) :: st) h k j) : gaP p l e R s m args below meth c G nL Z pc lv (.int (Int32.ofInt y) :: .int (Int32.ofInt x) :: st) h k j := g_isub V d hn (by rw [← Int32.ofInt_sub]; exact kk)
theorem gi_imul (V : gaV p l s m args meth c G cc own nL ws ret nm) {x y : Int} (d : decode cc pc = .ok (.imul, 1))  (hn : pc + 1 = n)
    (kk : gaP p l e R s m args below meth c G nL Z n lv (.int (Int32.ofInt (x * y)) :: st) h k j) : gaP p l e R s m args below meth c G nL Z pc lv (.int (Int32.ofInt y) :: .int (Int32.ofInt x) :: st) h k j := g_imul V d hn (by rw [← Int32.ofInt_mul]; exact kk)
theorem gi_iand (V : gaV p l s m args meth c G cc own nL ws ret nm) {x y : Int} (d : decode cc pc = .ok (.iand, 1))  (hn : pc + 1 = n)
    (kk : gaP p l e R s m args below meth c G nL Z n lv (.int (Int32.ofInt (gAnd x y)) :: st) h k j) : gaP p l e R s m args below meth c G nL Z pc lv (.int (Int32.ofInt y) :: .int (Int32.ofInt x) :: st) h k j := g_iand V d hn (by unfold gAnd at kk; rw [gi_back] at kk; exact kk)
theorem gi_ior (V : gaV p l s m args meth c G cc own nL ws ret nm) {x y : Int} (d : decode cc pc = .ok (.ior, 1))  (hn : pc + 1 = n)
    (kk : gaP p l e R s m args below meth c G nL Z n lv (.int (Int32.ofInt (gOr x y)) :: st) h k j) : gaP p l e R s m args below meth c G nL Z pc lv (.int (Int32.ofInt y) :: .int (Int32.ofInt x) :: st) h k j := g_ior V d hn (by unfold gOr at kk; rw [gi_back] at kk; exact kk)
theorem gi_ishl (V : gaV p l s m args meth c G cc own nL ws ret nm) {x y : Int} (d : decode cc pc = .ok (.ishl, 1))  (hn : pc + 1 = n)
    (kk : gaP p l e R s m args below meth c G nL Z n lv (.int (Int32.ofInt (gShl x y)) :: st) h k j) : gaP p l e R s m args below meth c G nL Z pc lv (.int (Int32.ofInt y) :: .int (Int32.ofInt x) :: st) h k j := g_ishl V d hn (by unfold gShl at kk; rw [gi_back] at kk; exact kk)
theorem gi_ishr (V : gaV p l s m args meth c G cc own nL ws ret nm) {x y : Int} (d : decode cc pc = .ok (.ishr, 1))  (hn : pc + 1 = n)
    (kk : gaP p l e R s m args below meth c G nL Z n lv (.int (Int32.ofInt (gShr x y)) :: st) h k j) : gaP p l e R s m args below meth c G nL Z pc lv (.int (Int32.ofInt y) :: .int (Int32.ofInt x) :: st) h k j := g_ishr V d hn (by unfold gShr at kk; rw [gi_back] at kk; exact kk)
theorem gi_iushr (V : gaV p l s m args meth c G cc own nL ws ret nm) {x y : Int} (d : decode cc pc = .ok (.iushr, 1))  (hn : pc + 1 = n)
    (kk : gaP p l e R s m args below meth c G nL Z n lv (.int (Int32.ofInt (gUshr x y)) :: st) h k j) : gaP p l e R s m args below meth c G nL Z pc lv (.int (Int32.ofInt y) :: .int (Int32.ofInt x) :: st) h k j := g_iushr V d hn (by unfold gUshr at kk; rw [gi_back] at kk; exact kk)
theorem gi_idiv (V : gaV p l s m args meth c G cc own nL ws ret nm) {x y : Int} (d : decode cc pc = .ok (.idiv, 1)) (hy : gR y) (h0 : ¬ y = 0) (hn : pc + 1 = n)
    (kk : gaP p l e R s m args below meth c G nL Z n lv (.int (Int32.ofInt (gDiv x y)) :: st) h k j) : gaP p l e R s m args below meth c G nL Z pc lv (.int (Int32.ofInt y) :: .int (Int32.ofInt x) :: st) h k j := g_idiv V d (by rw [gi_0, gi_eq hy ⟨by decide, by decide⟩]; exact h0) hn (by unfold gDiv at kk; rw [gi_back] at kk; exact kk)
theorem gi_irem (V : gaV p l s m args meth c G cc own nL ws ret nm) {x y : Int} (d : decode cc pc = .ok (.irem, 1)) (hy : gR y) (h0 : ¬ y = 0) (hn : pc + 1 = n)
    (kk : gaP p l e R s m args below meth c G nL Z n lv (.int (Int32.ofInt (gRem x y)) :: st) h k j) : gaP p l e R s m args below meth c G nL Z pc lv (.int (Int32.ofInt y) :: .int (Int32.ofInt x) :: st) h k j := g_irem V d (by rw [gi_0, gi_eq hy ⟨by decide, by decide⟩]; exact h0) hn (by unfold gRem at kk; rw [gi_back] at kk; exact kk)
theorem gi_ineg (V : gaV p l s m args meth c G cc own nL ws ret nm) {x : Int} (d : decode cc pc = .ok (.ineg, 1)) (hn : pc + 1 = n)
    (kk : gaP p l e R s m args below meth c G nL Z n lv (.int (Int32.ofInt (-x)) :: st) h k j) : gaP p l e R s m args below meth c G nL Z pc lv (.int (Int32.ofInt x) :: st) h k j := g_ineg V d hn (by rw [← Int32.neg_ofInt] at kk; exact kk)
theorem gi_i2b (V : gaV p l s m args meth c G cc own nL ws ret nm) {x : Int} (d : decode cc pc = .ok (.i2b, 1)) (hn : pc + 1 = n)
    (kk : gaP p l e R s m args below meth c G nL Z n lv (.int (Int32.ofInt (gI2b x)) :: st) h k j) : gaP p l e R s m args below meth c G nL Z pc lv (.int (Int32.ofInt x) :: st) h k j := g_i2b V d hn (by unfold gI2b at kk; rw [gi_back] at kk; exact kk)
theorem gi_i2c (V : gaV p l s m args meth c G cc own nL ws ret nm) {x : Int} (d : decode cc pc = .ok (.i2c, 1)) (hn : pc + 1 = n)
    (kk : gaP p l e R s m args below meth c G nL Z n lv (.int (Int32.ofInt (gI2c x)) :: st) h k j) : gaP p l e R s m args below meth c G nL Z pc lv (.int (Int32.ofInt x) :: st) h k j := g_i2c V d hn (by unfold gI2c at kk; rw [gi_back] at kk; exact kk)
theorem gi_i2l (V : gaV p l s m args meth c G cc own nL ws ret nm) {x : Int} (d : decode cc pc = .ok (.i2l, 1)) (hn : pc + 1 = n)
    (kk : gaP p l e R s m args below meth c G nL Z n lv (.long (gI2l x) :: st) h k j) : gaP p l e R s m args below meth c G nL Z pc lv (.int (Int32.ofInt x) :: st) h k j := g_i2l V d hn kk
theorem gi_iinc (V : gaV p l s m args meth c G cc own nL ws ret nm) {i : Nat} {q x : Int} {lv2 : List (Option Value)} (d : decode cc pc = .ok (.iinc i q, 3)) (hi : i < nL) (hl : lv[i]? = some (some (.int (Int32.ofInt x)))) (hok : gaOk lv i = true) (hlv : lv.set i (some (.int (Int32.ofInt (x + q)))) = lv2) (hn : pc + 3 = n)
    (kk : gaP p l e R s m args below meth c G nL Z n lv2 st h k j) : gaP p l e R s m args below meth c G nL Z pc lv st h k j := g_iinc V d hi hl rfl hok (by rw [← Int32.ofInt_add]; exact hlv) hn kk
theorem gi_if_eq (V : gaV p l s m args meth c G cc own nL ws ret nm) {x : Int} {off : Int} {t : Nat} (d : decode cc pc = .ok (.ifCond .eq off, 3)) (ht : (pc : Int) + off = (t : Int)) (hn : pc + 3 = n) (hx : gR x)
    (kt : x = 0 → gaP p l e R s m args below meth c G nL Z t lv st h k j) (kf : ¬ (x = 0) → gaP p l e R s m args below meth c G nL Z n lv st h k j) : gaP p l e R s m args below meth c G nL Z pc lv (.int (Int32.ofInt x) :: st) h k j := by
  have h00 : gR 0 := ⟨by decide, by decide⟩
  refine g_if_eq V d ht hn (fun q => kt ?_) (fun q => kf ?_) <;> (rw [gi_0, gi_eq hx h00] at q; exact q)
theorem gi_if_ne (V : gaV p l s m args meth c G cc own nL ws ret nm) {x : Int} {off : Int} {t : Nat} (d : decode cc pc = .ok (.ifCond .ne off, 3)) (ht : (pc : Int) + off = (t : Int)) (hn : pc + 3 = n) (hx : gR x)
    (kt : ¬ x = 0 → gaP p l e R s m args below meth c G nL Z t lv st h k j) (kf : x = 0 → gaP p l e R s m args below meth c G nL Z n lv st h k j) : gaP p l e R s m args below meth c G nL Z pc lv (.int (Int32.ofInt x) :: st) h k j := by
  have h00 : gR 0 := ⟨by decide, by decide⟩
  refine g_if_ne V d ht hn (fun q => kt ?_) (fun q => kf ?_) <;> (rw [gi_0, gi_eq hx h00] at q; exact q)
theorem gi_if_lt (V : gaV p l s m args meth c G cc own nL ws ret nm) {x : Int} {off : Int} {t : Nat} (d : decode cc pc = .ok (.ifCond .lt off, 3)) (ht : (pc : Int) + off = (t : Int)) (hn : pc + 3 = n) (hx : gR x)
    (kt : x < 0 → gaP p l e R s m args below meth c G nL Z t lv st h k j) (kf : ¬ (x < 0) → gaP p l e R s m args below meth c G nL Z n lv st h k j) : gaP p l e R s m args below meth c G nL Z pc lv (.int (Int32.ofInt x) :: st) h k j := by
  have h00 : gR 0 := ⟨by decide, by decide⟩
  refine g_if_lt V d ht hn (fun q => kt ?_) (fun q => kf ?_) <;> (rw [gi_0, gi_lt hx h00] at q; exact q)
theorem gi_if_ge (V : gaV p l s m args meth c G cc own nL ws ret nm) {x : Int} {off : Int} {t : Nat} (d : decode cc pc = .ok (.ifCond .ge off, 3)) (ht : (pc : Int) + off = (t : Int)) (hn : pc + 3 = n) (hx : gR x)
    (kt : 0 ≤ x → gaP p l e R s m args below meth c G nL Z t lv st h k j) (kf : ¬ (0 ≤ x) → gaP p l e R s m args below meth c G nL Z n lv st h k j) : gaP p l e R s m args below meth c G nL Z pc lv (.int (Int32.ofInt x) :: st) h k j := by
  have h00 : gR 0 := ⟨by decide, by decide⟩
  refine g_if_ge V d ht hn (fun q => kt ?_) (fun q => kf ?_) <;> (rw [gi_0, gi_le h00 hx] at q; exact q)
theorem gi_if_gt (V : gaV p l s m args meth c G cc own nL ws ret nm) {x : Int} {off : Int} {t : Nat} (d : decode cc pc = .ok (.ifCond .gt off, 3)) (ht : (pc : Int) + off = (t : Int)) (hn : pc + 3 = n) (hx : gR x)
    (kt : 0 < x → gaP p l e R s m args below meth c G nL Z t lv st h k j) (kf : ¬ (0 < x) → gaP p l e R s m args below meth c G nL Z n lv st h k j) : gaP p l e R s m args below meth c G nL Z pc lv (.int (Int32.ofInt x) :: st) h k j := by
  have h00 : gR 0 := ⟨by decide, by decide⟩
  refine g_if_gt V d ht hn (fun q => kt ?_) (fun q => kf ?_) <;> (rw [gi_0, gi_lt h00 hx] at q; exact q)
theorem gi_if_le (V : gaV p l s m args meth c G cc own nL ws ret nm) {x : Int} {off : Int} {t : Nat} (d : decode cc pc = .ok (.ifCond .le off, 3)) (ht : (pc : Int) + off = (t : Int)) (hn : pc + 3 = n) (hx : gR x)
    (kt : x ≤ 0 → gaP p l e R s m args below meth c G nL Z t lv st h k j) (kf : ¬ (x ≤ 0) → gaP p l e R s m args below meth c G nL Z n lv st h k j) : gaP p l e R s m args below meth c G nL Z pc lv (.int (Int32.ofInt x) :: st) h k j := by
  have h00 : gR 0 := ⟨by decide, by decide⟩
  refine g_if_le V d ht hn (fun q => kt ?_) (fun q => kf ?_) <;> (rw [gi_0, gi_le hx h00] at q; exact q)
theorem gi_icmp_eq (V : gaV p l s m args meth c G cc own nL ws ret nm) {x y : Int} {off : Int} {t : Nat} (d : decode cc pc = .ok (.if_icmp .eq off, 3)) (ht : (pc : Int) + off = (t : Int)) (hn : pc + 3 = n) (hx : gR x) (hy : gR y)
    (kt : x = y → gaP p l e R s m args below meth c G nL Z t lv st h k j) (kf : ¬ (x = y) → gaP p l e R s m args below meth c G nL Z n lv st h k j) : gaP p l e R s m args below meth c G nL Z pc lv (.int (Int32.ofInt y) :: .int (Int32.ofInt x) :: st) h k j := by
  refine g_icmp_eq V d ht hn (fun q => kt ?_) (fun q => kf ?_) <;> (rw [gi_eq hx hy] at q; exact q)
theorem gi_icmp_ne (V : gaV p l s m args meth c G cc own nL ws ret nm) {x y : Int} {off : Int} {t : Nat} (d : decode cc pc = .ok (.if_icmp .ne off, 3)) (ht : (pc : Int) + off = (t : Int)) (hn : pc + 3 = n) (hx : gR x) (hy : gR y)
    (kt : ¬ x = y → gaP p l e R s m args below meth c G nL Z t lv st h k j) (kf : x = y → gaP p l e R s m args below meth c G nL Z n lv st h k j) : gaP p l e R s m args below meth c G nL Z pc lv (.int (Int32.ofInt y) :: .int (Int32.ofInt x) :: st) h k j := by
  refine g_icmp_ne V d ht hn (fun q => kt ?_) (fun q => kf ?_) <;> (rw [gi_eq hx hy] at q; exact q)
theorem gi_icmp_lt (V : gaV p l s m args meth c G cc own nL ws ret nm) {x y : Int} {off : Int} {t : Nat} (d : decode cc pc = .ok (.if_icmp .lt off, 3)) (ht : (pc : Int) + off = (t : Int)) (hn : pc + 3 = n) (hx : gR x) (hy : gR y)
    (kt : x < y → gaP p l e R s m args below meth c G nL Z t lv st h k j) (kf : ¬ (x < y) → gaP p l e R s m args below meth c G nL Z n lv st h k j) : gaP p l e R s m args below meth c G nL Z pc lv (.int (Int32.ofInt y) :: .int (Int32.ofInt x) :: st) h k j := by
  refine g_icmp_lt V d ht hn (fun q => kt ?_) (fun q => kf ?_) <;> (rw [gi_lt hx hy] at q; exact q)
theorem gi_icmp_ge (V : gaV p l s m args meth c G cc own nL ws ret nm) {x y : Int} {off : Int} {t : Nat} (d : decode cc pc = .ok (.if_icmp .ge off, 3)) (ht : (pc : Int) + off = (t : Int)) (hn : pc + 3 = n) (hx : gR x) (hy : gR y)
    (kt : y ≤ x → gaP p l e R s m args below meth c G nL Z t lv st h k j) (kf : ¬ (y ≤ x) → gaP p l e R s m args below meth c G nL Z n lv st h k j) : gaP p l e R s m args below meth c G nL Z pc lv (.int (Int32.ofInt y) :: .int (Int32.ofInt x) :: st) h k j := by
  refine g_icmp_ge V d ht hn (fun q => kt ?_) (fun q => kf ?_) <;> (rw [gi_le hy hx] at q; exact q)
theorem gi_icmp_gt (V : gaV p l s m args meth c G cc own nL ws ret nm) {x y : Int} {off : Int} {t : Nat} (d : decode cc pc = .ok (.if_icmp .gt off, 3)) (ht : (pc : Int) + off = (t : Int)) (hn : pc + 3 = n) (hx : gR x) (hy : gR y)
    (kt : y < x → gaP p l e R s m args below meth c G nL Z t lv st h k j) (kf : ¬ (y < x) → gaP p l e R s m args below meth c G nL Z n lv st h k j) : gaP p l e R s m args below meth c G nL Z pc lv (.int (Int32.ofInt y) :: .int (Int32.ofInt x) :: st) h k j := by
  refine g_icmp_gt V d ht hn (fun q => kt ?_) (fun q => kf ?_) <;> (rw [gi_lt hy hx] at q; exact q)
theorem gi_icmp_le (V : gaV p l s m args meth c G cc own nL ws ret nm) {x y : Int} {off : Int} {t : Nat} (d : decode cc pc = .ok (.if_icmp .le off, 3)) (ht : (pc : Int) + off = (t : Int)) (hn : pc + 3 = n) (hx : gR x) (hy : gR y)
    (kt : x ≤ y → gaP p l e R s m args below meth c G nL Z t lv st h k j) (kf : ¬ (x ≤ y) → gaP p l e R s m args below meth c G nL Z n lv st h k j) : gaP p l e R s m args below meth c G nL Z pc lv (.int (Int32.ofInt y) :: .int (Int32.ofInt x) :: st) h k j := by
  refine g_icmp_le V d ht hn (fun q => kt ?_) (fun q => kf ?_) <;> (rw [gi_le hx hy] at q; exact q)
theorem gi_iaload (V : gaV p l s m args meth c G cc own nL ws ret nm) {a t : Nat} {vs : List Value} {i x : Int} (ha : h a = some (t, vs)) (ht : t = 102 ∨ t = 102 + 1000) (h0 : 0 ≤ i) (h9 : i ≤ 2147483647) (hv : vs[i.toNat]? = some (gi x)) (d : decode cc pc = .ok (.iaload, 1)) (hn : pc + 1 = n)
    (kk : gaP p l e R s m args below meth c G nL Z n lv (gi x :: st) h k j) : gaP p l e R s m args below meth c G nL Z pc lv (gi i :: .ref a :: st) h k j := g_iaload V ha ht (gi_nn h0 h9) (by rw [gi_clamp h0 h9]; exact hv) d hn kk
theorem gi_baloadZ (V : gaV p l s m args meth c G cc own nL ws ret nm) {a t : Nat} {vs : List Value} {i x : Int} (ha : h a = some (t, vs)) (ht : t = 100 ∨ t = 100 + 1000) (h0 : 0 ≤ i) (h9 : i ≤ 2147483647) (hv : vs[i.toNat]? = some (gi x)) (d : decode cc pc = .ok (.baload, 1)) (hn : pc + 1 = n)
    (kk : gaP p l e R s m args below meth c G nL Z n lv (gi x :: st) h k j) : gaP p l e R s m args below meth c G nL Z pc lv (gi i :: .ref a :: st) h k j := g_baloadZ V ha ht (gi_nn h0 h9) (by rw [gi_clamp h0 h9]; exact hv) d hn kk
theorem gi_baloadB (V : gaV p l s m args meth c G cc own nL ws ret nm) {a t : Nat} {vs : List Value} {i x : Int} (ha : h a = some (t, vs)) (ht : t = 101 ∨ t = 101 + 1000) (h0 : 0 ≤ i) (h9 : i ≤ 2147483647) (hv : vs[i.toNat]? = some (gi x)) (d : decode cc pc = .ok (.baload, 1)) (hn : pc + 1 = n)
    (kk : gaP p l e R s m args below meth c G nL Z n lv (gi x :: st) h k j) : gaP p l e R s m args below meth c G nL Z pc lv (gi i :: .ref a :: st) h k j := g_baloadB V ha ht (gi_nn h0 h9) (by rw [gi_clamp h0 h9]; exact hv) d hn kk
theorem gi_aaload (V : gaV p l s m args meth c G cc own nL ws ret nm) {a t b : Nat} {vs : List Value} {i : Int} (ha : h a = some (t, vs)) (ht : t = 110 ∨ t = 111 ∨ t = 112) (h0 : 0 ≤ i) (h9 : i ≤ 2147483647) (hv : vs[i.toNat]? = some (.ref b)) (d : decode cc pc = .ok (.aaload, 1)) (hn : pc + 1 = n)
    (kk : gaP p l e R s m args below meth c G nL Z n lv (.ref b :: st) h k j) : gaP p l e R s m args below meth c G nL Z pc lv (gi i :: .ref a :: st) h k j := g_aaload V ha ht (gi_nn h0 h9) (by rw [gi_clamp h0 h9]; exact hv) d hn kk
theorem gi_arraylength (V : gaV p l s m args meth c G cc own nL ws ret nm) {a t t0 : Nat} {vs : List Value} (hT : gaT t0) (ha : h a = some (t, vs)) (ht : t = t0 ∨ t = t0 + 1000) (d : decode cc pc = .ok (.arraylength, 1)) (hn : pc + 1 = n)
    (kk : gaP p l e R s m args below meth c G nL Z n lv (gi (vs.length : Int) :: st) h k j) : gaP p l e R s m args below meth c G nL Z pc lv (.ref a :: st) h k j := g_arraylength V ha hT ht d hn (by rw [gi_len]; exact kk)
theorem gi_iastore (V : gaV p l s m args meth c G cc own nL ws ret nm) {a : Nat} {vs : List Value} {i x : Int} (ha : h a = some (102, vs)) (h0 : 0 ≤ i) (h9 : i ≤ 2147483647) (hi : i.toNat < vs.length) (d : decode cc pc = .ok (.iastore, 1)) (hn : pc + 1 = n)
    (kk : gaP p l e R s m args below meth c G nL Z n lv st (gaUp h a (102, vs.set i.toNat (gi x))) k j) : gaP p l e R s m args below meth c G nL Z pc lv (gi x :: gi i :: .ref a :: st) h k j := g_iastore V ha (gi_nn h0 h9) (by rw [gi_clamp h0 h9]; exact hi) d hn (by rw [gi_clamp h0 h9]; exact kk)
theorem gi_bastoreZ (V : gaV p l s m args meth c G cc own nL ws ret nm) {a : Nat} {vs : List Value} {i x : Int} (hb : narrow .boolean (gi x) = gi x) (ha : h a = some (100, vs)) (h0 : 0 ≤ i) (h9 : i ≤ 2147483647) (hi : i.toNat < vs.length) (d : decode cc pc = .ok (.bastore, 1)) (hn : pc + 1 = n)
    (kk : gaP p l e R s m args below meth c G nL Z n lv st (gaUp h a (100, vs.set i.toNat (gi x))) k j) : gaP p l e R s m args below meth c G nL Z pc lv (gi x :: gi i :: .ref a :: st) h k j := g_bastoreZ V ha (gi_nn h0 h9) (by rw [gi_clamp h0 h9]; exact hi) d hn (by rw [gi_clamp h0 h9, hb]; exact kk)
theorem gi_bastoreB (V : gaV p l s m args meth c G cc own nL ws ret nm) {a : Nat} {vs : List Value} {i x : Int} (hb : narrow .byte (gi x) = gi x) (ha : h a = some (101, vs)) (h0 : 0 ≤ i) (h9 : i ≤ 2147483647) (hi : i.toNat < vs.length) (d : decode cc pc = .ok (.bastore, 1)) (hn : pc + 1 = n)
    (kk : gaP p l e R s m args below meth c G nL Z n lv st (gaUp h a (101, vs.set i.toNat (gi x))) k j) : gaP p l e R s m args below meth c G nL Z pc lv (gi x :: gi i :: .ref a :: st) h k j := g_bastoreB V ha (gi_nn h0 h9) (by rw [gi_clamp h0 h9]; exact hi) d hn (by rw [gi_clamp h0 h9, hb]; exact kk)
theorem gi_newarray (V : gaV p l s m args meth c G cc own nL ws ret nm) {atype : ArrayType} {t : Nat} (hT : t = 100 ∨ t = 101 ∨ t = 102) (hty : newarray.typeOf atype = gaTy t) (harr : Cond.arrayClass (newarray.typeOf atype) ∈ ws) {x : Int} (h0 : 0 ≤ x) (hb : x ≤ 100000) (d : decode cc pc = .ok (.newarray atype, 2)) (hn : pc + 2 = n) (hk : 1 ≤ k) (hj : x.toNat ≤ j)
    (kk : ∀ a : Nat, h a = none → gaP p l e R s m args below meth c G nL Z n lv (.ref a :: st) (gaUp h a (t, List.replicate x.toNat (gi 0))) (k - 1) (j - x.toNat)) : gaP p l e R s m args below meth c G nL Z pc lv (gi x :: st) h k j := by
  have e := gi_clamp h0 (show x ≤ 2147483647 by omega)
  refine g_newarray V hT hty harr (gi_nn h0 (by omega)) (by rw [e]; omega) d hn hk (by rw [e]; exact hj) ?_
  rw [e]
  exact kk
theorem gi_anewarray (V : gaV p l s m args meth c G cc own nL ws ret nm) {t index : Nat} (hT : t = 110 ∨ t = 111) (hcl : Cond.classLink own index (gaCn t) ∈ ws) {x : Int} (h0 : 0 ≤ x) (hb : x ≤ 100000) (d : decode cc pc = .ok (.anewarray index, 3)) (hn : pc + 3 = n) (hk : 1 ≤ k) (hj : x.toNat ≤ j)
    (kk : ∀ a : Nat, h a = none → gaP p l e R s m args below meth c G nL Z n lv (.ref a :: st) (gaUp h a (t, List.replicate x.toNat .null)) (k - 1) (j - x.toNat)) : gaP p l e R s m args below meth c G nL Z pc lv (gi x :: st) h k j := by
  have e := gi_clamp h0 (show x ≤ 2147483647 by omega)
  refine g_anewarray V hT hcl (gi_nn h0 (by omega)) (by rw [e]; omega) d hn hk (by rw [e]; exact hj) ?_
  rw [e]
  exact kk
theorem gi_aastoreO (V : gaV p l s m args meth c G cc own nL ws ret nm) {a b t ci N : Nat} {T : u_T} {vs : List Value} {i : Int} (hT : t = 110 ∨ t = 111) (hc : vwCl[ci]? = some (gaCn t, T, N)) (hci : ci < 100) (ha : h a = some (t, vs)) (hv : gHas h b ci) (h0 : 0 ≤ i) (h9 : i ≤ 2147483647) (hi : i.toNat < vs.length) (d : decode cc pc = .ok (.aastore, 1)) (hn : pc + 1 = n)
    (kk : gaP p l e R s m args below meth c G nL Z n lv st (gaUp h a (t, vs.set i.toNat (.ref b))) k j) : gaP p l e R s m args below meth c G nL Z pc lv (.ref b :: gi i :: .ref a :: st) h k j := by
  obtain ⟨fs, hv⟩ := hv
  exact g_aastoreO V hT hc hci ha hv (gi_nn h0 h9) (by rw [gi_clamp h0 h9]; exact hi) d hn (by rw [gi_clamp h0 h9]; exact kk)
theorem ga_asg (vm : Vm) (c : ClassId) : vm.assignable c c = true := by
  show vm.assignableAux (255 + 1) c c = true
  rw [Vm.assignableAux]
  simp
theorem gi_mmax (V : gaV p l s m args meth c G cc own nL ws ret nm) {index : Nat} (hlink : Cond.methodLink own index Lib.Math.max.name ∈ ws) (hstat : Cond.static Lib.Math.max.name ∈ ws) (hini : Cond.initialized "java/lang/Math" ∈ ws) (hcode : Cond.code Lib.Math.max.name Lib.Math.max.code 2 (some .int) ∈ ws) (hfr : 1 ≤ R.frames) (hlo : 24 ≤ R.locals) (hcat : (st.map fun v => v.category).sum ≤ 8) {x y : Int} (hx : gR x) (hy : gR y) (d : decode cc pc = .ok (.invokestatic index, 3)) (hn : pc + 3 = n)
    (kk : gaP p l e R s m args below meth c G nL Z n lv (gi (max x y) :: st) h k j) : gaP p l e R s m args below meth c G nL Z pc lv (gi y :: gi x :: st) h k j := by
  subst hn
  intro H locs ls cells slots hR hS hL h1 h2
  have hts := V.2.2.2.2.1
  have key := kk H locs ls cells slots hR hS hL h1 h2
  refine va_mmax V.1 V.2.1 (by rw [V.2.2.1]; exact hL.1.symm) V.2.2.2.1 (hts _ hlink) (hts _ hstat) (hts _ hini) (hts _ hcode) hfr (by omega) (by omega) (by omega) d ?_
  have e9 : (if Int32.ofInt x < Int32.ofInt y then Int32.ofInt y else Int32.ofInt x) = Int32.ofInt (max x y) := by
    simp only [gi_lt hx hy, gi_lt hy hx]
    by_cases hq : x < y
    · rw [if_pos hq]; congr 1; omega
    · rw [if_neg hq]; congr 1; omega
  rw [e9]
  exact key
theorem gi_mmin (V : gaV p l s m args meth c G cc own nL ws ret nm) {index : Nat} (hlink : Cond.methodLink own index Lib.Math.min.name ∈ ws) (hstat : Cond.static Lib.Math.min.name ∈ ws) (hini : Cond.initialized "java/lang/Math" ∈ ws) (hcode : Cond.code Lib.Math.min.name Lib.Math.min.code 2 (some .int) ∈ ws) (hfr : 1 ≤ R.frames) (hlo : 24 ≤ R.locals) (hcat : (st.map fun v => v.category).sum ≤ 8) {x y : Int} (hx : gR x) (hy : gR y) (d : decode cc pc = .ok (.invokestatic index, 3)) (hn : pc + 3 = n)
    (kk : gaP p l e R s m args below meth c G nL Z n lv (gi (min x y) :: st) h k j) : gaP p l e R s m args below meth c G nL Z pc lv (gi y :: gi x :: st) h k j := by
  subst hn
  intro H locs ls cells slots hR hS hL h1 h2
  have hts := V.2.2.2.2.1
  have key := kk H locs ls cells slots hR hS hL h1 h2
  refine va_mmin V.1 V.2.1 (by rw [V.2.2.1]; exact hL.1.symm) V.2.2.2.1 (hts _ hlink) (hts _ hstat) (hts _ hini) (hts _ hcode) hfr (by omega) (by omega) (by omega) d ?_
  have e9 : (if Int32.ofInt y < Int32.ofInt x then Int32.ofInt y else Int32.ofInt x) = Int32.ofInt (min x y) := by
    simp only [gi_lt hx hy, gi_lt hy hx]
    by_cases hq : y < x
    · rw [if_pos hq]; congr 1; omega
    · rw [if_neg hq]; congr 1; omega
  rw [e9]
  exact key
theorem ga_re {k2 j2 : Nat} (e2 : k2 = k) (e3 : j2 = j) (kk : gaP p l e R s m args below meth c G nL Z pc lv st h k2 j2) : gaP p l e R s m args below meth c G nL Z pc lv st h k j := by
  subst e2; subst e3; exact kk
theorem gaO_re {E : String} {k2 j2 : Nat} (e2 : k2 = k) (e3 : j2 = j) (kk : gaO p l e R s m args below meth c G nL Z pc lv E h k2 j2) : gaO p l e R s m args below meth c G nL Z pc lv E h k j := by
  subst e2; subst e3; exact kk
theorem g_stk {st2 : List Value} {k2 j2 : Nat} (e1 : st = st2) (e2 : k = k2) (e3 : j = j2) (kk : gaP p l e R s m args below meth c G nL Z pc lv st2 h k2 j2) : gaP p l e R s m args below meth c G nL Z pc lv st h k j := by
  subst e1; subst e2; subst e3; exact kk
theorem ga_ki {Q2 : Int → gaH → Prop} {k2 j2 : Nat} (kk : ∀ r h', Q2 r h' → gaP p l e R s m args below meth c G nL Z n lv (gi r :: st) h' k2 j2) : ∀ v h', gQi Q2 v h' → gaP p l e R s m args below meth c G nL Z n lv (v.toList ++ st) h' k2 j2 := by
  rintro v h' ⟨r, rfl, hq⟩
  exact kk r h' hq
theorem ga_kl {Q2 : Int64 → gaH → Prop} {k2 j2 : Nat} (kk : ∀ r h', Q2 r h' → gaP p l e R s m args below meth c G nL Z n lv (.long r :: st) h' k2 j2) : ∀ v h', gQl Q2 v h' → gaP p l e R s m args below meth c G nL Z n lv (v.toList ++ st) h' k2 j2 := by
  rintro v h' ⟨r, rfl, hq⟩
  exact kk r h' hq
theorem ga_ka {Q2 : Nat → gaH → Prop} {k2 j2 : Nat} (kk : ∀ r h', Q2 r h' → gaP p l e R s m args below meth c G nL Z n lv (.ref r :: st) h' k2 j2) : ∀ v h', gQa Q2 v h' → gaP p l e R s m args below meth c G nL Z n lv (v.toList ++ st) h' k2 j2 := by
  rintro v h' ⟨r, rfl, hq⟩
  exact kk r h' hq
theorem ga_kv {Q2 : gaH → Prop} {k2 j2 : Nat} (kk : ∀ h', Q2 h' → gaP p l e R s m args below meth c G nL Z n lv st h' k2 j2) : ∀ v h', gQv Q2 v h' → gaP p l e R s m args below meth c G nL Z n lv (v.toList ++ st) h' k2 j2 := by
  rintro v h' ⟨rfl, hq⟩
  exact kk h' hq
theorem gaV.nt (V : gaV p l s m args meth c G cc own nL ws ret nm) : l.stackTraces = false := V.2.2.2.2.2.2.2.2.2.2
theorem gaV.z0 (V : gaV p l s m args meth c G cc own nL ws ret nm) : va_Z RX0 "CODES_FOR_A" "[I" (.ref (G.2.2.2 0)) (gaA G) s s.heap := V.2.2.2.2.2.2.2.2.2.1.2.2.2.1.1
end GAW
