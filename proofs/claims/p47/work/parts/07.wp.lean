/-! The words of weakest preconditions over abstract heaps. -/
def gIs (h : gaH) (a ci : Nat) : Prop := ∃ fs, h a = some (ci, fs)
def gI (h : gaH) (a ci f : Nat) (K : Int32 → Prop) : Prop := ∃ fs x, h a = some (ci, fs) ∧ fs[f]? = some (.int x) ∧ K x
def gA (h : gaH) (a ci f : Nat) (K : Nat → Prop) : Prop := ∃ fs x, h a = some (ci, fs) ∧ fs[f]? = some (.ref x) ∧ K x
def gPF (h : gaH) (a ci f : Nat) (v : Value) (K : gaH → Prop) : Prop := ∃ fs, h a = some (ci, fs) ∧ f < fs.length ∧ K (gaUp h a (ci, fs.set f v))
def gLI (h : gaH) (a t : Nat) (i : Int32) (K : Int32 → Prop) : Prop := ∃ t' vs x, h a = some (t', vs) ∧ (t' = t ∨ t' = t + 1000) ∧ ¬ i < 0 ∧ vs[i.toNatClampNeg]? = some (.int x) ∧ K x
def gLA (h : gaH) (a t : Nat) (i : Int32) (K : Nat → Prop) : Prop := ∃ vs x, h a = some (t, vs) ∧ ¬ i < 0 ∧ vs[i.toNatClampNeg]? = some (.ref x) ∧ K x
def gSI (h : gaH) (a t : Nat) (i : Int32) (v : Value) (K : gaH → Prop) : Prop := ∃ vs, h a = some (t, vs) ∧ ¬ i < 0 ∧ i.toNatClampNeg < vs.length ∧ K (gaUp h a (t, vs.set i.toNatClampNeg v))
def gAL (h : gaH) (a t : Nat) (K : Int32 → Prop) : Prop := ∃ t' vs, h a = some (t', vs) ∧ (t' = t ∨ t' = t + 1000) ∧ K (Int32.ofNat vs.length)
def gNA (h : gaH) (t : Nat) (v : Value) (x : Int32) (c s : Nat) (K : Nat → gaH → Nat → Nat → Prop) : Prop := ¬ x < 0 ∧ x.toNatClampNeg ≤ 100000 ∧ 1 ≤ c ∧ x.toNatClampNeg ≤ s ∧ ∀ a : Nat, h a = none → K a (gaUp h a (t, List.replicate x.toNatClampNeg v)) (c - 1) (s - x.toNatClampNeg)
def gNO (h : gaH) (ci n : Nat) (fs : List Value) (c s : Nat) (K : Nat → gaH → Nat → Nat → Prop) : Prop := 1 ≤ c ∧ n ≤ s ∧ ∀ a : Nat, h a = none → K a (gaUp h a (ci, fs)) (c - 1) (s - n)
def gLet {α : Type} (v : α) (K : α → Prop) : Prop := ∀ x : α, x = v → K x
def gQi (Q : Int32 → gaH → Prop) : Option Value → gaH → Prop := fun v h => ∃ r : Int32, v = some (.int r) ∧ Q r h
def gQl (Q : Int64 → gaH → Prop) : Option Value → gaH → Prop := fun v h => ∃ r : Int64, v = some (.long r) ∧ Q r h
def gQa (Q : Nat → gaH → Prop) : Option Value → gaH → Prop := fun v h => ∃ r : Nat, v = some (.ref r) ∧ Q r h
def gQv (Q : gaH → Prop) : Option Value → gaH → Prop := fun v h => v = none ∧ Q h
theorem ga_t {c : Prop} [Decidable c] {A B : Prop} (q : c) (hw : if c then A else B) : A := by rwa [if_pos q] at hw
theorem ga_f {c : Prop} [Decidable c] {A B : Prop} (q : ¬ c) (hw : if c then A else B) : B := by rwa [if_neg q] at hw
theorem ga_bool {x : Int32} (h : x = 0 ∨ x = 1) : narrow .boolean (.int x) = .int x := by rcases h with rfl | rfl <;> rfl
def gaArgs : List Value → List (Option Value)
  | [] => []
  | v :: vs => some v :: (if v.category = 2 then none :: gaArgs vs else gaArgs vs)
theorem gaArgs_mem : ∀ (av : List Value) (i j : Nat) (v : Value), (gaArgs av)[j]? = some (some v) → (i + j, v) ∈ lv_args i av
  | [], i, j, v, hq => by simp [gaArgs] at hq
  | w :: vs, i, j, v, hq => by
    unfold gaArgs at hq
    unfold lv_args
    cases j with
    | zero =>
      rw [List.getElem?_cons_zero] at hq
      cases hq
      exact List.mem_cons_self
    | succ j =>
      rw [List.getElem?_cons_succ] at hq
      refine List.mem_cons_of_mem _ ?_
      by_cases hc : w.category = 2
      · rw [if_pos hc] at hq ⊢
        cases j with
        | zero => rw [List.getElem?_cons_zero] at hq; cases hq
        | succ j =>
          rw [List.getElem?_cons_succ] at hq
          have := gaArgs_mem vs (i + 2) j v hq
          rwa [show i + 2 + j = i + (j + 1 + 1) by omega] at this
      · rw [if_neg hc] at hq ⊢
        have := gaArgs_mem vs (i + 1) j v hq
        rwa [show i + 1 + j = i + (j + 1) by omega] at this
theorem gaArgs_pad {av : List Value} {z : Nat} {lv : List (Option Value)} (hlv : gaArgs av ++ List.replicate z none = lv) : ∀ (i : Nat) (v : Value), lv[i]? = some (some v) → (i, v) ∈ lv_args 0 av := by
  subst hlv
  intro i v hq
  by_cases hl : i < (gaArgs av).length
  · rw [List.getElem?_append_left hl] at hq
    have := gaArgs_mem av 0 i v hq
    rwa [Nat.zero_add] at this
  · rw [List.getElem?_append_right (by omega)] at hq
    have := List.mem_of_getElem? hq
    have := List.eq_of_mem_replicate this
    cases this
section GAW
variable {p : Program} {l : Launch} {e : Env} {R : Room} {s : State} {m : MethodId} {args : Array Value} {below : List Frame} {meth : Method} {c : Code} {G : gaG} {cc : ByteArray} {own : String} {nL : Nat} {ws : List Cond} {ret : Option FieldType} {nm : String} {Q : Option Value → gaH → Prop} {X : String → gaH → Prop}
variable {pc n : Nat} {lv : List (Option Value)} {st : List Value} {h : gaH} {k j : Nat}
theorem g_stk {st2 : List Value} {k2 j2 : Nat} (e1 : st = st2) (e2 : k = k2) (e3 : j = j2) (kk : gaP p l e R s m args below meth c G nL Q X pc lv st2 h k2 j2) : gaP p l e R s m args below meth c G nL Q X pc lv st h k j := by
  subst e1; subst e2; subst e3; exact kk
theorem gaV.nt (V : gaV p l s m args meth c G cc own nL ws ret nm) : l.stackTraces = false := V.2.2.2.2.2.2.2.2.2.2
theorem gaV.z0 (V : gaV p l s m args meth c G cc own nL ws ret nm) : va_Z RX0 "CODES_FOR_A" "[I" (.ref (G.2.2.2 0)) (gaA G) s s.heap := V.2.2.2.2.2.2.2.2.2.1.2.2.2.1.1
theorem gaV.z1 (V : gaV p l s m args meth c G cc own nL ws ret nm) : va_Z RJ0 "COMPACT_STRINGS" "Z" (.int 1) (gaA G) s s.heap := V.2.2.2.2.2.2.2.2.2.1.2.2.2.1.2.1
theorem gaV.z2 (V : gaV p l s m args meth c G cc own nL ws ret nm) : va_Z RJ6 "DigitOnes" "[B" (.ref (G.2.2.2 1)) (gaA G) s s.heap := V.2.2.2.2.2.2.2.2.2.1.2.2.2.1.2.2.1
theorem gaV.z3 (V : gaV p l s m args meth c G cc own nL ws ret nm) : va_Z RJ6 "DigitTens" "[B" (.ref (G.2.2.2 2)) (gaA G) s s.heap := V.2.2.2.2.2.2.2.2.2.1.2.2.2.1.2.2.2
end GAW
