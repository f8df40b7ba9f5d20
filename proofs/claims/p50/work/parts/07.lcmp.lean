/-! Two longs held against each other. -/
def gCmp (x y : Int64) : Int := (lg_cmp x y).toInt
theorem gCmp_self (x : Int64) : gCmp x x = 0 := by simp [gCmp, lg_cmp]
theorem gCmp_R (x y : Int64) : gR (gCmp x y) := gR_toInt _
section GLC
variable {p : Program} {l : Launch} {e : Env} {R : Room} {s : State} {m : MethodId} {args : Array Value} {below : List Frame} {meth : Method} {c : Code} {G : gaG} {cc : ByteArray} {own : String} {nL : Nat} {ws : List Cond} {ret : Option FieldType} {nm : String} {Z : State → Prop}
variable {pc n : Nat} {lv : List (Option Value)} {st : List Value} {h : gaH} {k j : Nat}
theorem gi_lcmp (V : gaV p l s m args meth c G cc own nL ws ret nm) {x y : Int64} (d : decode cc pc = .ok (.lcmp, 1)) (hn : pc + 1 = n)
    (kk : gaP p l e R s m args below meth c G nL Z n lv (.int (Int32.ofInt (gCmp x y)) :: st) h k j) : gaP p l e R s m args below meth c G nL Z pc lv (.long y :: .long x :: st) h k j := by
  subst hn
  unfold gCmp at kk
  rw [gi_back] at kk
  intro H locs ls cells slots hR hS hL h1 h2
  exact W.lcmp V.1 V.2.1 d (kk H locs ls cells slots hR hS hL h1 h2)
end GLC
section GLE
variable {p : Program} {l : Launch} {e : Env} {R : Room} {s : State} {m : MethodId} {args : Array Value} {below : List Frame} {meth : Method} {c : Code} {G : gaG} {cc : ByteArray} {own : String} {nL : Nat} {ws : List Cond} {ret : Option FieldType} {nm : String} {Z : State → Prop}
variable {pc n : Nat} {lv : List (Option Value)} {st : List Value} {h : gaH} {k j : Nat}
theorem gi_icmp_eqF (V : gaV p l s m args meth c G cc own nL ws ret nm) {x y : Int} {off : Int} {t : Nat} (d : decode cc pc = .ok (.if_icmp .eq off, 3)) (ht : (pc : Int) + off = (t : Int)) (q : x = y)
    (kt : gaP p l e R s m args below meth c G nL Z t lv st h k j) : gaP p l e R s m args below meth c G nL Z pc lv (.int (Int32.ofInt y) :: .int (Int32.ofInt x) :: st) h k j :=
  g_icmp_eq V d ht rfl (fun _ => kt) (fun z => absurd (congrArg Int32.ofInt q) z)
end GLE
