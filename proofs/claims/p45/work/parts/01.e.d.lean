/-! An instruction out of its bytes, without walking the whole code. -/
def bA (c : ByteArray) (p : Nat) : Option Nat := if h : p < c.size then some c[p].toNat else none
theorem bA_list (c : ByteArray) (p : Nat) : bA c p = (c.data.toList[p]?).map UInt8.toNat := by
  unfold bA
  have hs : c.data.toList.length = c.size := by simp
  by_cases hp : p < c.size
  · rw [dif_pos hp, List.getElem?_eq_getElem (by rw [hs]; exact hp)]
    rfl
  · rw [dif_neg hp, List.getElem?_eq_none (by rw [hs]; omega)]
    rfl
theorem dr_step {l a t : List UInt8} {n : Nat} (h : l.drop n = a ++ t) (ha : a.length = 64) : l.drop (n + 64) = t := by
  have e : l.drop (n + 64) = (l.drop n).drop 64 := by rw [List.drop_drop]
  rw [e, h, ← ha, List.drop_left]
theorem gB {c : ByteArray} {a t : List UInt8} {n m p : Nat} (h : c.data.toList.drop n = a ++ t) (j : Nat) (hj : (a[j]?).map UInt8.toNat = some m) (hp : n + j = p) : bA c p = some m := by
  subst hp
  rw [bA_list, ← List.getElem?_drop, h]
  have l : j < a.length := by
    by_cases q : j < a.length
    · exact q
    · rw [List.getElem?_eq_none (by omega)] at hj; cases hj
  rw [List.getElem?_append_left l]
  exact hj
theorem u1_at {c : ByteArray} {p n : Nat} (h : bA c p = some n) : (Jvm.ClassFile.Reader.u1 : Jvm.ClassFile.Decoder Nat) c p = .ok (n, p + 1) := by
  unfold bA at h
  by_cases hp : p < c.size
  · rw [dif_pos hp] at h
    cases h
    show (if h : p < c.size then (do set (p + 1); pure c[p].toNat : Jvm.ClassFile.Decoder Nat) else throw _) c p = _
    rw [dif_pos hp]
    rfl
  · rw [dif_neg hp] at h; cases h
theorem bnd {α β : Type} {x : Jvm.ClassFile.Decoder α} {K : α → Jvm.ClassFile.Decoder β} {c : ByteArray} {q q' : Nat} {a : α} {r : Except Jvm.ClassFile.DecodeError (β × Nat)} (hx : x c q = .ok (a, q')) (hk : K a c q' = r) : (x >>= K) c q = r := by
  show Except.bind (x c q) (fun z => K z.1 c z.2) = r
  rw [hx]
  exact hk
theorem u2_at {c : ByteArray} {p a b : Nat} (h1 : bA c p = some a) (h2 : bA c (p + 1) = some b) : (Jvm.ClassFile.Reader.u2 : Jvm.ClassFile.Decoder Nat) c p = .ok (a * 256 + b, p + 2) := by
  unfold Jvm.ClassFile.Reader.u2
  exact bnd (u1_at h1) (bnd (u1_at h2) rfl)
theorem s1_at {c : ByteArray} {p a : Nat} (h1 : bA c p = some a) : (Jvm.ClassFile.Reader.s1 : Jvm.ClassFile.Decoder Int) c p = .ok (Jvm.ClassFile.Reader.signed 8 a, p + 1) := by
  show Except.map (fun z => (Jvm.ClassFile.Reader.signed 8 z.1, z.2)) ((Jvm.ClassFile.Reader.u1 : Jvm.ClassFile.Decoder Nat) c p) = _
  rw [u1_at h1]; rfl
theorem s2_at {c : ByteArray} {p a b : Nat} (h1 : bA c p = some a) (h2 : bA c (p + 1) = some b) : (Jvm.ClassFile.Reader.s2 : Jvm.ClassFile.Decoder Int) c p = .ok (Jvm.ClassFile.Reader.signed 16 (a * 256 + b), p + 2) := by
  show Except.map (fun z => (Jvm.ClassFile.Reader.signed 16 z.1, z.2)) ((Jvm.ClassFile.Reader.u2 : Jvm.ClassFile.Decoder Nat) c p) = _
  rw [u2_at h1 h2]; rfl
theorem dec_of {c : ByteArray} {p n : Nat} {i : Jvm.ClassFile.Instr} (e : Jvm.ClassFile.Decoder.instr p c p = .ok (i, p + n)) : decode c p = .ok (i, n) := by
  show Except.bind (Jvm.ClassFile.Decoder.instr p c p) (fun z => Except.ok (z.1, z.2 - p)) = _
  rw [e]
  show Except.ok (i, p + n - p) = _
  rw [Nat.add_sub_cancel_left]
section DEC
variable {c : ByteArray} {p a b d : Nat}
theorem dec_42 (h0 : bA c p = some 42) : decode c p = .ok ((Jvm.ClassFile.Instr.aload_n 0), 1) := by
  refine dec_of ?_
  unfold Jvm.ClassFile.Decoder.instr
  refine bnd (u1_at h0) ?_
  show (pure (Jvm.ClassFile.Instr.aload_n 0) : Jvm.ClassFile.Decoder Jvm.ClassFile.Instr) c (p + 1) = _
  rfl
theorem dec_43 (h0 : bA c p = some 43) : decode c p = .ok ((Jvm.ClassFile.Instr.aload_n 1), 1) := by
  refine dec_of ?_
  unfold Jvm.ClassFile.Decoder.instr
  refine bnd (u1_at h0) ?_
  show (pure (Jvm.ClassFile.Instr.aload_n 1) : Jvm.ClassFile.Decoder Jvm.ClassFile.Instr) c (p + 1) = _
  rfl
theorem dec_44 (h0 : bA c p = some 44) : decode c p = .ok ((Jvm.ClassFile.Instr.aload_n 2), 1) := by
  refine dec_of ?_
  unfold Jvm.ClassFile.Decoder.instr
  refine bnd (u1_at h0) ?_
  show (pure (Jvm.ClassFile.Instr.aload_n 2) : Jvm.ClassFile.Decoder Jvm.ClassFile.Instr) c (p + 1) = _
  rfl
theorem dec_45 (h0 : bA c p = some 45) : decode c p = .ok ((Jvm.ClassFile.Instr.aload_n 3), 1) := by
  refine dec_of ?_
  unfold Jvm.ClassFile.Decoder.instr
  refine bnd (u1_at h0) ?_
  show (pure (Jvm.ClassFile.Instr.aload_n 3) : Jvm.ClassFile.Decoder Jvm.ClassFile.Instr) c (p + 1) = _
  rfl
theorem dec_26 (h0 : bA c p = some 26) : decode c p = .ok ((Jvm.ClassFile.Instr.iload_n 0), 1) := by
  refine dec_of ?_
  unfold Jvm.ClassFile.Decoder.instr
  refine bnd (u1_at h0) ?_
  show (pure (Jvm.ClassFile.Instr.iload_n 0) : Jvm.ClassFile.Decoder Jvm.ClassFile.Instr) c (p + 1) = _
  rfl
theorem dec_27 (h0 : bA c p = some 27) : decode c p = .ok ((Jvm.ClassFile.Instr.iload_n 1), 1) := by
  refine dec_of ?_
  unfold Jvm.ClassFile.Decoder.instr
  refine bnd (u1_at h0) ?_
  show (pure (Jvm.ClassFile.Instr.iload_n 1) : Jvm.ClassFile.Decoder Jvm.ClassFile.Instr) c (p + 1) = _
  rfl
theorem dec_28 (h0 : bA c p = some 28) : decode c p = .ok ((Jvm.ClassFile.Instr.iload_n 2), 1) := by
  refine dec_of ?_
  unfold Jvm.ClassFile.Decoder.instr
  refine bnd (u1_at h0) ?_
  show (pure (Jvm.ClassFile.Instr.iload_n 2) : Jvm.ClassFile.Decoder Jvm.ClassFile.Instr) c (p + 1) = _
  rfl
theorem dec_29 (h0 : bA c p = some 29) : decode c p = .ok ((Jvm.ClassFile.Instr.iload_n 3), 1) := by
  refine dec_of ?_
  unfold Jvm.ClassFile.Decoder.instr
  refine bnd (u1_at h0) ?_
  show (pure (Jvm.ClassFile.Instr.iload_n 3) : Jvm.ClassFile.Decoder Jvm.ClassFile.Instr) c (p + 1) = _
  rfl
theorem dec_2 (h0 : bA c p = some 2) : decode c p = .ok ((Jvm.ClassFile.Instr.iconst (-1)), 1) := by
  refine dec_of ?_
  unfold Jvm.ClassFile.Decoder.instr
  refine bnd (u1_at h0) ?_
  show (pure (Jvm.ClassFile.Instr.iconst (-1)) : Jvm.ClassFile.Decoder Jvm.ClassFile.Instr) c (p + 1) = _
  rfl
theorem dec_3 (h0 : bA c p = some 3) : decode c p = .ok ((Jvm.ClassFile.Instr.iconst 0), 1) := by
  refine dec_of ?_
  unfold Jvm.ClassFile.Decoder.instr
  refine bnd (u1_at h0) ?_
  show (pure (Jvm.ClassFile.Instr.iconst 0) : Jvm.ClassFile.Decoder Jvm.ClassFile.Instr) c (p + 1) = _
  rfl
theorem dec_4 (h0 : bA c p = some 4) : decode c p = .ok ((Jvm.ClassFile.Instr.iconst 1), 1) := by
  refine dec_of ?_
  unfold Jvm.ClassFile.Decoder.instr
  refine bnd (u1_at h0) ?_
  show (pure (Jvm.ClassFile.Instr.iconst 1) : Jvm.ClassFile.Decoder Jvm.ClassFile.Instr) c (p + 1) = _
  rfl
theorem dec_5 (h0 : bA c p = some 5) : decode c p = .ok ((Jvm.ClassFile.Instr.iconst 2), 1) := by
  refine dec_of ?_
  unfold Jvm.ClassFile.Decoder.instr
  refine bnd (u1_at h0) ?_
  show (pure (Jvm.ClassFile.Instr.iconst 2) : Jvm.ClassFile.Decoder Jvm.ClassFile.Instr) c (p + 1) = _
  rfl
theorem dec_6 (h0 : bA c p = some 6) : decode c p = .ok ((Jvm.ClassFile.Instr.iconst 3), 1) := by
  refine dec_of ?_
  unfold Jvm.ClassFile.Decoder.instr
  refine bnd (u1_at h0) ?_
  show (pure (Jvm.ClassFile.Instr.iconst 3) : Jvm.ClassFile.Decoder Jvm.ClassFile.Instr) c (p + 1) = _
  rfl
theorem dec_7 (h0 : bA c p = some 7) : decode c p = .ok ((Jvm.ClassFile.Instr.iconst 4), 1) := by
  refine dec_of ?_
  unfold Jvm.ClassFile.Decoder.instr
  refine bnd (u1_at h0) ?_
  show (pure (Jvm.ClassFile.Instr.iconst 4) : Jvm.ClassFile.Decoder Jvm.ClassFile.Instr) c (p + 1) = _
  rfl
theorem dec_8 (h0 : bA c p = some 8) : decode c p = .ok ((Jvm.ClassFile.Instr.iconst 5), 1) := by
  refine dec_of ?_
  unfold Jvm.ClassFile.Decoder.instr
  refine bnd (u1_at h0) ?_
  show (pure (Jvm.ClassFile.Instr.iconst 5) : Jvm.ClassFile.Decoder Jvm.ClassFile.Instr) c (p + 1) = _
  rfl
theorem dec_75 (h0 : bA c p = some 75) : decode c p = .ok ((Jvm.ClassFile.Instr.astore_n 0), 1) := by
  refine dec_of ?_
  unfold Jvm.ClassFile.Decoder.instr
  refine bnd (u1_at h0) ?_
  show (pure (Jvm.ClassFile.Instr.astore_n 0) : Jvm.ClassFile.Decoder Jvm.ClassFile.Instr) c (p + 1) = _
  rfl
theorem dec_76 (h0 : bA c p = some 76) : decode c p = .ok ((Jvm.ClassFile.Instr.astore_n 1), 1) := by
  refine dec_of ?_
  unfold Jvm.ClassFile.Decoder.instr
  refine bnd (u1_at h0) ?_
  show (pure (Jvm.ClassFile.Instr.astore_n 1) : Jvm.ClassFile.Decoder Jvm.ClassFile.Instr) c (p + 1) = _
  rfl
theorem dec_77 (h0 : bA c p = some 77) : decode c p = .ok ((Jvm.ClassFile.Instr.astore_n 2), 1) := by
  refine dec_of ?_
  unfold Jvm.ClassFile.Decoder.instr
  refine bnd (u1_at h0) ?_
  show (pure (Jvm.ClassFile.Instr.astore_n 2) : Jvm.ClassFile.Decoder Jvm.ClassFile.Instr) c (p + 1) = _
  rfl
theorem dec_78 (h0 : bA c p = some 78) : decode c p = .ok ((Jvm.ClassFile.Instr.astore_n 3), 1) := by
  refine dec_of ?_
  unfold Jvm.ClassFile.Decoder.instr
  refine bnd (u1_at h0) ?_
  show (pure (Jvm.ClassFile.Instr.astore_n 3) : Jvm.ClassFile.Decoder Jvm.ClassFile.Instr) c (p + 1) = _
  rfl
theorem dec_59 (h0 : bA c p = some 59) : decode c p = .ok ((Jvm.ClassFile.Instr.istore_n 0), 1) := by
  refine dec_of ?_
  unfold Jvm.ClassFile.Decoder.instr
  refine bnd (u1_at h0) ?_
  show (pure (Jvm.ClassFile.Instr.istore_n 0) : Jvm.ClassFile.Decoder Jvm.ClassFile.Instr) c (p + 1) = _
  rfl
theorem dec_60 (h0 : bA c p = some 60) : decode c p = .ok ((Jvm.ClassFile.Instr.istore_n 1), 1) := by
  refine dec_of ?_
  unfold Jvm.ClassFile.Decoder.instr
  refine bnd (u1_at h0) ?_
  show (pure (Jvm.ClassFile.Instr.istore_n 1) : Jvm.ClassFile.Decoder Jvm.ClassFile.Instr) c (p + 1) = _
  rfl
theorem dec_61 (h0 : bA c p = some 61) : decode c p = .ok ((Jvm.ClassFile.Instr.istore_n 2), 1) := by
  refine dec_of ?_
  unfold Jvm.ClassFile.Decoder.instr
  refine bnd (u1_at h0) ?_
  show (pure (Jvm.ClassFile.Instr.istore_n 2) : Jvm.ClassFile.Decoder Jvm.ClassFile.Instr) c (p + 1) = _
  rfl
theorem dec_62 (h0 : bA c p = some 62) : decode c p = .ok ((Jvm.ClassFile.Instr.istore_n 3), 1) := by
  refine dec_of ?_
  unfold Jvm.ClassFile.Decoder.instr
  refine bnd (u1_at h0) ?_
  show (pure (Jvm.ClassFile.Instr.istore_n 3) : Jvm.ClassFile.Decoder Jvm.ClassFile.Instr) c (p + 1) = _
  rfl
theorem dec_46 (h0 : bA c p = some 46) : decode c p = .ok ((Jvm.ClassFile.Instr.iaload), 1) := by
  refine dec_of ?_
  unfold Jvm.ClassFile.Decoder.instr
  refine bnd (u1_at h0) ?_
  show (pure (Jvm.ClassFile.Instr.iaload) : Jvm.ClassFile.Decoder Jvm.ClassFile.Instr) c (p + 1) = _
  rfl
theorem dec_87 (h0 : bA c p = some 87) : decode c p = .ok ((Jvm.ClassFile.Instr.pop), 1) := by
  refine dec_of ?_
  unfold Jvm.ClassFile.Decoder.instr
  refine bnd (u1_at h0) ?_
  show (pure (Jvm.ClassFile.Instr.pop) : Jvm.ClassFile.Decoder Jvm.ClassFile.Instr) c (p + 1) = _
  rfl
theorem dec_88 (h0 : bA c p = some 88) : decode c p = .ok ((Jvm.ClassFile.Instr.pop2), 1) := by
  refine dec_of ?_
  unfold Jvm.ClassFile.Decoder.instr
  refine bnd (u1_at h0) ?_
  show (pure (Jvm.ClassFile.Instr.pop2) : Jvm.ClassFile.Decoder Jvm.ClassFile.Instr) c (p + 1) = _
  rfl
theorem dec_89 (h0 : bA c p = some 89) : decode c p = .ok ((Jvm.ClassFile.Instr.dup), 1) := by
  refine dec_of ?_
  unfold Jvm.ClassFile.Decoder.instr
  refine bnd (u1_at h0) ?_
  show (pure (Jvm.ClassFile.Instr.dup) : Jvm.ClassFile.Decoder Jvm.ClassFile.Instr) c (p + 1) = _
  rfl
theorem dec_96 (h0 : bA c p = some 96) : decode c p = .ok ((Jvm.ClassFile.Instr.iadd), 1) := by
  refine dec_of ?_
  unfold Jvm.ClassFile.Decoder.instr
  refine bnd (u1_at h0) ?_
  show (pure (Jvm.ClassFile.Instr.iadd) : Jvm.ClassFile.Decoder Jvm.ClassFile.Instr) c (p + 1) = _
  rfl
theorem dec_100 (h0 : bA c p = some 100) : decode c p = .ok ((Jvm.ClassFile.Instr.isub), 1) := by
  refine dec_of ?_
  unfold Jvm.ClassFile.Decoder.instr
  refine bnd (u1_at h0) ?_
  show (pure (Jvm.ClassFile.Instr.isub) : Jvm.ClassFile.Decoder Jvm.ClassFile.Instr) c (p + 1) = _
  rfl
theorem dec_104 (h0 : bA c p = some 104) : decode c p = .ok ((Jvm.ClassFile.Instr.imul), 1) := by
  refine dec_of ?_
  unfold Jvm.ClassFile.Decoder.instr
  refine bnd (u1_at h0) ?_
  show (pure (Jvm.ClassFile.Instr.imul) : Jvm.ClassFile.Decoder Jvm.ClassFile.Instr) c (p + 1) = _
  rfl
theorem dec_126 (h0 : bA c p = some 126) : decode c p = .ok ((Jvm.ClassFile.Instr.iand), 1) := by
  refine dec_of ?_
  unfold Jvm.ClassFile.Decoder.instr
  refine bnd (u1_at h0) ?_
  show (pure (Jvm.ClassFile.Instr.iand) : Jvm.ClassFile.Decoder Jvm.ClassFile.Instr) c (p + 1) = _
  rfl
theorem dec_133 (h0 : bA c p = some 133) : decode c p = .ok ((Jvm.ClassFile.Instr.i2l), 1) := by
  refine dec_of ?_
  unfold Jvm.ClassFile.Decoder.instr
  refine bnd (u1_at h0) ?_
  show (pure (Jvm.ClassFile.Instr.i2l) : Jvm.ClassFile.Decoder Jvm.ClassFile.Instr) c (p + 1) = _
  rfl
theorem dec_148 (h0 : bA c p = some 148) : decode c p = .ok ((Jvm.ClassFile.Instr.lcmp), 1) := by
  refine dec_of ?_
  unfold Jvm.ClassFile.Decoder.instr
  refine bnd (u1_at h0) ?_
  show (pure (Jvm.ClassFile.Instr.lcmp) : Jvm.ClassFile.Decoder Jvm.ClassFile.Instr) c (p + 1) = _
  rfl
theorem dec_172 (h0 : bA c p = some 172) : decode c p = .ok ((Jvm.ClassFile.Instr.ireturn), 1) := by
  refine dec_of ?_
  unfold Jvm.ClassFile.Decoder.instr
  refine bnd (u1_at h0) ?_
  show (pure (Jvm.ClassFile.Instr.ireturn) : Jvm.ClassFile.Decoder Jvm.ClassFile.Instr) c (p + 1) = _
  rfl
theorem dec_190 (h0 : bA c p = some 190) : decode c p = .ok ((Jvm.ClassFile.Instr.arraylength), 1) := by
  refine dec_of ?_
  unfold Jvm.ClassFile.Decoder.instr
  refine bnd (u1_at h0) ?_
  show (pure (Jvm.ClassFile.Instr.arraylength) : Jvm.ClassFile.Decoder Jvm.ClassFile.Instr) c (p + 1) = _
  rfl
theorem dec_21 (h0 : bA c p = some 21) (h1 : bA c (p + 1) = some a) : decode c p = .ok ((Jvm.ClassFile.Instr.iload a), 2) := by
  refine dec_of ?_
  unfold Jvm.ClassFile.Decoder.instr
  refine bnd (u1_at h0) ?_
  show (Jvm.ClassFile.Reader.u1 >>= fun x => pure (Jvm.ClassFile.Instr.iload x) : Jvm.ClassFile.Decoder Jvm.ClassFile.Instr) c (p + 1) = _
  exact bnd (u1_at h1) rfl
theorem dec_25 (h0 : bA c p = some 25) (h1 : bA c (p + 1) = some a) : decode c p = .ok ((Jvm.ClassFile.Instr.aload a), 2) := by
  refine dec_of ?_
  unfold Jvm.ClassFile.Decoder.instr
  refine bnd (u1_at h0) ?_
  show (Jvm.ClassFile.Reader.u1 >>= fun x => pure (Jvm.ClassFile.Instr.aload x) : Jvm.ClassFile.Decoder Jvm.ClassFile.Instr) c (p + 1) = _
  exact bnd (u1_at h1) rfl
theorem dec_54 (h0 : bA c p = some 54) (h1 : bA c (p + 1) = some a) : decode c p = .ok ((Jvm.ClassFile.Instr.istore a), 2) := by
  refine dec_of ?_
  unfold Jvm.ClassFile.Decoder.instr
  refine bnd (u1_at h0) ?_
  show (Jvm.ClassFile.Reader.u1 >>= fun x => pure (Jvm.ClassFile.Instr.istore x) : Jvm.ClassFile.Decoder Jvm.ClassFile.Instr) c (p + 1) = _
  exact bnd (u1_at h1) rfl
theorem dec_58 (h0 : bA c p = some 58) (h1 : bA c (p + 1) = some a) : decode c p = .ok ((Jvm.ClassFile.Instr.astore a), 2) := by
  refine dec_of ?_
  unfold Jvm.ClassFile.Decoder.instr
  refine bnd (u1_at h0) ?_
  show (Jvm.ClassFile.Reader.u1 >>= fun x => pure (Jvm.ClassFile.Instr.astore x) : Jvm.ClassFile.Decoder Jvm.ClassFile.Instr) c (p + 1) = _
  exact bnd (u1_at h1) rfl
theorem dec_16 (h0 : bA c p = some 16) (h1 : bA c (p + 1) = some a) : decode c p = .ok (Jvm.ClassFile.Instr.bipush (Jvm.ClassFile.Reader.signed 8 a), 2) := by
  refine dec_of ?_
  unfold Jvm.ClassFile.Decoder.instr
  refine bnd (u1_at h0) ?_
  show (Jvm.ClassFile.Reader.s1 >>= fun x => pure (Jvm.ClassFile.Instr.bipush x) : Jvm.ClassFile.Decoder Jvm.ClassFile.Instr) c (p + 1) = _
  exact bnd (s1_at h1) rfl
theorem dec_180 (h0 : bA c p = some 180) (h1 : bA c (p + 1) = some a) (h2 : bA c (p + 1 + 1) = some b) : decode c p = .ok (Jvm.ClassFile.Instr.getfield (a * 256 + b), 3) := by
  refine dec_of ?_
  unfold Jvm.ClassFile.Decoder.instr
  refine bnd (u1_at h0) ?_
  show (Jvm.ClassFile.Reader.u2 >>= fun x => pure (Jvm.ClassFile.Instr.getfield x) : Jvm.ClassFile.Decoder Jvm.ClassFile.Instr) c (p + 1) = _
  exact bnd (u2_at h1 h2) rfl
theorem dec_182 (h0 : bA c p = some 182) (h1 : bA c (p + 1) = some a) (h2 : bA c (p + 1 + 1) = some b) : decode c p = .ok (Jvm.ClassFile.Instr.invokevirtual (a * 256 + b), 3) := by
  refine dec_of ?_
  unfold Jvm.ClassFile.Decoder.instr
  refine bnd (u1_at h0) ?_
  show (Jvm.ClassFile.Reader.u2 >>= fun x => pure (Jvm.ClassFile.Instr.invokevirtual x) : Jvm.ClassFile.Decoder Jvm.ClassFile.Instr) c (p + 1) = _
  exact bnd (u2_at h1 h2) rfl
theorem dec_183 (h0 : bA c p = some 183) (h1 : bA c (p + 1) = some a) (h2 : bA c (p + 1 + 1) = some b) : decode c p = .ok (Jvm.ClassFile.Instr.invokespecial (a * 256 + b), 3) := by
  refine dec_of ?_
  unfold Jvm.ClassFile.Decoder.instr
  refine bnd (u1_at h0) ?_
  show (Jvm.ClassFile.Reader.u2 >>= fun x => pure (Jvm.ClassFile.Instr.invokespecial x) : Jvm.ClassFile.Decoder Jvm.ClassFile.Instr) c (p + 1) = _
  exact bnd (u2_at h1 h2) rfl
theorem dec_184 (h0 : bA c p = some 184) (h1 : bA c (p + 1) = some a) (h2 : bA c (p + 1 + 1) = some b) : decode c p = .ok (Jvm.ClassFile.Instr.invokestatic (a * 256 + b), 3) := by
  refine dec_of ?_
  unfold Jvm.ClassFile.Decoder.instr
  refine bnd (u1_at h0) ?_
  show (Jvm.ClassFile.Reader.u2 >>= fun x => pure (Jvm.ClassFile.Instr.invokestatic x) : Jvm.ClassFile.Decoder Jvm.ClassFile.Instr) c (p + 1) = _
  exact bnd (u2_at h1 h2) rfl
theorem dec_187 (h0 : bA c p = some 187) (h1 : bA c (p + 1) = some a) (h2 : bA c (p + 1 + 1) = some b) : decode c p = .ok (Jvm.ClassFile.Instr.new (a * 256 + b), 3) := by
  refine dec_of ?_
  unfold Jvm.ClassFile.Decoder.instr
  refine bnd (u1_at h0) ?_
  show (Jvm.ClassFile.Reader.u2 >>= fun x => pure (Jvm.ClassFile.Instr.new x) : Jvm.ClassFile.Decoder Jvm.ClassFile.Instr) c (p + 1) = _
  exact bnd (u2_at h1 h2) rfl
theorem dec_181 (h0 : bA c p = some 181) (h1 : bA c (p + 1) = some a) (h2 : bA c (p + 1 + 1) = some b) : decode c p = .ok (Jvm.ClassFile.Instr.putfield (a * 256 + b), 3) := by
  refine dec_of ?_
  unfold Jvm.ClassFile.Decoder.instr
  refine bnd (u1_at h0) ?_
  show (Jvm.ClassFile.Reader.u2 >>= fun x => pure (Jvm.ClassFile.Instr.putfield x) : Jvm.ClassFile.Decoder Jvm.ClassFile.Instr) c (p + 1) = _
  exact bnd (u2_at h1 h2) rfl
theorem dec_167 (h0 : bA c p = some 167) (h1 : bA c (p + 1) = some a) (h2 : bA c (p + 1 + 1) = some b) : decode c p = .ok (Jvm.ClassFile.Instr.goto (Jvm.ClassFile.Reader.signed 16 (a * 256 + b)), 3) := by
  refine dec_of ?_
  unfold Jvm.ClassFile.Decoder.instr
  refine bnd (u1_at h0) ?_
  show (Jvm.ClassFile.Reader.s2 >>= fun x => pure (Jvm.ClassFile.Instr.goto x) : Jvm.ClassFile.Decoder Jvm.ClassFile.Instr) c (p + 1) = _
  exact bnd (s2_at h1 h2) rfl
theorem dec_17 (h0 : bA c p = some 17) (h1 : bA c (p + 1) = some a) (h2 : bA c (p + 1 + 1) = some b) : decode c p = .ok (Jvm.ClassFile.Instr.sipush (Jvm.ClassFile.Reader.signed 16 (a * 256 + b)), 3) := by
  refine dec_of ?_
  unfold Jvm.ClassFile.Decoder.instr
  refine bnd (u1_at h0) ?_
  show (Jvm.ClassFile.Reader.s2 >>= fun x => pure (Jvm.ClassFile.Instr.sipush x) : Jvm.ClassFile.Decoder Jvm.ClassFile.Instr) c (p + 1) = _
  exact bnd (s2_at h1 h2) rfl
theorem dec_153 (h0 : bA c p = some 153) (h1 : bA c (p + 1) = some a) (h2 : bA c (p + 1 + 1) = some b) : decode c p = .ok (Jvm.ClassFile.Instr.ifCond .eq (Jvm.ClassFile.Reader.signed 16 (a * 256 + b)), 3) := by
  refine dec_of ?_
  unfold Jvm.ClassFile.Decoder.instr
  refine bnd (u1_at h0) ?_
  show (Jvm.ClassFile.Reader.s2 >>= fun x => pure (Jvm.ClassFile.Instr.ifCond .eq x) : Jvm.ClassFile.Decoder Jvm.ClassFile.Instr) c (p + 1) = _
  exact bnd (s2_at h1 h2) rfl
theorem dec_154 (h0 : bA c p = some 154) (h1 : bA c (p + 1) = some a) (h2 : bA c (p + 1 + 1) = some b) : decode c p = .ok (Jvm.ClassFile.Instr.ifCond .ne (Jvm.ClassFile.Reader.signed 16 (a * 256 + b)), 3) := by
  refine dec_of ?_
  unfold Jvm.ClassFile.Decoder.instr
  refine bnd (u1_at h0) ?_
  show (Jvm.ClassFile.Reader.s2 >>= fun x => pure (Jvm.ClassFile.Instr.ifCond .ne x) : Jvm.ClassFile.Decoder Jvm.ClassFile.Instr) c (p + 1) = _
  exact bnd (s2_at h1 h2) rfl
theorem dec_155 (h0 : bA c p = some 155) (h1 : bA c (p + 1) = some a) (h2 : bA c (p + 1 + 1) = some b) : decode c p = .ok (Jvm.ClassFile.Instr.ifCond .lt (Jvm.ClassFile.Reader.signed 16 (a * 256 + b)), 3) := by
  refine dec_of ?_
  unfold Jvm.ClassFile.Decoder.instr
  refine bnd (u1_at h0) ?_
  show (Jvm.ClassFile.Reader.s2 >>= fun x => pure (Jvm.ClassFile.Instr.ifCond .lt x) : Jvm.ClassFile.Decoder Jvm.ClassFile.Instr) c (p + 1) = _
  exact bnd (s2_at h1 h2) rfl
theorem dec_156 (h0 : bA c p = some 156) (h1 : bA c (p + 1) = some a) (h2 : bA c (p + 1 + 1) = some b) : decode c p = .ok (Jvm.ClassFile.Instr.ifCond .ge (Jvm.ClassFile.Reader.signed 16 (a * 256 + b)), 3) := by
  refine dec_of ?_
  unfold Jvm.ClassFile.Decoder.instr
  refine bnd (u1_at h0) ?_
  show (Jvm.ClassFile.Reader.s2 >>= fun x => pure (Jvm.ClassFile.Instr.ifCond .ge x) : Jvm.ClassFile.Decoder Jvm.ClassFile.Instr) c (p + 1) = _
  exact bnd (s2_at h1 h2) rfl
theorem dec_157 (h0 : bA c p = some 157) (h1 : bA c (p + 1) = some a) (h2 : bA c (p + 1 + 1) = some b) : decode c p = .ok (Jvm.ClassFile.Instr.ifCond .gt (Jvm.ClassFile.Reader.signed 16 (a * 256 + b)), 3) := by
  refine dec_of ?_
  unfold Jvm.ClassFile.Decoder.instr
  refine bnd (u1_at h0) ?_
  show (Jvm.ClassFile.Reader.s2 >>= fun x => pure (Jvm.ClassFile.Instr.ifCond .gt x) : Jvm.ClassFile.Decoder Jvm.ClassFile.Instr) c (p + 1) = _
  exact bnd (s2_at h1 h2) rfl
theorem dec_158 (h0 : bA c p = some 158) (h1 : bA c (p + 1) = some a) (h2 : bA c (p + 1 + 1) = some b) : decode c p = .ok (Jvm.ClassFile.Instr.ifCond .le (Jvm.ClassFile.Reader.signed 16 (a * 256 + b)), 3) := by
  refine dec_of ?_
  unfold Jvm.ClassFile.Decoder.instr
  refine bnd (u1_at h0) ?_
  show (Jvm.ClassFile.Reader.s2 >>= fun x => pure (Jvm.ClassFile.Instr.ifCond .le x) : Jvm.ClassFile.Decoder Jvm.ClassFile.Instr) c (p + 1) = _
  exact bnd (s2_at h1 h2) rfl
theorem dec_159 (h0 : bA c p = some 159) (h1 : bA c (p + 1) = some a) (h2 : bA c (p + 1 + 1) = some b) : decode c p = .ok (Jvm.ClassFile.Instr.if_icmp .eq (Jvm.ClassFile.Reader.signed 16 (a * 256 + b)), 3) := by
  refine dec_of ?_
  unfold Jvm.ClassFile.Decoder.instr
  refine bnd (u1_at h0) ?_
  show (Jvm.ClassFile.Reader.s2 >>= fun x => pure (Jvm.ClassFile.Instr.if_icmp .eq x) : Jvm.ClassFile.Decoder Jvm.ClassFile.Instr) c (p + 1) = _
  exact bnd (s2_at h1 h2) rfl
theorem dec_160 (h0 : bA c p = some 160) (h1 : bA c (p + 1) = some a) (h2 : bA c (p + 1 + 1) = some b) : decode c p = .ok (Jvm.ClassFile.Instr.if_icmp .ne (Jvm.ClassFile.Reader.signed 16 (a * 256 + b)), 3) := by
  refine dec_of ?_
  unfold Jvm.ClassFile.Decoder.instr
  refine bnd (u1_at h0) ?_
  show (Jvm.ClassFile.Reader.s2 >>= fun x => pure (Jvm.ClassFile.Instr.if_icmp .ne x) : Jvm.ClassFile.Decoder Jvm.ClassFile.Instr) c (p + 1) = _
  exact bnd (s2_at h1 h2) rfl
theorem dec_161 (h0 : bA c p = some 161) (h1 : bA c (p + 1) = some a) (h2 : bA c (p + 1 + 1) = some b) : decode c p = .ok (Jvm.ClassFile.Instr.if_icmp .lt (Jvm.ClassFile.Reader.signed 16 (a * 256 + b)), 3) := by
  refine dec_of ?_
  unfold Jvm.ClassFile.Decoder.instr
  refine bnd (u1_at h0) ?_
  show (Jvm.ClassFile.Reader.s2 >>= fun x => pure (Jvm.ClassFile.Instr.if_icmp .lt x) : Jvm.ClassFile.Decoder Jvm.ClassFile.Instr) c (p + 1) = _
  exact bnd (s2_at h1 h2) rfl
theorem dec_162 (h0 : bA c p = some 162) (h1 : bA c (p + 1) = some a) (h2 : bA c (p + 1 + 1) = some b) : decode c p = .ok (Jvm.ClassFile.Instr.if_icmp .ge (Jvm.ClassFile.Reader.signed 16 (a * 256 + b)), 3) := by
  refine dec_of ?_
  unfold Jvm.ClassFile.Decoder.instr
  refine bnd (u1_at h0) ?_
  show (Jvm.ClassFile.Reader.s2 >>= fun x => pure (Jvm.ClassFile.Instr.if_icmp .ge x) : Jvm.ClassFile.Decoder Jvm.ClassFile.Instr) c (p + 1) = _
  exact bnd (s2_at h1 h2) rfl
theorem dec_163 (h0 : bA c p = some 163) (h1 : bA c (p + 1) = some a) (h2 : bA c (p + 1 + 1) = some b) : decode c p = .ok (Jvm.ClassFile.Instr.if_icmp .gt (Jvm.ClassFile.Reader.signed 16 (a * 256 + b)), 3) := by
  refine dec_of ?_
  unfold Jvm.ClassFile.Decoder.instr
  refine bnd (u1_at h0) ?_
  show (Jvm.ClassFile.Reader.s2 >>= fun x => pure (Jvm.ClassFile.Instr.if_icmp .gt x) : Jvm.ClassFile.Decoder Jvm.ClassFile.Instr) c (p + 1) = _
  exact bnd (s2_at h1 h2) rfl
theorem dec_164 (h0 : bA c p = some 164) (h1 : bA c (p + 1) = some a) (h2 : bA c (p + 1 + 1) = some b) : decode c p = .ok (Jvm.ClassFile.Instr.if_icmp .le (Jvm.ClassFile.Reader.signed 16 (a * 256 + b)), 3) := by
  refine dec_of ?_
  unfold Jvm.ClassFile.Decoder.instr
  refine bnd (u1_at h0) ?_
  show (Jvm.ClassFile.Reader.s2 >>= fun x => pure (Jvm.ClassFile.Instr.if_icmp .le x) : Jvm.ClassFile.Decoder Jvm.ClassFile.Instr) c (p + 1) = _
  exact bnd (s2_at h1 h2) rfl
theorem dec_132 (h0 : bA c p = some 132) (h1 : bA c (p + 1) = some a) (h2 : bA c (p + 1 + 1) = some b) : decode c p = .ok (Jvm.ClassFile.Instr.iinc a (Jvm.ClassFile.Reader.signed 8 b), 3) := by
  refine dec_of ?_
  unfold Jvm.ClassFile.Decoder.instr
  refine bnd (u1_at h0) ?_
  show (Jvm.ClassFile.Reader.u1 >>= fun x => Jvm.ClassFile.Reader.s1 >>= fun y => pure (Jvm.ClassFile.Instr.iinc x y) : Jvm.ClassFile.Decoder Jvm.ClassFile.Instr) c (p + 1) = _
  exact bnd (u1_at h1) (bnd (s1_at h2) rfl)
end DEC
