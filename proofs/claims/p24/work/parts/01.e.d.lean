/-! An instruction out of its bytes, without walking the whole code. -/
def bA (c : ByteArray) (p : Nat) : Option Nat := if h : p < c.size then some c[p].toNat else none
theorem bA_list (c : ByteArray) (p : Nat) : bA c p = (c.data.toList[p]?).map UInt8.toNat := by
  unfold bA
  have hs : c.data.toList.length = c.size := by simp
  by_cases hp : p < c.size
  · rw [dif_pos hp, List.getElem?_eq_getElem (by rw [hs]; exact hp)]
    rfl
  · rw [dif_neg hp, List.getElem?_eq_none (by rw [hs]; omega)]
    rfl
theorem dr_step {l a t : List UInt8} {n : Nat} (h : l.drop n = a ++ t) (ha : a.length = 64) : l.drop (n + 64) = t := by
  have e : l.drop (n + 64) = (l.drop n).drop 64 := by rw [List.drop_drop]
  rw [e, h, ← ha, List.drop_left]
theorem gB {c : ByteArray} {a t : List UInt8} {n m p : Nat} (h : c.data.toList.drop n = a ++ t) (j : Nat) (hj : (a[j]?).map UInt8.toNat = some m) (hp : n + j = p) : bA c p = some m := by
  subst hp
  rw [bA_list, ← List.getElem?_drop, h]
  have l : j < a.length := by
    by_cases q : j < a.length
    · exact q
    · rw [List.getElem?_eq_none (by omega)] at hj; cases hj
  rw [List.getElem?_append_left l]
  exact hj
theorem u1_at {c : ByteArray} {p n : Nat} (h : bA c p = some n) : (Jvm.ClassFile.Reader.u1 : Jvm.ClassFile.Decoder Nat) c p = .ok (n, p + 1) := by
  unfold bA at h
  by_cases hp : p < c.size
  · rw [dif_pos hp] at h
    cases h
    show (if h : p < c.size then (do set (p + 1); pure c[p].toNat : Jvm.ClassFile.Decoder Nat) else throw _) c p = _
    rw [dif_pos hp]
    rfl
  · rw [dif_neg hp] at h; cases h
theorem bnd {α β : Type} {x : Jvm.ClassFile.Decoder α} {K : α → Jvm.ClassFile.Decoder β} {c : ByteArray} {q q' : Nat} {a : α} {r : Except Jvm.ClassFile.DecodeError (β × Nat)} (hx : x c q = .ok (a, q')) (hk : K a c q' = r) : (x >>= K) c q = r := by
  show Except.bind (x c q) (fun z => K z.1 c z.2) = r
  rw [hx]
  exact hk
theorem u2_at {c : ByteArray} {p a b : Nat} (h1 : bA c p = some a) (h2 : bA c (p + 1) = some b) : (Jvm.ClassFile.Reader.u2 : Jvm.ClassFile.Decoder Nat) c p = .ok (a * 256 + b, p + 2) := by
  unfold Jvm.ClassFile.Reader.u2
  exact bnd (u1_at h1) (bnd (u1_at h2) rfl)
theorem s1_at {c : ByteArray} {p a : Nat} (h1 : bA c p = some a) : (Jvm.ClassFile.Reader.s1 : Jvm.ClassFile.Decoder Int) c p = .ok (Jvm.ClassFile.Reader.signed 8 a, p + 1) := by
  show Except.map (fun z => (Jvm.ClassFile.Reader.signed 8 z.1, z.2)) ((Jvm.ClassFile.Reader.u1 : Jvm.ClassFile.Decoder Nat) c p) = _
  rw [u1_at h1]; rfl
theorem s2_at {c : ByteArray} {p a b : Nat} (h1 : bA c p = some a) (h2 : bA c (p + 1) = some b) : (Jvm.ClassFile.Reader.s2 : Jvm.ClassFile.Decoder Int) c p = .ok (Jvm.ClassFile.Reader.signed 16 (a * 256 + b), p + 2) := by
  show Except.map (fun z => (Jvm.ClassFile.Reader.signed 16 z.1, z.2)) ((Jvm.ClassFile.Reader.u2 : Jvm.ClassFile.Decoder Nat) c p) = _
  rw [u2_at h1 h2]; rfl
theorem dec_of {c : ByteArray} {p n : Nat} {i : Jvm.ClassFile.Instr} (e : Jvm.ClassFile.Decoder.instr p c p = .ok (i, p + n)) : decode c p = .ok (i, n) := by
  show Except.bind (Jvm.ClassFile.Decoder.instr p c p) (fun z => Except.ok (z.1, z.2 - p)) = _
  rw [e]
  show Except.ok (i, p + n - p) = _
  rw [Nat.add_sub_cancel_left]
section DEC
variable {c : ByteArray} {p a b d : Nat}
theorem dec_30 (h0 : bA c p = some 30) : decode c p = .ok ((Jvm.ClassFile.Instr.lload_n 0), 1) := by
  refine dec_of ?_
  unfold Jvm.ClassFile.Decoder.instr
  refine bnd (u1_at h0) ?_
  show (pure (Jvm.ClassFile.Instr.lload_n 0) : Jvm.ClassFile.Decoder Jvm.ClassFile.Instr) c (p + 1) = _
  rfl
theorem dec_31 (h0 : bA c p = some 31) : decode c p = .ok ((Jvm.ClassFile.Instr.lload_n 1), 1) := by
  refine dec_of ?_
  unfold Jvm.ClassFile.Decoder.instr
  refine bnd (u1_at h0) ?_
  show (pure (Jvm.ClassFile.Instr.lload_n 1) : Jvm.ClassFile.Decoder Jvm.ClassFile.Instr) c (p + 1) = _
  rfl
theorem dec_32 (h0 : bA c p = some 32) : decode c p = .ok ((Jvm.ClassFile.Instr.lload_n 2), 1) := by
  refine dec_of ?_
  unfold Jvm.ClassFile.Decoder.instr
  refine bnd (u1_at h0) ?_
  show (pure (Jvm.ClassFile.Instr.lload_n 2) : Jvm.ClassFile.Decoder Jvm.ClassFile.Instr) c (p + 1) = _
  rfl
theorem dec_33 (h0 : bA c p = some 33) : decode c p = .ok ((Jvm.ClassFile.Instr.lload_n 3), 1) := by
  refine dec_of ?_
  unfold Jvm.ClassFile.Decoder.instr
  refine bnd (u1_at h0) ?_
  show (pure (Jvm.ClassFile.Instr.lload_n 3) : Jvm.ClassFile.Decoder Jvm.ClassFile.Instr) c (p + 1) = _
  rfl
theorem dec_63 (h0 : bA c p = some 63) : decode c p = .ok ((Jvm.ClassFile.Instr.lstore_n 0), 1) := by
  refine dec_of ?_
  unfold Jvm.ClassFile.Decoder.instr
  refine bnd (u1_at h0) ?_
  show (pure (Jvm.ClassFile.Instr.lstore_n 0) : Jvm.ClassFile.Decoder Jvm.ClassFile.Instr) c (p + 1) = _
  rfl
theorem dec_64 (h0 : bA c p = some 64) : decode c p = .ok ((Jvm.ClassFile.Instr.lstore_n 1), 1) := by
  refine dec_of ?_
  unfold Jvm.ClassFile.Decoder.instr
  refine bnd (u1_at h0) ?_
  show (pure (Jvm.ClassFile.Instr.lstore_n 1) : Jvm.ClassFile.Decoder Jvm.ClassFile.Instr) c (p + 1) = _
  rfl
theorem dec_65 (h0 : bA c p = some 65) : decode c p = .ok ((Jvm.ClassFile.Instr.lstore_n 2), 1) := by
  refine dec_of ?_
  unfold Jvm.ClassFile.Decoder.instr
  refine bnd (u1_at h0) ?_
  show (pure (Jvm.ClassFile.Instr.lstore_n 2) : Jvm.ClassFile.Decoder Jvm.ClassFile.Instr) c (p + 1) = _
  rfl
theorem dec_66 (h0 : bA c p = some 66) : decode c p = .ok ((Jvm.ClassFile.Instr.lstore_n 3), 1) := by
  refine dec_of ?_
  unfold Jvm.ClassFile.Decoder.instr
  refine bnd (u1_at h0) ?_
  show (pure (Jvm.ClassFile.Instr.lstore_n 3) : Jvm.ClassFile.Decoder Jvm.ClassFile.Instr) c (p + 1) = _
  rfl
theorem dec_9 (h0 : bA c p = some 9) : decode c p = .ok ((Jvm.ClassFile.Instr.lconst 0), 1) := by
  refine dec_of ?_
  unfold Jvm.ClassFile.Decoder.instr
  refine bnd (u1_at h0) ?_
  show (pure (Jvm.ClassFile.Instr.lconst 0) : Jvm.ClassFile.Decoder Jvm.ClassFile.Instr) c (p + 1) = _
  rfl
theorem dec_10 (h0 : bA c p = some 10) : decode c p = .ok ((Jvm.ClassFile.Instr.lconst 1), 1) := by
  refine dec_of ?_
  unfold Jvm.ClassFile.Decoder.instr
  refine bnd (u1_at h0) ?_
  show (pure (Jvm.ClassFile.Instr.lconst 1) : Jvm.ClassFile.Decoder Jvm.ClassFile.Instr) c (p + 1) = _
  rfl
theorem dec_42 (h0 : bA c p = some 42) : decode c p = .ok ((Jvm.ClassFile.Instr.aload_n 0), 1) := by
  refine dec_of ?_
  unfold Jvm.ClassFile.Decoder.instr
  refine bnd (u1_at h0) ?_
  show (pure (Jvm.ClassFile.Instr.aload_n 0) : Jvm.ClassFile.Decoder Jvm.ClassFile.Instr) c (p + 1) = _
  rfl
theorem dec_43 (h0 : bA c p = some 43) : decode c p = .ok ((Jvm.ClassFile.Instr.aload_n 1), 1) := by
  refine dec_of ?_
  unfold Jvm.ClassFile.Decoder.instr
  refine bnd (u1_at h0) ?_
  show (pure (Jvm.ClassFile.Instr.aload_n 1) : Jvm.ClassFile.Decoder Jvm.ClassFile.Instr) c (p + 1) = _
  rfl
theorem dec_44 (h0 : bA c p = some 44) : decode c p = .ok ((Jvm.ClassFile.Instr.aload_n 2), 1) := by
  refine dec_of ?_
  unfold Jvm.ClassFile.Decoder.instr
  refine bnd (u1_at h0) ?_
  show (pure (Jvm.ClassFile.Instr.aload_n 2) : Jvm.ClassFile.Decoder Jvm.ClassFile.Instr) c (p + 1) = _
  rfl
theorem dec_45 (h0 : bA c p = some 45) : decode c p = .ok ((Jvm.ClassFile.Instr.aload_n 3), 1) := by
  refine dec_of ?_
  unfold Jvm.ClassFile.Decoder.instr
  refine bnd (u1_at h0) ?_
  show (pure (Jvm.ClassFile.Instr.aload_n 3) : Jvm.ClassFile.Decoder Jvm.ClassFile.Instr) c (p + 1) = _
  rfl
theorem dec_26 (h0 : bA c p = some 26) : decode c p = .ok ((Jvm.ClassFile.Instr.iload_n 0), 1) := by
  refine dec_of ?_
  unfold Jvm.ClassFile.Decoder.instr
  refine bnd (u1_at h0) ?_
  show (pure (Jvm.ClassFile.Instr.iload_n 0) : Jvm.ClassFile.Decoder Jvm.ClassFile.Instr) c (p + 1) = _
  rfl
theorem dec_27 (h0 : bA c p = some 27) : decode c p = .ok ((Jvm.ClassFile.Instr.iload_n 1), 1) := by
  refine dec_of ?_
  unfold Jvm.ClassFile.Decoder.instr
  refine bnd (u1_at h0) ?_
  show (pure (Jvm.ClassFile.Instr.iload_n 1) : Jvm.ClassFile.Decoder Jvm.ClassFile.Instr) c (p + 1) = _
  rfl
theorem dec_28 (h0 : bA c p = some 28) : decode c p = .ok ((Jvm.ClassFile.Instr.iload_n 2), 1) := by
  refine dec_of ?_
  unfold Jvm.ClassFile.Decoder.instr
  refine bnd (u1_at h0) ?_
  show (pure (Jvm.ClassFile.Instr.iload_n 2) : Jvm.ClassFile.Decoder Jvm.ClassFile.Instr) c (p + 1) = _
  rfl
theorem dec_29 (h0 : bA c p = some 29) : decode c p = .ok ((Jvm.ClassFile.Instr.iload_n 3), 1) := by
  refine dec_of ?_
  unfold Jvm.ClassFile.Decoder.instr
  refine bnd (u1_at h0) ?_
  show (pure (Jvm.ClassFile.Instr.iload_n 3) : Jvm.ClassFile.Decoder Jvm.ClassFile.Instr) c (p + 1) = _
  rfl
theorem dec_2 (h0 : bA c p = some 2) : decode c p = .ok ((Jvm.ClassFile.Instr.iconst (-1)), 1) := by
  refine dec_of ?_
  unfold Jvm.ClassFile.Decoder.instr
  refine bnd (u1_at h0) ?_
  show (pure (Jvm.ClassFile.Instr.iconst (-1)) : Jvm.ClassFile.Decoder Jvm.ClassFile.Instr) c (p + 1) = _
  rfl
theorem dec_3 (h0 : bA c p = some 3) : decode c p = .ok ((Jvm.ClassFile.Instr.iconst 0), 1) := by
  refine dec_of ?_
  unfold Jvm.ClassFile.Decoder.instr
  refine bnd (u1_at h0) ?_
  show (pure (Jvm.ClassFile.Instr.iconst 0) : Jvm.ClassFile.Decoder Jvm.ClassFile.Instr) c (p + 1) = _
  rfl
theorem dec_4 (h0 : bA c p = some 4) : decode c p = .ok ((Jvm.ClassFile.Instr.iconst 1), 1) := by
  refine dec_of ?_
  unfold Jvm.ClassFile.Decoder.instr
  refine bnd (u1_at h0) ?_
  show (pure (Jvm.ClassFile.Instr.iconst 1) : Jvm.ClassFile.Decoder Jvm.ClassFile.Instr) c (p + 1) = _
  rfl
theorem dec_5 (h0 : bA c p = some 5) : decode c p = .ok ((Jvm.ClassFile.Instr.iconst 2), 1) := by
  refine dec_of ?_
  unfold Jvm.ClassFile.Decoder.instr
  refine bnd (u1_at h0) ?_
  show (pure (Jvm.ClassFile.Instr.iconst 2) : Jvm.ClassFile.Decoder Jvm.ClassFile.Instr) c (p + 1) = _
  rfl
theorem dec_6 (h0 : bA c p = some 6) : decode c p = .ok ((Jvm.ClassFile.Instr.iconst 3), 1) := by
  refine dec_of ?_
  unfold Jvm.ClassFile.Decoder.instr
  refine bnd (u1_at h0) ?_
  show (pure (Jvm.ClassFile.Instr.iconst 3) : Jvm.ClassFile.Decoder Jvm.ClassFile.Instr) c (p + 1) = _
  rfl
theorem dec_7 (h0 : bA c p = some 7) : decode c p = .ok ((Jvm.ClassFile.Instr.iconst 4), 1) := by
  refine dec_of ?_
  unfold Jvm.ClassFile.Decoder.instr
  refine bnd (u1_at h0) ?_
  show (pure (Jvm.ClassFile.Instr.iconst 4) : Jvm.ClassFile.Decoder Jvm.ClassFile.Instr) c (p + 1) = _
  rfl
theorem dec_8 (h0 : bA c p = some 8) : decode c p = .ok ((Jvm.ClassFile.Instr.iconst 5), 1) := by
  refine dec_of ?_
  unfold Jvm.ClassFile.Decoder.instr
  refine bnd (u1_at h0) ?_
  show (pure (Jvm.ClassFile.Instr.iconst 5) : Jvm.ClassFile.Decoder Jvm.ClassFile.Instr) c (p + 1) = _
  rfl
theorem dec_75 (h0 : bA c p = some 75) : decode c p = .ok ((Jvm.ClassFile.Instr.astore_n 0), 1) := by
  refine dec_of ?_
  unfold Jvm.ClassFile.Decoder.instr
  refine bnd (u1_at h0) ?_
  show (pure (Jvm.ClassFile.Instr.astore_n 0) : Jvm.ClassFile.Decoder Jvm.ClassFile.Instr) c (p + 1) = _
  rfl
theorem dec_76 (h0 : bA c p = some 76) : decode c p = .ok ((Jvm.ClassFile.Instr.astore_n 1), 1) := by
  refine dec_of ?_
  unfold Jvm.ClassFile.Decoder.instr
  refine bnd (u1_at h0) ?_
  show (pure (Jvm.ClassFile.Instr.astore_n 1) : Jvm.ClassFile.Decoder Jvm.ClassFile.Instr) c (p + 1) = _
  rfl
theorem dec_77 (h0 : bA c p = some 77) : decode c p = .ok ((Jvm.ClassFile.Instr.astore_n 2), 1) := by
  refine dec_of ?_
  unfold Jvm.ClassFile.Decoder.instr
  refine bnd (u1_at h0) ?_
  show (pure (Jvm.ClassFile.Instr.astore_n 2) : Jvm.ClassFile.Decoder Jvm.ClassFile.Instr) c (p + 1) = _
  rfl
theorem dec_78 (h0 : bA c p = some 78) : decode c p = .ok ((Jvm.ClassFile.Instr.astore_n 3), 1) := by
  refine dec_of ?_
  unfold Jvm.ClassFile.Decoder.instr
  refine bnd (u1_at h0) ?_
  show (pure (Jvm.ClassFile.Instr.astore_n 3) : Jvm.ClassFile.Decoder Jvm.ClassFile.Instr) c (p + 1) = _
  rfl
theorem dec_59 (h0 : bA c p = some 59) : decode c p = .ok ((Jvm.ClassFile.Instr.istore_n 0), 1) := by
  refine dec_of ?_
  unfold Jvm.ClassFile.Decoder.instr
  refine bnd (u1_at h0) ?_
  show (pure (Jvm.ClassFile.Instr.istore_n 0) : Jvm.ClassFile.Decoder Jvm.ClassFile.Instr) c (p + 1) = _
  rfl
theorem dec_60 (h0 : bA c p = some 60) : decode c p = .ok ((Jvm.ClassFile.Instr.istore_n 1), 1) := by
  refine dec_of ?_
  unfold Jvm.ClassFile.Decoder.instr
  refine bnd (u1_at h0) ?_
  show (pure (Jvm.ClassFile.Instr.istore_n 1) : Jvm.ClassFile.Decoder Jvm.ClassFile.Instr) c (p + 1) = _
  rfl
theorem dec_61 (h0 : bA c p = some 61) : decode c p = .ok ((Jvm.ClassFile.Instr.istore_n 2), 1) := by
  refine dec_of ?_
  unfold Jvm.ClassFile.Decoder.instr
  refine bnd (u1_at h0) ?_
  show (pure (Jvm.ClassFile.Instr.istore_n 2) : Jvm.ClassFile.Decoder Jvm.ClassFile.Instr) c (p + 1) = _
  rfl
theorem dec_62 (h0 : bA c p = some 62) : decode c p = .ok ((Jvm.ClassFile.Instr.istore_n 3), 1) := by
  refine dec_of ?_
  unfold Jvm.ClassFile.Decoder.instr
  refine bnd (u1_at h0) ?_
  show (pure (Jvm.ClassFile.Instr.istore_n 3) : Jvm.ClassFile.Decoder Jvm.ClassFile.Instr) c (p + 1) = _
  rfl
theorem dec_46 (h0 : bA c p = some 46) : decode c p = .ok ((Jvm.ClassFile.Instr.iaload), 1) := by
  refine dec_of ?_
  unfold Jvm.ClassFile.Decoder.instr
  refine bnd (u1_at h0) ?_
  show (pure (Jvm.ClassFile.Instr.iaload) : Jvm.ClassFile.Decoder Jvm.ClassFile.Instr) c (p + 1) = _
  rfl
theorem dec_87 (h0 : bA c p = some 87) : decode c p = .ok ((Jvm.ClassFile.Instr.pop), 1) := by
  refine dec_of ?_
  unfold Jvm.ClassFile.Decoder.instr
  refine bnd (u1_at h0) ?_
  show (pure (Jvm.ClassFile.Instr.pop) : Jvm.ClassFile.Decoder Jvm.ClassFile.Instr) c (p + 1) = _
  rfl
theorem dec_88 (h0 : bA c p = some 88) : decode c p = .ok ((Jvm.ClassFile.Instr.pop2), 1) := by
  refine dec_of ?_
  unfold Jvm.ClassFile.Decoder.instr
  refine bnd (u1_at h0) ?_
  show (pure (Jvm.ClassFile.Instr.pop2) : Jvm.ClassFile.Decoder Jvm.ClassFile.Instr) c (p + 1) = _
  rfl
theorem dec_89 (h0 : bA c p = some 89) : decode c p = .ok ((Jvm.ClassFile.Instr.dup), 1) := by
  refine dec_of ?_
  unfold Jvm.ClassFile.Decoder.instr
  refine bnd (u1_at h0) ?_
  show (pure (Jvm.ClassFile.Instr.dup) : Jvm.ClassFile.Decoder Jvm.ClassFile.Instr) c (p + 1) = _
  rfl
theorem dec_96 (h0 : bA c p = some 96) : decode c p = .ok ((Jvm.ClassFile.Instr.iadd), 1) := by
  refine dec_of ?_
  unfold Jvm.ClassFile.Decoder.instr
  refine bnd (u1_at h0) ?_
  show (pure (Jvm.ClassFile.Instr.iadd) : Jvm.ClassFile.Decoder Jvm.ClassFile.Instr) c (p + 1) = _
  rfl
theorem dec_100 (h0 : bA c p = some 100) : decode c p = .ok ((Jvm.ClassFile.Instr.isub), 1) := by
  refine dec_of ?_
  unfold Jvm.ClassFile.Decoder.instr
  refine bnd (u1_at h0) ?_
  show (pure (Jvm.ClassFile.Instr.isub) : Jvm.ClassFile.Decoder Jvm.ClassFile.Instr) c (p + 1) = _
  rfl
theorem dec_104 (h0 : bA c p = some 104) : decode c p = .ok ((Jvm.ClassFile.Instr.imul), 1) := by
  refine dec_of ?_
  unfold Jvm.ClassFile.Decoder.instr
  refine bnd (u1_at h0) ?_
  show (pure (Jvm.ClassFile.Instr.imul) : Jvm.ClassFile.Decoder Jvm.ClassFile.Instr) c (p + 1) = _
  rfl
theorem dec_126 (h0 : bA c p = some 126) : decode c p = .ok ((Jvm.ClassFile.Instr.iand), 1) := by
  refine dec_of ?_
  unfold Jvm.ClassFile.Decoder.instr
  refine bnd (u1_at h0) ?_
  show (pure (Jvm.ClassFile.Instr.iand) : Jvm.ClassFile.Decoder Jvm.ClassFile.Instr) c (p + 1) = _
  rfl
theorem dec_133 (h0 : bA c p = some 133) : decode c p = .ok ((Jvm.ClassFile.Instr.i2l), 1) := by
  refine dec_of ?_
  unfold Jvm.ClassFile.Decoder.instr
  refine bnd (u1_at h0) ?_
  show (pure (Jvm.ClassFile.Instr.i2l) : Jvm.ClassFile.Decoder Jvm.ClassFile.Instr) c (p + 1) = _
  rfl
theorem dec_148 (h0 : bA c p = some 148) : decode c p = .ok ((Jvm.ClassFile.Instr.lcmp), 1) := by
  refine dec_of ?_
  unfold Jvm.ClassFile.Decoder.instr
  refine bnd (u1_at h0) ?_
  show (pure (Jvm.ClassFile.Instr.lcmp) : Jvm.ClassFile.Decoder Jvm.ClassFile.Instr) c (p + 1) = _
  rfl
theorem dec_172 (h0 : bA c p = some 172) : decode c p = .ok ((Jvm.ClassFile.Instr.ireturn), 1) := by
  refine dec_of ?_
  unfold Jvm.ClassFile.Decoder.instr
  refine bnd (u1_at h0) ?_
  show (pure (Jvm.ClassFile.Instr.ireturn) : Jvm.ClassFile.Decoder Jvm.ClassFile.Instr) c (p + 1) = _
  rfl
theorem dec_190 (h0 : bA c p = some 190) : decode c p = .ok ((Jvm.ClassFile.Instr.arraylength), 1) := by
  refine dec_of ?_
  unfold Jvm.ClassFile.Decoder.instr
  refine bnd (u1_at h0) ?_
  show (pure (Jvm.ClassFile.Instr.arraylength) : Jvm.ClassFile.Decoder Jvm.ClassFile.Instr) c (p + 1) = _
  rfl
theorem dec_50 (h0 : bA c p = some 50) : decode c p = .ok ((Jvm.ClassFile.Instr.aaload), 1) := by
  refine dec_of ?_
  unfold Jvm.ClassFile.Decoder.instr
  refine bnd (u1_at h0) ?_
  show (pure (Jvm.ClassFile.Instr.aaload) : Jvm.ClassFile.Decoder Jvm.ClassFile.Instr) c (p + 1) = _
  rfl
theorem dec_177 (h0 : bA c p = some 177) : decode c p = .ok ((Jvm.ClassFile.Instr.return_), 1) := by
  refine dec_of ?_
  unfold Jvm.ClassFile.Decoder.instr
  refine bnd (u1_at h0) ?_
  show (pure (Jvm.ClassFile.Instr.return_) : Jvm.ClassFile.Decoder Jvm.ClassFile.Instr) c (p + 1) = _
  rfl
theorem dec_176 (h0 : bA c p = some 176) : decode c p = .ok ((Jvm.ClassFile.Instr.areturn), 1) := by
  refine dec_of ?_
  unfold Jvm.ClassFile.Decoder.instr
  refine bnd (u1_at h0) ?_
  show (pure (Jvm.ClassFile.Instr.areturn) : Jvm.ClassFile.Decoder Jvm.ClassFile.Instr) c (p + 1) = _
  rfl
theorem dec_79 (h0 : bA c p = some 79) : decode c p = .ok ((Jvm.ClassFile.Instr.iastore), 1) := by
  refine dec_of ?_
  unfold Jvm.ClassFile.Decoder.instr
  refine bnd (u1_at h0) ?_
  show (pure (Jvm.ClassFile.Instr.iastore) : Jvm.ClassFile.Decoder Jvm.ClassFile.Instr) c (p + 1) = _
  rfl
theorem dec_191 (h0 : bA c p = some 191) : decode c p = .ok ((Jvm.ClassFile.Instr.athrow), 1) := by
  refine dec_of ?_
  unfold Jvm.ClassFile.Decoder.instr
  refine bnd (u1_at h0) ?_
  show (pure (Jvm.ClassFile.Instr.athrow) : Jvm.ClassFile.Decoder Jvm.ClassFile.Instr) c (p + 1) = _
  rfl
theorem dec_112 (h0 : bA c p = some 112) : decode c p = .ok ((Jvm.ClassFile.Instr.irem), 1) := by
  refine dec_of ?_
  unfold Jvm.ClassFile.Decoder.instr
  refine bnd (u1_at h0) ?_
  show (pure (Jvm.ClassFile.Instr.irem) : Jvm.ClassFile.Decoder Jvm.ClassFile.Instr) c (p + 1) = _
  rfl
theorem dec_84 (h0 : bA c p = some 84) : decode c p = .ok ((Jvm.ClassFile.Instr.bastore), 1) := by
  refine dec_of ?_
  unfold Jvm.ClassFile.Decoder.instr
  refine bnd (u1_at h0) ?_
  show (pure (Jvm.ClassFile.Instr.bastore) : Jvm.ClassFile.Decoder Jvm.ClassFile.Instr) c (p + 1) = _
  rfl
theorem dec_120 (h0 : bA c p = some 120) : decode c p = .ok ((Jvm.ClassFile.Instr.ishl), 1) := by
  refine dec_of ?_
  unfold Jvm.ClassFile.Decoder.instr
  refine bnd (u1_at h0) ?_
  show (pure (Jvm.ClassFile.Instr.ishl) : Jvm.ClassFile.Decoder Jvm.ClassFile.Instr) c (p + 1) = _
  rfl
theorem dec_51 (h0 : bA c p = some 51) : decode c p = .ok ((Jvm.ClassFile.Instr.baload), 1) := by
  refine dec_of ?_
  unfold Jvm.ClassFile.Decoder.instr
  refine bnd (u1_at h0) ?_
  show (pure (Jvm.ClassFile.Instr.baload) : Jvm.ClassFile.Decoder Jvm.ClassFile.Instr) c (p + 1) = _
  rfl
theorem dec_122 (h0 : bA c p = some 122) : decode c p = .ok ((Jvm.ClassFile.Instr.ishr), 1) := by
  refine dec_of ?_
  unfold Jvm.ClassFile.Decoder.instr
  refine bnd (u1_at h0) ?_
  show (pure (Jvm.ClassFile.Instr.ishr) : Jvm.ClassFile.Decoder Jvm.ClassFile.Instr) c (p + 1) = _
  rfl
theorem dec_83 (h0 : bA c p = some 83) : decode c p = .ok ((Jvm.ClassFile.Instr.aastore), 1) := by
  refine dec_of ?_
  unfold Jvm.ClassFile.Decoder.instr
  refine bnd (u1_at h0) ?_
  show (pure (Jvm.ClassFile.Instr.aastore) : Jvm.ClassFile.Decoder Jvm.ClassFile.Instr) c (p + 1) = _
  rfl
theorem dec_173 (h0 : bA c p = some 173) : decode c p = .ok ((Jvm.ClassFile.Instr.lreturn), 1) := by
  refine dec_of ?_
  unfold Jvm.ClassFile.Decoder.instr
  refine bnd (u1_at h0) ?_
  show (pure (Jvm.ClassFile.Instr.lreturn) : Jvm.ClassFile.Decoder Jvm.ClassFile.Instr) c (p + 1) = _
  rfl
theorem dec_116 (h0 : bA c p = some 116) : decode c p = .ok ((Jvm.ClassFile.Instr.ineg), 1) := by
  refine dec_of ?_
  unfold Jvm.ClassFile.Decoder.instr
  refine bnd (u1_at h0) ?_
  show (pure (Jvm.ClassFile.Instr.ineg) : Jvm.ClassFile.Decoder Jvm.ClassFile.Instr) c (p + 1) = _
  rfl
theorem dec_124 (h0 : bA c p = some 124) : decode c p = .ok ((Jvm.ClassFile.Instr.iushr), 1) := by
  refine dec_of ?_
  unfold Jvm.ClassFile.Decoder.instr
  refine bnd (u1_at h0) ?_
  show (pure (Jvm.ClassFile.Instr.iushr) : Jvm.ClassFile.Decoder Jvm.ClassFile.Instr) c (p + 1) = _
  rfl
theorem dec_108 (h0 : bA c p = some 108) : decode c p = .ok ((Jvm.ClassFile.Instr.idiv), 1) := by
  refine dec_of ?_
  unfold Jvm.ClassFile.Decoder.instr
  refine bnd (u1_at h0) ?_
  show (pure (Jvm.ClassFile.Instr.idiv) : Jvm.ClassFile.Decoder Jvm.ClassFile.Instr) c (p + 1) = _
  rfl
theorem dec_145 (h0 : bA c p = some 145) : decode c p = .ok ((Jvm.ClassFile.Instr.i2b), 1) := by
  refine dec_of ?_
  unfold Jvm.ClassFile.Decoder.instr
  refine bnd (u1_at h0) ?_
  show (pure (Jvm.ClassFile.Instr.i2b) : Jvm.ClassFile.Decoder Jvm.ClassFile.Instr) c (p + 1) = _
  rfl
theorem dec_128 (h0 : bA c p = some 128) : decode c p = .ok ((Jvm.ClassFile.Instr.ior), 1) := by
  refine dec_of ?_
  unfold Jvm.ClassFile.Decoder.instr
  refine bnd (u1_at h0) ?_
  show (pure (Jvm.ClassFile.Instr.ior) : Jvm.ClassFile.Decoder Jvm.ClassFile.Instr) c (p + 1) = _
  rfl
theorem dec_105 (h0 : bA c p = some 105) : decode c p = .ok ((Jvm.ClassFile.Instr.lmul), 1) := by
  refine dec_of ?_
  unfold Jvm.ClassFile.Decoder.instr
  refine bnd (u1_at h0) ?_
  show (pure (Jvm.ClassFile.Instr.lmul) : Jvm.ClassFile.Decoder Jvm.ClassFile.Instr) c (p + 1) = _
  rfl
theorem dec_97 (h0 : bA c p = some 97) : decode c p = .ok ((Jvm.ClassFile.Instr.ladd), 1) := by
  refine dec_of ?_
  unfold Jvm.ClassFile.Decoder.instr
  refine bnd (u1_at h0) ?_
  show (pure (Jvm.ClassFile.Instr.ladd) : Jvm.ClassFile.Decoder Jvm.ClassFile.Instr) c (p + 1) = _
  rfl
theorem dec_90 (h0 : bA c p = some 90) : decode c p = .ok ((Jvm.ClassFile.Instr.dup_x1), 1) := by
  refine dec_of ?_
  unfold Jvm.ClassFile.Decoder.instr
  refine bnd (u1_at h0) ?_
  show (pure (Jvm.ClassFile.Instr.dup_x1) : Jvm.ClassFile.Decoder Jvm.ClassFile.Instr) c (p + 1) = _
  rfl
theorem dec_92 (h0 : bA c p = some 92) : decode c p = .ok ((Jvm.ClassFile.Instr.dup2), 1) := by
  refine dec_of ?_
  unfold Jvm.ClassFile.Decoder.instr
  refine bnd (u1_at h0) ?_
  show (pure (Jvm.ClassFile.Instr.dup2) : Jvm.ClassFile.Decoder Jvm.ClassFile.Instr) c (p + 1) = _
  rfl
theorem dec_18 (h0 : bA c p = some 18) (h1 : bA c (p + 1) = some a) : decode c p = .ok ((Jvm.ClassFile.Instr.ldc a), 2) := by
  refine dec_of ?_
  unfold Jvm.ClassFile.Decoder.instr
  refine bnd (u1_at h0) ?_
  show (Jvm.ClassFile.Reader.u1 >>= fun x => pure (Jvm.ClassFile.Instr.ldc x) : Jvm.ClassFile.Decoder Jvm.ClassFile.Instr) c (p + 1) = _
  exact bnd (u1_at h1) rfl
theorem dec_22 (h0 : bA c p = some 22) (h1 : bA c (p + 1) = some a) : decode c p = .ok ((Jvm.ClassFile.Instr.lload a), 2) := by
  refine dec_of ?_
  unfold Jvm.ClassFile.Decoder.instr
  refine bnd (u1_at h0) ?_
  show (Jvm.ClassFile.Reader.u1 >>= fun x => pure (Jvm.ClassFile.Instr.lload x) : Jvm.ClassFile.Decoder Jvm.ClassFile.Instr) c (p + 1) = _
  exact bnd (u1_at h1) rfl
theorem dec_55 (h0 : bA c p = some 55) (h1 : bA c (p + 1) = some a) : decode c p = .ok ((Jvm.ClassFile.Instr.lstore a), 2) := by
  refine dec_of ?_
  unfold Jvm.ClassFile.Decoder.instr
  refine bnd (u1_at h0) ?_
  show (Jvm.ClassFile.Reader.u1 >>= fun x => pure (Jvm.ClassFile.Instr.lstore x) : Jvm.ClassFile.Decoder Jvm.ClassFile.Instr) c (p + 1) = _
  exact bnd (u1_at h1) rfl
theorem dec_21 (h0 : bA c p = some 21) (h1 : bA c (p + 1) = some a) : decode c p = .ok ((Jvm.ClassFile.Instr.iload a), 2) := by
  refine dec_of ?_
  unfold Jvm.ClassFile.Decoder.instr
  refine bnd (u1_at h0) ?_
  show (Jvm.ClassFile.Reader.u1 >>= fun x => pure (Jvm.ClassFile.Instr.iload x) : Jvm.ClassFile.Decoder Jvm.ClassFile.Instr) c (p + 1) = _
  exact bnd (u1_at h1) rfl
theorem dec_25 (h0 : bA c p = some 25) (h1 : bA c (p + 1) = some a) : decode c p = .ok ((Jvm.ClassFile.Instr.aload a), 2) := by
  refine dec_of ?_
  unfold Jvm.ClassFile.Decoder.instr
  refine bnd (u1_at h0) ?_
  show (Jvm.ClassFile.Reader.u1 >>= fun x => pure (Jvm.ClassFile.Instr.aload x) : Jvm.ClassFile.Decoder Jvm.ClassFile.Instr) c (p + 1) = _
  exact bnd (u1_at h1) rfl
theorem dec_54 (h0 : bA c p = some 54) (h1 : bA c (p + 1) = some a) : decode c p = .ok ((Jvm.ClassFile.Instr.istore a), 2) := by
  refine dec_of ?_
  unfold Jvm.ClassFile.Decoder.instr
  refine bnd (u1_at h0) ?_
  show (Jvm.ClassFile.Reader.u1 >>= fun x => pure (Jvm.ClassFile.Instr.istore x) : Jvm.ClassFile.Decoder Jvm.ClassFile.Instr) c (p + 1) = _
  exact bnd (u1_at h1) rfl
theorem dec_58 (h0 : bA c p = some 58) (h1 : bA c (p + 1) = some a) : decode c p = .ok ((Jvm.ClassFile.Instr.astore a), 2) := by
  refine dec_of ?_
  unfold Jvm.ClassFile.Decoder.instr
  refine bnd (u1_at h0) ?_
  show (Jvm.ClassFile.Reader.u1 >>= fun x => pure (Jvm.ClassFile.Instr.astore x) : Jvm.ClassFile.Decoder Jvm.ClassFile.Instr) c (p + 1) = _
  exact bnd (u1_at h1) rfl
theorem dec_16 (h0 : bA c p = some 16) (h1 : bA c (p + 1) = some a) : decode c p = .ok (Jvm.ClassFile.Instr.bipush (Jvm.ClassFile.Reader.signed 8 a), 2) := by
  refine dec_of ?_
  unfold Jvm.ClassFile.Decoder.instr
  refine bnd (u1_at h0) ?_
  show (Jvm.ClassFile.Reader.s1 >>= fun x => pure (Jvm.ClassFile.Instr.bipush x) : Jvm.ClassFile.Decoder Jvm.ClassFile.Instr) c (p + 1) = _
  exact bnd (s1_at h1) rfl
theorem dec_19 (h0 : bA c p = some 19) (h1 : bA c (p + 1) = some a) (h2 : bA c (p + 1 + 1) = some b) : decode c p = .ok (Jvm.ClassFile.Instr.ldc_w (a * 256 + b), 3) := by
  refine dec_of ?_
  unfold Jvm.ClassFile.Decoder.instr
  refine bnd (u1_at h0) ?_
  show (Jvm.ClassFile.Reader.u2 >>= fun x => pure (Jvm.ClassFile.Instr.ldc_w x) : Jvm.ClassFile.Decoder Jvm.ClassFile.Instr) c (p + 1) = _
  exact bnd (u2_at h1 h2) rfl
theorem dec_20 (h0 : bA c p = some 20) (h1 : bA c (p + 1) = some a) (h2 : bA c (p + 1 + 1) = some b) : decode c p = .ok (Jvm.ClassFile.Instr.ldc2_w (a * 256 + b), 3) := by
  refine dec_of ?_
  unfold Jvm.ClassFile.Decoder.instr
  refine bnd (u1_at h0) ?_
  show (Jvm.ClassFile.Reader.u2 >>= fun x => pure (Jvm.ClassFile.Instr.ldc2_w x) : Jvm.ClassFile.Decoder Jvm.ClassFile.Instr) c (p + 1) = _
  exact bnd (u2_at h1 h2) rfl
theorem dec_189 (h0 : bA c p = some 189) (h1 : bA c (p + 1) = some a) (h2 : bA c (p + 1 + 1) = some b) : decode c p = .ok (Jvm.ClassFile.Instr.anewarray (a * 256 + b), 3) := by
  refine dec_of ?_
  unfold Jvm.ClassFile.Decoder.instr
  refine bnd (u1_at h0) ?_
  show (Jvm.ClassFile.Reader.u2 >>= fun x => pure (Jvm.ClassFile.Instr.anewarray x) : Jvm.ClassFile.Decoder Jvm.ClassFile.Instr) c (p + 1) = _
  exact bnd (u2_at h1 h2) rfl
theorem dec_192 (h0 : bA c p = some 192) (h1 : bA c (p + 1) = some a) (h2 : bA c (p + 1 + 1) = some b) : decode c p = .ok (Jvm.ClassFile.Instr.checkcast (a * 256 + b), 3) := by
  refine dec_of ?_
  unfold Jvm.ClassFile.Decoder.instr
  refine bnd (u1_at h0) ?_
  show (Jvm.ClassFile.Reader.u2 >>= fun x => pure (Jvm.ClassFile.Instr.checkcast x) : Jvm.ClassFile.Decoder Jvm.ClassFile.Instr) c (p + 1) = _
  exact bnd (u2_at h1 h2) rfl
theorem dec_178 (h0 : bA c p = some 178) (h1 : bA c (p + 1) = some a) (h2 : bA c (p + 1 + 1) = some b) : decode c p = .ok (Jvm.ClassFile.Instr.getstatic (a * 256 + b), 3) := by
  refine dec_of ?_
  unfold Jvm.ClassFile.Decoder.instr
  refine bnd (u1_at h0) ?_
  show (Jvm.ClassFile.Reader.u2 >>= fun x => pure (Jvm.ClassFile.Instr.getstatic x) : Jvm.ClassFile.Decoder Jvm.ClassFile.Instr) c (p + 1) = _
  exact bnd (u2_at h1 h2) rfl
theorem dec_180 (h0 : bA c p = some 180) (h1 : bA c (p + 1) = some a) (h2 : bA c (p + 1 + 1) = some b) : decode c p = .ok (Jvm.ClassFile.Instr.getfield (a * 256 + b), 3) := by
  refine dec_of ?_
  unfold Jvm.ClassFile.Decoder.instr
  refine bnd (u1_at h0) ?_
  show (Jvm.ClassFile.Reader.u2 >>= fun x => pure (Jvm.ClassFile.Instr.getfield x) : Jvm.ClassFile.Decoder Jvm.ClassFile.Instr) c (p + 1) = _
  exact bnd (u2_at h1 h2) rfl
theorem dec_182 (h0 : bA c p = some 182) (h1 : bA c (p + 1) = some a) (h2 : bA c (p + 1 + 1) = some b) : decode c p = .ok (Jvm.ClassFile.Instr.invokevirtual (a * 256 + b), 3) := by
  refine dec_of ?_
  unfold Jvm.ClassFile.Decoder.instr
  refine bnd (u1_at h0) ?_
  show (Jvm.ClassFile.Reader.u2 >>= fun x => pure (Jvm.ClassFile.Instr.invokevirtual x) : Jvm.ClassFile.Decoder Jvm.ClassFile.Instr) c (p + 1) = _
  exact bnd (u2_at h1 h2) rfl
theorem dec_183 (h0 : bA c p = some 183) (h1 : bA c (p + 1) = some a) (h2 : bA c (p + 1 + 1) = some b) : decode c p = .ok (Jvm.ClassFile.Instr.invokespecial (a * 256 + b), 3) := by
  refine dec_of ?_
  unfold Jvm.ClassFile.Decoder.instr
  refine bnd (u1_at h0) ?_
  show (Jvm.ClassFile.Reader.u2 >>= fun x => pure (Jvm.ClassFile.Instr.invokespecial x) : Jvm.ClassFile.Decoder Jvm.ClassFile.Instr) c (p + 1) = _
  exact bnd (u2_at h1 h2) rfl
theorem dec_184 (h0 : bA c p = some 184) (h1 : bA c (p + 1) = some a) (h2 : bA c (p + 1 + 1) = some b) : decode c p = .ok (Jvm.ClassFile.Instr.invokestatic (a * 256 + b), 3) := by
  refine dec_of ?_
  unfold Jvm.ClassFile.Decoder.instr
  refine bnd (u1_at h0) ?_
  show (Jvm.ClassFile.Reader.u2 >>= fun x => pure (Jvm.ClassFile.Instr.invokestatic x) : Jvm.ClassFile.Decoder Jvm.ClassFile.Instr) c (p + 1) = _
  exact bnd (u2_at h1 h2) rfl
theorem dec_187 (h0 : bA c p = some 187) (h1 : bA c (p + 1) = some a) (h2 : bA c (p + 1 + 1) = some b) : decode c p = .ok (Jvm.ClassFile.Instr.new (a * 256 + b), 3) := by
  refine dec_of ?_
  unfold Jvm.ClassFile.Decoder.instr
  refine bnd (u1_at h0) ?_
  show (Jvm.ClassFile.Reader.u2 >>= fun x => pure (Jvm.ClassFile.Instr.new x) : Jvm.ClassFile.Decoder Jvm.ClassFile.Instr) c (p + 1) = _
  exact bnd (u2_at h1 h2) rfl
theorem dec_181 (h0 : bA c p = some 181) (h1 : bA c (p + 1) = some a) (h2 : bA c (p + 1 + 1) = some b) : decode c p = .ok (Jvm.ClassFile.Instr.putfield (a * 256 + b), 3) := by
  refine dec_of ?_
  unfold Jvm.ClassFile.Decoder.instr
  refine bnd (u1_at h0) ?_
  show (Jvm.ClassFile.Reader.u2 >>= fun x => pure (Jvm.ClassFile.Instr.putfield x) : Jvm.ClassFile.Decoder Jvm.ClassFile.Instr) c (p + 1) = _
  exact bnd (u2_at h1 h2) rfl
theorem dec_167 (h0 : bA c p = some 167) (h1 : bA c (p + 1) = some a) (h2 : bA c (p + 1 + 1) = some b) : decode c p = .ok (Jvm.ClassFile.Instr.goto (Jvm.ClassFile.Reader.signed 16 (a * 256 + b)), 3) := by
  refine dec_of ?_
  unfold Jvm.ClassFile.Decoder.instr
  refine bnd (u1_at h0) ?_
  show (Jvm.ClassFile.Reader.s2 >>= fun x => pure (Jvm.ClassFile.Instr.goto x) : Jvm.ClassFile.Decoder Jvm.ClassFile.Instr) c (p + 1) = _
  exact bnd (s2_at h1 h2) rfl
theorem dec_17 (h0 : bA c p = some 17) (h1 : bA c (p + 1) = some a) (h2 : bA c (p + 1 + 1) = some b) : decode c p = .ok (Jvm.ClassFile.Instr.sipush (Jvm.ClassFile.Reader.signed 16 (a * 256 + b)), 3) := by
  refine dec_of ?_
  unfold Jvm.ClassFile.Decoder.instr
  refine bnd (u1_at h0) ?_
  show (Jvm.ClassFile.Reader.s2 >>= fun x => pure (Jvm.ClassFile.Instr.sipush x) : Jvm.ClassFile.Decoder Jvm.ClassFile.Instr) c (p + 1) = _
  exact bnd (s2_at h1 h2) rfl
theorem dec_153 (h0 : bA c p = some 153) (h1 : bA c (p + 1) = some a) (h2 : bA c (p + 1 + 1) = some b) : decode c p = .ok (Jvm.ClassFile.Instr.ifCond .eq (Jvm.ClassFile.Reader.signed 16 (a * 256 + b)), 3) := by
  refine dec_of ?_
  unfold Jvm.ClassFile.Decoder.instr
  refine bnd (u1_at h0) ?_
  show (Jvm.ClassFile.Reader.s2 >>= fun x => pure (Jvm.ClassFile.Instr.ifCond .eq x) : Jvm.ClassFile.Decoder Jvm.ClassFile.Instr) c (p + 1) = _
  exact bnd (s2_at h1 h2) rfl
theorem dec_154 (h0 : bA c p = some 154) (h1 : bA c (p + 1) = some a) (h2 : bA c (p + 1 + 1) = some b) : decode c p = .ok (Jvm.ClassFile.Instr.ifCond .ne (Jvm.ClassFile.Reader.signed 16 (a * 256 + b)), 3) := by
  refine dec_of ?_
  unfold Jvm.ClassFile.Decoder.instr
  refine bnd (u1_at h0) ?_
  show (Jvm.ClassFile.Reader.s2 >>= fun x => pure (Jvm.ClassFile.Instr.ifCond .ne x) : Jvm.ClassFile.Decoder Jvm.ClassFile.Instr) c (p + 1) = _
  exact bnd (s2_at h1 h2) rfl
theorem dec_155 (h0 : bA c p = some 155) (h1 : bA c (p + 1) = some a) (h2 : bA c (p + 1 + 1) = some b) : decode c p = .ok (Jvm.ClassFile.Instr.ifCond .lt (Jvm.ClassFile.Reader.signed 16 (a * 256 + b)), 3) := by
  refine dec_of ?_
  unfold Jvm.ClassFile.Decoder.instr
  refine bnd (u1_at h0) ?_
  show (Jvm.ClassFile.Reader.s2 >>= fun x => pure (Jvm.ClassFile.Instr.ifCond .lt x) : Jvm.ClassFile.Decoder Jvm.ClassFile.Instr) c (p + 1) = _
  exact bnd (s2_at h1 h2) rfl
theorem dec_156 (h0 : bA c p = some 156) (h1 : bA c (p + 1) = some a) (h2 : bA c (p + 1 + 1) = some b) : decode c p = .ok (Jvm.ClassFile.Instr.ifCond .ge (Jvm.ClassFile.Reader.signed 16 (a * 256 + b)), 3) := by
  refine dec_of ?_
  unfold Jvm.ClassFile.Decoder.instr
  refine bnd (u1_at h0) ?_
  show (Jvm.ClassFile.Reader.s2 >>= fun x => pure (Jvm.ClassFile.Instr.ifCond .ge x) : Jvm.ClassFile.Decoder Jvm.ClassFile.Instr) c (p + 1) = _
  exact bnd (s2_at h1 h2) rfl
theorem dec_157 (h0 : bA c p = some 157) (h1 : bA c (p + 1) = some a) (h2 : bA c (p + 1 + 1) = some b) : decode c p = .ok (Jvm.ClassFile.Instr.ifCond .gt (Jvm.ClassFile.Reader.signed 16 (a * 256 + b)), 3) := by
  refine dec_of ?_
  unfold Jvm.ClassFile.Decoder.instr
  refine bnd (u1_at h0) ?_
  show (Jvm.ClassFile.Reader.s2 >>= fun x => pure (Jvm.ClassFile.Instr.ifCond .gt x) : Jvm.ClassFile.Decoder Jvm.ClassFile.Instr) c (p + 1) = _
  exact bnd (s2_at h1 h2) rfl
theorem dec_158 (h0 : bA c p = some 158) (h1 : bA c (p + 1) = some a) (h2 : bA c (p + 1 + 1) = some b) : decode c p = .ok (Jvm.ClassFile.Instr.ifCond .le (Jvm.ClassFile.Reader.signed 16 (a * 256 + b)), 3) := by
  refine dec_of ?_
  unfold Jvm.ClassFile.Decoder.instr
  refine bnd (u1_at h0) ?_
  show (Jvm.ClassFile.Reader.s2 >>= fun x => pure (Jvm.ClassFile.Instr.ifCond .le x) : Jvm.ClassFile.Decoder Jvm.ClassFile.Instr) c (p + 1) = _
  exact bnd (s2_at h1 h2) rfl
theorem dec_159 (h0 : bA c p = some 159) (h1 : bA c (p + 1) = some a) (h2 : bA c (p + 1 + 1) = some b) : decode c p = .ok (Jvm.ClassFile.Instr.if_icmp .eq (Jvm.ClassFile.Reader.signed 16 (a * 256 + b)), 3) := by
  refine dec_of ?_
  unfold Jvm.ClassFile.Decoder.instr
  refine bnd (u1_at h0) ?_
  show (Jvm.ClassFile.Reader.s2 >>= fun x => pure (Jvm.ClassFile.Instr.if_icmp .eq x) : Jvm.ClassFile.Decoder Jvm.ClassFile.Instr) c (p + 1) = _
  exact bnd (s2_at h1 h2) rfl
theorem dec_160 (h0 : bA c p = some 160) (h1 : bA c (p + 1) = some a) (h2 : bA c (p + 1 + 1) = some b) : decode c p = .ok (Jvm.ClassFile.Instr.if_icmp .ne (Jvm.ClassFile.Reader.signed 16 (a * 256 + b)), 3) := by
  refine dec_of ?_
  unfold Jvm.ClassFile.Decoder.instr
  refine bnd (u1_at h0) ?_
  show (Jvm.ClassFile.Reader.s2 >>= fun x => pure (Jvm.ClassFile.Instr.if_icmp .ne x) : Jvm.ClassFile.Decoder Jvm.ClassFile.Instr) c (p + 1) = _
  exact bnd (s2_at h1 h2) rfl
theorem dec_161 (h0 : bA c p = some 161) (h1 : bA c (p + 1) = some a) (h2 : bA c (p + 1 + 1) = some b) : decode c p = .ok (Jvm.ClassFile.Instr.if_icmp .lt (Jvm.ClassFile.Reader.signed 16 (a * 256 + b)), 3) := by
  refine dec_of ?_
  unfold Jvm.ClassFile.Decoder.instr
  refine bnd (u1_at h0) ?_
  show (Jvm.ClassFile.Reader.s2 >>= fun x => pure (Jvm.ClassFile.Instr.if_icmp .lt x) : Jvm.ClassFile.Decoder Jvm.ClassFile.Instr) c (p + 1) = _
  exact bnd (s2_at h1 h2) rfl
theorem dec_162 (h0 : bA c p = some 162) (h1 : bA c (p + 1) = some a) (h2 : bA c (p + 1 + 1) = some b) : decode c p = .ok (Jvm.ClassFile.Instr.if_icmp .ge (Jvm.ClassFile.Reader.signed 16 (a * 256 + b)), 3) := by
  refine dec_of ?_
  unfold Jvm.ClassFile.Decoder.instr
  refine bnd (u1_at h0) ?_
  show (Jvm.ClassFile.Reader.s2 >>= fun x => pure (Jvm.ClassFile.Instr.if_icmp .ge x) : Jvm.ClassFile.Decoder Jvm.ClassFile.Instr) c (p + 1) = _
  exact bnd (s2_at h1 h2) rfl
theorem dec_163 (h0 : bA c p = some 163) (h1 : bA c (p + 1) = some a) (h2 : bA c (p + 1 + 1) = some b) : decode c p = .ok (Jvm.ClassFile.Instr.if_icmp .gt (Jvm.ClassFile.Reader.signed 16 (a * 256 + b)), 3) := by
  refine dec_of ?_
  unfold Jvm.ClassFile.Decoder.instr
  refine bnd (u1_at h0) ?_
  show (Jvm.ClassFile.Reader.s2 >>= fun x => pure (Jvm.ClassFile.Instr.if_icmp .gt x) : Jvm.ClassFile.Decoder Jvm.ClassFile.Instr) c (p + 1) = _
  exact bnd (s2_at h1 h2) rfl
theorem dec_164 (h0 : bA c p = some 164) (h1 : bA c (p + 1) = some a) (h2 : bA c (p + 1 + 1) = some b) : decode c p = .ok (Jvm.ClassFile.Instr.if_icmp .le (Jvm.ClassFile.Reader.signed 16 (a * 256 + b)), 3) := by
  refine dec_of ?_
  unfold Jvm.ClassFile.Decoder.instr
  refine bnd (u1_at h0) ?_
  show (Jvm.ClassFile.Reader.s2 >>= fun x => pure (Jvm.ClassFile.Instr.if_icmp .le x) : Jvm.ClassFile.Decoder Jvm.ClassFile.Instr) c (p + 1) = _
  exact bnd (s2_at h1 h2) rfl
theorem dec_132 (h0 : bA c p = some 132) (h1 : bA c (p + 1) = some a) (h2 : bA c (p + 1 + 1) = some b) : decode c p = .ok (Jvm.ClassFile.Instr.iinc a (Jvm.ClassFile.Reader.signed 8 b), 3) := by
  refine dec_of ?_
  unfold Jvm.ClassFile.Decoder.instr
  refine bnd (u1_at h0) ?_
  show (Jvm.ClassFile.Reader.u1 >>= fun x => Jvm.ClassFile.Reader.s1 >>= fun y => pure (Jvm.ClassFile.Instr.iinc x y) : Jvm.ClassFile.Decoder Jvm.ClassFile.Instr) c (p + 1) = _
  exact bnd (u1_at h1) (bnd (s1_at h2) rfl)
theorem at_k {t u : List UInt8} {n m j : Nat} {l : List Nat} (h : c.data.toList.drop n = t ++ u) (hj : ((t.drop j).take m).map UInt8.toNat = l) (hp : n + j = p) (i v : Nat) (hi : i < m) (hv : l[i]? = some v) : bA c (p + i) = some v := by
  rw [← hj, List.getElem?_map, List.getElem?_take_of_lt hi, List.getElem?_drop] at hv
  exact gB h (j + i) hv (by omega)
theorem at2 {t u : List UInt8} {n x y : Nat} (h : c.data.toList.drop n = t ++ u) (j : Nat) (hj : ((t.drop j).take 2).map UInt8.toNat = [x, y]) (hp : n + j = p) : bA c p = some x ∧ bA c (p + 1) = some y :=
  ⟨at_k h hj hp 0 x (by decide) rfl, at_k h hj hp 1 y (by decide) rfl⟩
theorem at3 {t u : List UInt8} {n x y z : Nat} (h : c.data.toList.drop n = t ++ u) (j : Nat) (hj : ((t.drop j).take 3).map UInt8.toNat = [x, y, z]) (hp : n + j = p) : bA c p = some x ∧ bA c (p + 1) = some y ∧ bA c (p + 1 + 1) = some z :=
  ⟨at_k h hj hp 0 x (by decide) rfl, at_k h hj hp 1 y (by decide) rfl, at_k h hj hp 2 z (by decide) rfl⟩
theorem e_18 {t u : List UInt8} {n x : Nat} (h : c.data.toList.drop n = t ++ u) (j : Nat) (hj : ((t.drop j).take 2).map UInt8.toNat = [18, x]) (hp : n + j = p) : decode c p = .ok ((Jvm.ClassFile.Instr.ldc x), 2) := dec_18 (at2 h j hj hp).1 (at2 h j hj hp).2
theorem e_22 {t u : List UInt8} {n x : Nat} (h : c.data.toList.drop n = t ++ u) (j : Nat) (hj : ((t.drop j).take 2).map UInt8.toNat = [22, x]) (hp : n + j = p) : decode c p = .ok ((Jvm.ClassFile.Instr.lload x), 2) := dec_22 (at2 h j hj hp).1 (at2 h j hj hp).2
theorem e_55 {t u : List UInt8} {n x : Nat} (h : c.data.toList.drop n = t ++ u) (j : Nat) (hj : ((t.drop j).take 2).map UInt8.toNat = [55, x]) (hp : n + j = p) : decode c p = .ok ((Jvm.ClassFile.Instr.lstore x), 2) := dec_55 (at2 h j hj hp).1 (at2 h j hj hp).2
theorem e_21 {t u : List UInt8} {n x : Nat} (h : c.data.toList.drop n = t ++ u) (j : Nat) (hj : ((t.drop j).take 2).map UInt8.toNat = [21, x]) (hp : n + j = p) : decode c p = .ok ((Jvm.ClassFile.Instr.iload x), 2) := dec_21 (at2 h j hj hp).1 (at2 h j hj hp).2
theorem e_25 {t u : List UInt8} {n x : Nat} (h : c.data.toList.drop n = t ++ u) (j : Nat) (hj : ((t.drop j).take 2).map UInt8.toNat = [25, x]) (hp : n + j = p) : decode c p = .ok ((Jvm.ClassFile.Instr.aload x), 2) := dec_25 (at2 h j hj hp).1 (at2 h j hj hp).2
theorem e_54 {t u : List UInt8} {n x : Nat} (h : c.data.toList.drop n = t ++ u) (j : Nat) (hj : ((t.drop j).take 2).map UInt8.toNat = [54, x]) (hp : n + j = p) : decode c p = .ok ((Jvm.ClassFile.Instr.istore x), 2) := dec_54 (at2 h j hj hp).1 (at2 h j hj hp).2
theorem e_58 {t u : List UInt8} {n x : Nat} (h : c.data.toList.drop n = t ++ u) (j : Nat) (hj : ((t.drop j).take 2).map UInt8.toNat = [58, x]) (hp : n + j = p) : decode c p = .ok ((Jvm.ClassFile.Instr.astore x), 2) := dec_58 (at2 h j hj hp).1 (at2 h j hj hp).2
theorem e_16 {t u : List UInt8} {n x : Nat} (h : c.data.toList.drop n = t ++ u) (j : Nat) (hj : ((t.drop j).take 2).map UInt8.toNat = [16, x]) (hp : n + j = p) : decode c p = .ok (Jvm.ClassFile.Instr.bipush (Jvm.ClassFile.Reader.signed 8 x), 2) := dec_16 (at2 h j hj hp).1 (at2 h j hj hp).2
theorem e_19 {t u : List UInt8} {n x y : Nat} (h : c.data.toList.drop n = t ++ u) (j : Nat) (hj : ((t.drop j).take 3).map UInt8.toNat = [19, x, y]) (hp : n + j = p) : decode c p = .ok (Jvm.ClassFile.Instr.ldc_w (x * 256 + y), 3) := dec_19 (at3 h j hj hp).1 (at3 h j hj hp).2.1 (at3 h j hj hp).2.2
theorem e_20 {t u : List UInt8} {n x y : Nat} (h : c.data.toList.drop n = t ++ u) (j : Nat) (hj : ((t.drop j).take 3).map UInt8.toNat = [20, x, y]) (hp : n + j = p) : decode c p = .ok (Jvm.ClassFile.Instr.ldc2_w (x * 256 + y), 3) := dec_20 (at3 h j hj hp).1 (at3 h j hj hp).2.1 (at3 h j hj hp).2.2
theorem e_189 {t u : List UInt8} {n x y : Nat} (h : c.data.toList.drop n = t ++ u) (j : Nat) (hj : ((t.drop j).take 3).map UInt8.toNat = [189, x, y]) (hp : n + j = p) : decode c p = .ok (Jvm.ClassFile.Instr.anewarray (x * 256 + y), 3) := dec_189 (at3 h j hj hp).1 (at3 h j hj hp).2.1 (at3 h j hj hp).2.2
theorem e_192 {t u : List UInt8} {n x y : Nat} (h : c.data.toList.drop n = t ++ u) (j : Nat) (hj : ((t.drop j).take 3).map UInt8.toNat = [192, x, y]) (hp : n + j = p) : decode c p = .ok (Jvm.ClassFile.Instr.checkcast (x * 256 + y), 3) := dec_192 (at3 h j hj hp).1 (at3 h j hj hp).2.1 (at3 h j hj hp).2.2
theorem e_178 {t u : List UInt8} {n x y : Nat} (h : c.data.toList.drop n = t ++ u) (j : Nat) (hj : ((t.drop j).take 3).map UInt8.toNat = [178, x, y]) (hp : n + j = p) : decode c p = .ok (Jvm.ClassFile.Instr.getstatic (x * 256 + y), 3) := dec_178 (at3 h j hj hp).1 (at3 h j hj hp).2.1 (at3 h j hj hp).2.2
theorem e_180 {t u : List UInt8} {n x y : Nat} (h : c.data.toList.drop n = t ++ u) (j : Nat) (hj : ((t.drop j).take 3).map UInt8.toNat = [180, x, y]) (hp : n + j = p) : decode c p = .ok (Jvm.ClassFile.Instr.getfield (x * 256 + y), 3) := dec_180 (at3 h j hj hp).1 (at3 h j hj hp).2.1 (at3 h j hj hp).2.2
theorem e_182 {t u : List UInt8} {n x y : Nat} (h : c.data.toList.drop n = t ++ u) (j : Nat) (hj : ((t.drop j).take 3).map UInt8.toNat = [182, x, y]) (hp : n + j = p) : decode c p = .ok (Jvm.ClassFile.Instr.invokevirtual (x * 256 + y), 3) := dec_182 (at3 h j hj hp).1 (at3 h j hj hp).2.1 (at3 h j hj hp).2.2
theorem e_183 {t u : List UInt8} {n x y : Nat} (h : c.data.toList.drop n = t ++ u) (j : Nat) (hj : ((t.drop j).take 3).map UInt8.toNat = [183, x, y]) (hp : n + j = p) : decode c p = .ok (Jvm.ClassFile.Instr.invokespecial (x * 256 + y), 3) := dec_183 (at3 h j hj hp).1 (at3 h j hj hp).2.1 (at3 h j hj hp).2.2
theorem e_184 {t u : List UInt8} {n x y : Nat} (h : c.data.toList.drop n = t ++ u) (j : Nat) (hj : ((t.drop j).take 3).map UInt8.toNat = [184, x, y]) (hp : n + j = p) : decode c p = .ok (Jvm.ClassFile.Instr.invokestatic (x * 256 + y), 3) := dec_184 (at3 h j hj hp).1 (at3 h j hj hp).2.1 (at3 h j hj hp).2.2
theorem e_187 {t u : List UInt8} {n x y : Nat} (h : c.data.toList.drop n = t ++ u) (j : Nat) (hj : ((t.drop j).take 3).map UInt8.toNat = [187, x, y]) (hp : n + j = p) : decode c p = .ok (Jvm.ClassFile.Instr.new (x * 256 + y), 3) := dec_187 (at3 h j hj hp).1 (at3 h j hj hp).2.1 (at3 h j hj hp).2.2
theorem e_181 {t u : List UInt8} {n x y : Nat} (h : c.data.toList.drop n = t ++ u) (j : Nat) (hj : ((t.drop j).take 3).map UInt8.toNat = [181, x, y]) (hp : n + j = p) : decode c p = .ok (Jvm.ClassFile.Instr.putfield (x * 256 + y), 3) := dec_181 (at3 h j hj hp).1 (at3 h j hj hp).2.1 (at3 h j hj hp).2.2
theorem e_167 {t u : List UInt8} {n x y : Nat} (h : c.data.toList.drop n = t ++ u) (j : Nat) (hj : ((t.drop j).take 3).map UInt8.toNat = [167, x, y]) (hp : n + j = p) : decode c p = .ok (Jvm.ClassFile.Instr.goto (Jvm.ClassFile.Reader.signed 16 (x * 256 + y)), 3) := dec_167 (at3 h j hj hp).1 (at3 h j hj hp).2.1 (at3 h j hj hp).2.2
theorem e_17 {t u : List UInt8} {n x y : Nat} (h : c.data.toList.drop n = t ++ u) (j : Nat) (hj : ((t.drop j).take 3).map UInt8.toNat = [17, x, y]) (hp : n + j = p) : decode c p = .ok (Jvm.ClassFile.Instr.sipush (Jvm.ClassFile.Reader.signed 16 (x * 256 + y)), 3) := dec_17 (at3 h j hj hp).1 (at3 h j hj hp).2.1 (at3 h j hj hp).2.2
theorem e_153 {t u : List UInt8} {n x y : Nat} (h : c.data.toList.drop n = t ++ u) (j : Nat) (hj : ((t.drop j).take 3).map UInt8.toNat = [153, x, y]) (hp : n + j = p) : decode c p = .ok (Jvm.ClassFile.Instr.ifCond .eq (Jvm.ClassFile.Reader.signed 16 (x * 256 + y)), 3) := dec_153 (at3 h j hj hp).1 (at3 h j hj hp).2.1 (at3 h j hj hp).2.2
theorem e_154 {t u : List UInt8} {n x y : Nat} (h : c.data.toList.drop n = t ++ u) (j : Nat) (hj : ((t.drop j).take 3).map UInt8.toNat = [154, x, y]) (hp : n + j = p) : decode c p = .ok (Jvm.ClassFile.Instr.ifCond .ne (Jvm.ClassFile.Reader.signed 16 (x * 256 + y)), 3) := dec_154 (at3 h j hj hp).1 (at3 h j hj hp).2.1 (at3 h j hj hp).2.2
theorem e_155 {t u : List UInt8} {n x y : Nat} (h : c.data.toList.drop n = t ++ u) (j : Nat) (hj : ((t.drop j).take 3).map UInt8.toNat = [155, x, y]) (hp : n + j = p) : decode c p = .ok (Jvm.ClassFile.Instr.ifCond .lt (Jvm.ClassFile.Reader.signed 16 (x * 256 + y)), 3) := dec_155 (at3 h j hj hp).1 (at3 h j hj hp).2.1 (at3 h j hj hp).2.2
theorem e_156 {t u : List UInt8} {n x y : Nat} (h : c.data.toList.drop n = t ++ u) (j : Nat) (hj : ((t.drop j).take 3).map UInt8.toNat = [156, x, y]) (hp : n + j = p) : decode c p = .ok (Jvm.ClassFile.Instr.ifCond .ge (Jvm.ClassFile.Reader.signed 16 (x * 256 + y)), 3) := dec_156 (at3 h j hj hp).1 (at3 h j hj hp).2.1 (at3 h j hj hp).2.2
theorem e_157 {t u : List UInt8} {n x y : Nat} (h : c.data.toList.drop n = t ++ u) (j : Nat) (hj : ((t.drop j).take 3).map UInt8.toNat = [157, x, y]) (hp : n + j = p) : decode c p = .ok (Jvm.ClassFile.Instr.ifCond .gt (Jvm.ClassFile.Reader.signed 16 (x * 256 + y)), 3) := dec_157 (at3 h j hj hp).1 (at3 h j hj hp).2.1 (at3 h j hj hp).2.2
theorem e_158 {t u : List UInt8} {n x y : Nat} (h : c.data.toList.drop n = t ++ u) (j : Nat) (hj : ((t.drop j).take 3).map UInt8.toNat = [158, x, y]) (hp : n + j = p) : decode c p = .ok (Jvm.ClassFile.Instr.ifCond .le (Jvm.ClassFile.Reader.signed 16 (x * 256 + y)), 3) := dec_158 (at3 h j hj hp).1 (at3 h j hj hp).2.1 (at3 h j hj hp).2.2
theorem e_159 {t u : List UInt8} {n x y : Nat} (h : c.data.toList.drop n = t ++ u) (j : Nat) (hj : ((t.drop j).take 3).map UInt8.toNat = [159, x, y]) (hp : n + j = p) : decode c p = .ok (Jvm.ClassFile.Instr.if_icmp .eq (Jvm.ClassFile.Reader.signed 16 (x * 256 + y)), 3) := dec_159 (at3 h j hj hp).1 (at3 h j hj hp).2.1 (at3 h j hj hp).2.2
theorem e_160 {t u : List UInt8} {n x y : Nat} (h : c.data.toList.drop n = t ++ u) (j : Nat) (hj : ((t.drop j).take 3).map UInt8.toNat = [160, x, y]) (hp : n + j = p) : decode c p = .ok (Jvm.ClassFile.Instr.if_icmp .ne (Jvm.ClassFile.Reader.signed 16 (x * 256 + y)), 3) := dec_160 (at3 h j hj hp).1 (at3 h j hj hp).2.1 (at3 h j hj hp).2.2
theorem e_161 {t u : List UInt8} {n x y : Nat} (h : c.data.toList.drop n = t ++ u) (j : Nat) (hj : ((t.drop j).take 3).map UInt8.toNat = [161, x, y]) (hp : n + j = p) : decode c p = .ok (Jvm.ClassFile.Instr.if_icmp .lt (Jvm.ClassFile.Reader.signed 16 (x * 256 + y)), 3) := dec_161 (at3 h j hj hp).1 (at3 h j hj hp).2.1 (at3 h j hj hp).2.2
theorem e_162 {t u : List UInt8} {n x y : Nat} (h : c.data.toList.drop n = t ++ u) (j : Nat) (hj : ((t.drop j).take 3).map UInt8.toNat = [162, x, y]) (hp : n + j = p) : decode c p = .ok (Jvm.ClassFile.Instr.if_icmp .ge (Jvm.ClassFile.Reader.signed 16 (x * 256 + y)), 3) := dec_162 (at3 h j hj hp).1 (at3 h j hj hp).2.1 (at3 h j hj hp).2.2
theorem e_163 {t u : List UInt8} {n x y : Nat} (h : c.data.toList.drop n = t ++ u) (j : Nat) (hj : ((t.drop j).take 3).map UInt8.toNat = [163, x, y]) (hp : n + j = p) : decode c p = .ok (Jvm.ClassFile.Instr.if_icmp .gt (Jvm.ClassFile.Reader.signed 16 (x * 256 + y)), 3) := dec_163 (at3 h j hj hp).1 (at3 h j hj hp).2.1 (at3 h j hj hp).2.2
theorem e_164 {t u : List UInt8} {n x y : Nat} (h : c.data.toList.drop n = t ++ u) (j : Nat) (hj : ((t.drop j).take 3).map UInt8.toNat = [164, x, y]) (hp : n + j = p) : decode c p = .ok (Jvm.ClassFile.Instr.if_icmp .le (Jvm.ClassFile.Reader.signed 16 (x * 256 + y)), 3) := dec_164 (at3 h j hj hp).1 (at3 h j hj hp).2.1 (at3 h j hj hp).2.2
theorem e_132 {t u : List UInt8} {n x y : Nat} (h : c.data.toList.drop n = t ++ u) (j : Nat) (hj : ((t.drop j).take 3).map UInt8.toNat = [132, x, y]) (hp : n + j = p) : decode c p = .ok (Jvm.ClassFile.Instr.iinc x (Jvm.ClassFile.Reader.signed 8 y), 3) := dec_132 (at3 h j hj hp).1 (at3 h j hj hp).2.1 (at3 h j hj hp).2.2
end DEC
