/-! The law's start: where its classes' fields lie, its statics, its texts. -/
def gaCodes : List Value := [gi 0, gi 5, gi 9, gi 17]
def gaOnes : List Value := (List.range 100).map (fun i => gi ((48 + i % 10 : Nat) : Int))
theorem ga_T {s : State} {ty : FieldType} {t : Nat} {vs : List Value} {A : Nat → Prop} {x : Nat} (h : va_T ty t vs.length (fun j => vs.getD j .null) A s s.heap) (hx : gaTy (x - 1000) = ty) : gaRo s t (x, vs) s.heap := by
  obtain ⟨cell, h1, h2, h3, h4, h5, h6, h7⟩ := h
  refine ⟨cell, h1, by rw [hx]; exact h2, h3, h5, h4, fun j v hj => ?_⟩
  have hl : j < vs.length := (List.getElem?_eq_some_iff.mp hj).1
  rw [h6 j hl]
  show some (vs.getD j .null) = some v
  have hj2 : vs[j]? = some v := hj
  rw [List.getD_eq_getElem?_getD, hj2]
  rfl
theorem ga_tydiff {s : State} {c1 c2 : Cell} {t1 t2 : FieldType} {a b : Nat} {H : Heap} (h1 : H[a]? = some c1) (h2 : H[b]? = some c2) (k1 : s.isArrayOf c1 t1) (k2 : s.isArrayOf c2 t2) (hne : t1 ≠ t2) : a ≠ b := by
  rintro rfl
  cases h1.symm.trans h2
  obtain ⟨-, kA, q1, comp, q2⟩ := k1
  obtain ⟨-, kB, q3, comp2, q4⟩ := k2
  cases q1.symm.trans q3
  rw [q2] at q4
  cases q4
  exact hne rfl
theorem ga_arr {s : State} {args : Array Value} {ty : FieldType} (h : (Cond.arrayClass ty).before args s = true) : ∃ (c : ClassId) (k : Class) (comp : ClassId), s.vm.findClass ("[" ++ ty.toString) = some c ∧ s.vm.classes[c]? = some k ∧ k.kind = .array comp ty := by
  obtain ⟨cA, kA, comp, h1, h2, h3⟩ := Cond.arrayClass_spec h
  exact ⟨cA, kA, comp, h1, h2, h3⟩
theorem ga_selP {y : MethodName} {s : State} {args : Array Value} {C : String} {n : Nat} (hy : y.cls ≠ "java/lang/invoke/MethodHandle" ∧ y.cls ≠ "java/lang/invoke/VarHandle") (hins : (Cond.instantiable C n).before args s = true) (hsame : (Cond.sameMethod y.cls y.cls y.name y.desc).before args s = true)
    (hpriv : (Cond.privateMethod y).before args s = true) (hinst : (Cond.instanceMethod y).before args s = true) : (Cond.selects C y y).before args s = true := by
  obtain ⟨c, k, hc, hk, -, -, -, -⟩ := Cond.instantiable_spec hins
  obtain ⟨mk, methM, hnamed, hmethM, -, -⟩ := Cond.instanceMethod_spec hinst
  have hfound : s.methodFound? y.cls y.name y.desc = some mk := State.methodFound?_of_named hnamed hy
  obtain ⟨-, k2, hk2, hni⟩ := Cond.sameMethod_spec (findClass_of_methodNamed hnamed) hfound hsame
  have hsel : selectMethod {} s.vm c mk = .method mk := selectMethod_private hmethM (Cond.privateMethod_at hpriv mk methM hnamed hmethM)
  simp only [Cond.before, Cond.holds, Cond.value, hc, hfound, hnamed, hsel, hk2]
  simp; exact hni
theorem gaIx1 {w : Cond} {i : Nat} (h0 : tables_1_1[i]? = some w) : w ∈ tables_1 := by
  have h : w ∈ tables_1_1 := List.mem_of_getElem? h0
  exact List.mem_append_left _ h
theorem gaIx2 {w : Cond} {i : Nat} (h0 : tables_1_2[i]? = some w) : w ∈ tables_1 := by
  have h : w ∈ tables_1_2 := List.mem_of_getElem? h0
  exact List.mem_append_right _ (List.mem_append_left _ h)
theorem gaIx3 {w : Cond} {i : Nat} (h0 : tables_1_3[i]? = some w) : w ∈ tables_1 := by
  have h : w ∈ tables_1_3 := List.mem_of_getElem? h0
  exact List.mem_append_right _ (List.mem_append_right _ (List.mem_append_left _ h))
theorem gaIx4 {w : Cond} {i : Nat} (h0 : tables_1_4[i]? = some w) : w ∈ tables_1 := by
  have h : w ∈ tables_1_4 := List.mem_of_getElem? h0
  exact List.mem_append_right _ (List.mem_append_right _ (List.mem_append_right _ (List.mem_append_left _ h)))
theorem gaIx5 {w : Cond} {i : Nat} (h0 : tables_1_5[i]? = some w) : w ∈ tables_1 := by
  have h : w ∈ tables_1_5 := List.mem_of_getElem? h0
  exact List.mem_append_right _ (List.mem_append_right _ (List.mem_append_right _ (List.mem_append_right _ (List.mem_append_left _ h))))
theorem gaIx6 {w : Cond} {i : Nat} (h0 : tables_1_6[i]? = some w) : w ∈ tables_1 := by
  have h : w ∈ tables_1_6 := List.mem_of_getElem? h0
  exact List.mem_append_right _ (List.mem_append_right _ (List.mem_append_right _ (List.mem_append_right _ (List.mem_append_right _ (List.mem_append_left _ h)))))
theorem gaIx7 {w : Cond} {i : Nat} (h0 : tables_1_7[i]? = some w) : w ∈ tables_1 := by
  have h : w ∈ tables_1_7 := List.mem_of_getElem? h0
  exact List.mem_append_right _ (List.mem_append_right _ (List.mem_append_right _ (List.mem_append_right _ (List.mem_append_right _ (List.mem_append_right _ (h))))))
theorem ga_str {s : State} {args : Array Value} {t : Term} {C : String} (h : (Cond.exactly t C).before args s = true) : ∃ u : Nat, t.eval args s none [] s = some (.ref u) := by
  cases hv : t.eval args s none [] s with
  | none => simp [Cond.before, Cond.holds, Cond.value, hv] at h
  | some w =>
    cases w with
    | ref u => exact ⟨u, rfl⟩
    | _ =>
      exfalso
      revert h
      simp only [Cond.before, Cond.holds, Cond.value, hv]
      cases s.vm.findClass C <;> simp
theorem ga_strR {own tx : String} {k a : Nat} {A : Array Value} {U : State} (h1 : (Cond.stringRef own k tx).before A U = true) (h2 : (Term.string own k).eval A U none [] U = some (.ref a)) : vk_R own k tx a U := vk_R.of h1 h2
theorem ga_noteq {s : State} {args : Array Value} {t u : Term} (h : (Cond.not (.eq t u)).before args s = true) {x : Nat} (h1 : t.eval args s none [] s = some (.ref x)) (h2 : u.eval args s none [] s = some (.ref x)) : False := by
  simp [Cond.before, Cond.holds, Cond.value, h1, h2] at h
theorem gaOverA {ty : FieldType} {A : Array Value} {U : State} (h : (Cond.arrayOver ty).before A U = true) : (Cond.arrayOver ty).before #[] U = true := h
theorem ga_nestsIn : ∀ w ∈ gaNests, w ∈ tables_1 := by decide +kernel
section GST
variable {s : State} {b L : Nat} {xs : Nat → Int32}
theorem ga_hsel (hts : ∀ w ∈ lw_tbl, w.before #[Value.ref b] s = true) : ∀ w ∈ gaSel, w.before #[Value.ref b] s = true := by
  refine List.forall_mem_cons.mpr ⟨?_, List.forall_mem_cons.mpr ⟨?_, fun _ h => absurd h List.not_mem_nil⟩⟩
  · exact ga_selP ⟨by decide, by decide⟩ (hts _ (List.mem_append_right _ (gaIx4 (i := 26) rfl))) (hts _ (List.mem_append_right _ (gaIx7 (i := 80) rfl))) (hts _ (List.mem_append_right _ (gaIx4 (i := 64) rfl))) (hts _ (List.mem_append_right _ (gaIx4 (i := 65) rfl)))
  · exact ga_selP ⟨by decide, by decide⟩ (hts _ (List.mem_append_right _ (gaIx4 (i := 26) rfl))) (hts _ (List.mem_append_right _ (gaIx7 (i := 81) rfl))) (hts _ (List.mem_append_right _ (gaIx4 (i := 68) rfl))) (hts _ (List.mem_append_right _ (gaIx4 (i := 69) rfl)))
theorem ga_vaK (hts : ∀ w ∈ lw_tbl, w.before #[Value.ref b] s = true) : ∃ D : va_G, va_K D vwCl [] s := by
  have hW := gaW_hts (ga_hsel hts) hts
  obtain ⟨c0, iS0, hKn0⟩ := u_known (C := RJ0) (T := TJ0) (N := 4) (n := 4) hW hin_RJ0 (hts _ (List.mem_append_right _ (gaIx4 (i := 152) rfl)))
  obtain ⟨c1, iS1, hKn1⟩ := u_known (C := RJ4) (T := TJ4) (N := 4) (n := 4) hW hin_RJ4 (hts _ (List.mem_append_right _ (gaIx4 (i := 26) rfl)))
  obtain ⟨c2, iS2, hKn2⟩ := u_known (C := RX0) (T := TX0) (N := 4) (n := 4) hW hin_RX0 (hts _ (List.mem_append_right _ (gaIx1 (i := 74) rfl)))
  obtain ⟨c3, iS3, hKn3⟩ := u_known (C := RX2) (T := TX2) (N := 3) (n := 3) hW hin_RX2 (hts _ (List.mem_append_right _ (gaIx1 (i := 39) rfl)))
  obtain ⟨c4, iS4, hKn4⟩ := u_known (C := RX4) (T := TX4) (N := 2) (n := 2) hW hin_RX4 (hts _ (List.mem_append_right _ (gaIx1 (i := 45) rfl)))
  obtain ⟨c5, iS5, hKn5⟩ := u_known (C := RX5) (T := TX5) (N := 9) (n := 9) hW hin_RX5 (hts _ (List.mem_append_right _ (gaIx1 (i := 27) rfl)))
  obtain ⟨c6, iS6, hKn6⟩ := u_known (C := RX6) (T := TX6) (N := 2) (n := 2) hW hin_RX6 (hts _ (List.mem_append_right _ (gaIx2 (i := 193) rfl)))
  obtain ⟨c7, iS7, hKn7⟩ := u_known (C := RX7) (T := TX7) (N := 8) (n := 8) hW hin_RX7 (hts _ (List.mem_append_right _ (gaIx5 (i := 174) rfl)))
  refine ⟨(fun k => if k = 0 then c0 else if k = 1 then c1 else if k = 2 then c2 else if k = 3 then c3 else if k = 4 then c4 else if k = 5 then c5 else if k = 6 then c6 else c7, fun k => if k = 0 then iS0 else if k = 1 then iS1 else if k = 2 then iS2 else if k = 3 then iS3 else if k = 4 then iS4 else if k = 5 then iS5 else if k = 6 then iS6 else iS7), fun k q hq => ?_, fun k q h => by simp at h⟩
  match k, hq with
  | 0, hq => cases hq; exact hKn0
  | 1, hq => cases hq; exact hKn1
  | 2, hq => cases hq; exact hKn2
  | 3, hq => cases hq; exact hKn3
  | 4, hq => cases hq; exact hKn4
  | 5, hq => cases hq; exact hKn5
  | 6, hq => cases hq; exact hKn6
  | 7, hq => cases hq; exact hKn7
  | k + 8, hq => simp [vwCl] at hq
theorem ga_gaK (hts : ∀ w ∈ lw_tbl, w.before #[Value.ref b] s = true) : ∃ dA : Nat → ClassId, ∀ (D : va_G) (B : Nat) (f : Nat → Nat), gaK (D, dA, B, f) s := by
  obtain ⟨c0, k0, m0, z1, z2, z3⟩ := ga_arr (hts _ (List.mem_append_right _ (gaIx1 (i := 62) rfl)))
  obtain ⟨c1, k1, m1, i1, i2, i3⟩ := ga_arr (hts _ (List.mem_append_right _ (gaIx1 (i := 221) rfl)))
  obtain ⟨c2, k2, m2, j1, j2, j3⟩ := ga_arr (hts _ (List.mem_append_right _ (gaIx1 (i := 109) rfl)))
  obtain ⟨p3, c3, k3, f3, -, g3, q3, r3⟩ := Cond.arrayOver_spec (hts _ (List.mem_append_right _ (gaIx1 (i := 35) rfl)))
  obtain ⟨p4, c4, k4, f4, -, g4, q4, r4⟩ := Cond.arrayOver_spec (hts _ (List.mem_append_right _ (gaIx1 (i := 37) rfl)))
  obtain ⟨p5, c5, k5, f5, -, g5, q5, r5⟩ := arrayOverA_spec (hts _ (List.mem_append_right _ (gaIx5 (i := 180) rfl)))
  refine ⟨fun t => if t = 100 then c0 else if t = 101 then c1 else if t = 102 then c2 else if t = 110 then c3 else if t = 111 then c4 else c5, fun D B f t ht => ?_⟩
  rcases ht with rfl | rfl | rfl | rfl | rfl | rfl
  · exact ⟨k0, m0, z1, z2, z3, fun q => by omega⟩
  · exact ⟨k1, m1, i1, i2, i3, fun q => by omega⟩
  · exact ⟨k2, m2, j1, j2, j3, fun q => by omega⟩
  · exact ⟨k3, p3, r3, g3, q3, fun _ => f3⟩
  · exact ⟨k4, p4, r4, g4, q4, fun _ => f4⟩
  · exact ⟨k5, p5, r5, g5, q5, fun _ => f5⟩
abbrev gaNar : Cond := Jvm.Cond.and given_1 narrow_1
theorem ga_dig : ∀ j, j < 100 → Cond.eq (.elem (.static "java/lang/Integer" "DigitOnes" "[B") (.int (Int32.ofNat j))) (.int (Int32.ofNat (48 + j % 10))) ∈ flatC gaNar := by decide +kernel
theorem ga_cod : ∀ j, j < 4 → Cond.eq (.elem (.static "Wordgarden$Growth" "CODES_FOR_A" "[I") (.int (Int32.ofNat j))) (.int (if j = 0 then 0 else if j = 1 then 5 else if j = 2 then 9 else 17)) ∈ flatC gaNar := by decide +kernel
theorem ga_ones : ∀ j, j < 100 → gaOnes.getD j .null = .int (Int32.ofNat (48 + j % 10)) := by decide +kernel
theorem ga_cods : ∀ j, j < 4 → gaCodes.getD j .null = .int (if j = 0 then 0 else if j = 1 then 5 else if j = 2 then 9 else 17) := by decide +kernel
theorem ga_begin (hts : ∀ w ∈ lw_tbl, w.before #[Value.ref b] s = true) (hX : va_X b L xs s s.heap) (hgv : gaNar.before #[Value.ref b] s = true) (hL : L ≤ 320) :
    ∃ (G : gaG) (h0 : gaH), gaF G s s.heap ∧ G.2.2.1 = s.heap.size ∧ gaR G s h0 s.heap ∧ h0 b = some (1102, (List.range L).map (fun i => Value.int (xs i))) ∧ h0 (G.2.2.2 0) = some (1102, gaCodes) ∧ h0 (G.2.2.2 1) = some (1101, gaOnes) := by
  obtain ⟨D, hD⟩ := ga_vaK hts
  obtain ⟨dA, hdA⟩ := ga_gaK hts
  have hfl := flat_of_before _ hgv
  have hA : ∀ q : Nat, q < s.heap.size → ¬ (fun q : Nat => s.heap.size ≤ q) q := fun q hq => Nat.not_le.mpr hq
  obtain ⟨t0, e0, T0⟩ := va_Tof (args := #[Value.ref b]) (s := s) (tm := (.static "Wordgarden$Growth" "CODES_FOR_A" "[I")) (ty := .int) (N := 4) (f := fun j => gaCodes.getD j .null) (A := fun q : Nat => s.heap.size ≤ q) (by decide) (hfl _ (by decide +kernel)) (va_eqt (z := Int32.ofNat 4) (hfl _ (by decide +kernel))) (fun j hj => by rw [ga_cods j hj]; exact va_eqt (hfl _ (ga_cod j hj))) hA
  obtain ⟨t1, e1, T1⟩ := va_Tof (args := #[Value.ref b]) (s := s) (tm := (.static "java/lang/Integer" "DigitOnes" "[B")) (ty := .byte) (N := 100) (f := fun j => gaOnes.getD j .null) (A := fun q : Nat => s.heap.size ≤ q) (by decide) (hfl _ (by decide +kernel)) (va_eqt (z := Int32.ofNat 100) (hfl _ (by decide +kernel))) (fun j hj => by rw [ga_ones j hj]; exact va_eqt (hfl _ (ga_dig j hj))) hA
  obtain ⟨t2, c2, e2, -, -⟩ := Term.length_spec (va_eqt (z := Int32.ofNat 100) (hfl (Cond.eq (.length (.static "java/lang/Integer" "DigitTens" "[B")) (.int (Int32.ofNat 100))) (by decide +kernel)))
  obtain ⟨u0, v0⟩ : ∃ u : Nat, (Term.string "Wordgarden" 287).eval #[Value.ref b] s none [] s = some (.ref u) := ga_str (hfl (Cond.exactly (.string "Wordgarden" 287) "java/lang/String") (by decide +kernel))
  obtain ⟨u1, v1⟩ : ∃ u : Nat, (Term.string "Wordgarden" 292).eval #[Value.ref b] s none [] s = some (.ref u) := ga_str (hfl (Cond.exactly (.string "Wordgarden" 292) "java/lang/String") (by decide +kernel))
  obtain ⟨u2, v2⟩ : ∃ u : Nat, (Term.string "Wordgarden" 298).eval #[Value.ref b] s none [] s = some (.ref u) := ga_str (hfl (Cond.exactly (.string "Wordgarden" 298) "java/lang/String") (by decide +kernel))
  obtain ⟨u3, v3⟩ : ∃ u : Nat, (Term.string "Wordgarden" 294).eval #[Value.ref b] s none [] s = some (.ref u) := ga_str (hfl (Cond.exactly (.string "Wordgarden" 294) "java/lang/String") (by decide +kernel))
  obtain ⟨u4, v4⟩ : ∃ u : Nat, (Term.string "Wordgarden" 303).eval #[Value.ref b] s none [] s = some (.ref u) := ga_str (hfl (Cond.exactly (.string "Wordgarden" 303) "java/lang/String") (by decide +kernel))
  obtain ⟨u5, v5⟩ : ∃ u : Nat, (Term.string "WordgardenModel" 150).eval #[Value.ref b] s none [] s = some (.ref u) := ga_str (hfl (Cond.exactly (.string "WordgardenModel" 150) "java/lang/String") (by decide +kernel))
  obtain ⟨cb, b1, b2, b3, b4, b5⟩ := id hX
  obtain ⟨cc0, y1, y2, -⟩ := id T0
  obtain ⟨cc1, w1, w2, -⟩ := id T1
  have n0 : b ≠ t0 := fun hq => by
    have hne : (Cond.not (.eq (.arg 0) (.static "Wordgarden$Growth" "CODES_FOR_A" "[I"))).before #[Value.ref b] s = true := hfl _ (by decide +kernel)
    exact ga_noteq hne (x := b) rfl (by rw [e0, hq])
  have n1 : b ≠ t1 := ga_tydiff b1 w1 b2 w2 (by decide)
  have n2 : t0 ≠ t1 := ga_tydiff y1 w1 y2 w2 (by decide)
  refine ⟨(D, dA, s.heap.size, fun k => if k = 0 then t0 else if k = 1 then t1 else if k = 2 then t2 else if k = 10 then u0 else if k = 11 then u1 else if k = 12 then u2 else if k = 13 then u3 else if k = 14 then u4 else u5), fun a => if a = b then some (1102, (List.range L).map (fun i => Value.int (xs i))) else if a = t0 then some (1102, gaCodes) else if a = t1 then some (1101, gaOnes) else none, ⟨hD, hdA _ _ _, Nat.le_refl _, ⟨?_, ?_, ?_, ?_⟩, ⟨?_, ?_⟩, ?_, ?_, ?_, ?_⟩, rfl, ?_, ?_, ?_, ?_⟩
  · exact va_Zref (hts _ (List.mem_append_right _ (gaIx2 (i := 30) rfl))) (hts _ (List.mem_append_right _ (gaIx1 (i := 4) rfl))) e0 hA
  · exact va_Zof (hts _ (List.mem_append_right _ (gaIx4 (i := 35) rfl))) (hts _ (List.mem_append_right _ (gaIx1 (i := 19) rfl))) (va_eqt (hfl _ (by decide +kernel))) hA
  · exact va_Zref (hts _ (List.mem_append_right _ (gaIx4 (i := 200) rfl))) (hts _ (List.mem_append_right _ (gaIx1 (i := 14) rfl))) e1 hA
  · exact va_Zref (hts _ (List.mem_append_right _ (gaIx4 (i := 202) rfl))) (hts _ (List.mem_append_right _ (gaIx1 (i := 14) rfl))) e2 hA
  · exact vx_Zqof (hts _ (List.mem_append_right _ (gaIx1 (i := 181) rfl))) (hts _ (List.mem_append_right _ (gaIx1 (i := 7) rfl))) (hfl _ (by decide +kernel)) hA
  · exact vx_Zqof (hts _ (List.mem_append_right _ (gaIx1 (i := 183) rfl))) (hts _ (List.mem_append_right _ (gaIx1 (i := 7) rfl))) (hfl _ (by decide +kernel)) hA
  · refine List.forall_mem_cons.mpr ⟨?_, List.forall_mem_cons.mpr ⟨?_, List.forall_mem_cons.mpr ⟨?_, List.forall_mem_cons.mpr ⟨?_, List.forall_mem_cons.mpr ⟨?_, List.forall_mem_cons.mpr ⟨?_, fun _ h => absurd h List.not_mem_nil⟩⟩⟩⟩⟩⟩
    · exact ga_strR (hts _ (List.mem_append_right _ (gaIx1 (i := 195) rfl))) v0
    · exact ga_strR (hts _ (List.mem_append_right _ (gaIx2 (i := 17) rfl))) v1
    · exact ga_strR (hts _ (List.mem_append_right _ (gaIx2 (i := 184) rfl))) v2
    · exact ga_strR (hts _ (List.mem_append_right _ (gaIx3 (i := 8) rfl))) v3
    · exact ga_strR (hts _ (List.mem_append_right _ (gaIx3 (i := 136) rfl))) v4
    · exact ga_strR (hts _ (List.mem_append_right _ (gaIx6 (i := 167) rfl))) v5
  · exact fun w hw => va_Nw.of (gaNest_tab (gaNests_ok w hw)) (hts _ (List.mem_append_right _ (ga_nestsIn w hw)))
  · refine List.forall_mem_cons.mpr ⟨va_Nc.of (hfl _ (by decide +kernel)), List.forall_mem_cons.mpr ⟨va_Nc.of (hfl _ (by decide +kernel)), List.forall_mem_cons.mpr ⟨va_Nc.of (hfl _ (by decide +kernel)), fun _ h => absurd h List.not_mem_nil⟩⟩⟩
  · intro t ht
    rcases (show t = 110 ∨ t = 111 ∨ t = 112 by omega) with rfl | rfl | rfl
    · exact gaOverA (hts _ (List.mem_append_right _ (gaIx1 (i := 35) rfl)))
    · exact gaOverA (hts _ (List.mem_append_right _ (gaIx1 (i := 37) rfl)))
    · exact gaOverA (hts _ (List.mem_append_right _ (gaIx5 (i := 180) rfl)))
  · intro a e9 ha
    have ha : (if a = b then some (1102, (List.range L).map (fun i => Value.int (xs i))) else if a = t0 then some (1102, gaCodes) else if a = t1 then some (1101, gaOnes) else none) = some e9 := ha
    by_cases h1 : a = b
    · subst h1
      rw [if_pos rfl] at ha
      cases ha
      have hlen : ((List.range L).map (fun i => Value.int (xs i))).length = L := by rw [List.length_map, List.length_range]
      have b2 : s.isArrayOf cb (gaTy (1102 - 1000)) := by rw [show gaTy (1102 - 1000) = .int by simp [gaTy]]; exact b2
      refine Or.inr ⟨show 1000 ≤ 1102 by decide, ⟨cb, b1, b2, b3, ?_, ?_, fun j v hj => ?_⟩⟩
      · show cb.slots.size.toInt32 = Int32.ofNat ((List.range L).map (fun i => Value.int (xs i))).length
        rw [hlen, b4]
      · show ((List.range L).map (fun i => Value.int (xs i))).length ≤ cb.slots.size
        rw [hlen, b4]
        exact Nat.le_refl _
      have hl : j < L := by
        have := (List.getElem?_eq_some_iff.mp hj).1
        simpa using this
      have e := b5 j hl
      simp [List.getElem?_map, List.getElem?_range hl] at hj
      rw [e, hj]
    · rw [if_neg h1] at ha
      by_cases h2 : a = t0
      · subst h2
        rw [if_pos rfl] at ha
        cases ha
        exact Or.inr ⟨show 1000 ≤ 1102 by decide, ga_T (x := 1102) T0 rfl⟩
      · rw [if_neg h2] at ha
        by_cases h3 : a = t1
        · subst h3
          rw [if_pos rfl] at ha
          cases ha
          exact Or.inr ⟨show 1000 ≤ 1101 by decide, ga_T (x := 1101) (vs := gaOnes) T1 rfl⟩
        · rw [if_neg h3] at ha
          cases ha
  · exact if_pos rfl
  · show (if t0 = b then some (1102, (List.range L).map (fun i => Value.int (xs i))) else if t0 = t0 then some (1102, gaCodes) else if t0 = t1 then some (1101, gaOnes) else none) = some (1102, gaCodes)
    rw [if_neg n0.symm, if_pos rfl]
  · show (if t1 = b then some (1102, (List.range L).map (fun i => Value.int (xs i))) else if t1 = t0 then some (1102, gaCodes) else if t1 = t1 then some (1101, gaOnes) else none) = some (1101, gaOnes)
    rw [if_neg n1.symm, if_neg n2.symm, if_pos rfl]
end GST
