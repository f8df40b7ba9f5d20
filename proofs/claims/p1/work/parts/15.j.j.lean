def w_J5_init_d00df (G : gaG) (a0 : Nat) (a1 : Int) (h : gaH) (Q : gaH → Prop) : Prop := gNA h 101 (gi 0) a1 1 64 (fun o1 hp2 c3 s4 => gPF hp2 a0 1 0 (.ref o1) (fun hp5 => gPF hp5 a0 1 1 (gi 0) (fun hp6 => Q hp6)))
abbrev rm_J5_init_d00df : Room := { frames := 2, cells := 1, slots := 64, locals := 60 }
theorem hd_J5_init_d00df : (yJ5_init_d00df.cls ≠ "java/lang/invoke/MethodHandle" ∧ yJ5_init_d00df.cls ≠ "java/lang/invoke/VarHandle" ∧ (parseMethodDescriptor yJ5_init_d00df.desc).map (fun d => d.parameters.length) = some 1) := by decide +kernel
theorem hdo_J5_init_d00df : "java/lang/AbstractStringBuilder" ≠ "java/lang/invoke/MethodHandle" ∧ "java/lang/AbstractStringBuilder" ≠ "java/lang/invoke/VarHandle" ∧ (parseMethodDescriptor yJ5_init_d00df.desc).map (fun d => d.parameters.length) = some 1 := by decide +kernel
theorem k_J5_init_d00df {l : Launch} (hst : l.stackTraces = false) {G : gaG} {X : String → gaH → Prop} {a0 : Nat} {a1 : Int} {h : gaH} {Q : gaH → Prop} (hw : w_J5_init_d00df G a0 a1 h Q) : gaC l G yJ5_init_d00df (gaM yJ5_init_d00df cJ5_init_d00df 2 ((none : Option Jvm.ClassFile.FieldType))) rm_J5_init_d00df [.ref a0, gi a1] h (gQv Q) X := by
  refine g_start (lv := [some (.ref a0), some (gi a1)]) hpl_RJ5 hst (Nat.le_of_ble_eq_true rfl) (gaArgs_pad (z := 0) rfl) ww_4_32 ?_
  intro p e s m args below meth c V hT
  show gaP p l e rm_J5_init_d00df s m args below meth c G 2 (gaZ below G (gQv Q) X args s rm_J5_init_d00df) 0 [some (.ref a0), some (gi a1)] [] h 1 64
  unfold w_J5_init_d00df at hw
  refine g_aload_n V dJ5_init_d00df_0 rfl rfl ?_
  refine g_objInit V ww_4_33 ww_1_32 ww_1_33 dJ5_init_d00df_1 (by decide) (by decide) (ga_cat rfl) rfl ?_
  refine g_gets V V.z1 ww_4_34 dJ5_init_d00df_4 rfl ?_
  refine gi_if_eq V dJ5_init_d00df_7 rfl rfl (by decide) (fun q => ?_) (fun q => ?_)
  · exact absurd q (by decide)
  · refine g_aload_n V dJ5_init_d00df_10 rfl rfl ?_
    refine g_iload_n V dJ5_init_d00df_11 rfl rfl ?_
    obtain ⟨h0, h9, hk, hj, hw⟩ := hw
    refine gi_newarray (atype := .byte) (t := 101) V (by decide) rfl ww_1_221 h0 h9 dJ5_init_d00df_12 rfl hk hj (fun o1 hf => ?_)
    obtain ⟨c3, s4, ec, es, hw⟩ := hw o1 hf
    refine ga_re ec es ?_
    generalize gaUp h o1 _ = hp2 at hw ⊢
    obtain ⟨fs, ha, hl, hw⟩ := hw
    refine g_put (C := RJ4) (T := TJ4) (N := 4) V 0 tyJ4 tyJ4_ok nmJ4 rfl hin_RJ4 (by decide) (by decide) ww_4_43 rfl rfl rfl rfl ha hl dJ5_init_d00df_14 rfl ?_
    generalize gaUp hp2 a0 _ = hp5 at hw ⊢
    refine g_aload_n V dJ5_init_d00df_17 rfl rfl ?_
    refine g_iconst V (Int32.ofInt 0) dJ5_init_d00df_18 rfl rfl ?_
    obtain ⟨fs, ha, hl, hw⟩ := hw
    refine g_put (C := RJ4) (T := TJ4) (N := 4) V 1 tyJ4 tyJ4_ok nmJ4 rfl hin_RJ4 (by decide) (by decide) ww_4_44 rfl rfl (by decide) rfl ha hl dJ5_init_d00df_19 rfl ?_
    generalize gaUp hp5 a0 _ = hp6 at hw ⊢
    refine g_goto V dJ5_init_d00df_22 rfl ?_
    exact g_vret V rfl dJ5_init_d00df_38 ⟨rfl, hw⟩
def w_J4_init_da8c8 (G : gaG) (a0 : Nat) (h : gaH) (Q : gaH → Prop) : Prop := gCall 1 64 1 64 (fun c3 s4 => w_J5_init_d00df G a0 16 h (fun hp1 => Q hp1))
abbrev rm_J4_init_da8c8 : Room := { frames := 3, cells := 1, slots := 64, locals := 81 }
theorem hd_J4_init_da8c8 : (yJ4_init_da8c8.cls ≠ "java/lang/invoke/MethodHandle" ∧ yJ4_init_da8c8.cls ≠ "java/lang/invoke/VarHandle" ∧ (parseMethodDescriptor yJ4_init_da8c8.desc).map (fun d => d.parameters.length) = some 0) := by decide +kernel
theorem k_J4_init_da8c8 {l : Launch} (hst : l.stackTraces = false) {G : gaG} {X : String → gaH → Prop} {a0 : Nat} {h : gaH} {Q : gaH → Prop} (hw : w_J4_init_da8c8 G a0 h Q) : gaC l G yJ4_init_da8c8 (gaM yJ4_init_da8c8 cJ4_init_da8c8 1 ((none : Option Jvm.ClassFile.FieldType))) rm_J4_init_da8c8 [.ref a0] h (gQv Q) X := by
  refine g_start (lv := [some (.ref a0)]) hpl_RJ4 hst (Nat.le_of_ble_eq_true rfl) (gaArgs_pad (z := 0) rfl) ww_4_29 ?_
  intro p e s m args below meth c V hT
  show gaP p l e rm_J4_init_da8c8 s m args below meth c G 1 (gaZ below G (gQv Q) X args s rm_J4_init_da8c8) 0 [some (.ref a0)] [] h 1 64
  unfold w_J4_init_da8c8 at hw
  refine g_aload_n V dJ4_init_da8c8_0 rfl rfl ?_
  refine g_bipush V (Int32.ofInt 16) dJ4_init_da8c8_1 rfl rfl ?_
  obtain ⟨hk, hj, c3, s4, ec, es, hw⟩ := hw
  refine g_callI (st := []) V (k_J5_init_d00df hst hw) ww_4_30 ww_4_31 ww_1_17 ww_4_32 rfl hd_J5_init_d00df ⟨by decide, by decide⟩ rfl rfl (ga_cat rfl) dJ4_init_da8c8_3 hk hj rfl (gaX_all hT V) (ga_kv (fun hp1 hw => ?_))
  refine ga_re ec es ?_
  exact g_vret V rfl dJ4_init_da8c8_6 ⟨rfl, hw⟩
def w_J8_newLength_cabcc_J21 (Q : Int → gaH → Prop) (v0 : Int) (v1 : Int) (h : gaH) : Prop := False
def w_J8_newLength_cabcc (a0 : Int) (a1 : Int) (a2 : Int) (h : gaH) (Q : Int → gaH → Prop) : Prop := gR a1 ∧ gR a2 ∧ (gR (a0 + (max a1 a2)) ∧ (if (a0 + (max a1 a2)) ≤ 0 then w_J8_newLength_cabcc_J21 Q a0 a1 h else gR (a0 + (max a1 a2)) ∧ (if 2147483639 < (a0 + (max a1 a2)) then w_J8_newLength_cabcc_J21 Q a0 a1 h else Q (a0 + (max a1 a2)) h)))
abbrev rm_J8_newLength_cabcc : Room := { frames := 2, cells := 0, slots := 0, locals := 60 }
theorem hd_J8_newLength_cabcc : (yJ8_newLength_cabcc.cls ≠ "java/lang/invoke/MethodHandle" ∧ yJ8_newLength_cabcc.cls ≠ "java/lang/invoke/VarHandle" ∧ (parseMethodDescriptor yJ8_newLength_cabcc.desc).map (fun d => d.parameters.length) = some 3) := by decide +kernel
theorem k_J8_newLength_cabcc {l : Launch} (hst : l.stackTraces = false) {G : gaG} {X : String → gaH → Prop} {a0 : Int} {a1 : Int} {a2 : Int} {h : gaH} {Q : Int → gaH → Prop} (hw : w_J8_newLength_cabcc a0 a1 a2 h Q) : gaC l G yJ8_newLength_cabcc (gaM yJ8_newLength_cabcc cJ8_newLength_cabcc 4 ((some .int))) rm_J8_newLength_cabcc [gi a0, gi a1, gi a2] h (gQi Q) X := by
  refine g_start (lv := [some (gi a0), some (gi a1), some (gi a2), none]) hpl_RJ8 hst (Nat.le_of_ble_eq_true rfl) (gaArgs_pad (z := 1) rfl) ww_4_73 ?_
  intro p e s m args below meth c V hT
  have h_J8_newLength_cabcc_J21 : ∀ (v0 : Int) (v1 : Int) (h : gaH), w_J8_newLength_cabcc_J21 Q v0 v1 h → gaP p l e rm_J8_newLength_cabcc s m args below meth c G 4 (gaZ below G (gQi Q) X args s rm_J8_newLength_cabcc) 21 [some (gi v0), some (gi v1), none, none] [] h 0 0 := by
    intro v0 v1 h hw
    unfold w_J8_newLength_cabcc_J21 at hw
    refine g_iload_n V dJ8_newLength_cabcc_21 rfl rfl ?_
    refine g_iload_n V dJ8_newLength_cabcc_22 rfl rfl ?_
    exact hw.elim
  unfold w_J8_newLength_cabcc at hw
  refine g_iload_n V dJ8_newLength_cabcc_0 rfl rfl ?_
  refine g_iload_n V dJ8_newLength_cabcc_1 rfl rfl ?_
  refine g_iload_n V dJ8_newLength_cabcc_2 rfl rfl ?_
  obtain ⟨hx0, hx1, hw⟩ := hw
  refine gi_mmax V ww_4_74 ww_2_118 ww_1_13 ww_2_119 (by decide) (by decide) (ga_cat rfl) hx0 hx1 dJ8_newLength_cabcc_3 rfl ?_
  refine gi_iadd V dJ8_newLength_cabcc_6 rfl ?_
  refine g_istore_n (lv2 := [some (gi a0), some (gi a1), some (gi a2), some (gi (a0 + (max a1 a2)))]) V dJ8_newLength_cabcc_7 (by decide) rfl rfl rfl ?_
  refine g_iconst V (Int32.ofInt 0) dJ8_newLength_cabcc_8 rfl rfl ?_
  refine g_iload_n V dJ8_newLength_cabcc_9 rfl rfl ?_
  obtain ⟨hx1, hw⟩ := hw
  refine gi_icmp_ge V dJ8_newLength_cabcc_10 rfl rfl (by decide) hx1 (fun q => ?_) (fun q => ?_)
  · have hw := ga_t q hw
    refine g_less (bs := [true, true, false, false]) (lv2 := [some (gi a0), some (gi a1), none, none]) rfl ?_
    exact h_J8_newLength_cabcc_J21 a0 a1 h hw
  · have hw := ga_f q hw
    refine g_iload_n V dJ8_newLength_cabcc_13 rfl rfl ?_
    refine g_ldc V (Int32.ofInt 2147483639) dJ8_newLength_cabcc_14 ww_4_75 rfl ?_
    obtain ⟨hx0, hw⟩ := hw
    refine gi_icmp_gt V dJ8_newLength_cabcc_16 rfl rfl hx0 (by decide) (fun q => ?_) (fun q => ?_)
    · have hw := ga_t q hw
      refine g_less (bs := [true, true, false, false]) (lv2 := [some (gi a0), some (gi a1), none, none]) rfl ?_
      exact h_J8_newLength_cabcc_J21 a0 a1 h hw
    · have hw := ga_f q hw
      refine g_iload_n V dJ8_newLength_cabcc_19 rfl rfl ?_
      exact g_iret V rfl rfl dJ8_newLength_cabcc_20 ⟨_, rfl, hw⟩
def w_J5_newCapacity_0f7a4 (a0 : Nat) (a1 : Int) (h : gaH) (Q : Int → gaH → Prop) : Prop := gA h a0 1 0 (fun r1 => gAL h r1 101 (fun r2 => gI h a0 1 1 (fun r3 => gI h a0 1 1 (fun r4 => w_J8_newLength_cabcc r2 ((gShl a1 r3) - r2) (r2 + (gShl 2 r4)) h (fun r6 hp5 => gR r6 ∧ (if r6 = 2147483647 then False else gI hp5 a0 1 1 (fun r7 => Q (gShr r6 r7) hp5)))))))
abbrev rm_J5_newCapacity_0f7a4 : Room := { frames := 3, cells := 0, slots := 0, locals := 83 }
theorem hd_J5_newCapacity_0f7a4 : yJ5_newCapacity_0f7a4.cls = RJ5 ∧ (yJ5_newCapacity_0f7a4.cls ≠ "java/lang/invoke/MethodHandle" ∧ yJ5_newCapacity_0f7a4.cls ≠ "java/lang/invoke/VarHandle" ∧ (parseMethodDescriptor yJ5_newCapacity_0f7a4.desc).map (fun d => d.parameters.length) = some 1) := by decide +kernel
theorem hdo_J5_newCapacity_0f7a4 : "java/lang/AbstractStringBuilder" ≠ "java/lang/invoke/MethodHandle" ∧ "java/lang/AbstractStringBuilder" ≠ "java/lang/invoke/VarHandle" ∧ (parseMethodDescriptor yJ5_newCapacity_0f7a4.desc).map (fun d => d.parameters.length) = some 1 := by decide +kernel
theorem k_J5_newCapacity_0f7a4 {l : Launch} (hst : l.stackTraces = false) {G : gaG} {X : String → gaH → Prop} {a0 : Nat} {a1 : Int} {h : gaH} {Q : Int → gaH → Prop} (hw : w_J5_newCapacity_0f7a4 a0 a1 h Q) : gaC l G yJ5_newCapacity_0f7a4 (gaM yJ5_newCapacity_0f7a4 cJ5_newCapacity_0f7a4 6 ((some .int))) rm_J5_newCapacity_0f7a4 [.ref a0, gi a1] h (gQi Q) X := by
  refine g_start (lv := [some (.ref a0), some (gi a1), none, none, none, none]) hpl_RJ5 hst (Nat.le_of_ble_eq_true rfl) (gaArgs_pad (z := 4) rfl) ww_4_70 ?_
  intro p e s m args below meth c V hT
  unfold w_J5_newCapacity_0f7a4 at hw
  refine g_aload_n V dJ5_newCapacity_0f7a4_0 rfl rfl ?_
  obtain ⟨fs, r1, ha, hv, hw⟩ := hw
  refine g_get (C := RJ4) (T := TJ4) (N := 4) V 0 rfl hin_RJ4 (by decide) (by decide) ww_4_43 rfl ha hv dJ5_newCapacity_0f7a4_1 rfl ?_
  obtain ⟨t9, vs, ha, ht, hw⟩ := hw
  refine gi_arraylength (t0 := 101) V (by simp [gaT]) ha ht dJ5_newCapacity_0f7a4_4 rfl ?_
  generalize (vs.length : Int) = r2 at hw ⊢
  refine g_istore_n (lv2 := [some (.ref a0), some (gi a1), some (gi r2), none, none, none]) V dJ5_newCapacity_0f7a4_5 (by decide) rfl rfl rfl ?_
  refine g_iload_n V dJ5_newCapacity_0f7a4_6 rfl rfl ?_
  refine g_aload_n V dJ5_newCapacity_0f7a4_7 rfl rfl ?_
  obtain ⟨fs, r3, ha, hv, hw⟩ := hw
  refine g_get (C := RJ4) (T := TJ4) (N := 4) V 1 rfl hin_RJ4 (by decide) (by decide) ww_4_44 rfl ha hv dJ5_newCapacity_0f7a4_8 rfl ?_
  refine gi_ishl V dJ5_newCapacity_0f7a4_11 rfl ?_
  refine g_istore_n (lv2 := [some (.ref a0), some (gi a1), some (gi r2), some (gi (gShl a1 r3)), none, none]) V dJ5_newCapacity_0f7a4_12 (by decide) rfl rfl rfl ?_
  refine g_iload_n V dJ5_newCapacity_0f7a4_13 rfl rfl ?_
  refine g_iload_n V dJ5_newCapacity_0f7a4_14 rfl rfl ?_
  refine gi_isub V dJ5_newCapacity_0f7a4_15 rfl ?_
  refine g_istore (lv2 := [some (.ref a0), some (gi a1), some (gi r2), some (gi (gShl a1 r3)), some (gi ((gShl a1 r3) - r2)), none]) V dJ5_newCapacity_0f7a4_16 (by decide) rfl rfl rfl ?_
  refine g_iload_n V dJ5_newCapacity_0f7a4_18 rfl rfl ?_
  refine g_iload V dJ5_newCapacity_0f7a4_19 rfl rfl ?_
  refine g_iload_n V dJ5_newCapacity_0f7a4_21 rfl rfl ?_
  refine g_iconst V (Int32.ofInt 2) dJ5_newCapacity_0f7a4_22 rfl rfl ?_
  refine g_aload_n V dJ5_newCapacity_0f7a4_23 rfl rfl ?_
  obtain ⟨fs, r4, ha, hv, hw⟩ := hw
  refine g_get (C := RJ4) (T := TJ4) (N := 4) V 1 rfl hin_RJ4 (by decide) (by decide) ww_4_44 rfl ha hv dJ5_newCapacity_0f7a4_24 rfl ?_
  refine gi_ishl V dJ5_newCapacity_0f7a4_27 rfl ?_
  refine gi_iadd V dJ5_newCapacity_0f7a4_28 rfl ?_
  refine g_callS (st := []) V (k_J8_newLength_cabcc hst hw) ww_4_71 ww_4_72 ww_1_21 ww_4_73 hd_J8_newLength_cabcc ⟨by decide, by decide⟩ rfl rfl (ga_cat rfl) dJ5_newCapacity_0f7a4_29 (Nat.zero_le _) (Nat.zero_le _) rfl (gaX_all hT V) (ga_ki (fun r6 hp5 hw => ?_))
  refine g_istore (lv2 := [some (.ref a0), some (gi a1), some (gi r2), some (gi (gShl a1 r3)), some (gi ((gShl a1 r3) - r2)), some (gi r6)]) V dJ5_newCapacity_0f7a4_32 (by decide) rfl rfl rfl ?_
  refine g_iload V dJ5_newCapacity_0f7a4_34 rfl rfl ?_
  refine g_ldc V (Int32.ofInt 2147483647) dJ5_newCapacity_0f7a4_36 ww_4_79 rfl ?_
  obtain ⟨hx0, hw⟩ := hw
  refine gi_icmp_ne V dJ5_newCapacity_0f7a4_38 rfl rfl hx0 (by decide) (fun q => ?_) (fun q => ?_)
  · have hw := ga_f q hw
    refine g_iload V dJ5_newCapacity_0f7a4_51 rfl rfl ?_
    refine g_aload_n V dJ5_newCapacity_0f7a4_53 rfl rfl ?_
    obtain ⟨fs, r7, ha, hv, hw⟩ := hw
    refine g_get (C := RJ4) (T := TJ4) (N := 4) V 1 rfl hin_RJ4 (by decide) (by decide) ww_4_44 rfl ha hv dJ5_newCapacity_0f7a4_54 rfl ?_
    refine gi_ishr V dJ5_newCapacity_0f7a4_57 rfl ?_
    exact g_iret V rfl rfl dJ5_newCapacity_0f7a4_58 ⟨_, rfl, hw⟩
  · have hw := ga_t q hw
    exact hw.elim
def w_J7_copyOf_9075b (a0 : Nat) (a1 : Int) (h : gaH) (Q : Nat → gaH → Prop) : Prop := gAL h a0 101 (fun r1 => gR a1 ∧ gR r1 ∧ (if a1 = r1 then gCL h a0 101 2 134 (fun o8 hp9 c10 s11 => gHas hp9 o8 101 ∧ (Q o8 hp9)) else gNA h 101 (gi 0) a1 2 134 (fun o2 hp3 c4 s5 => gAL hp3 a0 101 (fun r6 => gR r6 ∧ gR a1 ∧ (¬ a0 = o2 ∧ gCP hp3 a0 o2 101 0 0 (min r6 a1) (fun hp7 => Q o2 hp7))))))
abbrev rm_J7_copyOf_9075b : Room := { frames := 2, cells := 2, slots := 134, locals := 60 }
theorem hd_J7_copyOf_9075b : (yJ7_copyOf_9075b.cls ≠ "java/lang/invoke/MethodHandle" ∧ yJ7_copyOf_9075b.cls ≠ "java/lang/invoke/VarHandle" ∧ (parseMethodDescriptor yJ7_copyOf_9075b.desc).map (fun d => d.parameters.length) = some 2) := by decide +kernel
theorem k_J7_copyOf_9075b {l : Launch} (hst : l.stackTraces = false) {G : gaG} {X : String → gaH → Prop} {a0 : Nat} {a1 : Int} {h : gaH} {Q : Nat → gaH → Prop} (hw : w_J7_copyOf_9075b a0 a1 h Q) : gaC l G yJ7_copyOf_9075b (gaM yJ7_copyOf_9075b cJ7_copyOf_9075b 3 ((some (.array .byte)))) rm_J7_copyOf_9075b [.ref a0, gi a1] h (gQa Q) X := by
  refine g_start (lv := [some (.ref a0), some (gi a1), none]) hpl_RJ7 hst (Nat.le_of_ble_eq_true rfl) (gaArgs_pad (z := 1) rfl) ww_4_82 ?_
  intro p e s m args below meth c V hT
  show gaP p l e rm_J7_copyOf_9075b s m args below meth c G 3 (gaZ below G (gQa Q) X args s rm_J7_copyOf_9075b) 0 [some (.ref a0), some (gi a1), none] [] h 2 134
  unfold w_J7_copyOf_9075b at hw
  refine g_iload_n V dJ7_copyOf_9075b_0 rfl rfl ?_
  refine g_aload_n V dJ7_copyOf_9075b_1 rfl rfl ?_
  obtain ⟨t9, vs, ha, ht, hw⟩ := hw
  refine gi_arraylength (t0 := 101) V (by simp [gaT]) ha ht dJ7_copyOf_9075b_2 rfl ?_
  generalize (vs.length : Int) = r1 at hw ⊢
  obtain ⟨hx0, hx1, hw⟩ := hw
  refine gi_icmp_ne V dJ7_copyOf_9075b_3 rfl rfl hx0 hx1 (fun q => ?_) (fun q => ?_)
  · have hw := ga_f q hw
    refine g_iload_n V dJ7_copyOf_9075b_14 rfl rfl ?_
    obtain ⟨h0, h9, hk, hj, hw⟩ := hw
    refine gi_newarray (atype := .byte) (t := 101) V (by decide) rfl ww_1_221 h0 h9 dJ7_copyOf_9075b_15 rfl hk hj (fun o2 hf => ?_)
    obtain ⟨c4, s5, ec, es, hw⟩ := hw o2 hf
    refine ga_re ec es ?_
    generalize gaUp h o2 _ = hp3 at hw ⊢
    refine g_astore_n (lv2 := [some (.ref a0), some (gi a1), some (.ref o2)]) V dJ7_copyOf_9075b_17 (by decide) rfl rfl rfl ?_
    refine g_aload_n V dJ7_copyOf_9075b_18 rfl rfl ?_
    refine g_iconst V (Int32.ofInt 0) dJ7_copyOf_9075b_19 rfl rfl ?_
    refine g_aload_n V dJ7_copyOf_9075b_20 rfl rfl ?_
    refine g_iconst V (Int32.ofInt 0) dJ7_copyOf_9075b_21 rfl rfl ?_
    refine g_aload_n V dJ7_copyOf_9075b_22 rfl rfl ?_
    obtain ⟨t9, vs, ha, ht, hw⟩ := hw
    refine gi_arraylength (t0 := 101) V (by simp [gaT]) ha ht dJ7_copyOf_9075b_23 rfl ?_
    generalize (vs.length : Int) = r6 at hw ⊢
    refine g_iload_n V dJ7_copyOf_9075b_24 rfl rfl ?_
    obtain ⟨hx0, hx1, hw⟩ := hw
    refine gi_mmin V ww_4_90 ww_2_4 ww_1_13 ww_2_5 (by decide) (by decide) (ga_cat rfl) hx0 hx1 dJ7_copyOf_9075b_25 rfl ?_
    obtain ⟨hne, vs, ws, ha0, ha1, z1, z2, z3, z4, z5, z6, z7, hfit, hw⟩ := hw
    refine g_acopy V ww_4_91 ww_4_93 ww_4_92 ww_1_23 (by decide) (by decide) (ga_cat rfl) hne ha0 ha1 z1 z2 z3 z4 z5 z6 z7 hfit dJ7_copyOf_9075b_28 rfl (fun us u1 u2 => ?_)
    have hw := hw us u1 u2
    generalize gaUp hp3 o2 _ = hp7 at hw ⊢
    refine g_aload_n V dJ7_copyOf_9075b_31 rfl rfl ?_
    exact g_aret V rfl (by first | exact Or.inl ⟨_, rfl⟩ | exact Or.inr ⟨_, rfl⟩) dJ7_copyOf_9075b_32 ⟨_, rfl, hw⟩
  · have hw := ga_t q hw
    refine g_aload_n V dJ7_copyOf_9075b_6 rfl rfl ?_
    obtain ⟨vs, ha, hfit, hk, hj, hw⟩ := hw
    refine g_clone V ww_4_83 ww_4_84 ww_4_85 ww_4_86 ww_4_87 gn_25 (by decide) (by decide) (ga_cat rfl) ha hfit dJ7_copyOf_9075b_7 rfl hk hj (fun o8 hf => ?_)
    obtain ⟨c10, s11, ec, es, hw⟩ := hw o8 hf
    refine ga_re ec es ?_
    generalize gaUp h o8 _ = hp9 at hw ⊢
    obtain ⟨hb, hw⟩ := hw
    obtain ⟨fb, hb⟩ := hb
    refine g_castB V ww_4_89 hb dJ7_copyOf_9075b_10 rfl ?_
    exact g_aret V rfl (by first | exact Or.inl ⟨_, rfl⟩ | exact Or.inr ⟨_, rfl⟩) dJ7_copyOf_9075b_13 ⟨_, rfl, hw⟩
def w_J5_ensureCapacityInternal_d00df (a0 : Nat) (a1 : Int) (h : gaH) (Q : gaH → Prop) : Prop := gA h a0 1 0 (fun r1 => gAL h r1 101 (fun r2 => gI h a0 1 1 (fun r3 => gR (a1 - (gShr r2 r3)) ∧ (if (a1 - (gShr r2 r3)) ≤ 0 then Q h else gA h a0 1 0 (fun r4 => gHas h a0 1 ∧ w_J5_newCapacity_0f7a4 a0 a1 h (fun r6 hp5 => gI hp5 a0 1 1 (fun r7 => gCall 2 134 2 134 (fun c10 s11 => w_J7_copyOf_9075b r4 (gShl r6 r7) hp5 (fun r9 hp8 => gPF hp8 a0 1 0 (.ref r9) (fun hp12 => Q hp12))))))))))
abbrev rm_J5_ensureCapacityInternal_d00df : Room := { frames := 4, cells := 2, slots := 134, locals := 108 }
theorem hd_J5_ensureCapacityInternal_d00df : yJ5_ensureCapacityInternal_d00df.cls = RJ5 ∧ (yJ5_ensureCapacityInternal_d00df.cls ≠ "java/lang/invoke/MethodHandle" ∧ yJ5_ensureCapacityInternal_d00df.cls ≠ "java/lang/invoke/VarHandle" ∧ (parseMethodDescriptor yJ5_ensureCapacityInternal_d00df.desc).map (fun d => d.parameters.length) = some 1) := by decide +kernel
theorem hdo_J5_ensureCapacityInternal_d00df : "java/lang/AbstractStringBuilder" ≠ "java/lang/invoke/MethodHandle" ∧ "java/lang/AbstractStringBuilder" ≠ "java/lang/invoke/VarHandle" ∧ (parseMethodDescriptor yJ5_ensureCapacityInternal_d00df.desc).map (fun d => d.parameters.length) = some 1 := by decide +kernel
theorem k_J5_ensureCapacityInternal_d00df {l : Launch} (hst : l.stackTraces = false) {G : gaG} {X : String → gaH → Prop} {a0 : Nat} {a1 : Int} {h : gaH} {Q : gaH → Prop} (hw : w_J5_ensureCapacityInternal_d00df a0 a1 h Q) : gaC l G yJ5_ensureCapacityInternal_d00df (gaM yJ5_ensureCapacityInternal_d00df cJ5_ensureCapacityInternal_d00df 3 ((none : Option Jvm.ClassFile.FieldType))) rm_J5_ensureCapacityInternal_d00df [.ref a0, gi a1] h (gQv Q) X := by
  refine g_start (lv := [some (.ref a0), some (gi a1), none]) hpl_RJ5 hst (Nat.le_of_ble_eq_true rfl) (gaArgs_pad (z := 1) rfl) ww_4_66 ?_
  intro p e s m args below meth c V hT
  show gaP p l e rm_J5_ensureCapacityInternal_d00df s m args below meth c G 3 (gaZ below G (gQv Q) X args s rm_J5_ensureCapacityInternal_d00df) 0 [some (.ref a0), some (gi a1), none] [] h 2 134
  unfold w_J5_ensureCapacityInternal_d00df at hw
  refine g_aload_n V dJ5_ensureCapacityInternal_d00df_0 rfl rfl ?_
  obtain ⟨fs, r1, ha, hv, hw⟩ := hw
  refine g_get (C := RJ4) (T := TJ4) (N := 4) V 0 rfl hin_RJ4 (by decide) (by decide) ww_4_43 rfl ha hv dJ5_ensureCapacityInternal_d00df_1 rfl ?_
  obtain ⟨t9, vs, ha, ht, hw⟩ := hw
  refine gi_arraylength (t0 := 101) V (by simp [gaT]) ha ht dJ5_ensureCapacityInternal_d00df_4 rfl ?_
  generalize (vs.length : Int) = r2 at hw ⊢
  refine g_aload_n V dJ5_ensureCapacityInternal_d00df_5 rfl rfl ?_
  obtain ⟨fs, r3, ha, hv, hw⟩ := hw
  refine g_get (C := RJ4) (T := TJ4) (N := 4) V 1 rfl hin_RJ4 (by decide) (by decide) ww_4_44 rfl ha hv dJ5_ensureCapacityInternal_d00df_6 rfl ?_
  refine gi_ishr V dJ5_ensureCapacityInternal_d00df_9 rfl ?_
  refine g_istore_n (lv2 := [some (.ref a0), some (gi a1), some (gi (gShr r2 r3))]) V dJ5_ensureCapacityInternal_d00df_10 (by decide) rfl rfl rfl ?_
  refine g_iload_n V dJ5_ensureCapacityInternal_d00df_11 rfl rfl ?_
  refine g_iload_n V dJ5_ensureCapacityInternal_d00df_12 rfl rfl ?_
  refine gi_isub V dJ5_ensureCapacityInternal_d00df_13 rfl ?_
  obtain ⟨hx0, hw⟩ := hw
  refine gi_if_le V dJ5_ensureCapacityInternal_d00df_14 rfl rfl hx0 (fun q => ?_) (fun q => ?_)
  · have hw := ga_t q hw
    exact g_vret V rfl dJ5_ensureCapacityInternal_d00df_38 ⟨rfl, hw⟩
  · have hw := ga_f q hw
    refine g_aload_n V dJ5_ensureCapacityInternal_d00df_17 rfl rfl ?_
    refine g_aload_n V dJ5_ensureCapacityInternal_d00df_18 rfl rfl ?_
    obtain ⟨fs, r4, ha, hv, hw⟩ := hw
    refine g_get (C := RJ4) (T := TJ4) (N := 4) V 0 rfl hin_RJ4 (by decide) (by decide) ww_4_43 rfl ha hv dJ5_ensureCapacityInternal_d00df_19 rfl ?_
    refine g_aload_n V dJ5_ensureCapacityInternal_d00df_22 rfl rfl ?_
    refine g_iload_n V dJ5_ensureCapacityInternal_d00df_23 rfl rfl ?_
    obtain ⟨hb, hw⟩ := hw
    obtain ⟨fb, hb⟩ := hb
    refine g_callU (C := RJ4) (T := TJ4) (N := 4) (st := [.ref r4, .ref a0]) V (k_J5_newCapacity_0f7a4 hst hw) ww_4_67 ww_7_89 ww_4_69 wq_1 ww_1_17 ww_4_70 rfl hdo_J5_newCapacity_0f7a4 ⟨by decide, by decide⟩ rfl (by decide) hb rfl rfl (ga_cat rfl) dJ5_ensureCapacityInternal_d00df_24 (Nat.zero_le _) (Nat.zero_le _) rfl (gaX_all hT V) (ga_ki (fun r6 hp5 hw => ?_))
    refine g_aload_n V dJ5_ensureCapacityInternal_d00df_27 rfl rfl ?_
    obtain ⟨fs, r7, ha, hv, hw⟩ := hw
    refine g_get (C := RJ4) (T := TJ4) (N := 4) V 1 rfl hin_RJ4 (by decide) (by decide) ww_4_44 rfl ha hv dJ5_ensureCapacityInternal_d00df_28 rfl ?_
    refine gi_ishl V dJ5_ensureCapacityInternal_d00df_31 rfl ?_
    obtain ⟨hk, hj, c10, s11, ec, es, hw⟩ := hw
    refine g_callS (st := [.ref a0]) V (k_J7_copyOf_9075b hst hw) ww_4_80 ww_4_81 ww_1_22 ww_4_82 hd_J7_copyOf_9075b ⟨by decide, by decide⟩ rfl rfl (ga_cat rfl) dJ5_ensureCapacityInternal_d00df_32 hk hj rfl (gaX_all hT V) (ga_ka (fun r9 hp8 hw => ?_))
    refine ga_re ec es ?_
    obtain ⟨fs, ha, hl, hw⟩ := hw
    refine g_put (C := RJ4) (T := TJ4) (N := 4) V 0 tyJ4 tyJ4_ok nmJ4 rfl hin_RJ4 (by decide) (by decide) ww_4_43 rfl rfl rfl rfl ha hl dJ5_ensureCapacityInternal_d00df_35 rfl ?_
    generalize gaUp hp8 a0 _ = hp12 at hw ⊢
    exact g_vret V rfl dJ5_ensureCapacityInternal_d00df_38 ⟨rfl, hw⟩
def w_J5_isLatin1_aae02 (G : gaG) (a0 : Nat) (h : gaH) (Q : Int → gaH → Prop) : Prop := gI h a0 1 1 (fun r1 => gR r1 ∧ (if r1 = 0 then Q 1 h else Q 0 h))
abbrev rm_J5_isLatin1_aae02 : Room := { frames := 0, cells := 0, slots := 0, locals := 0 }
theorem hd_J5_isLatin1_aae02 : yJ5_isLatin1_aae02.cls = RJ5 ∧ (yJ5_isLatin1_aae02.cls ≠ "java/lang/invoke/MethodHandle" ∧ yJ5_isLatin1_aae02.cls ≠ "java/lang/invoke/VarHandle" ∧ (parseMethodDescriptor yJ5_isLatin1_aae02.desc).map (fun d => d.parameters.length) = some 0) := by decide +kernel
theorem hdo_J5_isLatin1_aae02 : "java/lang/AbstractStringBuilder" ≠ "java/lang/invoke/MethodHandle" ∧ "java/lang/AbstractStringBuilder" ≠ "java/lang/invoke/VarHandle" ∧ (parseMethodDescriptor yJ5_isLatin1_aae02.desc).map (fun d => d.parameters.length) = some 0 := by decide +kernel
theorem k_J5_isLatin1_aae02 {l : Launch} (hst : l.stackTraces = false) {G : gaG} {X : String → gaH → Prop} {a0 : Nat} {h : gaH} {Q : Int → gaH → Prop} (hw : w_J5_isLatin1_aae02 G a0 h Q) : gaC l G yJ5_isLatin1_aae02 (gaM yJ5_isLatin1_aae02 cJ5_isLatin1_aae02 1 ((some .boolean))) rm_J5_isLatin1_aae02 [.ref a0] h (gQi Q) X := by
  refine g_start (lv := [some (.ref a0)]) hpl_RJ5 hst (Nat.le_of_ble_eq_true rfl) (gaArgs_pad (z := 0) rfl) ww_4_98 ?_
  intro p e s m args below meth c V hT
  unfold w_J5_isLatin1_aae02 at hw
  refine g_gets V V.z1 ww_4_34 dJ5_isLatin1_aae02_0 rfl ?_
  refine gi_if_eq V dJ5_isLatin1_aae02_3 rfl rfl (by decide) (fun q => ?_) (fun q => ?_)
  · exact absurd q (by decide)
  · refine g_aload_n V dJ5_isLatin1_aae02_6 rfl rfl ?_
    obtain ⟨fs, r1, ha, hv, hw⟩ := hw
    refine g_get (C := RJ4) (T := TJ4) (N := 4) V 1 rfl hin_RJ4 (by decide) (by decide) ww_4_44 rfl ha hv dJ5_isLatin1_aae02_7 rfl ?_
    obtain ⟨hx0, hw⟩ := hw
    refine gi_if_ne V dJ5_isLatin1_aae02_10 rfl rfl hx0 (fun q => ?_) (fun q => ?_)
    · have hw := ga_f q hw
      refine g_iconst V (Int32.ofInt 0) dJ5_isLatin1_aae02_17 rfl rfl ?_
      exact g_iret V rfl rfl dJ5_isLatin1_aae02_18 ⟨_, rfl, hw⟩
    · have hw := ga_t q hw
      refine g_iconst V (Int32.ofInt 1) dJ5_isLatin1_aae02_13 rfl rfl ?_
      refine g_goto V dJ5_isLatin1_aae02_14 rfl ?_
      exact g_iret V rfl rfl dJ5_isLatin1_aae02_18 ⟨_, rfl, hw⟩
def w_J1_canEncode_fc78d (a0 : Int) (h : gaH) (Q : Int → gaH → Prop) : Prop := gR a0 ∧ (if 255 < a0 then Q 0 h else Q 1 h)
abbrev rm_J1_canEncode_fc78d : Room := { frames := 0, cells := 0, slots := 0, locals := 0 }
theorem hd_J1_canEncode_fc78d : (yJ1_canEncode_fc78d.cls ≠ "java/lang/invoke/MethodHandle" ∧ yJ1_canEncode_fc78d.cls ≠ "java/lang/invoke/VarHandle" ∧ (parseMethodDescriptor yJ1_canEncode_fc78d.desc).map (fun d => d.parameters.length) = some 1) := by decide +kernel
theorem k_J1_canEncode_fc78d {l : Launch} (hst : l.stackTraces = false) {G : gaG} {X : String → gaH → Prop} {a0 : Int} {h : gaH} {Q : Int → gaH → Prop} (hw : w_J1_canEncode_fc78d a0 h Q) : gaC l G yJ1_canEncode_fc78d (gaM yJ1_canEncode_fc78d cJ1_canEncode_fc78d 1 ((some .boolean))) rm_J1_canEncode_fc78d [gi a0] h (gQi Q) X := by
  refine g_start (lv := [some (gi a0)]) hpl_RJ1 hst (Nat.le_of_ble_eq_true rfl) (gaArgs_pad (z := 0) rfl) ww_4_101 ?_
  intro p e s m args below meth c V hT
  unfold w_J1_canEncode_fc78d at hw
  refine g_iload_n V dJ1_canEncode_fc78d_0 rfl rfl ?_
  refine g_sipush V (Int32.ofInt 255) dJ1_canEncode_fc78d_1 rfl rfl ?_
  obtain ⟨hx0, hw⟩ := hw
  refine gi_icmp_gt V dJ1_canEncode_fc78d_4 rfl rfl hx0 (by decide) (fun q => ?_) (fun q => ?_)
  · have hw := ga_t q hw
    refine g_iconst V (Int32.ofInt 0) dJ1_canEncode_fc78d_11 rfl rfl ?_
    exact g_iret V rfl rfl dJ1_canEncode_fc78d_12 ⟨_, rfl, hw⟩
  · have hw := ga_f q hw
    refine g_iconst V (Int32.ofInt 1) dJ1_canEncode_fc78d_7 rfl rfl ?_
    refine g_goto V dJ1_canEncode_fc78d_8 rfl ?_
    exact g_iret V rfl rfl dJ1_canEncode_fc78d_12 ⟨_, rfl, hw⟩
def w_J5_append_3fe6f_J45 (G : gaG) (Q : Nat → gaH → Prop) (v0 : Nat) (v1 : Int) (h : gaH) (kc ks : Nat) : Prop := gHas h v0 1 ∧ w_J5_isLatin1_aae02 G v0 h (fun r2 hp1 => gR r2 ∧ (if r2 = 0 then gA hp1 v0 1 0 (fun r3 => gI hp1 v0 1 3 (fun r4 => gPF hp1 v0 1 3 (gi (r4 + 1)) (fun hp5 => False))) else False))
def w_J5_append_3fe6f (G : gaG) (a0 : Nat) (a1 : Int) (h : gaH) (Q : Nat → gaH → Prop) : Prop := gI h a0 1 3 (fun r1 => gHas h a0 1 ∧ gCall 2 134 2 134 (fun c4 s5 => w_J5_ensureCapacityInternal_d00df a0 (r1 + 1) h (fun hp2 => gHas hp2 a0 1 ∧ w_J5_isLatin1_aae02 G a0 hp2 (fun r7 hp6 => gR r7 ∧ (if r7 = 0 then w_J5_append_3fe6f_J45 G Q a0 a1 hp6 c4 s5 else w_J1_canEncode_fc78d a1 hp6 (fun r9 hp8 => gR r9 ∧ (if r9 = 0 then w_J5_append_3fe6f_J45 G Q a0 a1 hp8 c4 s5 else gA hp8 a0 1 0 (fun r10 => gI hp8 a0 1 3 (fun r11 => gPF hp8 a0 1 3 (gi (r11 + 1)) (fun hp12 => narrow .byte (gi (gI2b a1)) = gi (gI2b a1) ∧ gSI hp12 r10 101 r11 (gi (gI2b a1)) (fun hp13 => Q a0 hp13)))))))))))
abbrev rm_J5_append_3fe6f : Room := { frames := 5, cells := 2, slots := 134, locals := 130 }
theorem hd_J5_append_3fe6f : yJ5_append_3fe6f.cls = RJ5 ∧ (yJ5_append_3fe6f.cls ≠ "java/lang/invoke/MethodHandle" ∧ yJ5_append_3fe6f.cls ≠ "java/lang/invoke/VarHandle" ∧ (parseMethodDescriptor yJ5_append_3fe6f.desc).map (fun d => d.parameters.length) = some 1) := by decide +kernel
theorem hdo_J5_append_3fe6f : "java/lang/AbstractStringBuilder" ≠ "java/lang/invoke/MethodHandle" ∧ "java/lang/AbstractStringBuilder" ≠ "java/lang/invoke/VarHandle" ∧ (parseMethodDescriptor yJ5_append_3fe6f.desc).map (fun d => d.parameters.length) = some 1 := by decide +kernel
theorem hdu_J5_append_3fe6f : yJ5_append_3fe6f.name ≠ "<init>" ∧ (parseMethodDescriptor yJ5_append_3fe6f.desc).map (fun d => d.parameters.length) = some 1 := by decide +kernel
theorem k_J5_append_3fe6f {l : Launch} (hst : l.stackTraces = false) {G : gaG} {X : String → gaH → Prop} {a0 : Nat} {a1 : Int} {h : gaH} {Q : Nat → gaH → Prop} (hw : w_J5_append_3fe6f G a0 a1 h Q) : gaC l G yJ5_append_3fe6f (gaM yJ5_append_3fe6f cJ5_append_3fe6f 2 ((some (.object "java/lang/AbstractStringBuilder")))) rm_J5_append_3fe6f [.ref a0, gi a1] h (gQa Q) X := by
  refine g_start (lv := [some (.ref a0), some (gi a1)]) hpl_RJ5 hst (Nat.le_of_ble_eq_true rfl) (gaArgs_pad (z := 0) rfl) ww_4_62 ?_
  intro p e s m args below meth c V hT
  have h_J5_append_3fe6f_J45 : ∀ (v0 : Nat) (v1 : Int) (h : gaH) (kc ks : Nat), w_J5_append_3fe6f_J45 G Q v0 v1 h kc ks → gaP p l e rm_J5_append_3fe6f s m args below meth c G 2 (gaZ below G (gQa Q) X args s rm_J5_append_3fe6f) 45 [some (.ref v0), some (gi v1)] [] h kc ks := by
    intro v0 v1 h kc ks hw
    unfold w_J5_append_3fe6f_J45 at hw
    refine g_aload_n V dJ5_append_3fe6f_45 rfl rfl ?_
    obtain ⟨hb, hw⟩ := hw
    obtain ⟨fb, hb⟩ := hb
    refine g_callU (C := RJ4) (T := TJ4) (N := 4) (st := []) V (k_J5_isLatin1_aae02 hst hw) ww_4_94 ww_4_96 ww_4_95 ww_4_97 ww_1_17 ww_4_98 rfl hdo_J5_isLatin1_aae02 ⟨by decide, by decide⟩ rfl (by decide) hb rfl rfl (ga_cat rfl) dJ5_append_3fe6f_46 (Nat.zero_le _) (Nat.zero_le _) rfl (gaX_all hT V) (ga_ki (fun r2 hp1 hw => ?_))
    obtain ⟨hx0, hw⟩ := hw
    refine gi_if_eq V dJ5_append_3fe6f_49 rfl rfl hx0 (fun q => ?_) (fun q => ?_)
    · have hw := ga_t q hw
      refine g_aload_n V dJ5_append_3fe6f_56 rfl rfl ?_
      obtain ⟨fs, r3, ha, hv, hw⟩ := hw
      refine g_get (C := RJ4) (T := TJ4) (N := 4) V 0 rfl hin_RJ4 (by decide) (by decide) ww_4_43 rfl ha hv dJ5_append_3fe6f_57 rfl ?_
      refine g_aload_n V dJ5_append_3fe6f_60 rfl rfl ?_
      refine g_dup V dJ5_append_3fe6f_61 rfl rfl ?_
      obtain ⟨fs, r4, ha, hv, hw⟩ := hw
      refine g_get (C := RJ4) (T := TJ4) (N := 4) V 3 rfl hin_RJ4 (by decide) (by decide) ww_4_46 rfl ha hv dJ5_append_3fe6f_62 rfl ?_
      refine g_dup_x1 V dJ5_append_3fe6f_65 rfl rfl rfl ?_
      refine g_iconst V (Int32.ofInt 1) dJ5_append_3fe6f_66 rfl rfl ?_
      refine gi_iadd V dJ5_append_3fe6f_67 rfl ?_
      obtain ⟨fs, ha, hl, hw⟩ := hw
      refine g_put (C := RJ4) (T := TJ4) (N := 4) V 3 tyJ4 tyJ4_ok nmJ4 rfl hin_RJ4 (by decide) (by decide) ww_4_46 rfl rfl rfl rfl ha hl dJ5_append_3fe6f_68 rfl ?_
      generalize gaUp hp1 v0 _ = hp5 at hw ⊢
      refine g_iload_n V dJ5_append_3fe6f_71 rfl rfl ?_
      exact hw.elim
    · have hw := ga_f q hw
      refine g_aload_n V dJ5_append_3fe6f_52 rfl rfl ?_
      exact hw.elim
  show gaP p l e rm_J5_append_3fe6f s m args below meth c G 2 (gaZ below G (gQa Q) X args s rm_J5_append_3fe6f) 0 [some (.ref a0), some (gi a1)] [] h 2 134
  unfold w_J5_append_3fe6f at hw
  refine g_aload_n V dJ5_append_3fe6f_0 rfl rfl ?_
  refine g_aload_n V dJ5_append_3fe6f_1 rfl rfl ?_
  obtain ⟨fs, r1, ha, hv, hw⟩ := hw
  refine g_get (C := RJ4) (T := TJ4) (N := 4) V 3 rfl hin_RJ4 (by decide) (by decide) ww_4_46 rfl ha hv dJ5_append_3fe6f_2 rfl ?_
  refine g_iconst V (Int32.ofInt 1) dJ5_append_3fe6f_5 rfl rfl ?_
  refine gi_iadd V dJ5_append_3fe6f_6 rfl ?_
  obtain ⟨hb, hw⟩ := hw
  obtain ⟨fb, hb⟩ := hb
  obtain ⟨hk, hj, c4, s5, ec, es, hw⟩ := hw
  refine g_callU (C := RJ4) (T := TJ4) (N := 4) (st := []) V (k_J5_ensureCapacityInternal_d00df hst hw) ww_4_63 ww_7_88 ww_4_65 wq_0 ww_1_17 ww_4_66 rfl hdo_J5_ensureCapacityInternal_d00df ⟨by decide, by decide⟩ rfl (by decide) hb rfl rfl (ga_cat rfl) dJ5_append_3fe6f_7 hk hj rfl (gaX_all hT V) (ga_kv (fun hp2 hw => ?_))
  refine ga_re ec es ?_
  refine g_aload_n V dJ5_append_3fe6f_10 rfl rfl ?_
  obtain ⟨hb, hw⟩ := hw
  obtain ⟨fb, hb⟩ := hb
  refine g_callU (C := RJ4) (T := TJ4) (N := 4) (st := []) V (k_J5_isLatin1_aae02 hst hw) ww_4_94 ww_4_96 ww_4_95 ww_4_97 ww_1_17 ww_4_98 rfl hdo_J5_isLatin1_aae02 ⟨by decide, by decide⟩ rfl (by decide) hb rfl rfl (ga_cat rfl) dJ5_append_3fe6f_11 (Nat.zero_le _) (Nat.zero_le _) rfl (gaX_all hT V) (ga_ki (fun r7 hp6 hw => ?_))
  obtain ⟨hx0, hw⟩ := hw
  refine gi_if_eq V dJ5_append_3fe6f_14 rfl rfl hx0 (fun q => ?_) (fun q => ?_)
  · have hw := ga_t q hw
    exact h_J5_append_3fe6f_J45 a0 a1 hp6 c4 s5 hw
  · have hw := ga_f q hw
    refine g_iload_n V dJ5_append_3fe6f_17 rfl rfl ?_
    refine g_callS (st := []) V (k_J1_canEncode_fc78d hst hw) ww_4_99 ww_4_100 ww_1_24 ww_4_101 hd_J1_canEncode_fc78d ⟨by decide, by decide⟩ rfl rfl (ga_cat rfl) dJ5_append_3fe6f_18 (Nat.zero_le _) (Nat.zero_le _) rfl (gaX_all hT V) (ga_ki (fun r9 hp8 hw => ?_))
    obtain ⟨hx0, hw⟩ := hw
    refine gi_if_eq V dJ5_append_3fe6f_21 rfl rfl hx0 (fun q => ?_) (fun q => ?_)
    · have hw := ga_t q hw
      exact h_J5_append_3fe6f_J45 a0 a1 hp8 c4 s5 hw
    · have hw := ga_f q hw
      refine g_aload_n V dJ5_append_3fe6f_24 rfl rfl ?_
      obtain ⟨fs, r10, ha, hv, hw⟩ := hw
      refine g_get (C := RJ4) (T := TJ4) (N := 4) V 0 rfl hin_RJ4 (by decide) (by decide) ww_4_43 rfl ha hv dJ5_append_3fe6f_25 rfl ?_
      refine g_aload_n V dJ5_append_3fe6f_28 rfl rfl ?_
      refine g_dup V dJ5_append_3fe6f_29 rfl rfl ?_
      obtain ⟨fs, r11, ha, hv, hw⟩ := hw
      refine g_get (C := RJ4) (T := TJ4) (N := 4) V 3 rfl hin_RJ4 (by decide) (by decide) ww_4_46 rfl ha hv dJ5_append_3fe6f_30 rfl ?_
      refine g_dup_x1 V dJ5_append_3fe6f_33 rfl rfl rfl ?_
      refine g_iconst V (Int32.ofInt 1) dJ5_append_3fe6f_34 rfl rfl ?_
      refine gi_iadd V dJ5_append_3fe6f_35 rfl ?_
      obtain ⟨fs, ha, hl, hw⟩ := hw
      refine g_put (C := RJ4) (T := TJ4) (N := 4) V 3 tyJ4 tyJ4_ok nmJ4 rfl hin_RJ4 (by decide) (by decide) ww_4_46 rfl rfl rfl rfl ha hl dJ5_append_3fe6f_36 rfl ?_
      generalize gaUp hp8 a0 _ = hp12 at hw ⊢
      refine g_iload_n V dJ5_append_3fe6f_39 rfl rfl ?_
      refine gi_i2b V dJ5_append_3fe6f_40 rfl ?_
      obtain ⟨hb, hw⟩ := hw
      obtain ⟨vs, ha, h0, h9, hi, hw⟩ := hw
      refine gi_bastoreB V hb ha h0 h9 hi dJ5_append_3fe6f_41 rfl ?_
      generalize gaUp hp12 r10 _ = hp13 at hw ⊢
      refine g_goto V dJ5_append_3fe6f_42 rfl ?_
      refine g_aload_n V dJ5_append_3fe6f_75 rfl rfl ?_
      exact g_aret V rfl (by first | exact Or.inl ⟨_, rfl⟩ | exact Or.inr ⟨_, rfl⟩) dJ5_append_3fe6f_76 ⟨_, rfl, hw⟩
def w_J4_append_cf468 (G : gaG) (a0 : Nat) (a1 : Int) (h : gaH) (Q : Nat → gaH → Prop) : Prop := gHas h a0 1 ∧ gCall 2 134 2 134 (fun c3 s4 => w_J5_append_3fe6f G a0 a1 h (fun r2 hp1 => Q a0 hp1))
abbrev rm_J4_append_cf468 : Room := { frames := 6, cells := 2, slots := 134, locals := 151 }
theorem hd_J4_append_cf468 : yJ4_append_cf468.cls = RJ4 ∧ (yJ4_append_cf468.cls ≠ "java/lang/invoke/MethodHandle" ∧ yJ4_append_cf468.cls ≠ "java/lang/invoke/VarHandle" ∧ (parseMethodDescriptor yJ4_append_cf468.desc).map (fun d => d.parameters.length) = some 1) := by decide +kernel
theorem k_J4_append_cf468 {l : Launch} (hst : l.stackTraces = false) {G : gaG} {X : String → gaH → Prop} {a0 : Nat} {a1 : Int} {h : gaH} {Q : Nat → gaH → Prop} (hw : w_J4_append_cf468 G a0 a1 h Q) : gaC l G yJ4_append_cf468 (gaM yJ4_append_cf468 cJ4_append_cf468 2 ((some (.object "java/lang/StringBuilder")))) rm_J4_append_cf468 [.ref a0, gi a1] h (gQa Q) X := by
  refine g_start (lv := [some (.ref a0), some (gi a1)]) hpl_RJ4 hst (Nat.le_of_ble_eq_true rfl) (gaArgs_pad (z := 0) rfl) ww_4_59 ?_
  intro p e s m args below meth c V hT
  show gaP p l e rm_J4_append_cf468 s m args below meth c G 2 (gaZ below G (gQa Q) X args s rm_J4_append_cf468) 0 [some (.ref a0), some (gi a1)] [] h 2 134
  unfold w_J4_append_cf468 at hw
  refine g_aload_n V dJ4_append_cf468_0 rfl rfl ?_
  refine g_iload_n V dJ4_append_cf468_1 rfl rfl ?_
  obtain ⟨hb, hw⟩ := hw
  obtain ⟨fb, hb⟩ := hb
  obtain ⟨hk, hj, c3, s4, ec, es, hw⟩ := hw
  refine g_callSU (C := RJ4) (T := TJ4) (N := 4) (st := []) V (k_J5_append_3fe6f hst hw) ww_4_60 ww_7_87 ww_4_55 ww_4_61 ww_1_17 ww_4_62 hdu_J5_append_3fe6f ⟨by decide, by decide⟩ rfl (by decide) hb rfl rfl (ga_cat rfl) dJ4_append_cf468_2 hk hj rfl (gaX_all hT V) (ga_ka (fun r2 hp1 hw => ?_))
  refine ga_re ec es ?_
  refine g_pop V dJ4_append_cf468_5 rfl rfl ?_
  refine g_aload_n V dJ4_append_cf468_6 rfl rfl ?_
  exact g_aret V rfl (by first | exact Or.inl ⟨_, rfl⟩ | exact Or.inr ⟨_, rfl⟩) dJ4_append_cf468_7 ⟨_, rfl, hw⟩
def w_J5_getValue_6d5f1 (a0 : Nat) (h : gaH) (Q : Nat → gaH → Prop) : Prop := gA h a0 1 0 (fun r1 => Q r1 h)
abbrev rm_J5_getValue_6d5f1 : Room := { frames := 0, cells := 0, slots := 0, locals := 0 }
theorem hd_J5_getValue_6d5f1 : yJ5_getValue_6d5f1.cls = RJ5 ∧ (yJ5_getValue_6d5f1.cls ≠ "java/lang/invoke/MethodHandle" ∧ yJ5_getValue_6d5f1.cls ≠ "java/lang/invoke/VarHandle" ∧ (parseMethodDescriptor yJ5_getValue_6d5f1.desc).map (fun d => d.parameters.length) = some 0) := by decide +kernel
theorem hdo_J5_getValue_6d5f1 : "java/lang/AbstractStringBuilder" ≠ "java/lang/invoke/MethodHandle" ∧ "java/lang/AbstractStringBuilder" ≠ "java/lang/invoke/VarHandle" ∧ (parseMethodDescriptor yJ5_getValue_6d5f1.desc).map (fun d => d.parameters.length) = some 0 := by decide +kernel
theorem k_J5_getValue_6d5f1 {l : Launch} (hst : l.stackTraces = false) {G : gaG} {X : String → gaH → Prop} {a0 : Nat} {h : gaH} {Q : Nat → gaH → Prop} (hw : w_J5_getValue_6d5f1 a0 h Q) : gaC l G yJ5_getValue_6d5f1 (gaM yJ5_getValue_6d5f1 cJ5_getValue_6d5f1 1 ((some (.array .byte)))) rm_J5_getValue_6d5f1 [.ref a0] h (gQa Q) X := by
  refine g_start (lv := [some (.ref a0)]) hpl_RJ5 hst (Nat.le_of_ble_eq_true rfl) (gaArgs_pad (z := 0) rfl) ww_4_164 ?_
  intro p e s m args below meth c V hT
  unfold w_J5_getValue_6d5f1 at hw
  refine g_aload_n V dJ5_getValue_6d5f1_0 rfl rfl ?_
  obtain ⟨fs, r1, ha, hv, hw⟩ := hw
  refine g_get (C := RJ4) (T := TJ4) (N := 4) V 0 rfl hin_RJ4 (by decide) (by decide) ww_4_43 rfl ha hv dJ5_getValue_6d5f1_1 rfl ?_
  exact g_aret V rfl (by first | exact Or.inl ⟨_, rfl⟩ | exact Or.inr ⟨_, rfl⟩) dJ5_getValue_6d5f1_4 ⟨_, rfl, hw⟩
def w_J5_length_8abf5 (a0 : Nat) (h : gaH) (Q : Int → gaH → Prop) : Prop := gI h a0 1 3 (fun r1 => Q r1 h)
abbrev rm_J5_length_8abf5 : Room := { frames := 0, cells := 0, slots := 0, locals := 0 }
theorem hd_J5_length_8abf5 : yJ5_length_8abf5.cls = RJ5 ∧ (yJ5_length_8abf5.cls ≠ "java/lang/invoke/MethodHandle" ∧ yJ5_length_8abf5.cls ≠ "java/lang/invoke/VarHandle" ∧ (parseMethodDescriptor yJ5_length_8abf5.desc).map (fun d => d.parameters.length) = some 0) := by decide +kernel
theorem hdo_J5_length_8abf5 : "java/lang/AbstractStringBuilder" ≠ "java/lang/invoke/MethodHandle" ∧ "java/lang/AbstractStringBuilder" ≠ "java/lang/invoke/VarHandle" ∧ (parseMethodDescriptor yJ5_length_8abf5.desc).map (fun d => d.parameters.length) = some 0 := by decide +kernel
theorem hdu_J5_length_8abf5 : yJ5_length_8abf5.name ≠ "<init>" ∧ (parseMethodDescriptor yJ5_length_8abf5.desc).map (fun d => d.parameters.length) = some 0 := by decide +kernel
theorem k_J5_length_8abf5 {l : Launch} (hst : l.stackTraces = false) {G : gaG} {X : String → gaH → Prop} {a0 : Nat} {h : gaH} {Q : Int → gaH → Prop} (hw : w_J5_length_8abf5 a0 h Q) : gaC l G yJ5_length_8abf5 (gaM yJ5_length_8abf5 cJ5_length_8abf5 1 ((some .int))) rm_J5_length_8abf5 [.ref a0] h (gQi Q) X := by
  refine g_start (lv := [some (.ref a0)]) hpl_RJ5 hst (Nat.le_of_ble_eq_true rfl) (gaArgs_pad (z := 0) rfl) ww_4_172 ?_
  intro p e s m args below meth c V hT
  unfold w_J5_length_8abf5 at hw
  refine g_aload_n V dJ5_length_8abf5_0 rfl rfl ?_
  obtain ⟨fs, r1, ha, hv, hw⟩ := hw
  refine g_get (C := RJ4) (T := TJ4) (N := 4) V 3 rfl hin_RJ4 (by decide) (by decide) ww_4_46 rfl ha hv dJ5_length_8abf5_1 rfl ?_
  exact g_iret V rfl rfl dJ5_length_8abf5_4 ⟨_, rfl, hw⟩
def w_J4_length_8abf5 (a0 : Nat) (h : gaH) (Q : Int → gaH → Prop) : Prop := gHas h a0 1 ∧ w_J5_length_8abf5 a0 h (fun r2 hp1 => Q r2 hp1)
abbrev rm_J4_length_8abf5 : Room := { frames := 1, cells := 0, slots := 0, locals := 20 }
theorem hd_J4_length_8abf5 : yJ4_length_8abf5.cls = RJ4 ∧ (yJ4_length_8abf5.cls ≠ "java/lang/invoke/MethodHandle" ∧ yJ4_length_8abf5.cls ≠ "java/lang/invoke/VarHandle" ∧ (parseMethodDescriptor yJ4_length_8abf5.desc).map (fun d => d.parameters.length) = some 0) := by decide +kernel
theorem hdo_J4_length_8abf5 : "java/lang/AbstractStringBuilder" ≠ "java/lang/invoke/MethodHandle" ∧ "java/lang/AbstractStringBuilder" ≠ "java/lang/invoke/VarHandle" ∧ (parseMethodDescriptor yJ4_length_8abf5.desc).map (fun d => d.parameters.length) = some 0 := by decide +kernel
theorem k_J4_length_8abf5 {l : Launch} (hst : l.stackTraces = false) {G : gaG} {X : String → gaH → Prop} {a0 : Nat} {h : gaH} {Q : Int → gaH → Prop} (hw : w_J4_length_8abf5 a0 h Q) : gaC l G yJ4_length_8abf5 (gaM yJ4_length_8abf5 cJ4_length_8abf5 1 ((some .int))) rm_J4_length_8abf5 [.ref a0] h (gQi Q) X := by
  refine g_start (lv := [some (.ref a0)]) hpl_RJ4 hst (Nat.le_of_ble_eq_true rfl) (gaArgs_pad (z := 0) rfl) ww_4_170 ?_
  intro p e s m args below meth c V hT
  unfold w_J4_length_8abf5 at hw
  refine g_aload_n V dJ4_length_8abf5_0 rfl rfl ?_
  obtain ⟨hb, hw⟩ := hw
  obtain ⟨fb, hb⟩ := hb
  refine g_callSU (C := RJ4) (T := TJ4) (N := 4) (st := []) V (k_J5_length_8abf5 hst hw) ww_4_171 ww_4_167 ww_4_55 ww_4_166 ww_1_17 ww_4_172 hdu_J5_length_8abf5 ⟨by decide, by decide⟩ rfl (by decide) hb rfl rfl (ga_cat rfl) dJ4_length_8abf5_1 (Nat.zero_le _) (Nat.zero_le _) rfl (gaX_all hT V) (ga_ki (fun r2 hp1 hw => ?_))
  exact g_iret V rfl rfl dJ4_length_8abf5_4 ⟨_, rfl, hw⟩
def w_J7_checkLength_df160 (a0 : Int) (a1 : Int) (h : gaH) (Q : gaH → Prop) : Prop := gR a1 ∧ gR a0 ∧ (if a0 ≤ a1 then Q h else False)
abbrev rm_J7_checkLength_df160 : Room := { frames := 0, cells := 0, slots := 0, locals := 0 }
theorem hd_J7_checkLength_df160 : (yJ7_checkLength_df160.cls ≠ "java/lang/invoke/MethodHandle" ∧ yJ7_checkLength_df160.cls ≠ "java/lang/invoke/VarHandle" ∧ (parseMethodDescriptor yJ7_checkLength_df160.desc).map (fun d => d.parameters.length) = some 2) := by decide +kernel
theorem k_J7_checkLength_df160 {l : Launch} (hst : l.stackTraces = false) {G : gaG} {X : String → gaH → Prop} {a0 : Int} {a1 : Int} {h : gaH} {Q : gaH → Prop} (hw : w_J7_checkLength_df160 a0 a1 h Q) : gaC l G yJ7_checkLength_df160 (gaM yJ7_checkLength_df160 cJ7_checkLength_df160 2 ((none : Option Jvm.ClassFile.FieldType))) rm_J7_checkLength_df160 [gi a0, gi a1] h (gQv Q) X := by
  refine g_start (lv := [some (gi a0), some (gi a1)]) hpl_RJ7 hst (Nat.le_of_ble_eq_true rfl) (gaArgs_pad (z := 0) rfl) ww_4_182 ?_
  intro p e s m args below meth c V hT
  unfold w_J7_checkLength_df160 at hw
  refine g_iload_n V dJ7_checkLength_df160_0 rfl rfl ?_
  refine g_iload_n V dJ7_checkLength_df160_1 rfl rfl ?_
  obtain ⟨hx0, hx1, hw⟩ := hw
  refine gi_icmp_ge V dJ7_checkLength_df160_2 rfl rfl hx0 hx1 (fun q => ?_) (fun q => ?_)
  · have hw := ga_t q hw
    exact g_vret V rfl dJ7_checkLength_df160_37 ⟨rfl, hw⟩
  · have hw := ga_f q hw
    exact hw.elim
def w_J7_copyOfRangeByte_39247 (a0 : Nat) (a1 : Int) (a2 : Int) (h : gaH) (Q : Nat → gaH → Prop) : Prop := w_J7_checkLength_df160 a1 a2 h (fun hp1 => gNA hp1 101 (gi 0) (a2 - a1) 1 64 (fun o3 hp4 c5 s6 => gAL hp4 a0 101 (fun r7 => gR (r7 - a1) ∧ gR (a2 - a1) ∧ (¬ a0 = o3 ∧ gCP hp4 a0 o3 101 a1 0 (min (r7 - a1) (a2 - a1)) (fun hp8 => Q o3 hp8)))))
abbrev rm_J7_copyOfRangeByte_39247 : Room := { frames := 2, cells := 1, slots := 64, locals := 60 }
theorem hd_J7_copyOfRangeByte_39247 : (yJ7_copyOfRangeByte_39247.cls ≠ "java/lang/invoke/MethodHandle" ∧ yJ7_copyOfRangeByte_39247.cls ≠ "java/lang/invoke/VarHandle" ∧ (parseMethodDescriptor yJ7_copyOfRangeByte_39247.desc).map (fun d => d.parameters.length) = some 3) := by decide +kernel
theorem k_J7_copyOfRangeByte_39247 {l : Launch} (hst : l.stackTraces = false) {G : gaG} {X : String → gaH → Prop} {a0 : Nat} {a1 : Int} {a2 : Int} {h : gaH} {Q : Nat → gaH → Prop} (hw : w_J7_copyOfRangeByte_39247 a0 a1 a2 h Q) : gaC l G yJ7_copyOfRangeByte_39247 (gaM yJ7_copyOfRangeByte_39247 cJ7_copyOfRangeByte_39247 5 ((some (.array .byte)))) rm_J7_copyOfRangeByte_39247 [.ref a0, gi a1, gi a2] h (gQa Q) X := by
  refine g_start (lv := [some (.ref a0), some (gi a1), some (gi a2), none, none]) hpl_RJ7 hst (Nat.le_of_ble_eq_true rfl) (gaArgs_pad (z := 2) rfl) ww_4_179 ?_
  intro p e s m args below meth c V hT
  show gaP p l e rm_J7_copyOfRangeByte_39247 s m args below meth c G 5 (gaZ below G (gQa Q) X args s rm_J7_copyOfRangeByte_39247) 0 [some (.ref a0), some (gi a1), some (gi a2), none, none] [] h 1 64
  unfold w_J7_copyOfRangeByte_39247 at hw
  refine g_iload_n V dJ7_copyOfRangeByte_39247_0 rfl rfl ?_
  refine g_iload_n V dJ7_copyOfRangeByte_39247_1 rfl rfl ?_
  refine g_callS (st := []) V (k_J7_checkLength_df160 hst hw) ww_4_180 ww_4_181 ww_1_22 ww_4_182 hd_J7_checkLength_df160 ⟨by decide, by decide⟩ rfl rfl (ga_cat rfl) dJ7_copyOfRangeByte_39247_2 (Nat.zero_le _) (Nat.zero_le _) rfl (gaX_all hT V) (ga_kv (fun hp1 hw => ?_))
  refine g_iload_n V dJ7_copyOfRangeByte_39247_5 rfl rfl ?_
  refine g_iload_n V dJ7_copyOfRangeByte_39247_6 rfl rfl ?_
  refine gi_isub V dJ7_copyOfRangeByte_39247_7 rfl ?_
  refine g_istore_n (lv2 := [some (.ref a0), some (gi a1), some (gi a2), some (gi (a2 - a1)), none]) V dJ7_copyOfRangeByte_39247_8 (by decide) rfl rfl rfl ?_
  refine g_iload_n V dJ7_copyOfRangeByte_39247_9 rfl rfl ?_
  obtain ⟨h0, h9, hk, hj, hw⟩ := hw
  refine gi_newarray (atype := .byte) (t := 101) V (by decide) rfl ww_1_221 h0 h9 dJ7_copyOfRangeByte_39247_10 rfl hk hj (fun o3 hf => ?_)
  obtain ⟨c5, s6, ec, es, hw⟩ := hw o3 hf
  refine ga_re ec es ?_
  generalize gaUp hp1 o3 _ = hp4 at hw ⊢
  refine g_astore (lv2 := [some (.ref a0), some (gi a1), some (gi a2), some (gi (a2 - a1)), some (.ref o3)]) V dJ7_copyOfRangeByte_39247_12 (by decide) rfl rfl rfl ?_
  refine g_aload_n V dJ7_copyOfRangeByte_39247_14 rfl rfl ?_
  refine g_iload_n V dJ7_copyOfRangeByte_39247_15 rfl rfl ?_
  refine g_aload V dJ7_copyOfRangeByte_39247_16 rfl rfl ?_
  refine g_iconst V (Int32.ofInt 0) dJ7_copyOfRangeByte_39247_18 rfl rfl ?_
  refine g_aload_n V dJ7_copyOfRangeByte_39247_19 rfl rfl ?_
  obtain ⟨t9, vs, ha, ht, hw⟩ := hw
  refine gi_arraylength (t0 := 101) V (by simp [gaT]) ha ht dJ7_copyOfRangeByte_39247_20 rfl ?_
  generalize (vs.length : Int) = r7 at hw ⊢
  refine g_iload_n V dJ7_copyOfRangeByte_39247_21 rfl rfl ?_
  refine gi_isub V dJ7_copyOfRangeByte_39247_22 rfl ?_
  refine g_iload_n V dJ7_copyOfRangeByte_39247_23 rfl rfl ?_
  obtain ⟨hx0, hx1, hw⟩ := hw
  refine gi_mmin V ww_4_90 ww_2_4 ww_1_13 ww_2_5 (by decide) (by decide) (ga_cat rfl) hx0 hx1 dJ7_copyOfRangeByte_39247_24 rfl ?_
  obtain ⟨hne, vs, ws, ha0, ha1, z1, z2, z3, z4, z5, z6, z7, hfit, hw⟩ := hw
  refine g_acopy V ww_4_91 ww_4_93 ww_4_92 ww_1_23 (by decide) (by decide) (ga_cat rfl) hne ha0 ha1 z1 z2 z3 z4 z5 z6 z7 hfit dJ7_copyOfRangeByte_39247_27 rfl (fun us u1 u2 => ?_)
  have hw := hw us u1 u2
  generalize gaUp hp4 o3 _ = hp8 at hw ⊢
  refine g_aload V dJ7_copyOfRangeByte_39247_30 rfl rfl ?_
  exact g_aret V rfl (by first | exact Or.inl ⟨_, rfl⟩ | exact Or.inr ⟨_, rfl⟩) dJ7_copyOfRangeByte_39247_32 ⟨_, rfl, hw⟩
def w_J7_copyOfRange_39247_J10 (Q : Nat → gaH → Prop) (v0 : Nat) (v1 : Int) (v2 : Int) (h : gaH) (kc ks : Nat) : Prop := gCall 1 64 kc ks (fun c3 s4 => w_J7_copyOfRangeByte_39247 v0 v1 v2 h (fun r2 hp1 => Q r2 hp1))
def w_J7_copyOfRange_39247 (a0 : Nat) (a1 : Int) (a2 : Int) (h : gaH) (Q : Nat → gaH → Prop) : Prop := gR a1 ∧ (if a1 = 0 then gAL h a0 101 (fun r1 => gR a2 ∧ gR r1 ∧ (if a2 = r1 then gCL h a0 101 2 134 (fun o2 hp3 c4 s5 => gHas hp3 o2 101 ∧ (Q o2 hp3)) else w_J7_copyOfRange_39247_J10 Q a0 a1 a2 h 2 134)) else w_J7_copyOfRange_39247_J10 Q a0 a1 a2 h 2 134)
abbrev rm_J7_copyOfRange_39247 : Room := { frames := 3, cells := 2, slots := 134, locals := 84 }
theorem hd_J7_copyOfRange_39247 : (yJ7_copyOfRange_39247.cls ≠ "java/lang/invoke/MethodHandle" ∧ yJ7_copyOfRange_39247.cls ≠ "java/lang/invoke/VarHandle" ∧ (parseMethodDescriptor yJ7_copyOfRange_39247.desc).map (fun d => d.parameters.length) = some 3) := by decide +kernel
theorem k_J7_copyOfRange_39247 {l : Launch} (hst : l.stackTraces = false) {G : gaG} {X : String → gaH → Prop} {a0 : Nat} {a1 : Int} {a2 : Int} {h : gaH} {Q : Nat → gaH → Prop} (hw : w_J7_copyOfRange_39247 a0 a1 a2 h Q) : gaC l G yJ7_copyOfRange_39247 (gaM yJ7_copyOfRange_39247 cJ7_copyOfRange_39247 3 ((some (.array .byte)))) rm_J7_copyOfRange_39247 [.ref a0, gi a1, gi a2] h (gQa Q) X := by
  refine g_start (lv := [some (.ref a0), some (gi a1), some (gi a2)]) hpl_RJ7 hst (Nat.le_of_ble_eq_true rfl) (gaArgs_pad (z := 0) rfl) ww_4_176 ?_
  intro p e s m args below meth c V hT
  have h_J7_copyOfRange_39247_J10 : ∀ (v0 : Nat) (v1 : Int) (v2 : Int) (h : gaH) (kc ks : Nat), w_J7_copyOfRange_39247_J10 Q v0 v1 v2 h kc ks → gaP p l e rm_J7_copyOfRange_39247 s m args below meth c G 3 (gaZ below G (gQa Q) X args s rm_J7_copyOfRange_39247) 10 [some (.ref v0), some (gi v1), some (gi v2)] [] h kc ks := by
    intro v0 v1 v2 h kc ks hw
    unfold w_J7_copyOfRange_39247_J10 at hw
    refine g_aload_n V dJ7_copyOfRange_39247_10 rfl rfl ?_
    refine g_iload_n V dJ7_copyOfRange_39247_11 rfl rfl ?_
    refine g_iload_n V dJ7_copyOfRange_39247_12 rfl rfl ?_
    obtain ⟨hk, hj, c3, s4, ec, es, hw⟩ := hw
    refine g_callS (st := []) V (k_J7_copyOfRangeByte_39247 hst hw) ww_4_177 ww_4_178 ww_1_22 ww_4_179 hd_J7_copyOfRangeByte_39247 ⟨by decide, by decide⟩ rfl rfl (ga_cat rfl) dJ7_copyOfRange_39247_13 hk hj rfl (gaX_all hT V) (ga_ka (fun r2 hp1 hw => ?_))
    refine ga_re ec es ?_
    exact g_aret V rfl (by first | exact Or.inl ⟨_, rfl⟩ | exact Or.inr ⟨_, rfl⟩) dJ7_copyOfRange_39247_16 ⟨_, rfl, hw⟩
  show gaP p l e rm_J7_copyOfRange_39247 s m args below meth c G 3 (gaZ below G (gQa Q) X args s rm_J7_copyOfRange_39247) 0 [some (.ref a0), some (gi a1), some (gi a2)] [] h 2 134
  unfold w_J7_copyOfRange_39247 at hw
  refine g_iload_n V dJ7_copyOfRange_39247_0 rfl rfl ?_
  obtain ⟨hx0, hw⟩ := hw
  refine gi_if_ne V dJ7_copyOfRange_39247_1 rfl rfl hx0 (fun q => ?_) (fun q => ?_)
  · have hw := ga_f q hw
    exact h_J7_copyOfRange_39247_J10 a0 a1 a2 h 2 134 hw
  · have hw := ga_t q hw
    refine g_iload_n V dJ7_copyOfRange_39247_4 rfl rfl ?_
    refine g_aload_n V dJ7_copyOfRange_39247_5 rfl rfl ?_
    obtain ⟨t9, vs, ha, ht, hw⟩ := hw
    refine gi_arraylength (t0 := 101) V (by simp [gaT]) ha ht dJ7_copyOfRange_39247_6 rfl ?_
    generalize (vs.length : Int) = r1 at hw ⊢
    obtain ⟨hx0, hx1, hw⟩ := hw
    refine gi_icmp_eq V dJ7_copyOfRange_39247_7 rfl rfl hx0 hx1 (fun q => ?_) (fun q => ?_)
    · have hw := ga_t q hw
      refine g_aload_n V dJ7_copyOfRange_39247_17 rfl rfl ?_
      obtain ⟨vs, ha, hfit, hk, hj, hw⟩ := hw
      refine g_clone V ww_4_83 ww_4_84 ww_4_85 ww_4_86 ww_4_87 gn_25 (by decide) (by decide) (ga_cat rfl) ha hfit dJ7_copyOfRange_39247_18 rfl hk hj (fun o2 hf => ?_)
      obtain ⟨c4, s5, ec, es, hw⟩ := hw o2 hf
      refine ga_re ec es ?_
      generalize gaUp h o2 _ = hp3 at hw ⊢
      obtain ⟨hb, hw⟩ := hw
      obtain ⟨fb, hb⟩ := hb
      refine g_castB V ww_4_89 hb dJ7_copyOfRange_39247_21 rfl ?_
      exact g_aret V rfl (by first | exact Or.inl ⟨_, rfl⟩ | exact Or.inr ⟨_, rfl⟩) dJ7_copyOfRange_39247_24 ⟨_, rfl, hw⟩
    · have hw := ga_f q hw
      exact h_J7_copyOfRange_39247_J10 a0 a1 a2 h 2 134 hw
def w_J0_init_db425_J79 (G : gaG) (Q : gaH → Prop) (v0 : Nat) (v3 : Nat) (v4 : Int) (h : gaH) (kc ks : Nat) : Prop := gPF h v0 0 1 (gi 1) (fun hp1 => gCall 2 134 kc ks (fun c4 s5 => w_J7_copyOfRange_39247 v3 0 (gShl v4 1) hp1 (fun r3 hp2 => gPF hp2 v0 0 0 (.ref r3) (fun hp6 => Q hp6))))
def w_J0_init_db425 (G : gaG) (a0 : Nat) (a1 : Nat) (h : gaH) (Q : gaH → Prop) : Prop := gHas h a1 1 ∧ w_J5_getValue_6d5f1 a1 h (fun r2 hp1 => gHas hp1 a1 1 ∧ w_J4_length_8abf5 a1 hp1 (fun r4 hp3 => gHas hp3 a1 1 ∧ w_J5_isLatin1_aae02 G a1 hp3 (fun r6 hp5 => gR r6 ∧ (if r6 = 0 then gI hp5 a1 1 2 (fun r7 => gR r7 ∧ (if r7 = 0 then w_J0_init_db425_J79 G Q a0 r2 r4 hp5 4 268 else False)) else gPF hp5 a0 0 1 (gi 0) (fun hp8 => gCall 2 134 4 268 (fun c11 s12 => w_J7_copyOfRange_39247 r2 0 r4 hp8 (fun r10 hp9 => gPF hp9 a0 0 0 (.ref r10) (fun hp13 => Q hp13))))))))
abbrev rm_J0_init_db425 : Room := { frames := 4, cells := 4, slots := 268, locals := 106 }
theorem hd_J0_init_db425 : (yJ0_init_db425.cls ≠ "java/lang/invoke/MethodHandle" ∧ yJ0_init_db425.cls ≠ "java/lang/invoke/VarHandle" ∧ (parseMethodDescriptor yJ0_init_db425.desc).map (fun d => d.parameters.length) = some 2) := by decide +kernel
theorem k_J0_init_db425 {l : Launch} (hst : l.stackTraces = false) {G : gaG} {X : String → gaH → Prop} {a0 : Nat} {a1 : Nat} {h : gaH} {Q : gaH → Prop} (hw : w_J0_init_db425 G a0 a1 h Q) : gaC l G yJ0_init_db425 (gaM yJ0_init_db425 cJ0_init_db425 5 ((none : Option Jvm.ClassFile.FieldType))) rm_J0_init_db425 [.ref a0, .ref a1, .null] h (gQv Q) X := by
  refine g_start (lv := [some (.ref a0), some (.ref a1), some (.null), none, none]) hpl_RJ0 hst (Nat.le_of_ble_eq_true rfl) (gaArgs_pad (z := 2) rfl) ww_4_158 ?_
  intro p e s m args below meth c V hT
  have h_J0_init_db425_J79 : ∀ (v0 : Nat) (v3 : Nat) (v4 : Int) (h : gaH) (kc ks : Nat), w_J0_init_db425_J79 G Q v0 v3 v4 h kc ks → gaP p l e rm_J0_init_db425 s m args below meth c G 5 (gaZ below G (gQv Q) X args s rm_J0_init_db425) 79 [some (.ref v0), none, none, some (.ref v3), some (gi v4)] [] h kc ks := by
    intro v0 v3 v4 h kc ks hw
    unfold w_J0_init_db425_J79 at hw
    refine g_aload_n V dJ0_init_db425_79 rfl rfl ?_
    refine g_iconst V (Int32.ofInt 1) dJ0_init_db425_80 rfl rfl ?_
    obtain ⟨fs, ha, hl, hw⟩ := hw
    refine g_putF (C := RJ0) (T := TJ0) (N := 4) V 1 tyJ0 tyJ0_ok nmJ0 rfl hin_RJ0 (by decide) (by decide) ww_5_35 rfl rfl rfl rfl (by decide) rfl ha hl dJ0_init_db425_81 rfl ?_
    generalize gaUp h v0 _ = hp1 at hw ⊢
    refine g_aload_n V dJ0_init_db425_84 rfl rfl ?_
    refine g_aload_n V dJ0_init_db425_85 rfl rfl ?_
    refine g_iconst V (Int32.ofInt 0) dJ0_init_db425_86 rfl rfl ?_
    refine g_iload V dJ0_init_db425_87 rfl rfl ?_
    refine g_iconst V (Int32.ofInt 1) dJ0_init_db425_89 rfl rfl ?_
    refine gi_ishl V dJ0_init_db425_90 rfl ?_
    obtain ⟨hk, hj, c4, s5, ec, es, hw⟩ := hw
    refine g_callS (st := [.ref v0]) V (k_J7_copyOfRange_39247 hst hw) ww_4_174 ww_4_175 ww_1_22 ww_4_176 hd_J7_copyOfRange_39247 ⟨by decide, by decide⟩ rfl rfl (ga_cat rfl) dJ0_init_db425_91 hk hj rfl (gaX_all hT V) (ga_ka (fun r3 hp2 hw => ?_))
    refine ga_re ec es ?_
    obtain ⟨fs, ha, hl, hw⟩ := hw
    refine g_putF (C := RJ0) (T := TJ0) (N := 4) V 0 tyJ0 tyJ0_ok nmJ0 rfl hin_RJ0 (by decide) (by decide) ww_5_34 rfl rfl rfl rfl rfl rfl ha hl dJ0_init_db425_94 rfl ?_
    generalize gaUp hp2 v0 _ = hp6 at hw ⊢
    exact g_vret V rfl dJ0_init_db425_97 ⟨rfl, hw⟩
  show gaP p l e rm_J0_init_db425 s m args below meth c G 5 (gaZ below G (gQv Q) X args s rm_J0_init_db425) 0 [some (.ref a0), some (.ref a1), some (.null), none, none] [] h 4 268
  unfold w_J0_init_db425 at hw
  refine g_aload_n V dJ0_init_db425_0 rfl rfl ?_
  refine g_objInit V ww_4_159 ww_1_32 ww_1_33 dJ0_init_db425_1 (by decide) (by decide) (ga_cat rfl) rfl ?_
  refine g_aload_n V dJ0_init_db425_4 rfl rfl ?_
  obtain ⟨hb, hw⟩ := hw
  obtain ⟨fb, hb⟩ := hb
  refine g_callU (C := RJ4) (T := TJ4) (N := 4) (st := []) V (k_J5_getValue_6d5f1 hst hw) ww_4_160 ww_4_162 ww_4_161 ww_4_163 ww_1_17 ww_4_164 rfl hdo_J5_getValue_6d5f1 ⟨by decide, by decide⟩ rfl (by decide) hb rfl rfl (ga_cat rfl) dJ0_init_db425_5 (Nat.zero_le _) (Nat.zero_le _) rfl (gaX_all hT V) (ga_ka (fun r2 hp1 hw => ?_))
  refine g_astore_n (lv2 := [some (.ref a0), some (.ref a1), some (.null), some (.ref r2), none]) V dJ0_init_db425_8 (by decide) rfl rfl rfl ?_
  refine g_aload_n V dJ0_init_db425_9 rfl rfl ?_
  obtain ⟨hb, hw⟩ := hw
  obtain ⟨fb, hb⟩ := hb
  refine g_callO (C := RJ4) (T := TJ4) (N := 4) (st := []) V (k_J4_length_8abf5 hst hw) ww_4_165 ww_4_167 ww_4_166 ww_4_169 ww_4_168 ww_1_18 ww_4_170 ww_4_172 hdo_J4_length_8abf5 ⟨by decide, by decide⟩ rfl (by decide) hb rfl rfl (ga_cat rfl) dJ0_init_db425_10 (Nat.zero_le _) (Nat.zero_le _) rfl (gaX_all hT V) (ga_ki (fun r4 hp3 hw => ?_))
  refine g_istore (lv2 := [some (.ref a0), some (.ref a1), some (.null), some (.ref r2), some (gi r4)]) V dJ0_init_db425_13 (by decide) rfl rfl rfl ?_
  refine g_aload_n V dJ0_init_db425_15 rfl rfl ?_
  obtain ⟨hb, hw⟩ := hw
  obtain ⟨fb, hb⟩ := hb
  refine g_callU (C := RJ4) (T := TJ4) (N := 4) (st := []) V (k_J5_isLatin1_aae02 hst hw) ww_4_173 ww_4_96 ww_4_95 ww_4_97 ww_1_17 ww_4_98 rfl hdo_J5_isLatin1_aae02 ⟨by decide, by decide⟩ rfl (by decide) hb rfl rfl (ga_cat rfl) dJ0_init_db425_16 (Nat.zero_le _) (Nat.zero_le _) rfl (gaX_all hT V) (ga_ki (fun r6 hp5 hw => ?_))
  obtain ⟨hx0, hw⟩ := hw
  refine gi_if_eq V dJ0_init_db425_19 rfl rfl hx0 (fun q => ?_) (fun q => ?_)
  · have hw := ga_t q hw
    refine g_gets V V.z1 ww_5_3 dJ0_init_db425_41 rfl ?_
    refine gi_if_eq V dJ0_init_db425_44 rfl rfl (by decide) (fun q => ?_) (fun q => ?_)
    · exact absurd q (by decide)
    · refine g_aload_n V dJ0_init_db425_47 rfl rfl ?_
      obtain ⟨fs, r7, ha, hv, hw⟩ := hw
      refine g_get (C := RJ4) (T := TJ4) (N := 4) V 2 rfl hin_RJ4 (by decide) (by decide) ww_4_45 rfl ha hv dJ0_init_db425_48 rfl ?_
      obtain ⟨hx0, hw⟩ := hw
      refine gi_if_eq V dJ0_init_db425_51 rfl rfl hx0 (fun q => ?_) (fun q => ?_)
      · have hw := ga_t q hw
        refine g_less (bs := [true, false, false, true, true]) (lv2 := [some (.ref a0), none, none, some (.ref r2), some (gi r4)]) rfl ?_
        exact h_J0_init_db425_J79 a0 r2 r4 hp5 4 268 hw
      · have hw := ga_f q hw
        refine g_aload_n V dJ0_init_db425_54 rfl rfl ?_
        refine g_aload_n V dJ0_init_db425_55 rfl rfl ?_
        refine g_iconst V (Int32.ofInt 0) dJ0_init_db425_56 rfl rfl ?_
        refine g_iload V dJ0_init_db425_57 rfl rfl ?_
        exact hw.elim
  · have hw := ga_f q hw
    refine g_aload_n V dJ0_init_db425_22 rfl rfl ?_
    refine g_iconst V (Int32.ofInt 0) dJ0_init_db425_23 rfl rfl ?_
    obtain ⟨fs, ha, hl, hw⟩ := hw
    refine g_putF (C := RJ0) (T := TJ0) (N := 4) V 1 tyJ0 tyJ0_ok nmJ0 rfl hin_RJ0 (by decide) (by decide) ww_5_35 rfl rfl rfl rfl (by decide) rfl ha hl dJ0_init_db425_24 rfl ?_
    generalize gaUp hp5 a0 _ = hp8 at hw ⊢
    refine g_aload_n V dJ0_init_db425_27 rfl rfl ?_
    refine g_aload_n V dJ0_init_db425_28 rfl rfl ?_
    refine g_iconst V (Int32.ofInt 0) dJ0_init_db425_29 rfl rfl ?_
    refine g_iload V dJ0_init_db425_30 rfl rfl ?_
    obtain ⟨hk, hj, c11, s12, ec, es, hw⟩ := hw
    refine g_callS (st := [.ref a0]) V (k_J7_copyOfRange_39247 hst hw) ww_4_174 ww_4_175 ww_1_22 ww_4_176 hd_J7_copyOfRange_39247 ⟨by decide, by decide⟩ rfl rfl (ga_cat rfl) dJ0_init_db425_32 hk hj rfl (gaX_all hT V) (ga_ka (fun r10 hp9 hw => ?_))
    refine ga_re ec es ?_
    obtain ⟨fs, ha, hl, hw⟩ := hw
    refine g_putF (C := RJ0) (T := TJ0) (N := 4) V 0 tyJ0 tyJ0_ok nmJ0 rfl hin_RJ0 (by decide) (by decide) ww_5_34 rfl rfl rfl rfl rfl rfl ha hl dJ0_init_db425_35 rfl ?_
    generalize gaUp hp9 a0 _ = hp13 at hw ⊢
    refine g_goto V dJ0_init_db425_38 rfl ?_
    exact g_vret V rfl dJ0_init_db425_97 ⟨rfl, hw⟩
def w_J0_init_81219 (G : gaG) (a0 : Nat) (a1 : Nat) (h : gaH) (Q : gaH → Prop) : Prop := gCall 4 268 4 268 (fun c3 s4 => w_J0_init_db425 G a0 a1 h (fun hp1 => Q hp1))
abbrev rm_J0_init_81219 : Room := { frames := 5, cells := 4, slots := 268, locals := 130 }
theorem hd_J0_init_81219 : (yJ0_init_81219.cls ≠ "java/lang/invoke/MethodHandle" ∧ yJ0_init_81219.cls ≠ "java/lang/invoke/VarHandle" ∧ (parseMethodDescriptor yJ0_init_81219.desc).map (fun d => d.parameters.length) = some 1) := by decide +kernel
theorem k_J0_init_81219 {l : Launch} (hst : l.stackTraces = false) {G : gaG} {X : String → gaH → Prop} {a0 : Nat} {a1 : Nat} {h : gaH} {Q : gaH → Prop} (hw : w_J0_init_81219 G a0 a1 h Q) : gaC l G yJ0_init_81219 (gaM yJ0_init_81219 cJ0_init_81219 2 ((none : Option Jvm.ClassFile.FieldType))) rm_J0_init_81219 [.ref a0, .ref a1] h (gQv Q) X := by
  refine g_start (lv := [some (.ref a0), some (.ref a1)]) hpl_RJ0 hst (Nat.le_of_ble_eq_true rfl) (gaArgs_pad (z := 0) rfl) ww_4_155 ?_
  intro p e s m args below meth c V hT
  show gaP p l e rm_J0_init_81219 s m args below meth c G 2 (gaZ below G (gQv Q) X args s rm_J0_init_81219) 0 [some (.ref a0), some (.ref a1)] [] h 4 268
  unfold w_J0_init_81219 at hw
  refine g_aload_n V dJ0_init_81219_0 rfl rfl ?_
  refine g_aload_n V dJ0_init_81219_1 rfl rfl ?_
  refine g_aconst_null V dJ0_init_81219_2 rfl ?_
  obtain ⟨hk, hj, c3, s4, ec, es, hw⟩ := hw
  refine g_callI (st := []) V (k_J0_init_db425 hst hw) ww_4_156 ww_4_157 ww_1_19 ww_4_158 rfl hd_J0_init_db425 ⟨by decide, by decide⟩ rfl rfl (ga_cat rfl) dJ0_init_81219_3 hk hj rfl (gaX_all hT V) (ga_kv (fun hp1 hw => ?_))
  refine ga_re ec es ?_
  exact g_vret V rfl dJ0_init_81219_6 ⟨rfl, hw⟩
def w_J4_toString_0e30d (G : gaG) (a0 : Nat) (h : gaH) (Q : Nat → gaH → Prop) : Prop := gNO h 0 4 ([.null, gi 0, gi 0, gi 0]) 5 272 (fun o1 hp2 c3 s4 => gCall 4 268 c3 s4 (fun c7 s8 => w_J0_init_81219 G o1 a0 hp2 (fun hp5 => Q o1 hp5)))
abbrev rm_J4_toString_0e30d : Room := { frames := 6, cells := 5, slots := 272, locals := 151 }
theorem hd_J4_toString_0e30d : yJ4_toString_0e30d.cls = RJ4 ∧ (yJ4_toString_0e30d.cls ≠ "java/lang/invoke/MethodHandle" ∧ yJ4_toString_0e30d.cls ≠ "java/lang/invoke/VarHandle" ∧ (parseMethodDescriptor yJ4_toString_0e30d.desc).map (fun d => d.parameters.length) = some 0) := by decide +kernel
theorem k_J4_toString_0e30d {l : Launch} (hst : l.stackTraces = false) {G : gaG} {X : String → gaH → Prop} {a0 : Nat} {h : gaH} {Q : Nat → gaH → Prop} (hw : w_J4_toString_0e30d G a0 h Q) : gaC l G yJ4_toString_0e30d (gaM yJ4_toString_0e30d cJ4_toString_0e30d 1 ((some (.object "java/lang/String")))) rm_J4_toString_0e30d [.ref a0] h (gQa Q) X := by
  refine g_start (lv := [some (.ref a0)]) hpl_RJ4 hst (Nat.le_of_ble_eq_true rfl) (gaArgs_pad (z := 0) rfl) ww_4_150 ?_
  intro p e s m args below meth c V hT
  show gaP p l e rm_J4_toString_0e30d s m args below meth c G 1 (gaZ below G (gQa Q) X args s rm_J4_toString_0e30d) 0 [some (.ref a0)] [] h 5 272
  unfold w_J4_toString_0e30d at hw
  obtain ⟨hk, hj, hw⟩ := hw
  refine g_new (ci := 0) (C := RJ0) (T := TJ0) (N := 4) (fs := [.null, gi 0, gi 0, gi 0]) V tyJ0 tyJ0_ok rfl hin_RJ0 (by decide) ww_4_151 ww_4_152 ww_1_19 hdf_RJ0 dJ4_toString_0e30d_0 rfl hk hj (fun o1 hf => ?_)
  obtain ⟨c3, s4, ec, es, hw⟩ := hw o1 hf
  refine ga_re ec es ?_
  generalize gaUp h o1 _ = hp2 at hw ⊢
  refine g_dup V dJ4_toString_0e30d_3 rfl rfl ?_
  refine g_aload_n V dJ4_toString_0e30d_4 rfl rfl ?_
  obtain ⟨hk, hj, c7, s8, ec, es, hw⟩ := hw
  refine g_callI (st := [.ref o1]) V (k_J0_init_81219 hst hw) ww_4_153 ww_4_154 ww_1_19 ww_4_155 rfl hd_J0_init_81219 ⟨by decide, by decide⟩ rfl rfl (ga_cat rfl) dJ4_toString_0e30d_5 hk hj rfl (gaX_all hT V) (ga_kv (fun hp5 hw => ?_))
  refine ga_re ec es ?_
  exact g_aret V rfl (by first | exact Or.inl ⟨_, rfl⟩ | exact Or.inr ⟨_, rfl⟩) dJ4_toString_0e30d_8 ⟨_, rfl, hw⟩
def w_J6_stringSize_0f7a4_L16 (Q : Int → gaH → Prop) : Nat → (Int → Int → Int → Int → gaH → Prop)
  | 0 => fun _ _ _ _ _ => False
  | n + 1 => fun v0 v1 v2 v3 h => gR v3 ∧ (if 10 ≤ v3 then Q (10 + v1) h else gR v0 ∧ gR v2 ∧ (if v0 ≤ v2 then w_J6_stringSize_0f7a4_L16 Q n v0 v1 (10 * v2) (v3 + 1) h else Q (v3 + v1) h))
def w_J6_stringSize_0f7a4 (a0 : Int) (h : gaH) (Q : Int → gaH → Prop) : Prop := gR a0 ∧ (if a0 < 0 then ∃ z, w_J6_stringSize_0f7a4_L16 Q z a0 1 (-10) 1 h else ∃ z, w_J6_stringSize_0f7a4_L16 Q z (-a0) 0 (-10) 1 h)
abbrev rm_J6_stringSize_0f7a4 : Room := { frames := 0, cells := 0, slots := 0, locals := 0 }
theorem hd_J6_stringSize_0f7a4 : (yJ6_stringSize_0f7a4.cls ≠ "java/lang/invoke/MethodHandle" ∧ yJ6_stringSize_0f7a4.cls ≠ "java/lang/invoke/VarHandle" ∧ (parseMethodDescriptor yJ6_stringSize_0f7a4.desc).map (fun d => d.parameters.length) = some 1) := by decide +kernel
theorem k_J6_stringSize_0f7a4 {l : Launch} (hst : l.stackTraces = false) {G : gaG} {X : String → gaH → Prop} {a0 : Int} {h : gaH} {Q : Int → gaH → Prop} (hw : w_J6_stringSize_0f7a4 a0 h Q) : gaC l G yJ6_stringSize_0f7a4 (gaM yJ6_stringSize_0f7a4 cJ6_stringSize_0f7a4 4 ((some .int))) rm_J6_stringSize_0f7a4 [gi a0] h (gQi Q) X := by
  refine g_start (lv := [some (gi a0), none, none, none]) hpl_RJ6 hst (Nat.le_of_ble_eq_true rfl) (gaArgs_pad (z := 3) rfl) ww_4_195 ?_
  intro p e s m args below meth c V hT
  have h_J6_stringSize_0f7a4_L16 : ∀ (n : Nat), ∀ (v0 : Int) (v1 : Int) (v2 : Int) (v3 : Int) (h : gaH), w_J6_stringSize_0f7a4_L16 Q n v0 v1 v2 v3 h → gaP p l e rm_J6_stringSize_0f7a4 s m args below meth c G 4 (gaZ below G (gQi Q) X args s rm_J6_stringSize_0f7a4) 16 [some (gi v0), some (gi v1), some (gi v2), some (gi v3)] [] h 0 0 := by
    intro n
    induction n with
    | zero =>
      intro v0 v1 v2 v3 h hw
      exact hw.elim
    | succ n ih =>
      intro v0 v1 v2 v3 h hw
      unfold w_J6_stringSize_0f7a4_L16 at hw
      refine g_iload_n V dJ6_stringSize_0f7a4_16 rfl rfl ?_
      refine g_bipush V (Int32.ofInt 10) dJ6_stringSize_0f7a4_17 rfl rfl ?_
      obtain ⟨hx0, hw⟩ := hw
      refine gi_icmp_ge V dJ6_stringSize_0f7a4_19 rfl rfl hx0 (by decide) (fun q => ?_) (fun q => ?_)
      · have hw := ga_t q hw
        refine g_bipush V (Int32.ofInt 10) dJ6_stringSize_0f7a4_42 rfl rfl ?_
        refine g_iload_n V dJ6_stringSize_0f7a4_44 rfl rfl ?_
        refine gi_iadd V dJ6_stringSize_0f7a4_45 rfl ?_
        exact g_iret V rfl rfl dJ6_stringSize_0f7a4_46 ⟨_, rfl, hw⟩
      · have hw := ga_f q hw
        refine g_iload_n V dJ6_stringSize_0f7a4_22 rfl rfl ?_
        refine g_iload_n V dJ6_stringSize_0f7a4_23 rfl rfl ?_
        obtain ⟨hx0, hx1, hw⟩ := hw
        refine gi_icmp_le V dJ6_stringSize_0f7a4_24 rfl rfl hx0 hx1 (fun q => ?_) (fun q => ?_)
        · have hw := ga_t q hw
          refine g_bipush V (Int32.ofInt 10) dJ6_stringSize_0f7a4_31 rfl rfl ?_
          refine g_iload_n V dJ6_stringSize_0f7a4_33 rfl rfl ?_
          refine gi_imul V dJ6_stringSize_0f7a4_34 rfl ?_
          refine g_istore_n (lv2 := [some (gi v0), some (gi v1), some (gi (10 * v2)), some (gi v3)]) V dJ6_stringSize_0f7a4_35 (by decide) rfl rfl rfl ?_
          refine gi_iinc (lv2 := [some (gi v0), some (gi v1), some (gi (10 * v2)), some (gi (v3 + 1))]) V dJ6_stringSize_0f7a4_36 (by decide) rfl rfl rfl rfl ?_
          refine g_goto V dJ6_stringSize_0f7a4_39 rfl ?_
          exact ih v0 v1 (10 * v2) (v3 + 1) h hw
        · have hw := ga_f q hw
          refine g_iload_n V dJ6_stringSize_0f7a4_27 rfl rfl ?_
          refine g_iload_n V dJ6_stringSize_0f7a4_28 rfl rfl ?_
          refine gi_iadd V dJ6_stringSize_0f7a4_29 rfl ?_
          exact g_iret V rfl rfl dJ6_stringSize_0f7a4_30 ⟨_, rfl, hw⟩
  unfold w_J6_stringSize_0f7a4 at hw
  refine g_iconst V (Int32.ofInt 1) dJ6_stringSize_0f7a4_0 rfl rfl ?_
  refine g_istore_n (lv2 := [some (gi a0), some (gi 1), none, none]) V dJ6_stringSize_0f7a4_1 (by decide) rfl rfl rfl ?_
  refine g_iload_n V dJ6_stringSize_0f7a4_2 rfl rfl ?_
  obtain ⟨hx0, hw⟩ := hw
  refine gi_if_lt V dJ6_stringSize_0f7a4_3 rfl rfl hx0 (fun q => ?_) (fun q => ?_)
  · have hw := ga_t q hw
    refine g_bipush V (Int32.ofInt (-10)) dJ6_stringSize_0f7a4_11 rfl rfl ?_
    refine g_istore_n (lv2 := [some (gi a0), some (gi 1), some (gi (-10)), none]) V dJ6_stringSize_0f7a4_13 (by decide) rfl rfl rfl ?_
    refine g_iconst V (Int32.ofInt 1) dJ6_stringSize_0f7a4_14 rfl rfl ?_
    refine g_istore_n (lv2 := [some (gi a0), some (gi 1), some (gi (-10)), some (gi 1)]) V dJ6_stringSize_0f7a4_15 (by decide) rfl rfl rfl ?_
    obtain ⟨z, hw⟩ := hw
    exact h_J6_stringSize_0f7a4_L16 z a0 1 (-10) 1 h hw
  · have hw := ga_f q hw
    refine g_iconst V (Int32.ofInt 0) dJ6_stringSize_0f7a4_6 rfl rfl ?_
    refine g_istore_n (lv2 := [some (gi a0), some (gi 0), none, none]) V dJ6_stringSize_0f7a4_7 (by decide) rfl rfl rfl ?_
    refine g_iload_n V dJ6_stringSize_0f7a4_8 rfl rfl ?_
    refine gi_ineg V dJ6_stringSize_0f7a4_9 rfl ?_
    refine g_istore_n (lv2 := [some (gi (-a0)), some (gi 0), none, none]) V dJ6_stringSize_0f7a4_10 (by decide) rfl rfl rfl ?_
    refine g_bipush V (Int32.ofInt (-10)) dJ6_stringSize_0f7a4_11 rfl rfl ?_
    refine g_istore_n (lv2 := [some (gi (-a0)), some (gi 0), some (gi (-10)), none]) V dJ6_stringSize_0f7a4_13 (by decide) rfl rfl rfl ?_
    refine g_iconst V (Int32.ofInt 1) dJ6_stringSize_0f7a4_14 rfl rfl ?_
    refine g_istore_n (lv2 := [some (gi (-a0)), some (gi 0), some (gi (-10)), some (gi 1)]) V dJ6_stringSize_0f7a4_15 (by decide) rfl rfl rfl ?_
    obtain ⟨z, hw⟩ := hw
    exact h_J6_stringSize_0f7a4_L16 z (-a0) 0 (-10) 1 h hw
def w_J6_getChars_ba4f3_J104 (G : gaG) (Q : Int → gaH → Prop) (v2 : Nat) (v5 : Int) (v6 : Int) (h : gaH) : Prop := gR v6 ∧ (if v6 = 0 then Q v5 h else gSI h v2 101 (v5 + (-1)) (gi 45) (fun hp1 => Q (v5 + (-1)) hp1))
def w_J6_getChars_ba4f3_L22 (G : gaG) (Q : Int → gaH → Prop) : Nat → (Int → Nat → Int → Int → gaH → Prop)
  | 0 => fun _ _ _ _ _ => False
  | n + 1 => fun v0 v2 v5 v6 h => gR v0 ∧ (if (-100) < v0 then gLI h (G.2.2.2 1) 101 (-v0) (fun r1 => narrow .byte (gi r1) = gi r1 ∧ gSI h v2 101 (v5 + (-1)) (gi r1) (fun hp2 => gR v0 ∧ (if (-9) ≤ v0 then w_J6_getChars_ba4f3_J104 G Q v2 (v5 + (-1)) v6 hp2 else gLI hp2 (G.2.2.2 2) 101 (-v0) (fun r3 => narrow .byte (gi r3) = gi r3 ∧ gSI hp2 v2 101 ((v5 + (-1)) + (-1)) (gi r3) (fun hp4 => w_J6_getChars_ba4f3_J104 G Q v2 ((v5 + (-1)) + (-1)) v6 hp4))))) else gLI h (G.2.2.2 1) 101 (((gDiv v0 100) * 100) - v0) (fun r5 => narrow .byte (gi r5) = gi r5 ∧ gSI h v2 101 (v5 + (-1)) (gi r5) (fun hp6 => gLI hp6 (G.2.2.2 2) 101 (((gDiv v0 100) * 100) - v0) (fun r7 => narrow .byte (gi r7) = gi r7 ∧ gSI hp6 v2 101 ((v5 + (-1)) + (-1)) (gi r7) (fun hp8 => w_J6_getChars_ba4f3_L22 G Q n (gDiv v0 100) v2 ((v5 + (-1)) + (-1)) v6 hp8)))))
def w_J6_getChars_ba4f3_J12 (G : gaG) (Q : Int → gaH → Prop) (v0 : Int) (v2 : Nat) (v5 : Int) (t0 : Int) (h : gaH) : Prop := gR t0 ∧ (if t0 = 0 then ∃ z, w_J6_getChars_ba4f3_L22 G Q z (-v0) v2 v5 t0 h else ∃ z, w_J6_getChars_ba4f3_L22 G Q z v0 v2 v5 t0 h)
def w_J6_getChars_ba4f3 (G : gaG) (a0 : Int) (a1 : Int) (a2 : Nat) (h : gaH) (Q : Int → gaH → Prop) : Prop := gR a0 ∧ (if 0 ≤ a0 then w_J6_getChars_ba4f3_J12 G Q a0 a2 a1 0 h else w_J6_getChars_ba4f3_J12 G Q a0 a2 a1 1 h)
abbrev rm_J6_getChars_ba4f3 : Room := { frames := 0, cells := 0, slots := 0, locals := 0 }
theorem hd_J6_getChars_ba4f3 : (yJ6_getChars_ba4f3.cls ≠ "java/lang/invoke/MethodHandle" ∧ yJ6_getChars_ba4f3.cls ≠ "java/lang/invoke/VarHandle" ∧ (parseMethodDescriptor yJ6_getChars_ba4f3.desc).map (fun d => d.parameters.length) = some 3) := by decide +kernel
theorem k_J6_getChars_ba4f3 {l : Launch} (hst : l.stackTraces = false) {G : gaG} {X : String → gaH → Prop} {a0 : Int} {a1 : Int} {a2 : Nat} {h : gaH} {Q : Int → gaH → Prop} (hw : w_J6_getChars_ba4f3 G a0 a1 a2 h Q) : gaC l G yJ6_getChars_ba4f3 (gaM yJ6_getChars_ba4f3 cJ6_getChars_ba4f3 7 ((some .int))) rm_J6_getChars_ba4f3 [gi a0, gi a1, .ref a2] h (gQi Q) X := by
  refine g_start (lv := [some (gi a0), some (gi a1), some (.ref a2), none, none, none, none]) hpl_RJ6 hst (Nat.le_of_ble_eq_true rfl) (gaArgs_pad (z := 4) rfl) ww_4_198 ?_
  intro p e s m args below meth c V hT
  have h_J6_getChars_ba4f3_J104 : ∀ (v2 : Nat) (v5 : Int) (v6 : Int) (h : gaH), w_J6_getChars_ba4f3_J104 G Q v2 v5 v6 h → gaP p l e rm_J6_getChars_ba4f3 s m args below meth c G 7 (gaZ below G (gQi Q) X args s rm_J6_getChars_ba4f3) 104 [none, none, some (.ref v2), none, none, some (gi v5), some (gi v6)] [] h 0 0 := by
    intro v2 v5 v6 h hw
    unfold w_J6_getChars_ba4f3_J104 at hw
    refine g_iload V dJ6_getChars_ba4f3_104 rfl rfl ?_
    obtain ⟨hx0, hw⟩ := hw
    refine gi_if_eq V dJ6_getChars_ba4f3_106 rfl rfl hx0 (fun q => ?_) (fun q => ?_)
    · have hw := ga_t q hw
      refine g_iload V dJ6_getChars_ba4f3_118 rfl rfl ?_
      exact g_iret V rfl rfl dJ6_getChars_ba4f3_120 ⟨_, rfl, hw⟩
    · have hw := ga_f q hw
      refine g_aload_n V dJ6_getChars_ba4f3_109 rfl rfl ?_
      refine gi_iinc (lv2 := [none, none, some (.ref v2), none, none, some (gi (v5 + (-1))), some (gi v6)]) V dJ6_getChars_ba4f3_110 (by decide) rfl rfl rfl rfl ?_
      refine g_iload V dJ6_getChars_ba4f3_113 rfl rfl ?_
      refine g_bipush V (Int32.ofInt 45) dJ6_getChars_ba4f3_115 rfl rfl ?_
      obtain ⟨vs, ha, h0, h9, hi, hw⟩ := hw
      refine gi_bastoreB V (by decide) ha h0 h9 hi dJ6_getChars_ba4f3_117 rfl ?_
      generalize gaUp h v2 _ = hp1 at hw ⊢
      refine g_iload V dJ6_getChars_ba4f3_118 rfl rfl ?_
      exact g_iret V rfl rfl dJ6_getChars_ba4f3_120 ⟨_, rfl, hw⟩
  have h_J6_getChars_ba4f3_L22 : ∀ (n : Nat), ∀ (v0 : Int) (v2 : Nat) (v5 : Int) (v6 : Int) (h : gaH), w_J6_getChars_ba4f3_L22 G Q n v0 v2 v5 v6 h → gaP p l e rm_J6_getChars_ba4f3 s m args below meth c G 7 (gaZ below G (gQi Q) X args s rm_J6_getChars_ba4f3) 22 [some (gi v0), none, some (.ref v2), none, none, some (gi v5), some (gi v6)] [] h 0 0 := by
    intro n
    induction n with
    | zero =>
      intro v0 v2 v5 v6 h hw
      exact hw.elim
    | succ n ih =>
      intro v0 v2 v5 v6 h hw
      unfold w_J6_getChars_ba4f3_L22 at hw
      refine g_iload_n V dJ6_getChars_ba4f3_22 rfl rfl ?_
      refine g_bipush V (Int32.ofInt (-100)) dJ6_getChars_ba4f3_23 rfl rfl ?_
      obtain ⟨hx0, hw⟩ := hw
      refine gi_icmp_gt V dJ6_getChars_ba4f3_25 rfl rfl hx0 (by decide) (fun q => ?_) (fun q => ?_)
      · have hw := ga_t q hw
        refine g_aload_n V dJ6_getChars_ba4f3_72 rfl rfl ?_
        refine gi_iinc (lv2 := [some (gi v0), none, some (.ref v2), none, none, some (gi (v5 + (-1))), some (gi v6)]) V dJ6_getChars_ba4f3_73 (by decide) rfl rfl rfl rfl ?_
        refine g_iload V dJ6_getChars_ba4f3_76 rfl rfl ?_
        refine g_gets V V.z2 ww_4_199 dJ6_getChars_ba4f3_78 rfl ?_
        refine g_iload_n V dJ6_getChars_ba4f3_81 rfl rfl ?_
        refine gi_ineg V dJ6_getChars_ba4f3_82 rfl ?_
        obtain ⟨t9, vs, r1, ha, ht, h0, h9, hv, hw⟩ := hw
        refine gi_baloadB V ha ht h0 h9 hv dJ6_getChars_ba4f3_83 rfl ?_
        obtain ⟨hb, hw⟩ := hw
        obtain ⟨vs, ha, h0, h9, hi, hw⟩ := hw
        refine gi_bastoreB V hb ha h0 h9 hi dJ6_getChars_ba4f3_84 rfl ?_
        generalize gaUp h v2 _ = hp2 at hw ⊢
        refine g_iload_n V dJ6_getChars_ba4f3_85 rfl rfl ?_
        refine g_bipush V (Int32.ofInt (-9)) dJ6_getChars_ba4f3_86 rfl rfl ?_
        obtain ⟨hx0, hw⟩ := hw
        refine gi_icmp_ge V dJ6_getChars_ba4f3_88 rfl rfl hx0 (by decide) (fun q => ?_) (fun q => ?_)
        · have hw := ga_t q hw
          refine g_less (bs := [false, true, true, true, true, true, true]) (lv2 := [none, none, some (.ref v2), none, none, some (gi (v5 + (-1))), some (gi v6)]) rfl ?_
          exact h_J6_getChars_ba4f3_J104 v2 (v5 + (-1)) v6 hp2 hw
        · have hw := ga_f q hw
          refine g_aload_n V dJ6_getChars_ba4f3_91 rfl rfl ?_
          refine gi_iinc (lv2 := [some (gi v0), none, some (.ref v2), none, none, some (gi ((v5 + (-1)) + (-1))), some (gi v6)]) V dJ6_getChars_ba4f3_92 (by decide) rfl rfl rfl rfl ?_
          refine g_iload V dJ6_getChars_ba4f3_95 rfl rfl ?_
          refine g_gets V V.z3 ww_4_201 dJ6_getChars_ba4f3_97 rfl ?_
          refine g_iload_n V dJ6_getChars_ba4f3_100 rfl rfl ?_
          refine gi_ineg V dJ6_getChars_ba4f3_101 rfl ?_
          obtain ⟨t9, vs, r3, ha, ht, h0, h9, hv, hw⟩ := hw
          refine gi_baloadB V ha ht h0 h9 hv dJ6_getChars_ba4f3_102 rfl ?_
          obtain ⟨hb, hw⟩ := hw
          obtain ⟨vs, ha, h0, h9, hi, hw⟩ := hw
          refine gi_bastoreB V hb ha h0 h9 hi dJ6_getChars_ba4f3_103 rfl ?_
          generalize gaUp hp2 v2 _ = hp4 at hw ⊢
          refine g_less (bs := [false, true, true, true, true, true, true]) (lv2 := [none, none, some (.ref v2), none, none, some (gi ((v5 + (-1)) + (-1))), some (gi v6)]) rfl ?_
          exact h_J6_getChars_ba4f3_J104 v2 ((v5 + (-1)) + (-1)) v6 hp4 hw
      · have hw := ga_f q hw
        refine g_iload_n V dJ6_getChars_ba4f3_28 rfl rfl ?_
        refine g_bipush V (Int32.ofInt 100) dJ6_getChars_ba4f3_29 rfl rfl ?_
        refine gi_idiv V dJ6_getChars_ba4f3_31 (by decide) (by decide) rfl ?_
        refine g_istore_n (lv2 := [some (gi v0), none, some (.ref v2), some (gi (gDiv v0 100)), none, some (gi v5), some (gi v6)]) V dJ6_getChars_ba4f3_32 (by decide) rfl rfl rfl ?_
        refine g_iload_n V dJ6_getChars_ba4f3_33 rfl rfl ?_
        refine g_bipush V (Int32.ofInt 100) dJ6_getChars_ba4f3_34 rfl rfl ?_
        refine gi_imul V dJ6_getChars_ba4f3_36 rfl ?_
        refine g_iload_n V dJ6_getChars_ba4f3_37 rfl rfl ?_
        refine gi_isub V dJ6_getChars_ba4f3_38 rfl ?_
        refine g_istore (lv2 := [some (gi v0), none, some (.ref v2), some (gi (gDiv v0 100)), some (gi (((gDiv v0 100) * 100) - v0)), some (gi v5), some (gi v6)]) V dJ6_getChars_ba4f3_39 (by decide) rfl rfl rfl ?_
        refine g_iload_n V dJ6_getChars_ba4f3_41 rfl rfl ?_
        refine g_istore_n (lv2 := [some (gi (gDiv v0 100)), none, some (.ref v2), some (gi (gDiv v0 100)), some (gi (((gDiv v0 100) * 100) - v0)), some (gi v5), some (gi v6)]) V dJ6_getChars_ba4f3_42 (by decide) rfl rfl rfl ?_
        refine g_aload_n V dJ6_getChars_ba4f3_43 rfl rfl ?_
        refine gi_iinc (lv2 := [some (gi (gDiv v0 100)), none, some (.ref v2), some (gi (gDiv v0 100)), some (gi (((gDiv v0 100) * 100) - v0)), some (gi (v5 + (-1))), some (gi v6)]) V dJ6_getChars_ba4f3_44 (by decide) rfl rfl rfl rfl ?_
        refine g_iload V dJ6_getChars_ba4f3_47 rfl rfl ?_
        refine g_gets V V.z2 ww_4_199 dJ6_getChars_ba4f3_49 rfl ?_
        refine g_iload V dJ6_getChars_ba4f3_52 rfl rfl ?_
        obtain ⟨t9, vs, r5, ha, ht, h0, h9, hv, hw⟩ := hw
        refine gi_baloadB V ha ht h0 h9 hv dJ6_getChars_ba4f3_54 rfl ?_
        obtain ⟨hb, hw⟩ := hw
        obtain ⟨vs, ha, h0, h9, hi, hw⟩ := hw
        refine gi_bastoreB V hb ha h0 h9 hi dJ6_getChars_ba4f3_55 rfl ?_
        generalize gaUp h v2 _ = hp6 at hw ⊢
        refine g_aload_n V dJ6_getChars_ba4f3_56 rfl rfl ?_
        refine gi_iinc (lv2 := [some (gi (gDiv v0 100)), none, some (.ref v2), some (gi (gDiv v0 100)), some (gi (((gDiv v0 100) * 100) - v0)), some (gi ((v5 + (-1)) + (-1))), some (gi v6)]) V dJ6_getChars_ba4f3_57 (by decide) rfl rfl rfl rfl ?_
        refine g_iload V dJ6_getChars_ba4f3_60 rfl rfl ?_
        refine g_gets V V.z3 ww_4_201 dJ6_getChars_ba4f3_62 rfl ?_
        refine g_iload V dJ6_getChars_ba4f3_65 rfl rfl ?_
        obtain ⟨t9, vs, r7, ha, ht, h0, h9, hv, hw⟩ := hw
        refine gi_baloadB V ha ht h0 h9 hv dJ6_getChars_ba4f3_67 rfl ?_
        obtain ⟨hb, hw⟩ := hw
        obtain ⟨vs, ha, h0, h9, hi, hw⟩ := hw
        refine gi_bastoreB V hb ha h0 h9 hi dJ6_getChars_ba4f3_68 rfl ?_
        generalize gaUp hp6 v2 _ = hp8 at hw ⊢
        refine g_goto V dJ6_getChars_ba4f3_69 rfl ?_
        refine g_less (bs := [true, true, true, false, false, true, true]) (lv2 := [some (gi (gDiv v0 100)), none, some (.ref v2), none, none, some (gi ((v5 + (-1)) + (-1))), some (gi v6)]) rfl ?_
        exact ih (gDiv v0 100) v2 ((v5 + (-1)) + (-1)) v6 hp8 hw
  have h_J6_getChars_ba4f3_J12 : ∀ (v0 : Int) (v2 : Nat) (v5 : Int) (t0 : Int) (h : gaH), w_J6_getChars_ba4f3_J12 G Q v0 v2 v5 t0 h → gaP p l e rm_J6_getChars_ba4f3 s m args below meth c G 7 (gaZ below G (gQi Q) X args s rm_J6_getChars_ba4f3) 12 [some (gi v0), none, some (.ref v2), none, none, some (gi v5), none] [gi t0] h 0 0 := by
    intro v0 v2 v5 t0 h hw
    unfold w_J6_getChars_ba4f3_J12 at hw
    refine g_istore (lv2 := [some (gi v0), none, some (.ref v2), none, none, some (gi v5), some (gi t0)]) V dJ6_getChars_ba4f3_12 (by decide) rfl rfl rfl ?_
    refine g_iload V dJ6_getChars_ba4f3_14 rfl rfl ?_
    obtain ⟨hx0, hw⟩ := hw
    refine gi_if_ne V dJ6_getChars_ba4f3_16 rfl rfl hx0 (fun q => ?_) (fun q => ?_)
    · have hw := ga_f q hw
      obtain ⟨z, hw⟩ := hw
      exact h_J6_getChars_ba4f3_L22 z v0 v2 v5 t0 h hw
    · have hw := ga_t q hw
      refine g_iload_n V dJ6_getChars_ba4f3_19 rfl rfl ?_
      refine gi_ineg V dJ6_getChars_ba4f3_20 rfl ?_
      refine g_istore_n (lv2 := [some (gi (-v0)), none, some (.ref v2), none, none, some (gi v5), some (gi t0)]) V dJ6_getChars_ba4f3_21 (by decide) rfl rfl rfl ?_
      obtain ⟨z, hw⟩ := hw
      exact h_J6_getChars_ba4f3_L22 z (-v0) v2 v5 t0 h hw
  unfold w_J6_getChars_ba4f3 at hw
  refine g_iload_n V dJ6_getChars_ba4f3_0 rfl rfl ?_
  refine g_istore (lv2 := [some (gi a0), some (gi a1), some (.ref a2), none, none, some (gi a1), none]) V dJ6_getChars_ba4f3_1 (by decide) rfl rfl rfl ?_
  refine g_iload_n V dJ6_getChars_ba4f3_3 rfl rfl ?_
  obtain ⟨hx0, hw⟩ := hw
  refine gi_if_ge V dJ6_getChars_ba4f3_4 rfl rfl hx0 (fun q => ?_) (fun q => ?_)
  · have hw := ga_t q hw
    refine g_iconst V (Int32.ofInt 0) dJ6_getChars_ba4f3_11 rfl rfl ?_
    refine g_less (bs := [true, false, true, true, true, true, true]) (lv2 := [some (gi a0), none, some (.ref a2), none, none, some (gi a1), none]) rfl ?_
    exact h_J6_getChars_ba4f3_J12 a0 a2 a1 0 h hw
  · have hw := ga_f q hw
    refine g_iconst V (Int32.ofInt 1) dJ6_getChars_ba4f3_7 rfl rfl ?_
    refine g_goto V dJ6_getChars_ba4f3_8 rfl ?_
    refine g_less (bs := [true, false, true, true, true, true, true]) (lv2 := [some (gi a0), none, some (.ref a2), none, none, some (gi a1), none]) rfl ?_
    exact h_J6_getChars_ba4f3_J12 a0 a2 a1 1 h hw
def w_J5_append_c97b9 (G : gaG) (a0 : Nat) (a1 : Int) (h : gaH) (Q : Nat → gaH → Prop) : Prop := gI h a0 1 3 (fun r1 => w_J6_stringSize_0f7a4 a1 h (fun r3 hp2 => gHas hp2 a0 1 ∧ gCall 2 134 2 134 (fun c6 s7 => w_J5_ensureCapacityInternal_d00df a0 (r1 + r3) hp2 (fun hp4 => gHas hp4 a0 1 ∧ w_J5_isLatin1_aae02 G a0 hp4 (fun r9 hp8 => gR r9 ∧ (if r9 = 0 then gA hp8 a0 1 0 (fun r10 => False) else gA hp8 a0 1 0 (fun r11 => w_J6_getChars_ba4f3 G a1 (r1 + r3) r11 hp8 (fun r13 hp12 => gPF hp12 a0 1 3 (gi (r1 + r3)) (fun hp14 => Q a0 hp14)))))))))
abbrev rm_J5_append_c97b9 : Room := { frames := 5, cells := 2, slots := 134, locals := 130 }
theorem hd_J5_append_c97b9 : yJ5_append_c97b9.cls = RJ5 ∧ (yJ5_append_c97b9.cls ≠ "java/lang/invoke/MethodHandle" ∧ yJ5_append_c97b9.cls ≠ "java/lang/invoke/VarHandle" ∧ (parseMethodDescriptor yJ5_append_c97b9.desc).map (fun d => d.parameters.length) = some 1) := by decide +kernel
theorem hdo_J5_append_c97b9 : "java/lang/AbstractStringBuilder" ≠ "java/lang/invoke/MethodHandle" ∧ "java/lang/AbstractStringBuilder" ≠ "java/lang/invoke/VarHandle" ∧ (parseMethodDescriptor yJ5_append_c97b9.desc).map (fun d => d.parameters.length) = some 1 := by decide +kernel
theorem hdu_J5_append_c97b9 : yJ5_append_c97b9.name ≠ "<init>" ∧ (parseMethodDescriptor yJ5_append_c97b9.desc).map (fun d => d.parameters.length) = some 1 := by decide +kernel
theorem k_J5_append_c97b9 {l : Launch} (hst : l.stackTraces = false) {G : gaG} {X : String → gaH → Prop} {a0 : Nat} {a1 : Int} {h : gaH} {Q : Nat → gaH → Prop} (hw : w_J5_append_c97b9 G a0 a1 h Q) : gaC l G yJ5_append_c97b9 (gaM yJ5_append_c97b9 cJ5_append_c97b9 4 ((some (.object "java/lang/AbstractStringBuilder")))) rm_J5_append_c97b9 [.ref a0, gi a1] h (gQa Q) X := by
  refine g_start (lv := [some (.ref a0), some (gi a1), none, none]) hpl_RJ5 hst (Nat.le_of_ble_eq_true rfl) (gaArgs_pad (z := 2) rfl) ww_4_192 ?_
  intro p e s m args below meth c V hT
  show gaP p l e rm_J5_append_c97b9 s m args below meth c G 4 (gaZ below G (gQa Q) X args s rm_J5_append_c97b9) 0 [some (.ref a0), some (gi a1), none, none] [] h 2 134
  unfold w_J5_append_c97b9 at hw
  refine g_aload_n V dJ5_append_c97b9_0 rfl rfl ?_
  obtain ⟨fs, r1, ha, hv, hw⟩ := hw
  refine g_get (C := RJ4) (T := TJ4) (N := 4) V 3 rfl hin_RJ4 (by decide) (by decide) ww_4_46 rfl ha hv dJ5_append_c97b9_1 rfl ?_
  refine g_istore_n (lv2 := [some (.ref a0), some (gi a1), some (gi r1), none]) V dJ5_append_c97b9_4 (by decide) rfl rfl rfl ?_
  refine g_iload_n V dJ5_append_c97b9_5 rfl rfl ?_
  refine g_iload_n V dJ5_append_c97b9_6 rfl rfl ?_
  refine g_callS (st := [gi r1]) V (k_J6_stringSize_0f7a4 hst hw) ww_4_193 ww_4_194 ww_1_14 ww_4_195 hd_J6_stringSize_0f7a4 ⟨by decide, by decide⟩ rfl rfl (ga_cat rfl) dJ5_append_c97b9_7 (Nat.zero_le _) (Nat.zero_le _) rfl (gaX_all hT V) (ga_ki (fun r3 hp2 hw => ?_))
  refine gi_iadd V dJ5_append_c97b9_10 rfl ?_
  refine g_istore_n (lv2 := [some (.ref a0), some (gi a1), some (gi r1), some (gi (r1 + r3))]) V dJ5_append_c97b9_11 (by decide) rfl rfl rfl ?_
  refine g_aload_n V dJ5_append_c97b9_12 rfl rfl ?_
  refine g_iload_n V dJ5_append_c97b9_13 rfl rfl ?_
  obtain ⟨hb, hw⟩ := hw
  obtain ⟨fb, hb⟩ := hb
  obtain ⟨hk, hj, c6, s7, ec, es, hw⟩ := hw
  refine g_callU (C := RJ4) (T := TJ4) (N := 4) (st := []) V (k_J5_ensureCapacityInternal_d00df hst hw) ww_4_63 ww_7_88 ww_4_65 wq_0 ww_1_17 ww_4_66 rfl hdo_J5_ensureCapacityInternal_d00df ⟨by decide, by decide⟩ rfl (by decide) hb rfl rfl (ga_cat rfl) dJ5_append_c97b9_14 hk hj rfl (gaX_all hT V) (ga_kv (fun hp4 hw => ?_))
  refine ga_re ec es ?_
  refine g_aload_n V dJ5_append_c97b9_17 rfl rfl ?_
  obtain ⟨hb, hw⟩ := hw
  obtain ⟨fb, hb⟩ := hb
  refine g_callU (C := RJ4) (T := TJ4) (N := 4) (st := []) V (k_J5_isLatin1_aae02 hst hw) ww_4_94 ww_4_96 ww_4_95 ww_4_97 ww_1_17 ww_4_98 rfl hdo_J5_isLatin1_aae02 ⟨by decide, by decide⟩ rfl (by decide) hb rfl rfl (ga_cat rfl) dJ5_append_c97b9_18 (Nat.zero_le _) (Nat.zero_le _) rfl (gaX_all hT V) (ga_ki (fun r9 hp8 hw => ?_))
  obtain ⟨hx0, hw⟩ := hw
  refine gi_if_eq V dJ5_append_c97b9_21 rfl rfl hx0 (fun q => ?_) (fun q => ?_)
  · have hw := ga_t q hw
    refine g_iload_n V dJ5_append_c97b9_37 rfl rfl ?_
    refine g_iload_n V dJ5_append_c97b9_38 rfl rfl ?_
    refine g_iload_n V dJ5_append_c97b9_39 rfl rfl ?_
    refine g_aload_n V dJ5_append_c97b9_40 rfl rfl ?_
    obtain ⟨fs, r10, ha, hv, hw⟩ := hw
    refine g_get (C := RJ4) (T := TJ4) (N := 4) V 0 rfl hin_RJ4 (by decide) (by decide) ww_4_43 rfl ha hv dJ5_append_c97b9_41 rfl ?_
    exact hw.elim
  · have hw := ga_f q hw
    refine g_iload_n V dJ5_append_c97b9_24 rfl rfl ?_
    refine g_iload_n V dJ5_append_c97b9_25 rfl rfl ?_
    refine g_aload_n V dJ5_append_c97b9_26 rfl rfl ?_
    obtain ⟨fs, r11, ha, hv, hw⟩ := hw
    refine g_get (C := RJ4) (T := TJ4) (N := 4) V 0 rfl hin_RJ4 (by decide) (by decide) ww_4_43 rfl ha hv dJ5_append_c97b9_27 rfl ?_
    refine g_callS (st := []) V (k_J6_getChars_ba4f3 hst hw) ww_4_196 ww_4_197 ww_1_14 ww_4_198 hd_J6_getChars_ba4f3 ⟨by decide, by decide⟩ rfl rfl (ga_cat rfl) dJ5_append_c97b9_30 (Nat.zero_le _) (Nat.zero_le _) rfl (gaX_all hT V) (ga_ki (fun r13 hp12 hw => ?_))
    refine g_pop V dJ5_append_c97b9_33 rfl rfl ?_
    refine g_goto V dJ5_append_c97b9_34 rfl ?_
    refine g_aload_n V dJ5_append_c97b9_48 rfl rfl ?_
    refine g_iload_n V dJ5_append_c97b9_49 rfl rfl ?_
    obtain ⟨fs, ha, hl, hw⟩ := hw
    refine g_put (C := RJ4) (T := TJ4) (N := 4) V 3 tyJ4 tyJ4_ok nmJ4 rfl hin_RJ4 (by decide) (by decide) ww_4_46 rfl rfl rfl rfl ha hl dJ5_append_c97b9_50 rfl ?_
    generalize gaUp hp12 a0 _ = hp14 at hw ⊢
    refine g_aload_n V dJ5_append_c97b9_53 rfl rfl ?_
    exact g_aret V rfl (by first | exact Or.inl ⟨_, rfl⟩ | exact Or.inr ⟨_, rfl⟩) dJ5_append_c97b9_54 ⟨_, rfl, hw⟩
def w_J4_append_bf812 (G : gaG) (a0 : Nat) (a1 : Int) (h : gaH) (Q : Nat → gaH → Prop) : Prop := gHas h a0 1 ∧ gCall 2 134 2 134 (fun c3 s4 => w_J5_append_c97b9 G a0 a1 h (fun r2 hp1 => Q a0 hp1))
abbrev rm_J4_append_bf812 : Room := { frames := 6, cells := 2, slots := 134, locals := 153 }
theorem hd_J4_append_bf812 : yJ4_append_bf812.cls = RJ4 ∧ (yJ4_append_bf812.cls ≠ "java/lang/invoke/MethodHandle" ∧ yJ4_append_bf812.cls ≠ "java/lang/invoke/VarHandle" ∧ (parseMethodDescriptor yJ4_append_bf812.desc).map (fun d => d.parameters.length) = some 1) := by decide +kernel
theorem k_J4_append_bf812 {l : Launch} (hst : l.stackTraces = false) {G : gaG} {X : String → gaH → Prop} {a0 : Nat} {a1 : Int} {h : gaH} {Q : Nat → gaH → Prop} (hw : w_J4_append_bf812 G a0 a1 h Q) : gaC l G yJ4_append_bf812 (gaM yJ4_append_bf812 cJ4_append_bf812 2 ((some (.object "java/lang/StringBuilder")))) rm_J4_append_bf812 [.ref a0, gi a1] h (gQa Q) X := by
  refine g_start (lv := [some (.ref a0), some (gi a1)]) hpl_RJ4 hst (Nat.le_of_ble_eq_true rfl) (gaArgs_pad (z := 0) rfl) ww_4_189 ?_
  intro p e s m args below meth c V hT
  show gaP p l e rm_J4_append_bf812 s m args below meth c G 2 (gaZ below G (gQa Q) X args s rm_J4_append_bf812) 0 [some (.ref a0), some (gi a1)] [] h 2 134
  unfold w_J4_append_bf812 at hw
  refine g_aload_n V dJ4_append_bf812_0 rfl rfl ?_
  refine g_iload_n V dJ4_append_bf812_1 rfl rfl ?_
  obtain ⟨hb, hw⟩ := hw
  obtain ⟨fb, hb⟩ := hb
  obtain ⟨hk, hj, c3, s4, ec, es, hw⟩ := hw
  refine g_callSU (C := RJ4) (T := TJ4) (N := 4) (st := []) V (k_J5_append_c97b9 hst hw) ww_4_190 ww_7_91 ww_4_55 ww_4_191 ww_1_17 ww_4_192 hdu_J5_append_c97b9 ⟨by decide, by decide⟩ rfl (by decide) hb rfl rfl (ga_cat rfl) dJ4_append_bf812_2 hk hj rfl (gaX_all hT V) (ga_ka (fun r2 hp1 hw => ?_))
  refine ga_re ec es ?_
  refine g_pop V dJ4_append_bf812_5 rfl rfl ?_
  refine g_aload_n V dJ4_append_bf812_6 rfl rfl ?_
  exact g_aret V rfl (by first | exact Or.inl ⟨_, rfl⟩ | exact Or.inr ⟨_, rfl⟩) dJ4_append_bf812_7 ⟨_, rfl, hw⟩
def w_J1_equals_b5fdf_L9 (Q : Int → gaH → Prop) : Nat → (Nat → Nat → Int → gaH → Prop)
  | 0 => fun _ _ _ _ => False
  | n + 1 => fun v0 v1 v2 h => gAL h v0 101 (fun r1 => gR v2 ∧ gR r1 ∧ (if r1 ≤ v2 then Q 1 h else gLI h v0 101 v2 (fun r2 => gLI h v1 101 v2 (fun r3 => gR r2 ∧ gR r3 ∧ (if r2 = r3 then w_J1_equals_b5fdf_L9 Q n v0 v1 (v2 + 1) h else Q 0 h)))))
def w_J1_equals_b5fdf (a0 : Nat) (a1 : Nat) (h : gaH) (Q : Int → gaH → Prop) : Prop := gAL h a0 101 (fun r1 => gAL h a1 101 (fun r2 => gR r1 ∧ gR r2 ∧ (if r1 = r2 then ∃ z, w_J1_equals_b5fdf_L9 Q z a0 a1 0 h else Q 0 h)))
abbrev rm_J1_equals_b5fdf : Room := { frames := 0, cells := 0, slots := 0, locals := 0 }
theorem hd_J1_equals_b5fdf : (yJ1_equals_b5fdf.cls ≠ "java/lang/invoke/MethodHandle" ∧ yJ1_equals_b5fdf.cls ≠ "java/lang/invoke/VarHandle" ∧ (parseMethodDescriptor yJ1_equals_b5fdf.desc).map (fun d => d.parameters.length) = some 2) := by decide +kernel
theorem k_J1_equals_b5fdf {l : Launch} (hst : l.stackTraces = false) {G : gaG} {X : String → gaH → Prop} {a0 : Nat} {a1 : Nat} {h : gaH} {Q : Int → gaH → Prop} (hw : w_J1_equals_b5fdf a0 a1 h Q) : gaC l G yJ1_equals_b5fdf (gaM yJ1_equals_b5fdf cJ1_equals_b5fdf 3 ((some .boolean))) rm_J1_equals_b5fdf [.ref a0, .ref a1] h (gQi Q) X := by
  refine g_start (lv := [some (.ref a0), some (.ref a1), none]) hpl_RJ1 hst (Nat.le_of_ble_eq_true rfl) (gaArgs_pad (z := 1) rfl) ww_7_85 ?_
  intro p e s m args below meth c V hT
  have h_J1_equals_b5fdf_L9 : ∀ (n : Nat), ∀ (v0 : Nat) (v1 : Nat) (v2 : Int) (h : gaH), w_J1_equals_b5fdf_L9 Q n v0 v1 v2 h → gaP p l e rm_J1_equals_b5fdf s m args below meth c G 3 (gaZ below G (gQi Q) X args s rm_J1_equals_b5fdf) 9 [some (.ref v0), some (.ref v1), some (gi v2)] [] h 0 0 := by
    intro n
    induction n with
    | zero =>
      intro v0 v1 v2 h hw
      exact hw.elim
    | succ n ih =>
      intro v0 v1 v2 h hw
      unfold w_J1_equals_b5fdf_L9 at hw
      refine g_iload_n V dJ1_equals_b5fdf_9 rfl rfl ?_
      refine g_aload_n V dJ1_equals_b5fdf_10 rfl rfl ?_
      obtain ⟨t9, vs, ha, ht, hw⟩ := hw
      refine gi_arraylength (t0 := 101) V (by simp [gaT]) ha ht dJ1_equals_b5fdf_11 rfl ?_
      generalize (vs.length : Int) = r1 at hw ⊢
      obtain ⟨hx0, hx1, hw⟩ := hw
      refine gi_icmp_ge V dJ1_equals_b5fdf_12 rfl rfl hx0 hx1 (fun q => ?_) (fun q => ?_)
      · have hw := ga_t q hw
        refine g_iconst V (Int32.ofInt 1) dJ1_equals_b5fdf_32 rfl rfl ?_
        exact g_iret V rfl rfl dJ1_equals_b5fdf_33 ⟨_, rfl, hw⟩
      · have hw := ga_f q hw
        refine g_aload_n V dJ1_equals_b5fdf_15 rfl rfl ?_
        refine g_iload_n V dJ1_equals_b5fdf_16 rfl rfl ?_
        obtain ⟨t9, vs, r2, ha, ht, h0, h9, hv, hw⟩ := hw
        refine gi_baloadB V ha ht h0 h9 hv dJ1_equals_b5fdf_17 rfl ?_
        refine g_aload_n V dJ1_equals_b5fdf_18 rfl rfl ?_
        refine g_iload_n V dJ1_equals_b5fdf_19 rfl rfl ?_
        obtain ⟨t9, vs, r3, ha, ht, h0, h9, hv, hw⟩ := hw
        refine gi_baloadB V ha ht h0 h9 hv dJ1_equals_b5fdf_20 rfl ?_
        obtain ⟨hx0, hx1, hw⟩ := hw
        refine gi_icmp_eq V dJ1_equals_b5fdf_21 rfl rfl hx0 hx1 (fun q => ?_) (fun q => ?_)
        · have hw := ga_t q hw
          refine gi_iinc (lv2 := [some (.ref v0), some (.ref v1), some (gi (v2 + 1))]) V dJ1_equals_b5fdf_26 (by decide) rfl rfl rfl rfl ?_
          refine g_goto V dJ1_equals_b5fdf_29 rfl ?_
          exact ih v0 v1 (v2 + 1) h hw
        · have hw := ga_f q hw
          refine g_iconst V (Int32.ofInt 0) dJ1_equals_b5fdf_24 rfl rfl ?_
          exact g_iret V rfl rfl dJ1_equals_b5fdf_25 ⟨_, rfl, hw⟩
  unfold w_J1_equals_b5fdf at hw
  refine g_aload_n V dJ1_equals_b5fdf_0 rfl rfl ?_
  obtain ⟨t9, vs, ha, ht, hw⟩ := hw
  refine gi_arraylength (t0 := 101) V (by simp [gaT]) ha ht dJ1_equals_b5fdf_1 rfl ?_
  generalize (vs.length : Int) = r1 at hw ⊢
  refine g_aload_n V dJ1_equals_b5fdf_2 rfl rfl ?_
  obtain ⟨t9, vs, ha, ht, hw⟩ := hw
  refine gi_arraylength (t0 := 101) V (by simp [gaT]) ha ht dJ1_equals_b5fdf_3 rfl ?_
  generalize (vs.length : Int) = r2 at hw ⊢
  obtain ⟨hx0, hx1, hw⟩ := hw
  refine gi_icmp_ne V dJ1_equals_b5fdf_4 rfl rfl hx0 hx1 (fun q => ?_) (fun q => ?_)
  · have hw := ga_f q hw
    refine g_iconst V (Int32.ofInt 0) dJ1_equals_b5fdf_34 rfl rfl ?_
    exact g_iret V rfl rfl dJ1_equals_b5fdf_35 ⟨_, rfl, hw⟩
  · have hw := ga_t q hw
    refine g_iconst V (Int32.ofInt 0) dJ1_equals_b5fdf_7 rfl rfl ?_
    refine g_istore_n (lv2 := [some (.ref a0), some (.ref a1), some (gi 0)]) V dJ1_equals_b5fdf_8 (by decide) rfl rfl rfl ?_
    obtain ⟨z, hw⟩ := hw
    exact h_J1_equals_b5fdf_L9 z a0 a1 0 h hw
def w_J0_equals_9ea2d_J36 (G : gaG) (Q : Int → gaH → Prop) (v0 : Nat) (v2 : Nat) (h : gaH) : Prop := gA h v0 0 0 (fun r1 => gA h v2 0 0 (fun r2 => w_J1_equals_b5fdf r1 r2 h (fun r4 hp3 => gR r4 ∧ (if r4 = 0 then Q 0 hp3 else Q 1 hp3))))
def w_J0_equals_9ea2d (G : gaG) (a0 : Nat) (a1 : Nat) (h : gaH) (Q : Int → gaH → Prop) : Prop := (if a0 = a1 then Q 1 h else gHas h a1 0 ∧ (gHas h a1 0 ∧ (gI h a0 0 1 (fun r1 => gI h a1 0 1 (fun r2 => gR r1 ∧ gR r2 ∧ (if r1 = r2 then w_J0_equals_9ea2d_J36 G Q a0 a1 h else Q 0 h))))))
abbrev rm_J0_equals_9ea2d : Room := { frames := 1, cells := 0, slots := 0, locals := 22 }
theorem hd_J0_equals_9ea2d : yJ0_equals_9ea2d.cls = RJ0 ∧ (yJ0_equals_9ea2d.cls ≠ "java/lang/invoke/MethodHandle" ∧ yJ0_equals_9ea2d.cls ≠ "java/lang/invoke/VarHandle" ∧ (parseMethodDescriptor yJ0_equals_9ea2d.desc).map (fun d => d.parameters.length) = some 1) := by decide +kernel
theorem k_J0_equals_9ea2d {l : Launch} (hst : l.stackTraces = false) {G : gaG} {X : String → gaH → Prop} {a0 : Nat} {a1 : Nat} {h : gaH} {Q : Int → gaH → Prop} (hw : w_J0_equals_9ea2d G a0 a1 h Q) : gaC l G yJ0_equals_9ea2d (gaM yJ0_equals_9ea2d cJ0_equals_9ea2d 3 ((some .boolean))) rm_J0_equals_9ea2d [.ref a0, .ref a1] h (gQi Q) X := by
  refine g_start (lv := [some (.ref a0), some (.ref a1), none]) hpl_RJ0 hst (Nat.le_of_ble_eq_true rfl) (gaArgs_pad (z := 1) rfl) ww_7_81 ?_
  intro p e s m args below meth c V hT
  have h_J0_equals_9ea2d_J36 : ∀ (v0 : Nat) (v2 : Nat) (h : gaH), w_J0_equals_9ea2d_J36 G Q v0 v2 h → gaP p l e rm_J0_equals_9ea2d s m args below meth c G 3 (gaZ below G (gQi Q) X args s rm_J0_equals_9ea2d) 36 [some (.ref v0), none, some (.ref v2)] [] h 0 0 := by
    intro v0 v2 h hw
    unfold w_J0_equals_9ea2d_J36 at hw
    refine g_aload_n V dJ0_equals_9ea2d_36 rfl rfl ?_
    obtain ⟨fs, r1, ha, hv, hw⟩ := hw
    refine g_get (C := RJ0) (T := TJ0) (N := 4) V 0 rfl hin_RJ0 (by decide) (by decide) ww_5_34 rfl ha hv dJ0_equals_9ea2d_37 rfl ?_
    refine g_aload_n V dJ0_equals_9ea2d_40 rfl rfl ?_
    obtain ⟨fs, r2, ha, hv, hw⟩ := hw
    refine g_get (C := RJ0) (T := TJ0) (N := 4) V 0 rfl hin_RJ0 (by decide) (by decide) ww_5_34 rfl ha hv dJ0_equals_9ea2d_41 rfl ?_
    refine g_callS (st := []) V (k_J1_equals_b5fdf hst hw) ww_7_83 ww_7_84 ww_1_24 ww_7_85 hd_J1_equals_b5fdf ⟨by decide, by decide⟩ rfl rfl (ga_cat rfl) dJ0_equals_9ea2d_44 (Nat.zero_le _) (Nat.zero_le _) rfl (gaX_all hT V) (ga_ki (fun r4 hp3 hw => ?_))
    obtain ⟨hx0, hw⟩ := hw
    refine gi_if_eq V dJ0_equals_9ea2d_47 rfl rfl hx0 (fun q => ?_) (fun q => ?_)
    · have hw := ga_t q hw
      refine g_iconst V (Int32.ofInt 0) dJ0_equals_9ea2d_54 rfl rfl ?_
      exact g_iret V rfl rfl dJ0_equals_9ea2d_55 ⟨_, rfl, hw⟩
    · have hw := ga_f q hw
      refine g_iconst V (Int32.ofInt 1) dJ0_equals_9ea2d_50 rfl rfl ?_
      refine g_goto V dJ0_equals_9ea2d_51 rfl ?_
      exact g_iret V rfl rfl dJ0_equals_9ea2d_55 ⟨_, rfl, hw⟩
  unfold w_J0_equals_9ea2d at hw
  refine g_aload_n V dJ0_equals_9ea2d_0 rfl rfl ?_
  refine g_aload_n V dJ0_equals_9ea2d_1 rfl rfl ?_
  refine g_acmp_ne V dJ0_equals_9ea2d_2 rfl (fun q => ?_) (fun q => ?_)
  · have hw := ga_f q hw
    refine g_aload_n V dJ0_equals_9ea2d_7 rfl rfl ?_
    obtain ⟨hb, hw⟩ := hw
    obtain ⟨fb, hb⟩ := hb
    refine g_instO (C := RJ0) (T := TJ0) (N := 4) V ww_7_82 rfl (by decide) hb dJ0_equals_9ea2d_8 rfl ?_
    refine gi_if_eq V dJ0_equals_9ea2d_11 rfl rfl (by decide) (fun q => ?_) (fun q => ?_)
    · exact absurd q (by decide)
    · refine g_aload_n V dJ0_equals_9ea2d_14 rfl rfl ?_
      obtain ⟨hb, hw⟩ := hw
      obtain ⟨fb, hb⟩ := hb
      refine g_castO (C := RJ0) (T := TJ0) (N := 4) V ww_7_82 rfl (by decide) hb dJ0_equals_9ea2d_15 rfl ?_
      refine g_astore_n (lv2 := [some (.ref a0), some (.ref a1), some (.ref a1)]) V dJ0_equals_9ea2d_18 (by decide) rfl rfl rfl ?_
      refine g_gets V V.z1 ww_5_3 dJ0_equals_9ea2d_19 rfl ?_
      refine gi_if_eq V dJ0_equals_9ea2d_22 rfl rfl (by decide) (fun q => ?_) (fun q => ?_)
      · exact absurd q (by decide)
      · refine g_aload_n V dJ0_equals_9ea2d_25 rfl rfl ?_
        obtain ⟨fs, r1, ha, hv, hw⟩ := hw
        refine g_get (C := RJ0) (T := TJ0) (N := 4) V 1 rfl hin_RJ0 (by decide) (by decide) ww_5_35 rfl ha hv dJ0_equals_9ea2d_26 rfl ?_
        refine g_aload_n V dJ0_equals_9ea2d_29 rfl rfl ?_
        obtain ⟨fs, r2, ha, hv, hw⟩ := hw
        refine g_get (C := RJ0) (T := TJ0) (N := 4) V 1 rfl hin_RJ0 (by decide) (by decide) ww_5_35 rfl ha hv dJ0_equals_9ea2d_30 rfl ?_
        obtain ⟨hx0, hx1, hw⟩ := hw
        refine gi_icmp_ne V dJ0_equals_9ea2d_33 rfl rfl hx0 hx1 (fun q => ?_) (fun q => ?_)
        · have hw := ga_f q hw
          refine g_iconst V (Int32.ofInt 0) dJ0_equals_9ea2d_54 rfl rfl ?_
          exact g_iret V rfl rfl dJ0_equals_9ea2d_55 ⟨_, rfl, hw⟩
        · have hw := ga_t q hw
          refine g_less (bs := [true, false, true]) (lv2 := [some (.ref a0), none, some (.ref a1)]) rfl ?_
          exact h_J0_equals_9ea2d_J36 a0 a1 h hw
  · have hw := ga_t q hw
    refine g_iconst V (Int32.ofInt 1) dJ0_equals_9ea2d_5 rfl rfl ?_
    exact g_iret V rfl rfl dJ0_equals_9ea2d_6 ⟨_, rfl, hw⟩
def w_X1_textOf_J34 (G : gaG) (Q : Nat → gaH → Prop) (K10 : Nat → Nat → Int → gaH → Nat → Nat → Prop) (v0 : Nat) (v1 : Nat) (v2 : Int) (t0 : Nat) (t1 : Int) (h : gaH) (kc ks : Nat) : Prop := gHas h t0 1 ∧ gCall 2 134 kc ks (fun c3 s4 => w_J4_append_cf468 G t0 t1 h (fun r2 hp1 => K10 v0 v1 (v2 + 1) hp1 c3 s4))
def w_X1_textOf_L10 (G : gaG) (Q : Nat → gaH → Prop) : Nat → (Nat → Nat → Int → gaH → Nat → Nat → Prop)
  | 0 => fun _ _ _ _ _ _ => False
  | n + 1 => fun v0 v1 v2 h kc ks => gI h v0 4 1 (fun r1 => gR v2 ∧ gR r1 ∧ (if r1 ≤ v2 then gHas h v1 1 ∧ gCall 5 272 kc ks (fun c4 s5 => w_J4_toString_0e30d G v1 h (fun r3 hp2 => Q r3 hp2)) else gHas h v0 4 ∧ w_X4_isUp v0 v2 h (fun r7 hp6 => gR r7 ∧ (if r7 = 0 then w_X1_textOf_J34 G Q (w_X1_textOf_L10 G Q n) v0 v1 v2 v1 97 hp6 kc ks else w_X1_textOf_J34 G Q (w_X1_textOf_L10 G Q n) v0 v1 v2 v1 98 hp6 kc ks))))
def w_X1_textOf (G : gaG) (a0 : Nat) (h : gaH) (Q : Nat → gaH → Prop) : Prop := gNO h 1 4 ([.null, gi 0, gi 0, gi 0]) 135 8916 (fun o1 hp2 c3 s4 => gCall 1 64 c3 s4 (fun c7 s8 => w_J4_init_da8c8 G o1 hp2 (fun hp5 => ∃ z, w_X1_textOf_L10 G Q z a0 o1 0 hp5 c7 s8)))
abbrev rm_X1_textOf : Room := { frames := 7, cells := 135, slots := 8916, locals := 172 }
theorem hd_X1_textOf : (yX1_textOf.cls ≠ "java/lang/invoke/MethodHandle" ∧ yX1_textOf.cls ≠ "java/lang/invoke/VarHandle" ∧ (parseMethodDescriptor yX1_textOf.desc).map (fun d => d.parameters.length) = some 1) := by decide +kernel
theorem k_X1_textOf {l : Launch} (hst : l.stackTraces = false) {G : gaG} {X : String → gaH → Prop} {a0 : Nat} {h : gaH} {Q : Nat → gaH → Prop} (hw : w_X1_textOf G a0 h Q) : gaC l G yX1_textOf (gaM yX1_textOf cX1_textOf 3 ((some (.object "java/lang/String")))) rm_X1_textOf [.ref a0] h (gQa Q) X := by
  refine g_start (lv := [some (.ref a0), none, none]) hpl_RX1 hst (Nat.le_of_ble_eq_true rfl) (gaArgs_pad (z := 2) rfl) ww_4_24 ?_
  intro p e s m args below meth c V hT
  have h_X1_textOf_J34 : ∀ (K10 : Nat → Nat → Int → gaH → Nat → Nat → Prop), ∀ (hK10 : ∀ (v0 : Nat) (v1 : Nat) (v2 : Int) (h : gaH) (kc ks : Nat), K10 v0 v1 v2 h kc ks → gaP p l e rm_X1_textOf s m args below meth c G 3 (gaZ below G (gQa Q) X args s rm_X1_textOf) 10 [some (.ref v0), some (.ref v1), some (gi v2)] [] h kc ks), ∀ (v0 : Nat) (v1 : Nat) (v2 : Int) (t0 : Nat) (t1 : Int) (h : gaH) (kc ks : Nat), w_X1_textOf_J34 G Q K10 v0 v1 v2 t0 t1 h kc ks → gaP p l e rm_X1_textOf s m args below meth c G 3 (gaZ below G (gQa Q) X args s rm_X1_textOf) 34 [some (.ref v0), some (.ref v1), some (gi v2)] [gi t1, .ref t0] h kc ks := by
    intro K10 hK10
    intro v0 v1 v2 t0 t1 h kc ks hw
    unfold w_X1_textOf_J34 at hw
    obtain ⟨hb, hw⟩ := hw
    obtain ⟨fb, hb⟩ := hb
    obtain ⟨hk, hj, c3, s4, ec, es, hw⟩ := hw
    refine g_callV (C := RJ4) (T := TJ4) (N := 4) (st := []) V (k_J4_append_cf468 hst hw) ww_4_56 ww_4_57 ww_4_58 ww_1_18 ww_4_59 hd_J4_append_cf468 ⟨by decide, by decide⟩ rfl (by decide) hb rfl rfl (ga_cat rfl) dX1_textOf_34 hk hj rfl (gaX_all hT V) (ga_ka (fun r2 hp1 hw => ?_))
    refine ga_re ec es ?_
    refine g_pop V dX1_textOf_37 rfl rfl ?_
    refine gi_iinc (lv2 := [some (.ref v0), some (.ref v1), some (gi (v2 + 1))]) V dX1_textOf_38 (by decide) rfl rfl rfl rfl ?_
    refine g_goto V dX1_textOf_41 rfl ?_
    exact hK10 v0 v1 (v2 + 1) hp1 c3 s4 hw
  have h_X1_textOf_L10 : ∀ (n : Nat), ∀ (v0 : Nat) (v1 : Nat) (v2 : Int) (h : gaH) (kc ks : Nat), w_X1_textOf_L10 G Q n v0 v1 v2 h kc ks → gaP p l e rm_X1_textOf s m args below meth c G 3 (gaZ below G (gQa Q) X args s rm_X1_textOf) 10 [some (.ref v0), some (.ref v1), some (gi v2)] [] h kc ks := by
    intro n
    induction n with
    | zero =>
      intro v0 v1 v2 h kc ks hw
      exact hw.elim
    | succ n ih =>
      intro v0 v1 v2 h kc ks hw
      unfold w_X1_textOf_L10 at hw
      refine g_iload_n V dX1_textOf_10 rfl rfl ?_
      refine g_aload_n V dX1_textOf_11 rfl rfl ?_
      obtain ⟨fs, r1, ha, hv, hw⟩ := hw
      refine g_getN (C := RX4) (T := TX4) (N := 2) (host := "Wordgarden") V 1 rfl hin_RX4 (by decide) (by decide) gn_2 rfl ha hv dX1_textOf_12 rfl ?_
      obtain ⟨hx0, hx1, hw⟩ := hw
      refine gi_icmp_ge V dX1_textOf_15 rfl rfl hx0 hx1 (fun q => ?_) (fun q => ?_)
      · have hw := ga_t q hw
        refine g_aload_n V dX1_textOf_44 rfl rfl ?_
        obtain ⟨hb, hw⟩ := hw
        obtain ⟨fb, hb⟩ := hb
        obtain ⟨hk, hj, c4, s5, ec, es, hw⟩ := hw
        refine g_callV (C := RJ4) (T := TJ4) (N := 4) (st := []) V (k_J4_toString_0e30d hst hw) ww_4_147 ww_4_148 ww_4_149 ww_1_18 ww_4_150 hd_J4_toString_0e30d ⟨by decide, by decide⟩ rfl (by decide) hb rfl rfl (ga_cat rfl) dX1_textOf_45 hk hj rfl (gaX_all hT V) (ga_ka (fun r3 hp2 hw => ?_))
        refine ga_re ec es ?_
        exact g_aret V rfl (by first | exact Or.inl ⟨_, rfl⟩ | exact Or.inr ⟨_, rfl⟩) dX1_textOf_48 ⟨_, rfl, hw⟩
      · have hw := ga_f q hw
        refine g_aload_n V dX1_textOf_18 rfl rfl ?_
        refine g_aload_n V dX1_textOf_19 rfl rfl ?_
        refine g_iload_n V dX1_textOf_20 rfl rfl ?_
        obtain ⟨hb, hw⟩ := hw
        obtain ⟨fb, hb⟩ := hb
        refine g_callV (C := RX4) (T := TX4) (N := 2) (st := [.ref v1]) V (k_X4_isUp hst hw) ww_1_239 ww_1_228 ww_1_229 ww_1_3 ww_1_230 hd_X4_isUp ⟨by decide, by decide⟩ rfl (by decide) hb rfl rfl (ga_cat rfl) dX1_textOf_21 (Nat.zero_le _) (Nat.zero_le _) rfl (gaX_all hT V) (ga_ki (fun r7 hp6 hw => ?_))
        obtain ⟨hx0, hw⟩ := hw
        refine gi_if_eq V dX1_textOf_24 rfl rfl hx0 (fun q => ?_) (fun q => ?_)
        · have hw := ga_t q hw
          refine g_bipush V (Int32.ofInt 97) dX1_textOf_32 rfl rfl ?_
          exact h_X1_textOf_J34 (w_X1_textOf_L10 G Q n) ih v0 v1 v2 v1 97 hp6 kc ks hw
        · have hw := ga_f q hw
          refine g_bipush V (Int32.ofInt 98) dX1_textOf_27 rfl rfl ?_
          refine g_goto V dX1_textOf_29 rfl ?_
          exact h_X1_textOf_J34 (w_X1_textOf_L10 G Q n) ih v0 v1 v2 v1 98 hp6 kc ks hw
  show gaP p l e rm_X1_textOf s m args below meth c G 3 (gaZ below G (gQa Q) X args s rm_X1_textOf) 0 [some (.ref a0), none, none] [] h 135 8916
  unfold w_X1_textOf at hw
  obtain ⟨hk, hj, hw⟩ := hw
  refine g_new (ci := 1) (C := RJ4) (T := TJ4) (N := 4) (fs := [.null, gi 0, gi 0, gi 0]) V tyJ4 tyJ4_ok rfl hin_RJ4 (by decide) ww_4_25 ww_4_26 ww_1_18 hdf_RJ4 dX1_textOf_0 rfl hk hj (fun o1 hf => ?_)
  obtain ⟨c3, s4, ec, es, hw⟩ := hw o1 hf
  refine ga_re ec es ?_
  generalize gaUp h o1 _ = hp2 at hw ⊢
  refine g_dup V dX1_textOf_3 rfl rfl ?_
  obtain ⟨hk, hj, c7, s8, ec, es, hw⟩ := hw
  refine g_callI (st := [.ref o1]) V (k_J4_init_da8c8 hst hw) ww_4_27 ww_4_28 ww_1_18 ww_4_29 rfl hd_J4_init_da8c8 ⟨by decide, by decide⟩ rfl rfl (ga_cat rfl) dX1_textOf_4 hk hj rfl (gaX_all hT V) (ga_kv (fun hp5 hw => ?_))
  refine ga_re ec es ?_
  refine g_astore_n (lv2 := [some (.ref a0), some (.ref o1), none]) V dX1_textOf_7 (by decide) rfl rfl rfl ?_
  refine g_iconst V (Int32.ofInt 0) dX1_textOf_8 rfl rfl ?_
  refine g_istore_n (lv2 := [some (.ref a0), some (.ref o1), some (gi 0)]) V dX1_textOf_9 (by decide) rfl rfl rfl ?_
  obtain ⟨z, hw⟩ := hw
  exact h_X1_textOf_L10 z a0 o1 0 hp5 c7 s8 hw
def w_X5_grown (G : gaG) (X : String → gaH → Prop) (a0 : Nat) (a1 : Int) (a2 : Int) (h : gaH) (Q : Nat → gaH → Prop) : Prop := gHas h a0 5 ∧ gCall 1 6 136 8922 (fun c3 s4 => w_X5_growthOf X a0 a1 h (fun r2 hp1 => gHas hp1 r2 2 ∧ w_X0_wordBy r2 a2 hp1 (fun r6 hp5 => gCall 135 8916 c3 s4 (fun c9 s10 => w_X1_textOf G r6 hp5 (fun r8 hp7 => Q r8 hp7)))))
abbrev rm_X5_grown : Room := { frames := 9, cells := 136, slots := 8922, locals := 221 }
theorem hd_X5_grown : yX5_grown.cls = RX5 ∧ (yX5_grown.cls ≠ "java/lang/invoke/MethodHandle" ∧ yX5_grown.cls ≠ "java/lang/invoke/VarHandle" ∧ (parseMethodDescriptor yX5_grown.desc).map (fun d => d.parameters.length) = some 2) := by decide +kernel
theorem k_X5_grown {l : Launch} (hst : l.stackTraces = false) {G : gaG} {X : String → gaH → Prop} {a0 : Nat} {a1 : Int} {a2 : Int} {h : gaH} {Q : Nat → gaH → Prop} (hw : w_X5_grown G X a0 a1 a2 h Q) : gaC l G yX5_grown (gaM yX5_grown cX5_grown 3 ((some (.object "java/lang/String")))) rm_X5_grown [.ref a0, gi a1, gi a2] h (gQa Q) X := by
  refine g_start (lv := [some (.ref a0), some (gi a1), some (gi a2)]) hpl_RX5 hst (Nat.le_of_ble_eq_true rfl) (gaArgs_pad (z := 0) rfl) ww_5_152 ?_
  intro p e s m args below meth c V hT
  show gaP p l e rm_X5_grown s m args below meth c G 3 (gaZ below G (gQa Q) X args s rm_X5_grown) 0 [some (.ref a0), some (gi a1), some (gi a2)] [] h 136 8922
  unfold w_X5_grown at hw
  refine g_aload_n V dX5_grown_0 rfl rfl ?_
  refine g_iload_n V dX5_grown_1 rfl rfl ?_
  obtain ⟨hb, hw⟩ := hw
  obtain ⟨fb, hb⟩ := hb
  obtain ⟨hk, hj, c3, s4, ec, es, hw⟩ := hw
  refine g_callV (C := RX5) (T := TX5) (N := 9) (st := []) V (k_X5_growthOf hst hw) ww_2_13 ww_2_15 wp_1_4 ww_1_1 ww_2_16 hd_X5_growthOf ⟨by decide, by decide⟩ rfl (by decide) hb rfl rfl (ga_cat rfl) dX5_grown_2 hk hj rfl (gaX_all hT V) (ga_ka (fun r2 hp1 hw => ?_))
  refine ga_re ec es ?_
  refine g_iload_n V dX5_grown_5 rfl rfl ?_
  obtain ⟨hb, hw⟩ := hw
  obtain ⟨fb, hb⟩ := hb
  refine g_callV (C := RX0) (T := TX0) (N := 4) (st := []) V (k_X0_wordBy hst hw) ww_2_160 ww_2_161 ww_2_162 ww_1_4 ww_2_163 hd_X0_wordBy ⟨by decide, by decide⟩ rfl (by decide) hb rfl rfl (ga_cat rfl) dX5_grown_6 (Nat.zero_le _) (Nat.zero_le _) rfl (gaX_all hT V) (ga_ka (fun r6 hp5 hw => ?_))
  obtain ⟨hk, hj, c9, s10, ec, es, hw⟩ := hw
  refine g_callS (st := []) V (k_X1_textOf hst hw) ww_4_22 ww_4_23 ww_1_12 ww_4_24 hd_X1_textOf ⟨by decide, by decide⟩ rfl rfl (ga_cat rfl) dX5_grown_9 hk hj rfl (gaX_all hT V) (ga_ka (fun r8 hp7 hw => ?_))
  refine ga_re ec es ?_
  exact g_aret V rfl (by first | exact Or.inl ⟨_, rfl⟩ | exact Or.inr ⟨_, rfl⟩) dX5_grown_12 ⟨_, rfl, hw⟩
def w_X5_text (G : gaG) (X : String → gaH → Prop) (a0 : Nat) (a1 : Int) (h : gaH) (Q : Nat → gaH → Prop) : Prop := gHas h a0 5 ∧ gCall 1 6 136 8922 (fun c3 s4 => w_X5_wordOf X a0 a1 h (fun r2 hp1 => gCall 135 8916 c3 s4 (fun c7 s8 => w_X1_textOf G r2 hp1 (fun r6 hp5 => Q r6 hp5))))
abbrev rm_X5_text : Room := { frames := 9, cells := 136, slots := 8922, locals := 221 }
theorem hd_X5_text : yX5_text.cls = RX5 ∧ (yX5_text.cls ≠ "java/lang/invoke/MethodHandle" ∧ yX5_text.cls ≠ "java/lang/invoke/VarHandle" ∧ (parseMethodDescriptor yX5_text.desc).map (fun d => d.parameters.length) = some 1) := by decide +kernel
theorem k_X5_text {l : Launch} (hst : l.stackTraces = false) {G : gaG} {X : String → gaH → Prop} {a0 : Nat} {a1 : Int} {h : gaH} {Q : Nat → gaH → Prop} (hw : w_X5_text G X a0 a1 h Q) : gaC l G yX5_text (gaM yX5_text cX5_text 2 ((some (.object "java/lang/String")))) rm_X5_text [.ref a0, gi a1] h (gQa Q) X := by
  refine g_start (lv := [some (.ref a0), some (gi a1)]) hpl_RX5 hst (Nat.le_of_ble_eq_true rfl) (gaArgs_pad (z := 0) rfl) ww_4_21 ?_
  intro p e s m args below meth c V hT
  show gaP p l e rm_X5_text s m args below meth c G 2 (gaZ below G (gQa Q) X args s rm_X5_text) 0 [some (.ref a0), some (gi a1)] [] h 136 8922
  unfold w_X5_text at hw
  refine g_aload_n V dX5_text_0 rfl rfl ?_
  refine g_iload_n V dX5_text_1 rfl rfl ?_
  obtain ⟨hb, hw⟩ := hw
  obtain ⟨fb, hb⟩ := hb
  obtain ⟨hk, hj, c3, s4, ec, es, hw⟩ := hw
  refine g_callV (C := RX5) (T := TX5) (N := 9) (st := []) V (k_X5_wordOf hst hw) ww_1_150 ww_1_152 wp_1_1 ww_1_1 ww_1_153 hd_X5_wordOf ⟨by decide, by decide⟩ rfl (by decide) hb rfl rfl (ga_cat rfl) dX5_text_2 hk hj rfl (gaX_all hT V) (ga_ka (fun r2 hp1 hw => ?_))
  refine ga_re ec es ?_
  obtain ⟨hk, hj, c7, s8, ec, es, hw⟩ := hw
  refine g_callS (st := []) V (k_X1_textOf hst hw) ww_4_22 ww_4_23 ww_1_12 ww_4_24 hd_X1_textOf ⟨by decide, by decide⟩ rfl rfl (ga_cat rfl) dX5_text_5 hk hj rfl (gaX_all hT V) (ga_ka (fun r6 hp5 hw => ?_))
  refine ga_re ec es ?_
  exact g_aret V rfl (by first | exact Or.inl ⟨_, rfl⟩ | exact Or.inr ⟨_, rfl⟩) dX5_text_8 ⟨_, rfl, hw⟩
def w_X5_turns_L17 (G : gaG) (X : String → gaH → Prop) (Q : Nat → gaH → Prop) : Nat → (Nat → Nat → Int → gaH → Nat → Nat → Prop)
  | 0 => fun _ _ _ _ _ _ => False
  | n + 1 => fun v2 v3 v4 h kc ks => gI h v2 2 1 (fun r1 => gR v4 ∧ gR r1 ∧ (if r1 ≤ v4 then gHas h v3 1 ∧ gCall 5 272 kc ks (fun c4 s5 => w_J4_toString_0e30d G v3 h (fun r3 hp2 => Q r3 hp2)) else gHas h v2 2 ∧ w_X0_turnAt v2 v4 h (fun r7 hp6 => gHas hp6 v3 1 ∧ gCall 2 134 kc ks (fun c10 s11 => w_J4_append_bf812 G v3 r7 hp6 (fun r9 hp8 => w_X5_turns_L17 G X Q n v2 v3 (v4 + 1) hp8 c10 s11)))))
def w_X5_turns (G : gaG) (X : String → gaH → Prop) (a0 : Nat) (a1 : Int) (h : gaH) (Q : Nat → gaH → Prop) : Prop := gHas h a0 5 ∧ gCall 1 6 136 8922 (fun c3 s4 => w_X5_growthOf X a0 a1 h (fun r2 hp1 => gNO hp1 1 4 ([.null, gi 0, gi 0, gi 0]) c3 s4 (fun o5 hp6 c7 s8 => gCall 1 64 c7 s8 (fun c11 s12 => w_J4_init_da8c8 G o5 hp6 (fun hp9 => ∃ z, w_X5_turns_L17 G X Q z r2 o5 0 hp9 c11 s12)))))
abbrev rm_X5_turns : Room := { frames := 9, cells := 136, slots := 8922, locals := 221 }
theorem hd_X5_turns : yX5_turns.cls = RX5 ∧ (yX5_turns.cls ≠ "java/lang/invoke/MethodHandle" ∧ yX5_turns.cls ≠ "java/lang/invoke/VarHandle" ∧ (parseMethodDescriptor yX5_turns.desc).map (fun d => d.parameters.length) = some 1) := by decide +kernel
theorem k_X5_turns {l : Launch} (hst : l.stackTraces = false) {G : gaG} {X : String → gaH → Prop} {a0 : Nat} {a1 : Int} {h : gaH} {Q : Nat → gaH → Prop} (hw : w_X5_turns G X a0 a1 h Q) : gaC l G yX5_turns (gaM yX5_turns cX5_turns 5 ((some (.object "java/lang/String")))) rm_X5_turns [.ref a0, gi a1] h (gQa Q) X := by
  refine g_start (lv := [some (.ref a0), some (gi a1), none, none, none]) hpl_RX5 hst (Nat.le_of_ble_eq_true rfl) (gaArgs_pad (z := 3) rfl) ww_5_141 ?_
  intro p e s m args below meth c V hT
  have h_X5_turns_L17 : ∀ (n : Nat), ∀ (v2 : Nat) (v3 : Nat) (v4 : Int) (h : gaH) (kc ks : Nat), w_X5_turns_L17 G X Q n v2 v3 v4 h kc ks → gaP p l e rm_X5_turns s m args below meth c G 5 (gaZ below G (gQa Q) X args s rm_X5_turns) 17 [none, none, some (.ref v2), some (.ref v3), some (gi v4)] [] h kc ks := by
    intro n
    induction n with
    | zero =>
      intro v2 v3 v4 h kc ks hw
      exact hw.elim
    | succ n ih =>
      intro v2 v3 v4 h kc ks hw
      unfold w_X5_turns_L17 at hw
      refine g_iload V dX5_turns_17 rfl rfl ?_
      refine g_aload_n V dX5_turns_19 rfl rfl ?_
      obtain ⟨fs, r1, ha, hv, hw⟩ := hw
      refine g_getN (C := RX0) (T := TX0) (N := 4) (host := "Wordgarden") V 1 rfl hin_RX0 (by decide) (by decide) gn_9 rfl ha hv dX5_turns_20 rfl ?_
      obtain ⟨hx0, hx1, hw⟩ := hw
      refine gi_icmp_ge V dX5_turns_23 rfl rfl hx0 hx1 (fun q => ?_) (fun q => ?_)
      · have hw := ga_t q hw
        refine g_aload_n V dX5_turns_43 rfl rfl ?_
        obtain ⟨hb, hw⟩ := hw
        obtain ⟨fb, hb⟩ := hb
        obtain ⟨hk, hj, c4, s5, ec, es, hw⟩ := hw
        refine g_callV (C := RJ4) (T := TJ4) (N := 4) (st := []) V (k_J4_toString_0e30d hst hw) ww_5_145 ww_4_148 ww_4_149 ww_1_18 ww_4_150 hd_J4_toString_0e30d ⟨by decide, by decide⟩ rfl (by decide) hb rfl rfl (ga_cat rfl) dX5_turns_44 hk hj rfl (gaX_all hT V) (ga_ka (fun r3 hp2 hw => ?_))
        refine ga_re ec es ?_
        exact g_aret V rfl (by first | exact Or.inl ⟨_, rfl⟩ | exact Or.inr ⟨_, rfl⟩) dX5_turns_47 ⟨_, rfl, hw⟩
      · have hw := ga_f q hw
        refine g_aload_n V dX5_turns_26 rfl rfl ?_
        refine g_aload_n V dX5_turns_27 rfl rfl ?_
        refine g_iload V dX5_turns_28 rfl rfl ?_
        obtain ⟨hb, hw⟩ := hw
        obtain ⟨fb, hb⟩ := hb
        refine g_callV (C := RX0) (T := TX0) (N := 4) (st := [.ref v3]) V (k_X0_turnAt hst hw) ww_2_155 ww_2_23 ww_2_24 ww_1_4 ww_2_25 hd_X0_turnAt ⟨by decide, by decide⟩ rfl (by decide) hb rfl rfl (ga_cat rfl) dX5_turns_30 (Nat.zero_le _) (Nat.zero_le _) rfl (gaX_all hT V) (ga_ki (fun r7 hp6 hw => ?_))
        obtain ⟨hb, hw⟩ := hw
        obtain ⟨fb, hb⟩ := hb
        obtain ⟨hk, hj, c10, s11, ec, es, hw⟩ := hw
        refine g_callV (C := RJ4) (T := TJ4) (N := 4) (st := []) V (k_J4_append_bf812 hst hw) ww_5_144 ww_4_187 ww_4_188 ww_1_18 ww_4_189 hd_J4_append_bf812 ⟨by decide, by decide⟩ rfl (by decide) hb rfl rfl (ga_cat rfl) dX5_turns_33 hk hj rfl (gaX_all hT V) (ga_ka (fun r9 hp8 hw => ?_))
        refine ga_re ec es ?_
        refine g_pop V dX5_turns_36 rfl rfl ?_
        refine gi_iinc (lv2 := [none, none, some (.ref v2), some (.ref v3), some (gi (v4 + 1))]) V dX5_turns_37 (by decide) rfl rfl rfl rfl ?_
        refine g_goto V dX5_turns_40 rfl ?_
        exact ih v2 v3 (v4 + 1) hp8 c10 s11 hw
  show gaP p l e rm_X5_turns s m args below meth c G 5 (gaZ below G (gQa Q) X args s rm_X5_turns) 0 [some (.ref a0), some (gi a1), none, none, none] [] h 136 8922
  unfold w_X5_turns at hw
  refine g_aload_n V dX5_turns_0 rfl rfl ?_
  refine g_iload_n V dX5_turns_1 rfl rfl ?_
  obtain ⟨hb, hw⟩ := hw
  obtain ⟨fb, hb⟩ := hb
  obtain ⟨hk, hj, c3, s4, ec, es, hw⟩ := hw
  refine g_callV (C := RX5) (T := TX5) (N := 9) (st := []) V (k_X5_growthOf hst hw) ww_2_13 ww_2_15 wp_1_4 ww_1_1 ww_2_16 hd_X5_growthOf ⟨by decide, by decide⟩ rfl (by decide) hb rfl rfl (ga_cat rfl) dX5_turns_2 hk hj rfl (gaX_all hT V) (ga_ka (fun r2 hp1 hw => ?_))
  refine ga_re ec es ?_
  refine g_astore_n (lv2 := [some (.ref a0), some (gi a1), some (.ref r2), none, none]) V dX5_turns_5 (by decide) rfl rfl rfl ?_
  obtain ⟨hk, hj, hw⟩ := hw
  refine g_new (ci := 1) (C := RJ4) (T := TJ4) (N := 4) (fs := [.null, gi 0, gi 0, gi 0]) V tyJ4 tyJ4_ok rfl hin_RJ4 (by decide) ww_5_142 ww_4_26 ww_1_18 hdf_RJ4 dX5_turns_6 rfl hk hj (fun o5 hf => ?_)
  obtain ⟨c7, s8, ec, es, hw⟩ := hw o5 hf
  refine ga_re ec es ?_
  generalize gaUp hp1 o5 _ = hp6 at hw ⊢
  refine g_dup V dX5_turns_9 rfl rfl ?_
  obtain ⟨hk, hj, c11, s12, ec, es, hw⟩ := hw
  refine g_callI (st := [.ref o5]) V (k_J4_init_da8c8 hst hw) ww_5_143 ww_4_28 ww_1_18 ww_4_29 rfl hd_J4_init_da8c8 ⟨by decide, by decide⟩ rfl rfl (ga_cat rfl) dX5_turns_10 hk hj rfl (gaX_all hT V) (ga_kv (fun hp9 hw => ?_))
  refine ga_re ec es ?_
  refine g_astore_n (lv2 := [some (.ref a0), some (gi a1), some (.ref r2), some (.ref o5), none]) V dX5_turns_13 (by decide) rfl rfl rfl ?_
  refine g_iconst V (Int32.ofInt 0) dX5_turns_14 rfl rfl ?_
  refine g_istore (lv2 := [some (.ref a0), some (gi a1), some (.ref r2), some (.ref o5), some (gi 0)]) V dX5_turns_15 (by decide) rfl rfl rfl ?_
  refine g_less (bs := [false, false, true, true, true]) (lv2 := [none, none, some (.ref r2), some (.ref o5), some (gi 0)]) rfl ?_
  obtain ⟨z, hw⟩ := hw
  exact h_X5_turns_L17 z r2 o5 0 hp9 c11 s12 hw
def w_X7_textOf_J42 (G : gaG) (Q : Nat → gaH → Prop) (K16 : Nat → Nat → Int → Int → gaH → Nat → Nat → Prop) (v1 : Nat) (v2 : Nat) (v3 : Int) (v4 : Int) (t0 : Nat) (t1 : Int) (h : gaH) (kc ks : Nat) : Prop := gHas h t0 1 ∧ gCall 2 134 kc ks (fun c3 s4 => w_J4_append_cf468 G t0 t1 h (fun r2 hp1 => K16 v1 v2 v3 (v4 + 1) hp1 c3 s4))
def w_X7_textOf_L16 (G : gaG) (Q : Nat → gaH → Prop) : Nat → (Nat → Nat → Int → Int → gaH → Nat → Nat → Prop)
  | 0 => fun _ _ _ _ _ _ _ => False
  | n + 1 => fun v1 v2 v3 v4 h kc ks => gR v4 ∧ gR v3 ∧ (if v3 ≤ v4 then gHas h v1 1 ∧ gCall 5 272 kc ks (fun c3 s4 => w_J4_toString_0e30d G v1 h (fun r2 hp1 => Q r2 hp1)) else gLI h v2 102 v4 (fun r5 => gR r5 ∧ (if r5 = 1 then w_X7_textOf_J42 G Q (w_X7_textOf_L16 G Q n) v1 v2 v3 v4 v1 98 h kc ks else w_X7_textOf_J42 G Q (w_X7_textOf_L16 G Q n) v1 v2 v3 v4 v1 97 h kc ks)))
def w_X7_textOf (G : gaG) (a0 : Nat) (h : gaH) (Q : Nat → gaH → Prop) : Prop := gNO h 1 4 ([.null, gi 0, gi 0, gi 0]) 135 8916 (fun o1 hp2 c3 s4 => gCall 1 64 c3 s4 (fun c7 s8 => w_J4_init_da8c8 G o1 hp2 (fun hp5 => gAL hp5 a0 102 (fun r9 => ∃ z, w_X7_textOf_L16 G Q z o1 a0 r9 0 hp5 c7 s8))))
abbrev rm_X7_textOf : Room := { frames := 7, cells := 135, slots := 8916, locals := 172 }
theorem hd_X7_textOf : (yX7_textOf.cls ≠ "java/lang/invoke/MethodHandle" ∧ yX7_textOf.cls ≠ "java/lang/invoke/VarHandle" ∧ (parseMethodDescriptor yX7_textOf.desc).map (fun d => d.parameters.length) = some 1) := by decide +kernel
theorem k_X7_textOf {l : Launch} (hst : l.stackTraces = false) {G : gaG} {X : String → gaH → Prop} {a0 : Nat} {h : gaH} {Q : Nat → gaH → Prop} (hw : w_X7_textOf G a0 h Q) : gaC l G yX7_textOf (gaM yX7_textOf cX7_textOf 6 ((some (.object "java/lang/String")))) rm_X7_textOf [.ref a0] h (gQa Q) X := by
  refine g_start (lv := [some (.ref a0), none, none, none, none, none]) hpl_RX7 hst (Nat.le_of_ble_eq_true rfl) (gaArgs_pad (z := 5) rfl) ww_6_170 ?_
  intro p e s m args below meth c V hT
  have h_X7_textOf_J42 : ∀ (K16 : Nat → Nat → Int → Int → gaH → Nat → Nat → Prop), ∀ (hK16 : ∀ (v1 : Nat) (v2 : Nat) (v3 : Int) (v4 : Int) (h : gaH) (kc ks : Nat), K16 v1 v2 v3 v4 h kc ks → gaP p l e rm_X7_textOf s m args below meth c G 6 (gaZ below G (gQa Q) X args s rm_X7_textOf) 16 [none, some (.ref v1), some (.ref v2), some (gi v3), some (gi v4), none] [] h kc ks), ∀ (v1 : Nat) (v2 : Nat) (v3 : Int) (v4 : Int) (t0 : Nat) (t1 : Int) (h : gaH) (kc ks : Nat), w_X7_textOf_J42 G Q K16 v1 v2 v3 v4 t0 t1 h kc ks → gaP p l e rm_X7_textOf s m args below meth c G 6 (gaZ below G (gQa Q) X args s rm_X7_textOf) 42 [none, some (.ref v1), some (.ref v2), some (gi v3), some (gi v4), none] [gi t1, .ref t0] h kc ks := by
    intro K16 hK16
    intro v1 v2 v3 v4 t0 t1 h kc ks hw
    unfold w_X7_textOf_J42 at hw
    obtain ⟨hb, hw⟩ := hw
    obtain ⟨fb, hb⟩ := hb
    obtain ⟨hk, hj, c3, s4, ec, es, hw⟩ := hw
    refine g_callV (C := RJ4) (T := TJ4) (N := 4) (st := []) V (k_J4_append_cf468 hst hw) ww_6_173 ww_4_57 ww_4_58 ww_1_18 ww_4_59 hd_J4_append_cf468 ⟨by decide, by decide⟩ rfl (by decide) hb rfl rfl (ga_cat rfl) dX7_textOf_42 hk hj rfl (gaX_all hT V) (ga_ka (fun r2 hp1 hw => ?_))
    refine ga_re ec es ?_
    refine g_pop V dX7_textOf_45 rfl rfl ?_
    refine gi_iinc (lv2 := [none, some (.ref v1), some (.ref v2), some (gi v3), some (gi (v4 + 1)), none]) V dX7_textOf_46 (by decide) rfl rfl rfl rfl ?_
    refine g_goto V dX7_textOf_49 rfl ?_
    exact hK16 v1 v2 v3 (v4 + 1) hp1 c3 s4 hw
  have h_X7_textOf_L16 : ∀ (n : Nat), ∀ (v1 : Nat) (v2 : Nat) (v3 : Int) (v4 : Int) (h : gaH) (kc ks : Nat), w_X7_textOf_L16 G Q n v1 v2 v3 v4 h kc ks → gaP p l e rm_X7_textOf s m args below meth c G 6 (gaZ below G (gQa Q) X args s rm_X7_textOf) 16 [none, some (.ref v1), some (.ref v2), some (gi v3), some (gi v4), none] [] h kc ks := by
    intro n
    induction n with
    | zero =>
      intro v1 v2 v3 v4 h kc ks hw
      exact hw.elim
    | succ n ih =>
      intro v1 v2 v3 v4 h kc ks hw
      unfold w_X7_textOf_L16 at hw
      refine g_iload V dX7_textOf_16 rfl rfl ?_
      refine g_iload_n V dX7_textOf_18 rfl rfl ?_
      obtain ⟨hx0, hx1, hw⟩ := hw
      refine gi_icmp_ge V dX7_textOf_19 rfl rfl hx0 hx1 (fun q => ?_) (fun q => ?_)
      · have hw := ga_t q hw
        refine g_aload_n V dX7_textOf_52 rfl rfl ?_
        obtain ⟨hb, hw⟩ := hw
        obtain ⟨fb, hb⟩ := hb
        obtain ⟨hk, hj, c3, s4, ec, es, hw⟩ := hw
        refine g_callV (C := RJ4) (T := TJ4) (N := 4) (st := []) V (k_J4_toString_0e30d hst hw) ww_6_174 ww_4_148 ww_4_149 ww_1_18 ww_4_150 hd_J4_toString_0e30d ⟨by decide, by decide⟩ rfl (by decide) hb rfl rfl (ga_cat rfl) dX7_textOf_53 hk hj rfl (gaX_all hT V) (ga_ka (fun r2 hp1 hw => ?_))
        refine ga_re ec es ?_
        exact g_aret V rfl (by first | exact Or.inl ⟨_, rfl⟩ | exact Or.inr ⟨_, rfl⟩) dX7_textOf_56 ⟨_, rfl, hw⟩
      · have hw := ga_f q hw
        refine g_aload_n V dX7_textOf_22 rfl rfl ?_
        refine g_iload V dX7_textOf_23 rfl rfl ?_
        obtain ⟨t9, vs, r5, ha, ht, h0, h9, hv, hw⟩ := hw
        refine gi_iaload V ha ht h0 h9 hv dX7_textOf_25 rfl ?_
        refine g_istore (lv2 := [none, some (.ref v1), some (.ref v2), some (gi v3), some (gi v4), some (gi r5)]) V dX7_textOf_26 (by decide) rfl rfl rfl ?_
        refine g_aload_n V dX7_textOf_28 rfl rfl ?_
        refine g_iload V dX7_textOf_29 rfl rfl ?_
        refine g_iconst V (Int32.ofInt 1) dX7_textOf_31 rfl rfl ?_
        obtain ⟨hx0, hw⟩ := hw
        refine gi_icmp_ne V dX7_textOf_32 rfl rfl hx0 (by decide) (fun q => ?_) (fun q => ?_)
        · have hw := ga_f q hw
          refine g_bipush V (Int32.ofInt 97) dX7_textOf_40 rfl rfl ?_
          refine g_less (bs := [true, true, true, true, true, false]) (lv2 := [none, some (.ref v1), some (.ref v2), some (gi v3), some (gi v4), none]) rfl ?_
          exact h_X7_textOf_J42 (w_X7_textOf_L16 G Q n) ih v1 v2 v3 v4 v1 97 h kc ks hw
        · have hw := ga_t q hw
          refine g_bipush V (Int32.ofInt 98) dX7_textOf_35 rfl rfl ?_
          refine g_goto V dX7_textOf_37 rfl ?_
          refine g_less (bs := [true, true, true, true, true, false]) (lv2 := [none, some (.ref v1), some (.ref v2), some (gi v3), some (gi v4), none]) rfl ?_
          exact h_X7_textOf_J42 (w_X7_textOf_L16 G Q n) ih v1 v2 v3 v4 v1 98 h kc ks hw
  show gaP p l e rm_X7_textOf s m args below meth c G 6 (gaZ below G (gQa Q) X args s rm_X7_textOf) 0 [some (.ref a0), none, none, none, none, none] [] h 135 8916
  unfold w_X7_textOf at hw
  obtain ⟨hk, hj, hw⟩ := hw
  refine g_new (ci := 1) (C := RJ4) (T := TJ4) (N := 4) (fs := [.null, gi 0, gi 0, gi 0]) V tyJ4 tyJ4_ok rfl hin_RJ4 (by decide) ww_6_171 ww_4_26 ww_1_18 hdf_RJ4 dX7_textOf_0 rfl hk hj (fun o1 hf => ?_)
  obtain ⟨c3, s4, ec, es, hw⟩ := hw o1 hf
  refine ga_re ec es ?_
  generalize gaUp h o1 _ = hp2 at hw ⊢
  refine g_dup V dX7_textOf_3 rfl rfl ?_
  obtain ⟨hk, hj, c7, s8, ec, es, hw⟩ := hw
  refine g_callI (st := [.ref o1]) V (k_J4_init_da8c8 hst hw) ww_6_172 ww_4_28 ww_1_18 ww_4_29 rfl hd_J4_init_da8c8 ⟨by decide, by decide⟩ rfl rfl (ga_cat rfl) dX7_textOf_4 hk hj rfl (gaX_all hT V) (ga_kv (fun hp5 hw => ?_))
  refine ga_re ec es ?_
  refine g_astore_n (lv2 := [some (.ref a0), some (.ref o1), none, none, none, none]) V dX7_textOf_7 (by decide) rfl rfl rfl ?_
  refine g_aload_n V dX7_textOf_8 rfl rfl ?_
  refine g_astore_n (lv2 := [some (.ref a0), some (.ref o1), some (.ref a0), none, none, none]) V dX7_textOf_9 (by decide) rfl rfl rfl ?_
  refine g_aload_n V dX7_textOf_10 rfl rfl ?_
  obtain ⟨t9, vs, ha, ht, hw⟩ := hw
  refine gi_arraylength (t0 := 102) V (by simp [gaT]) ha ht dX7_textOf_11 rfl ?_
  generalize (vs.length : Int) = r9 at hw ⊢
  refine g_istore_n (lv2 := [some (.ref a0), some (.ref o1), some (.ref a0), some (gi r9), none, none]) V dX7_textOf_12 (by decide) rfl rfl rfl ?_
  refine g_iconst V (Int32.ofInt 0) dX7_textOf_13 rfl rfl ?_
  refine g_istore (lv2 := [some (.ref a0), some (.ref o1), some (.ref a0), some (gi r9), some (gi 0), none]) V dX7_textOf_14 (by decide) rfl rfl rfl ?_
  refine g_less (bs := [false, true, true, true, true, true]) (lv2 := [none, some (.ref o1), some (.ref a0), some (gi r9), some (gi 0), none]) rfl ?_
  obtain ⟨z, hw⟩ := hw
  exact h_X7_textOf_L16 z o1 a0 r9 0 hp5 c7 s8 hw
def w_X7_grown (G : gaG) (a0 : Nat) (a1 : Int) (a2 : Int) (h : gaH) (Q : Nat → gaH → Prop) : Prop := w_X7_isNoGrowth a1 h (fun r2 hp1 => gHas hp1 a0 7 ∧ w_X7_start a0 r2 1 hp1 (fun r4 hp3 => gR r4 ∧ (if r4 = 0 then gHas hp3 a0 7 ∧ gCall 67 4288 202 13204 (fun c7 s8 => w_X7_word a0 a1 a2 hp3 (fun r6 hp5 => gCall 135 8916 c7 s8 (fun c11 s12 => w_X7_textOf G r6 hp5 (fun r10 hp9 => Q r10 hp9)))) else Q (G.2.2.2 15) hp3)))
abbrev rm_X7_grown : Room := { frames := 8, cells := 202, slots := 13204, locals := 197 }
theorem hd_X7_grown : yX7_grown.cls = RX7 ∧ (yX7_grown.cls ≠ "java/lang/invoke/MethodHandle" ∧ yX7_grown.cls ≠ "java/lang/invoke/VarHandle" ∧ (parseMethodDescriptor yX7_grown.desc).map (fun d => d.parameters.length) = some 2) := by decide +kernel
theorem k_X7_grown {l : Launch} (hst : l.stackTraces = false) {G : gaG} {X : String → gaH → Prop} {a0 : Nat} {a1 : Int} {a2 : Int} {h : gaH} {Q : Nat → gaH → Prop} (hw : w_X7_grown G a0 a1 a2 h Q) : gaC l G yX7_grown (gaM yX7_grown cX7_grown 3 ((some (.object "java/lang/String")))) rm_X7_grown [.ref a0, gi a1, gi a2] h (gQa Q) X := by
  refine g_start (lv := [some (.ref a0), some (gi a1), some (gi a2)]) hpl_RX7 hst (Nat.le_of_ble_eq_true rfl) (gaArgs_pad (z := 0) rfl) ww_7_18 ?_
  intro p e s m args below meth c V hT
  show gaP p l e rm_X7_grown s m args below meth c G 3 (gaZ below G (gQa Q) X args s rm_X7_grown) 0 [some (.ref a0), some (gi a1), some (gi a2)] [] h 202 13204
  unfold w_X7_grown at hw
  refine g_aload_n V dX7_grown_0 rfl rfl ?_
  refine g_iload_n V dX7_grown_1 rfl rfl ?_
  refine g_callS (st := [.ref a0]) V (k_X7_isNoGrowth hst hw) ww_6_110 ww_6_111 ww_1_5 ww_6_112 hd_X7_isNoGrowth ⟨by decide, by decide⟩ rfl rfl (ga_cat rfl) dX7_grown_2 (Nat.zero_le _) (Nat.zero_le _) rfl (gaX_all hT V) (ga_ki (fun r2 hp1 hw => ?_))
  refine g_iconst V (Int32.ofInt 1) dX7_grown_5 rfl rfl ?_
  obtain ⟨hb, hw⟩ := hw
  obtain ⟨fb, hb⟩ := hb
  refine g_callV (C := RX7) (T := TX7) (N := 8) (st := []) V (k_X7_start hst hw) ww_5_220 ww_5_222 wp_2_2 ww_1_5 ww_5_223 hd_X7_start ⟨by decide, by decide⟩ rfl (by decide) hb rfl rfl (ga_cat rfl) dX7_grown_6 (Nat.zero_le _) (Nat.zero_le _) rfl (gaX_all hT V) (ga_ki (fun r4 hp3 hw => ?_))
  obtain ⟨hx0, hw⟩ := hw
  refine gi_if_eq V dX7_grown_9 rfl rfl hx0 (fun q => ?_) (fun q => ?_)
  · have hw := ga_t q hw
    refine g_aload_n V dX7_grown_17 rfl rfl ?_
    refine g_iload_n V dX7_grown_18 rfl rfl ?_
    refine g_iload_n V dX7_grown_19 rfl rfl ?_
    obtain ⟨hb, hw⟩ := hw
    obtain ⟨fb, hb⟩ := hb
    obtain ⟨hk, hj, c7, s8, ec, es, hw⟩ := hw
    refine g_callV (C := RX7) (T := TX7) (N := 8) (st := []) V (k_X7_word hst hw) ww_7_19 ww_7_21 wp_2_15 ww_1_5 ww_7_22 hd_X7_word ⟨by decide, by decide⟩ rfl (by decide) hb rfl rfl (ga_cat rfl) dX7_grown_20 hk hj rfl (gaX_all hT V) (ga_ka (fun r6 hp5 hw => ?_))
    refine ga_re ec es ?_
    obtain ⟨hk, hj, c11, s12, ec, es, hw⟩ := hw
    refine g_callS (st := []) V (k_X7_textOf hst hw) ww_6_168 ww_6_169 ww_1_5 ww_6_170 hd_X7_textOf ⟨by decide, by decide⟩ rfl rfl (ga_cat rfl) dX7_grown_23 hk hj rfl (gaX_all hT V) (ga_ka (fun r10 hp9 hw => ?_))
    refine ga_re ec es ?_
    exact g_aret V rfl (by first | exact Or.inl ⟨_, rfl⟩ | exact Or.inr ⟨_, rfl⟩) dX7_grown_26 ⟨_, rfl, hw⟩
  · have hw := ga_f q hw
    refine g_ldcS V gs_5 dX7_grown_12 rfl ?_
    refine g_goto V dX7_grown_14 rfl ?_
    exact g_aret V rfl (by first | exact Or.inl ⟨_, rfl⟩ | exact Or.inr ⟨_, rfl⟩) dX7_grown_26 ⟨_, rfl, hw⟩
def w_X7_text (G : gaG) (a0 : Nat) (a1 : Int) (h : gaH) (Q : Nat → gaH → Prop) : Prop := w_X7_isNoSheet a1 h (fun r2 hp1 => gHas hp1 a0 7 ∧ w_X7_start a0 r2 1 hp1 (fun r4 hp3 => gR r4 ∧ (if r4 = 0 then gA hp3 a0 7 0 (fun r5 => gLA hp3 r5 112 a1 (fun r6 => gCall 135 8916 135 8916 (fun c9 s10 => w_X7_textOf G r6 hp3 (fun r8 hp7 => Q r8 hp7)))) else Q (G.2.2.2 15) hp3)))
abbrev rm_X7_text : Room := { frames := 8, cells := 135, slots := 8916, locals := 197 }
theorem hd_X7_text : yX7_text.cls = RX7 ∧ (yX7_text.cls ≠ "java/lang/invoke/MethodHandle" ∧ yX7_text.cls ≠ "java/lang/invoke/VarHandle" ∧ (parseMethodDescriptor yX7_text.desc).map (fun d => d.parameters.length) = some 1) := by decide +kernel
theorem k_X7_text {l : Launch} (hst : l.stackTraces = false) {G : gaG} {X : String → gaH → Prop} {a0 : Nat} {a1 : Int} {h : gaH} {Q : Nat → gaH → Prop} (hw : w_X7_text G a0 a1 h Q) : gaC l G yX7_text (gaM yX7_text cX7_text 2 ((some (.object "java/lang/String")))) rm_X7_text [.ref a0, gi a1] h (gQa Q) X := by
  refine g_start (lv := [some (.ref a0), some (gi a1)]) hpl_RX7 hst (Nat.le_of_ble_eq_true rfl) (gaArgs_pad (z := 0) rfl) ww_6_166 ?_
  intro p e s m args below meth c V hT
  show gaP p l e rm_X7_text s m args below meth c G 2 (gaZ below G (gQa Q) X args s rm_X7_text) 0 [some (.ref a0), some (gi a1)] [] h 135 8916
  unfold w_X7_text at hw
  refine g_aload_n V dX7_text_0 rfl rfl ?_
  refine g_iload_n V dX7_text_1 rfl rfl ?_
  refine g_callS (st := [.ref a0]) V (k_X7_isNoSheet hst hw) ww_5_214 ww_5_215 ww_1_5 ww_5_216 hd_X7_isNoSheet ⟨by decide, by decide⟩ rfl rfl (ga_cat rfl) dX7_text_2 (Nat.zero_le _) (Nat.zero_le _) rfl (gaX_all hT V) (ga_ki (fun r2 hp1 hw => ?_))
  refine g_iconst V (Int32.ofInt 1) dX7_text_5 rfl rfl ?_
  obtain ⟨hb, hw⟩ := hw
  obtain ⟨fb, hb⟩ := hb
  refine g_callV (C := RX7) (T := TX7) (N := 8) (st := []) V (k_X7_start hst hw) ww_5_220 ww_5_222 wp_2_2 ww_1_5 ww_5_223 hd_X7_start ⟨by decide, by decide⟩ rfl (by decide) hb rfl rfl (ga_cat rfl) dX7_text_6 (Nat.zero_le _) (Nat.zero_le _) rfl (gaX_all hT V) (ga_ki (fun r4 hp3 hw => ?_))
  obtain ⟨hx0, hw⟩ := hw
  refine gi_if_eq V dX7_text_9 rfl rfl hx0 (fun q => ?_) (fun q => ?_)
  · have hw := ga_t q hw
    refine g_aload_n V dX7_text_17 rfl rfl ?_
    obtain ⟨fs, r5, ha, hv, hw⟩ := hw
    refine g_get (C := RX7) (T := TX7) (N := 8) V 0 rfl hin_RX7 (by decide) (by decide) ww_5_181 rfl ha hv dX7_text_18 rfl ?_
    refine g_iload_n V dX7_text_21 rfl rfl ?_
    obtain ⟨vs, r6, ha, h0, h9, hv, hw⟩ := hw
    refine gi_aaload V ha (by decide) h0 h9 hv dX7_text_22 rfl ?_
    obtain ⟨hk, hj, c9, s10, ec, es, hw⟩ := hw
    refine g_callS (st := []) V (k_X7_textOf hst hw) ww_6_168 ww_6_169 ww_1_5 ww_6_170 hd_X7_textOf ⟨by decide, by decide⟩ rfl rfl (ga_cat rfl) dX7_text_23 hk hj rfl (gaX_all hT V) (ga_ka (fun r8 hp7 hw => ?_))
    refine ga_re ec es ?_
    exact g_aret V rfl (by first | exact Or.inl ⟨_, rfl⟩ | exact Or.inr ⟨_, rfl⟩) dX7_text_26 ⟨_, rfl, hw⟩
  · have hw := ga_f q hw
    refine g_ldcS V gs_5 dX7_text_12 rfl ?_
    refine g_goto V dX7_text_14 rfl ?_
    exact g_aret V rfl (by first | exact Or.inl ⟨_, rfl⟩ | exact Or.inr ⟨_, rfl⟩) dX7_text_26 ⟨_, rfl, hw⟩
def w_X7_turns_L25 (G : gaG) (Q : Nat → gaH → Prop) : Nat → (Nat → Int → Nat → Int → gaH → Nat → Nat → Prop)
  | 0 => fun _ _ _ _ _ _ _ => False
  | n + 1 => fun v0 v1 v2 v3 h kc ks => gA h v0 7 2 (fun r1 => gLI h r1 102 v1 (fun r2 => gR v3 ∧ gR r2 ∧ (if r2 ≤ v3 then gHas h v2 1 ∧ gCall 5 272 kc ks (fun c5 s6 => w_J4_toString_0e30d G v2 h (fun r4 hp3 => Q r4 hp3)) else gA h v0 7 1 (fun r7 => gLA h r7 112 v1 (fun r8 => gLI h r8 102 v3 (fun r9 => gHas h v2 1 ∧ gCall 2 134 kc ks (fun c12 s13 => w_J4_append_bf812 G v2 r9 h (fun r11 hp10 => w_X7_turns_L25 G Q n v0 v1 v2 (v3 + 1) hp10 c12 s13))))))))
def w_X7_turns (G : gaG) (a0 : Nat) (a1 : Int) (h : gaH) (Q : Nat → gaH → Prop) : Prop := w_X7_isNoGrowth a1 h (fun r2 hp1 => gHas hp1 a0 7 ∧ w_X7_start a0 r2 1 hp1 (fun r4 hp3 => gR r4 ∧ (if r4 = 0 then gNO hp3 1 4 ([.null, gi 0, gi 0, gi 0]) 135 8916 (fun o5 hp6 c7 s8 => gCall 1 64 c7 s8 (fun c11 s12 => w_J4_init_da8c8 G o5 hp6 (fun hp9 => ∃ z, w_X7_turns_L25 G Q z a0 a1 o5 0 hp9 c11 s12))) else Q (G.2.2.2 15) hp3)))
abbrev rm_X7_turns : Room := { frames := 7, cells := 135, slots := 8916, locals := 174 }
theorem hd_X7_turns : yX7_turns.cls = RX7 ∧ (yX7_turns.cls ≠ "java/lang/invoke/MethodHandle" ∧ yX7_turns.cls ≠ "java/lang/invoke/VarHandle" ∧ (parseMethodDescriptor yX7_turns.desc).map (fun d => d.parameters.length) = some 1) := by decide +kernel
theorem k_X7_turns {l : Launch} (hst : l.stackTraces = false) {G : gaG} {X : String → gaH → Prop} {a0 : Nat} {a1 : Int} {h : gaH} {Q : Nat → gaH → Prop} (hw : w_X7_turns G a0 a1 h Q) : gaC l G yX7_turns (gaM yX7_turns cX7_turns 4 ((some (.object "java/lang/String")))) rm_X7_turns [.ref a0, gi a1] h (gQa Q) X := by
  refine g_start (lv := [some (.ref a0), some (gi a1), none, none]) hpl_RX7 hst (Nat.le_of_ble_eq_true rfl) (gaArgs_pad (z := 2) rfl) ww_7_13 ?_
  intro p e s m args below meth c V hT
  have h_X7_turns_L25 : ∀ (n : Nat), ∀ (v0 : Nat) (v1 : Int) (v2 : Nat) (v3 : Int) (h : gaH) (kc ks : Nat), w_X7_turns_L25 G Q n v0 v1 v2 v3 h kc ks → gaP p l e rm_X7_turns s m args below meth c G 4 (gaZ below G (gQa Q) X args s rm_X7_turns) 25 [some (.ref v0), some (gi v1), some (.ref v2), some (gi v3)] [] h kc ks := by
    intro n
    induction n with
    | zero =>
      intro v0 v1 v2 v3 h kc ks hw
      exact hw.elim
    | succ n ih =>
      intro v0 v1 v2 v3 h kc ks hw
      unfold w_X7_turns_L25 at hw
      refine g_iload_n V dX7_turns_25 rfl rfl ?_
      refine g_aload_n V dX7_turns_26 rfl rfl ?_
      obtain ⟨fs, r1, ha, hv, hw⟩ := hw
      refine g_get (C := RX7) (T := TX7) (N := 8) V 2 rfl hin_RX7 (by decide) (by decide) ww_5_183 rfl ha hv dX7_turns_27 rfl ?_
      refine g_iload_n V dX7_turns_30 rfl rfl ?_
      obtain ⟨t9, vs, r2, ha, ht, h0, h9, hv, hw⟩ := hw
      refine gi_iaload V ha ht h0 h9 hv dX7_turns_31 rfl ?_
      obtain ⟨hx0, hx1, hw⟩ := hw
      refine gi_icmp_ge V dX7_turns_32 rfl rfl hx0 hx1 (fun q => ?_) (fun q => ?_)
      · have hw := ga_t q hw
        refine g_aload_n V dX7_turns_54 rfl rfl ?_
        obtain ⟨hb, hw⟩ := hw
        obtain ⟨fb, hb⟩ := hb
        obtain ⟨hk, hj, c5, s6, ec, es, hw⟩ := hw
        refine g_callV (C := RJ4) (T := TJ4) (N := 4) (st := []) V (k_J4_toString_0e30d hst hw) ww_6_174 ww_4_148 ww_4_149 ww_1_18 ww_4_150 hd_J4_toString_0e30d ⟨by decide, by decide⟩ rfl (by decide) hb rfl rfl (ga_cat rfl) dX7_turns_55 hk hj rfl (gaX_all hT V) (ga_ka (fun r4 hp3 hw => ?_))
        refine ga_re ec es ?_
        exact g_aret V rfl (by first | exact Or.inl ⟨_, rfl⟩ | exact Or.inr ⟨_, rfl⟩) dX7_turns_58 ⟨_, rfl, hw⟩
      · have hw := ga_f q hw
        refine g_aload_n V dX7_turns_35 rfl rfl ?_
        refine g_aload_n V dX7_turns_36 rfl rfl ?_
        obtain ⟨fs, r7, ha, hv, hw⟩ := hw
        refine g_get (C := RX7) (T := TX7) (N := 8) V 1 rfl hin_RX7 (by decide) (by decide) ww_5_182 rfl ha hv dX7_turns_37 rfl ?_
        refine g_iload_n V dX7_turns_40 rfl rfl ?_
        obtain ⟨vs, r8, ha, h0, h9, hv, hw⟩ := hw
        refine gi_aaload V ha (by decide) h0 h9 hv dX7_turns_41 rfl ?_
        refine g_iload_n V dX7_turns_42 rfl rfl ?_
        obtain ⟨t9, vs, r9, ha, ht, h0, h9, hv, hw⟩ := hw
        refine gi_iaload V ha ht h0 h9 hv dX7_turns_43 rfl ?_
        obtain ⟨hb, hw⟩ := hw
        obtain ⟨fb, hb⟩ := hb
        obtain ⟨hk, hj, c12, s13, ec, es, hw⟩ := hw
        refine g_callV (C := RJ4) (T := TJ4) (N := 4) (st := []) V (k_J4_append_bf812 hst hw) ww_7_14 ww_4_187 ww_4_188 ww_1_18 ww_4_189 hd_J4_append_bf812 ⟨by decide, by decide⟩ rfl (by decide) hb rfl rfl (ga_cat rfl) dX7_turns_44 hk hj rfl (gaX_all hT V) (ga_ka (fun r11 hp10 hw => ?_))
        refine ga_re ec es ?_
        refine g_pop V dX7_turns_47 rfl rfl ?_
        refine gi_iinc (lv2 := [some (.ref v0), some (gi v1), some (.ref v2), some (gi (v3 + 1))]) V dX7_turns_48 (by decide) rfl rfl rfl rfl ?_
        refine g_goto V dX7_turns_51 rfl ?_
        exact ih v0 v1 v2 (v3 + 1) hp10 c12 s13 hw
  show gaP p l e rm_X7_turns s m args below meth c G 4 (gaZ below G (gQa Q) X args s rm_X7_turns) 0 [some (.ref a0), some (gi a1), none, none] [] h 135 8916
  unfold w_X7_turns at hw
  refine g_aload_n V dX7_turns_0 rfl rfl ?_
  refine g_iload_n V dX7_turns_1 rfl rfl ?_
  refine g_callS (st := [.ref a0]) V (k_X7_isNoGrowth hst hw) ww_6_110 ww_6_111 ww_1_5 ww_6_112 hd_X7_isNoGrowth ⟨by decide, by decide⟩ rfl rfl (ga_cat rfl) dX7_turns_2 (Nat.zero_le _) (Nat.zero_le _) rfl (gaX_all hT V) (ga_ki (fun r2 hp1 hw => ?_))
  refine g_iconst V (Int32.ofInt 1) dX7_turns_5 rfl rfl ?_
  obtain ⟨hb, hw⟩ := hw
  obtain ⟨fb, hb⟩ := hb
  refine g_callV (C := RX7) (T := TX7) (N := 8) (st := []) V (k_X7_start hst hw) ww_5_220 ww_5_222 wp_2_2 ww_1_5 ww_5_223 hd_X7_start ⟨by decide, by decide⟩ rfl (by decide) hb rfl rfl (ga_cat rfl) dX7_turns_6 (Nat.zero_le _) (Nat.zero_le _) rfl (gaX_all hT V) (ga_ki (fun r4 hp3 hw => ?_))
  obtain ⟨hx0, hw⟩ := hw
  refine gi_if_eq V dX7_turns_9 rfl rfl hx0 (fun q => ?_) (fun q => ?_)
  · have hw := ga_t q hw
    obtain ⟨hk, hj, hw⟩ := hw
    refine g_new (ci := 1) (C := RJ4) (T := TJ4) (N := 4) (fs := [.null, gi 0, gi 0, gi 0]) V tyJ4 tyJ4_ok rfl hin_RJ4 (by decide) ww_6_171 ww_4_26 ww_1_18 hdf_RJ4 dX7_turns_15 rfl hk hj (fun o5 hf => ?_)
    obtain ⟨c7, s8, ec, es, hw⟩ := hw o5 hf
    refine ga_re ec es ?_
    generalize gaUp hp3 o5 _ = hp6 at hw ⊢
    refine g_dup V dX7_turns_18 rfl rfl ?_
    obtain ⟨hk, hj, c11, s12, ec, es, hw⟩ := hw
    refine g_callI (st := [.ref o5]) V (k_J4_init_da8c8 hst hw) ww_6_172 ww_4_28 ww_1_18 ww_4_29 rfl hd_J4_init_da8c8 ⟨by decide, by decide⟩ rfl rfl (ga_cat rfl) dX7_turns_19 hk hj rfl (gaX_all hT V) (ga_kv (fun hp9 hw => ?_))
    refine ga_re ec es ?_
    refine g_astore_n (lv2 := [some (.ref a0), some (gi a1), some (.ref o5), none]) V dX7_turns_22 (by decide) rfl rfl rfl ?_
    refine g_iconst V (Int32.ofInt 0) dX7_turns_23 rfl rfl ?_
    refine g_istore_n (lv2 := [some (.ref a0), some (gi a1), some (.ref o5), some (gi 0)]) V dX7_turns_24 (by decide) rfl rfl rfl ?_
    obtain ⟨z, hw⟩ := hw
    exact h_X7_turns_L25 z a0 a1 o5 0 hp9 c11 s12 hw
  · have hw := ga_f q hw
    refine g_ldcS V gs_5 dX7_turns_12 rfl ?_
    exact g_aret V rfl (by first | exact Or.inl ⟨_, rfl⟩ | exact Or.inr ⟨_, rfl⟩) dX7_turns_14 ⟨_, rfl, hw⟩
def w_L_write (a0 : Nat) (a1 : Int) (a2 : Int) (a3 : Nat) (h : gaH) (Q : Int → gaH → Prop) : Prop := gHas h a0 5 ∧ gCall 2 12 2 12 (fun c3 s4 => w_X5_write (fun E9 h9 => (E9 = "java/lang/IndexOutOfBoundsException" ∧ Q 1 h9) ∨ (E9 = "java/lang/IllegalArgumentException" ∧ Q 2 h9)) a0 a1 a2 h (fun r2 hp1 => gPF hp1 a3 6 0 (.long (gI2l r2)) (fun hp5 => Q 0 hp5)))
abbrev rm_L_write : Room := { frames := 10, cells := 2, slots := 12, locals := 244 }
theorem hd_L_write : (yL_write.cls ≠ "java/lang/invoke/MethodHandle" ∧ yL_write.cls ≠ "java/lang/invoke/VarHandle" ∧ (parseMethodDescriptor yL_write.desc).map (fun d => d.parameters.length) = some 4) := by decide +kernel
theorem k_L_write {l : Launch} (hst : l.stackTraces = false) {G : gaG} {X : String → gaH → Prop} {a0 : Nat} {a1 : Int} {a2 : Int} {a3 : Nat} {h : gaH} {Q : Int → gaH → Prop} (hw : w_L_write a0 a1 a2 a3 h Q) : gaC l G yL_write (gaMW yL_write cL_write 5 ((some .int)) [(0, 11, 14, 19), (0, 11, 18, 21)]) rm_L_write [.ref a0, gi a1, gi a2, .ref a3] h (gQi Q) X := by
  refine g_startW (lv := [some (.ref a0), some (gi a1), some (gi a2), some (.ref a3), none]) hpl_RL hst (Nat.le_of_ble_eq_true rfl) (gaArgs_pad (z := 1) rfl) ww_2_207 ?_
  intro p e s m args below meth c V hT
  show gaP p l e rm_L_write s m args below meth c G 5 (gaZ below G (gQi Q) X args s rm_L_write) 0 [some (.ref a0), some (gi a1), some (gi a2), some (.ref a3), none] [] h 2 12
  unfold w_L_write at hw
  refine g_aload_n V dL_write_0 rfl rfl ?_
  refine g_aload_n V dL_write_1 rfl rfl ?_
  refine g_iload_n V dL_write_2 rfl rfl ?_
  refine g_iload_n V dL_write_3 rfl rfl ?_
  obtain ⟨hb, hw⟩ := hw
  obtain ⟨fb, hb⟩ := hb
  obtain ⟨hk, hj, c3, s4, ec, es, hw⟩ := hw
  refine g_callV (C := RX5) (T := TX5) (N := 9) (st := [.ref a3]) V (k_X5_write hst hw) ww_2_210 ww_2_211 ww_2_212 ww_1_1 ww_2_213 hd_X5_write ⟨by decide, by decide⟩ rfl (by decide) hb rfl rfl (ga_cat rfl) dL_write_4 hk hj rfl ?_ (ga_ki (fun r2 hp1 hw => ?_))
  · rintro E9 h9 (⟨rfl, hw⟩ | ⟨rfl, hw⟩)
    · refine gaO_re ec es ?_
      refine gaO_catch V hT [] ⟨0, 11, 14, 19⟩ [⟨0, 11, 18, 21⟩] rfl (by intro z hz; simp at hz) rfl (by decide) ww_2_208 gn_12 rfl (fun q => ?_)
      refine g_astore (lv2 := [some (.ref a0), some (gi a1), some (gi a2), some (.ref a3), some (.ref q)]) V dL_write_14 (by decide) rfl rfl rfl ?_
      refine g_iconst V (Int32.ofInt 1) dL_write_16 rfl rfl ?_
      exact g_iret V rfl rfl dL_write_17 ⟨_, rfl, hw⟩
    · refine gaO_re ec es ?_
      refine gaO_catch V hT [⟨0, 11, 14, 19⟩] ⟨0, 11, 18, 21⟩ [] rfl (by intro z hz; simp only [List.mem_cons, List.not_mem_nil, or_false] at hz; rcases hz with rfl <;> first | exact ⟨by decide, "java/lang/IndexOutOfBoundsException", ww_2_208, List.mem_of_getElem? (i := 0) rfl⟩) rfl (by decide) ww_2_209 gn_20 rfl (fun q => ?_)
      refine g_astore (lv2 := [some (.ref a0), some (gi a1), some (gi a2), some (.ref a3), some (.ref q)]) V dL_write_18 (by decide) rfl rfl rfl ?_
      refine g_iconst V (Int32.ofInt 2) dL_write_20 rfl rfl ?_
      exact g_iret V rfl rfl dL_write_21 ⟨_, rfl, hw⟩
  · refine ga_re ec es ?_
    refine gi_i2l V dL_write_7 rfl ?_
    obtain ⟨fs, ha, hl, hw⟩ := hw
    refine g_putN (host := "WordgardenLaw") (C := RX6) (T := TX6) (N := 2) V 0 tyX6 tyX6_ok nmX6 rfl hin_RX6 (by decide) (by decide) gn_22 rfl rfl rfl rfl ha hl dL_write_8 rfl ?_
    generalize gaUp hp1 a3 _ = hp5 at hw ⊢
    refine g_goto V dL_write_11 rfl ?_
    refine g_iconst V (Int32.ofInt 0) dL_write_22 rfl rfl ?_
    exact g_iret V rfl rfl dL_write_23 ⟨_, rfl, hw⟩
def w_L_append (a0 : Nat) (a1 : Int) (a2 : Int) (a3 : Nat) (h : gaH) (Q : Int → gaH → Prop) : Prop := gHas h a0 5 ∧ gCall 2 12 2 12 (fun c3 s4 => w_X5_append (fun E9 h9 => (E9 = "java/lang/IndexOutOfBoundsException" ∧ Q 1 h9)) a0 a1 a2 h (fun r2 hp1 => gPF hp1 a3 6 0 (.long (gI2l r2)) (fun hp5 => Q 0 hp5)))
abbrev rm_L_append : Room := { frames := 10, cells := 2, slots := 12, locals := 244 }
theorem hd_L_append : (yL_append.cls ≠ "java/lang/invoke/MethodHandle" ∧ yL_append.cls ≠ "java/lang/invoke/VarHandle" ∧ (parseMethodDescriptor yL_append.desc).map (fun d => d.parameters.length) = some 4) := by decide +kernel
theorem k_L_append {l : Launch} (hst : l.stackTraces = false) {G : gaG} {X : String → gaH → Prop} {a0 : Nat} {a1 : Int} {a2 : Int} {a3 : Nat} {h : gaH} {Q : Int → gaH → Prop} (hw : w_L_append a0 a1 a2 a3 h Q) : gaC l G yL_append (gaMW yL_append cL_append 5 ((some .int)) [(0, 11, 14, 19)]) rm_L_append [.ref a0, gi a1, gi a2, .ref a3] h (gQi Q) X := by
  refine g_startW (lv := [some (.ref a0), some (gi a1), some (gi a2), some (.ref a3), none]) hpl_RL hst (Nat.le_of_ble_eq_true rfl) (gaArgs_pad (z := 1) rfl) ww_2_222 ?_
  intro p e s m args below meth c V hT
  show gaP p l e rm_L_append s m args below meth c G 5 (gaZ below G (gQi Q) X args s rm_L_append) 0 [some (.ref a0), some (gi a1), some (gi a2), some (.ref a3), none] [] h 2 12
  unfold w_L_append at hw
  refine g_aload_n V dL_append_0 rfl rfl ?_
  refine g_aload_n V dL_append_1 rfl rfl ?_
  refine g_iload_n V dL_append_2 rfl rfl ?_
  refine g_iload_n V dL_append_3 rfl rfl ?_
  obtain ⟨hb, hw⟩ := hw
  obtain ⟨fb, hb⟩ := hb
  obtain ⟨hk, hj, c3, s4, ec, es, hw⟩ := hw
  refine g_callV (C := RX5) (T := TX5) (N := 9) (st := [.ref a3]) V (k_X5_append hst hw) ww_2_223 ww_2_224 ww_2_225 ww_1_1 ww_2_226 hd_X5_append ⟨by decide, by decide⟩ rfl (by decide) hb rfl rfl (ga_cat rfl) dL_append_4 hk hj rfl ?_ (ga_ki (fun r2 hp1 hw => ?_))
  · rintro E9 h9 ⟨rfl, hw⟩
    refine gaO_re ec es ?_
    refine gaO_catch V hT [] ⟨0, 11, 14, 19⟩ [] rfl (by intro z hz; simp at hz) rfl (by decide) ww_2_208 gn_12 rfl (fun q => ?_)
    refine g_astore (lv2 := [some (.ref a0), some (gi a1), some (gi a2), some (.ref a3), some (.ref q)]) V dL_append_14 (by decide) rfl rfl rfl ?_
    refine g_iconst V (Int32.ofInt 1) dL_append_16 rfl rfl ?_
    exact g_iret V rfl rfl dL_append_17 ⟨_, rfl, hw⟩
  · refine ga_re ec es ?_
    refine gi_i2l V dL_append_7 rfl ?_
    obtain ⟨fs, ha, hl, hw⟩ := hw
    refine g_putN (host := "WordgardenLaw") (C := RX6) (T := TX6) (N := 2) V 0 tyX6 tyX6_ok nmX6 rfl hin_RX6 (by decide) (by decide) gn_22 rfl rfl rfl rfl ha hl dL_append_8 rfl ?_
    generalize gaUp hp1 a3 _ = hp5 at hw ⊢
    refine g_goto V dL_append_11 rfl ?_
    refine g_iconst V (Int32.ofInt 0) dL_append_18 rfl rfl ?_
    exact g_iret V rfl rfl dL_append_19 ⟨_, rfl, hw⟩
def w_L_insertSign (a0 : Nat) (a1 : Int) (a2 : Int) (a3 : Int) (a4 : Nat) (h : gaH) (Q : Int → gaH → Prop) : Prop := gHas h a0 5 ∧ gCall 2 12 2 12 (fun c3 s4 => w_X5_insertSign (fun E9 h9 => (E9 = "java/lang/IndexOutOfBoundsException" ∧ Q 1 h9)) a0 a1 a2 a3 h (fun r2 hp1 => gPF hp1 a4 6 0 (.long (gI2l r2)) (fun hp5 => Q 0 hp5)))
abbrev rm_L_insertSign : Room := { frames := 10, cells := 2, slots := 12, locals := 245 }
theorem hd_L_insertSign : (yL_insertSign.cls ≠ "java/lang/invoke/MethodHandle" ∧ yL_insertSign.cls ≠ "java/lang/invoke/VarHandle" ∧ (parseMethodDescriptor yL_insertSign.desc).map (fun d => d.parameters.length) = some 5) := by decide +kernel
theorem k_L_insertSign {l : Launch} (hst : l.stackTraces = false) {G : gaG} {X : String → gaH → Prop} {a0 : Nat} {a1 : Int} {a2 : Int} {a3 : Int} {a4 : Nat} {h : gaH} {Q : Int → gaH → Prop} (hw : w_L_insertSign a0 a1 a2 a3 a4 h Q) : gaC l G yL_insertSign (gaMW yL_insertSign cL_insertSign 6 ((some .int)) [(0, 13, 16, 19)]) rm_L_insertSign [.ref a0, gi a1, gi a2, gi a3, .ref a4] h (gQi Q) X := by
  refine g_startW (lv := [some (.ref a0), some (gi a1), some (gi a2), some (gi a3), some (.ref a4), none]) hpl_RL hst (Nat.le_of_ble_eq_true rfl) (gaArgs_pad (z := 1) rfl) ww_3_0 ?_
  intro p e s m args below meth c V hT
  show gaP p l e rm_L_insertSign s m args below meth c G 6 (gaZ below G (gQi Q) X args s rm_L_insertSign) 0 [some (.ref a0), some (gi a1), some (gi a2), some (gi a3), some (.ref a4), none] [] h 2 12
  unfold w_L_insertSign at hw
  refine g_aload V dL_insertSign_0 rfl rfl ?_
  refine g_aload_n V dL_insertSign_2 rfl rfl ?_
  refine g_iload_n V dL_insertSign_3 rfl rfl ?_
  refine g_iload_n V dL_insertSign_4 rfl rfl ?_
  refine g_iload_n V dL_insertSign_5 rfl rfl ?_
  obtain ⟨hb, hw⟩ := hw
  obtain ⟨fb, hb⟩ := hb
  obtain ⟨hk, hj, c3, s4, ec, es, hw⟩ := hw
  refine g_callV (C := RX5) (T := TX5) (N := 9) (st := [.ref a4]) V (k_X5_insertSign hst hw) ww_3_1 ww_3_2 ww_3_3 ww_1_1 ww_3_4 hd_X5_insertSign ⟨by decide, by decide⟩ rfl (by decide) hb rfl rfl (ga_cat rfl) dL_insertSign_6 hk hj rfl ?_ (ga_ki (fun r2 hp1 hw => ?_))
  · rintro E9 h9 ⟨rfl, hw⟩
    refine gaO_re ec es ?_
    refine gaO_catch V hT [] ⟨0, 13, 16, 19⟩ [] rfl (by intro z hz; simp at hz) rfl (by decide) ww_2_208 gn_12 rfl (fun q => ?_)
    refine g_astore (lv2 := [some (.ref a0), some (gi a1), some (gi a2), some (gi a3), some (.ref a4), some (.ref q)]) V dL_insertSign_16 (by decide) rfl rfl rfl ?_
    refine g_iconst V (Int32.ofInt 1) dL_insertSign_18 rfl rfl ?_
    exact g_iret V rfl rfl dL_insertSign_19 ⟨_, rfl, hw⟩
  · refine ga_re ec es ?_
    refine gi_i2l V dL_insertSign_9 rfl ?_
    obtain ⟨fs, ha, hl, hw⟩ := hw
    refine g_putN (host := "WordgardenLaw") (C := RX6) (T := TX6) (N := 2) V 0 tyX6 tyX6_ok nmX6 rfl hin_RX6 (by decide) (by decide) gn_22 rfl rfl rfl rfl ha hl dL_insertSign_10 rfl ?_
    generalize gaUp hp1 a4 _ = hp5 at hw ⊢
    refine g_goto V dL_insertSign_13 rfl ?_
    refine g_iconst V (Int32.ofInt 0) dL_insertSign_20 rfl rfl ?_
    exact g_iret V rfl rfl dL_insertSign_21 ⟨_, rfl, hw⟩
def w_L_insertSheet (a0 : Nat) (a1 : Int) (a2 : Int) (a3 : Int) (a4 : Nat) (h : gaH) (Q : Int → gaH → Prop) : Prop := gHas h a0 5 ∧ gCall 3 18 3 18 (fun c3 s4 => w_X5_insertSheet (fun E9 h9 => (E9 = "java/lang/IndexOutOfBoundsException" ∧ Q 1 h9)) a0 a1 a2 a3 h (fun r2 hp1 => gPF hp1 a4 6 0 (.long (gI2l r2)) (fun hp5 => Q 0 hp5)))
abbrev rm_L_insertSheet : Room := { frames := 10, cells := 3, slots := 18, locals := 246 }
theorem hd_L_insertSheet : (yL_insertSheet.cls ≠ "java/lang/invoke/MethodHandle" ∧ yL_insertSheet.cls ≠ "java/lang/invoke/VarHandle" ∧ (parseMethodDescriptor yL_insertSheet.desc).map (fun d => d.parameters.length) = some 5) := by decide +kernel
theorem k_L_insertSheet {l : Launch} (hst : l.stackTraces = false) {G : gaG} {X : String → gaH → Prop} {a0 : Nat} {a1 : Int} {a2 : Int} {a3 : Int} {a4 : Nat} {h : gaH} {Q : Int → gaH → Prop} (hw : w_L_insertSheet a0 a1 a2 a3 a4 h Q) : gaC l G yL_insertSheet (gaMW yL_insertSheet cL_insertSheet 6 ((some .int)) [(0, 13, 16, 19)]) rm_L_insertSheet [.ref a0, gi a1, gi a2, gi a3, .ref a4] h (gQi Q) X := by
  refine g_startW (lv := [some (.ref a0), some (gi a1), some (gi a2), some (gi a3), some (.ref a4), none]) hpl_RL hst (Nat.le_of_ble_eq_true rfl) (gaArgs_pad (z := 1) rfl) ww_3_12 ?_
  intro p e s m args below meth c V hT
  show gaP p l e rm_L_insertSheet s m args below meth c G 6 (gaZ below G (gQi Q) X args s rm_L_insertSheet) 0 [some (.ref a0), some (gi a1), some (gi a2), some (gi a3), some (.ref a4), none] [] h 3 18
  unfold w_L_insertSheet at hw
  refine g_aload V dL_insertSheet_0 rfl rfl ?_
  refine g_aload_n V dL_insertSheet_2 rfl rfl ?_
  refine g_iload_n V dL_insertSheet_3 rfl rfl ?_
  refine g_iload_n V dL_insertSheet_4 rfl rfl ?_
  refine g_iload_n V dL_insertSheet_5 rfl rfl ?_
  obtain ⟨hb, hw⟩ := hw
  obtain ⟨fb, hb⟩ := hb
  obtain ⟨hk, hj, c3, s4, ec, es, hw⟩ := hw
  refine g_callV (C := RX5) (T := TX5) (N := 9) (st := [.ref a4]) V (k_X5_insertSheet hst hw) ww_3_13 ww_3_14 ww_3_15 ww_1_1 ww_3_16 hd_X5_insertSheet ⟨by decide, by decide⟩ rfl (by decide) hb rfl rfl (ga_cat rfl) dL_insertSheet_6 hk hj rfl ?_ (ga_ki (fun r2 hp1 hw => ?_))
  · rintro E9 h9 ⟨rfl, hw⟩
    refine gaO_re ec es ?_
    refine gaO_catch V hT [] ⟨0, 13, 16, 19⟩ [] rfl (by intro z hz; simp at hz) rfl (by decide) ww_2_208 gn_12 rfl (fun q => ?_)
    refine g_astore (lv2 := [some (.ref a0), some (gi a1), some (gi a2), some (gi a3), some (.ref a4), some (.ref q)]) V dL_insertSheet_16 (by decide) rfl rfl rfl ?_
    refine g_iconst V (Int32.ofInt 1) dL_insertSheet_18 rfl rfl ?_
    exact g_iret V rfl rfl dL_insertSheet_19 ⟨_, rfl, hw⟩
  · refine ga_re ec es ?_
    refine gi_i2l V dL_insertSheet_9 rfl ?_
    obtain ⟨fs, ha, hl, hw⟩ := hw
    refine g_putN (host := "WordgardenLaw") (C := RX6) (T := TX6) (N := 2) V 0 tyX6 tyX6_ok nmX6 rfl hin_RX6 (by decide) (by decide) gn_22 rfl rfl rfl rfl ha hl dL_insertSheet_10 rfl ?_
    generalize gaUp hp1 a4 _ = hp5 at hw ⊢
    refine g_goto V dL_insertSheet_13 rfl ?_
    refine g_iconst V (Int32.ofInt 0) dL_insertSheet_20 rfl rfl ?_
    exact g_iret V rfl rfl dL_insertSheet_21 ⟨_, rfl, hw⟩
def w_L_setSign (a0 : Nat) (a1 : Int) (a2 : Int) (a3 : Int) (a4 : Nat) (h : gaH) (Q : Int → gaH → Prop) : Prop := gHas h a0 5 ∧ gCall 2 12 2 12 (fun c3 s4 => w_X5_setSign (fun E9 h9 => (E9 = "java/lang/IndexOutOfBoundsException" ∧ Q 1 h9)) a0 a1 a2 a3 h (fun r2 hp1 => gPF hp1 a4 6 0 (.long (gI2l r2)) (fun hp5 => Q 0 hp5)))
abbrev rm_L_setSign : Room := { frames := 10, cells := 2, slots := 12, locals := 246 }
theorem hd_L_setSign : (yL_setSign.cls ≠ "java/lang/invoke/MethodHandle" ∧ yL_setSign.cls ≠ "java/lang/invoke/VarHandle" ∧ (parseMethodDescriptor yL_setSign.desc).map (fun d => d.parameters.length) = some 5) := by decide +kernel
theorem k_L_setSign {l : Launch} (hst : l.stackTraces = false) {G : gaG} {X : String → gaH → Prop} {a0 : Nat} {a1 : Int} {a2 : Int} {a3 : Int} {a4 : Nat} {h : gaH} {Q : Int → gaH → Prop} (hw : w_L_setSign a0 a1 a2 a3 a4 h Q) : gaC l G yL_setSign (gaMW yL_setSign cL_setSign 6 ((some .int)) [(0, 13, 16, 19)]) rm_L_setSign [.ref a0, gi a1, gi a2, gi a3, .ref a4] h (gQi Q) X := by
  refine g_startW (lv := [some (.ref a0), some (gi a1), some (gi a2), some (gi a3), some (.ref a4), none]) hpl_RL hst (Nat.le_of_ble_eq_true rfl) (gaArgs_pad (z := 1) rfl) ww_3_19 ?_
  intro p e s m args below meth c V hT
  show gaP p l e rm_L_setSign s m args below meth c G 6 (gaZ below G (gQi Q) X args s rm_L_setSign) 0 [some (.ref a0), some (gi a1), some (gi a2), some (gi a3), some (.ref a4), none] [] h 2 12
  unfold w_L_setSign at hw
  refine g_aload V dL_setSign_0 rfl rfl ?_
  refine g_aload_n V dL_setSign_2 rfl rfl ?_
  refine g_iload_n V dL_setSign_3 rfl rfl ?_
  refine g_iload_n V dL_setSign_4 rfl rfl ?_
  refine g_iload_n V dL_setSign_5 rfl rfl ?_
  obtain ⟨hb, hw⟩ := hw
  obtain ⟨fb, hb⟩ := hb
  obtain ⟨hk, hj, c3, s4, ec, es, hw⟩ := hw
  refine g_callV (C := RX5) (T := TX5) (N := 9) (st := [.ref a4]) V (k_X5_setSign hst hw) ww_3_20 ww_3_21 ww_3_22 ww_1_1 ww_3_23 hd_X5_setSign ⟨by decide, by decide⟩ rfl (by decide) hb rfl rfl (ga_cat rfl) dL_setSign_6 hk hj rfl ?_ (ga_ki (fun r2 hp1 hw => ?_))
  · rintro E9 h9 ⟨rfl, hw⟩
    refine gaO_re ec es ?_
    refine gaO_catch V hT [] ⟨0, 13, 16, 19⟩ [] rfl (by intro z hz; simp at hz) rfl (by decide) ww_2_208 gn_12 rfl (fun q => ?_)
    refine g_astore (lv2 := [some (.ref a0), some (gi a1), some (gi a2), some (gi a3), some (.ref a4), some (.ref q)]) V dL_setSign_16 (by decide) rfl rfl rfl ?_
    refine g_iconst V (Int32.ofInt 1) dL_setSign_18 rfl rfl ?_
    exact g_iret V rfl rfl dL_setSign_19 ⟨_, rfl, hw⟩
  · refine ga_re ec es ?_
    refine gi_i2l V dL_setSign_9 rfl ?_
    obtain ⟨fs, ha, hl, hw⟩ := hw
    refine g_putN (host := "WordgardenLaw") (C := RX6) (T := TX6) (N := 2) V 0 tyX6 tyX6_ok nmX6 rfl hin_RX6 (by decide) (by decide) gn_22 rfl rfl rfl rfl ha hl dL_setSign_10 rfl ?_
    generalize gaUp hp1 a4 _ = hp5 at hw ⊢
    refine g_goto V dL_setSign_13 rfl ?_
    refine g_iconst V (Int32.ofInt 0) dL_setSign_20 rfl rfl ?_
    exact g_iret V rfl rfl dL_setSign_21 ⟨_, rfl, hw⟩
def w_L_removeSign (a0 : Nat) (a1 : Int) (a2 : Int) (a3 : Nat) (h : gaH) (Q : Int → gaH → Prop) : Prop := gHas h a0 5 ∧ gCall 2 12 2 12 (fun c3 s4 => w_X5_removeSign (fun E9 h9 => (E9 = "java/lang/IndexOutOfBoundsException" ∧ Q 1 h9)) a0 a1 a2 h (fun r2 hp1 => gPF hp1 a3 6 0 (.long (gI2l r2)) (fun hp5 => Q 0 hp5)))
abbrev rm_L_removeSign : Room := { frames := 10, cells := 2, slots := 12, locals := 244 }
theorem hd_L_removeSign : (yL_removeSign.cls ≠ "java/lang/invoke/MethodHandle" ∧ yL_removeSign.cls ≠ "java/lang/invoke/VarHandle" ∧ (parseMethodDescriptor yL_removeSign.desc).map (fun d => d.parameters.length) = some 4) := by decide +kernel
theorem k_L_removeSign {l : Launch} (hst : l.stackTraces = false) {G : gaG} {X : String → gaH → Prop} {a0 : Nat} {a1 : Int} {a2 : Int} {a3 : Nat} {h : gaH} {Q : Int → gaH → Prop} (hw : w_L_removeSign a0 a1 a2 a3 h Q) : gaC l G yL_removeSign (gaMW yL_removeSign cL_removeSign 5 ((some .int)) [(0, 11, 14, 19)]) rm_L_removeSign [.ref a0, gi a1, gi a2, .ref a3] h (gQi Q) X := by
  refine g_startW (lv := [some (.ref a0), some (gi a1), some (gi a2), some (.ref a3), none]) hpl_RL hst (Nat.le_of_ble_eq_true rfl) (gaArgs_pad (z := 1) rfl) ww_3_27 ?_
  intro p e s m args below meth c V hT
  show gaP p l e rm_L_removeSign s m args below meth c G 5 (gaZ below G (gQi Q) X args s rm_L_removeSign) 0 [some (.ref a0), some (gi a1), some (gi a2), some (.ref a3), none] [] h 2 12
  unfold w_L_removeSign at hw
  refine g_aload_n V dL_removeSign_0 rfl rfl ?_
  refine g_aload_n V dL_removeSign_1 rfl rfl ?_
  refine g_iload_n V dL_removeSign_2 rfl rfl ?_
  refine g_iload_n V dL_removeSign_3 rfl rfl ?_
  obtain ⟨hb, hw⟩ := hw
  obtain ⟨fb, hb⟩ := hb
  obtain ⟨hk, hj, c3, s4, ec, es, hw⟩ := hw
  refine g_callV (C := RX5) (T := TX5) (N := 9) (st := [.ref a3]) V (k_X5_removeSign hst hw) ww_3_28 ww_3_29 ww_3_30 ww_1_1 ww_3_31 hd_X5_removeSign ⟨by decide, by decide⟩ rfl (by decide) hb rfl rfl (ga_cat rfl) dL_removeSign_4 hk hj rfl ?_ (ga_ki (fun r2 hp1 hw => ?_))
  · rintro E9 h9 ⟨rfl, hw⟩
    refine gaO_re ec es ?_
    refine gaO_catch V hT [] ⟨0, 11, 14, 19⟩ [] rfl (by intro z hz; simp at hz) rfl (by decide) ww_2_208 gn_12 rfl (fun q => ?_)
    refine g_astore (lv2 := [some (.ref a0), some (gi a1), some (gi a2), some (.ref a3), some (.ref q)]) V dL_removeSign_14 (by decide) rfl rfl rfl ?_
    refine g_iconst V (Int32.ofInt 1) dL_removeSign_16 rfl rfl ?_
    exact g_iret V rfl rfl dL_removeSign_17 ⟨_, rfl, hw⟩
  · refine ga_re ec es ?_
    refine gi_i2l V dL_removeSign_7 rfl ?_
    obtain ⟨fs, ha, hl, hw⟩ := hw
    refine g_putN (host := "WordgardenLaw") (C := RX6) (T := TX6) (N := 2) V 0 tyX6 tyX6_ok nmX6 rfl hin_RX6 (by decide) (by decide) gn_22 rfl rfl rfl rfl ha hl dL_removeSign_8 rfl ?_
    generalize gaUp hp1 a3 _ = hp5 at hw ⊢
    refine g_goto V dL_removeSign_11 rfl ?_
    refine g_iconst V (Int32.ofInt 0) dL_removeSign_18 rfl rfl ?_
    exact g_iret V rfl rfl dL_removeSign_19 ⟨_, rfl, hw⟩
def w_L_remove (a0 : Nat) (a1 : Int) (a2 : Int) (a3 : Int) (a4 : Nat) (h : gaH) (Q : Int → gaH → Prop) : Prop := gHas h a0 5 ∧ gCall 2 12 2 12 (fun c3 s4 => w_X5_remove (fun E9 h9 => (E9 = "java/lang/IndexOutOfBoundsException" ∧ Q 1 h9)) a0 a1 a2 a3 h (fun r2 hp1 => gPF hp1 a4 6 0 (.long (gI2l r2)) (fun hp5 => Q 0 hp5)))
abbrev rm_L_remove : Room := { frames := 10, cells := 2, slots := 12, locals := 245 }
theorem hd_L_remove : (yL_remove.cls ≠ "java/lang/invoke/MethodHandle" ∧ yL_remove.cls ≠ "java/lang/invoke/VarHandle" ∧ (parseMethodDescriptor yL_remove.desc).map (fun d => d.parameters.length) = some 5) := by decide +kernel
theorem k_L_remove {l : Launch} (hst : l.stackTraces = false) {G : gaG} {X : String → gaH → Prop} {a0 : Nat} {a1 : Int} {a2 : Int} {a3 : Int} {a4 : Nat} {h : gaH} {Q : Int → gaH → Prop} (hw : w_L_remove a0 a1 a2 a3 a4 h Q) : gaC l G yL_remove (gaMW yL_remove cL_remove 6 ((some .int)) [(0, 13, 16, 19)]) rm_L_remove [.ref a0, gi a1, gi a2, gi a3, .ref a4] h (gQi Q) X := by
  refine g_startW (lv := [some (.ref a0), some (gi a1), some (gi a2), some (gi a3), some (.ref a4), none]) hpl_RL hst (Nat.le_of_ble_eq_true rfl) (gaArgs_pad (z := 1) rfl) ww_3_41 ?_
  intro p e s m args below meth c V hT
  show gaP p l e rm_L_remove s m args below meth c G 6 (gaZ below G (gQi Q) X args s rm_L_remove) 0 [some (.ref a0), some (gi a1), some (gi a2), some (gi a3), some (.ref a4), none] [] h 2 12
  unfold w_L_remove at hw
  refine g_aload V dL_remove_0 rfl rfl ?_
  refine g_aload_n V dL_remove_2 rfl rfl ?_
  refine g_iload_n V dL_remove_3 rfl rfl ?_
  refine g_iload_n V dL_remove_4 rfl rfl ?_
  refine g_iload_n V dL_remove_5 rfl rfl ?_
  obtain ⟨hb, hw⟩ := hw
  obtain ⟨fb, hb⟩ := hb
  obtain ⟨hk, hj, c3, s4, ec, es, hw⟩ := hw
  refine g_callV (C := RX5) (T := TX5) (N := 9) (st := [.ref a4]) V (k_X5_remove hst hw) ww_3_42 ww_3_43 ww_3_44 ww_1_1 ww_3_45 hd_X5_remove ⟨by decide, by decide⟩ rfl (by decide) hb rfl rfl (ga_cat rfl) dL_remove_6 hk hj rfl ?_ (ga_ki (fun r2 hp1 hw => ?_))
  · rintro E9 h9 ⟨rfl, hw⟩
    refine gaO_re ec es ?_
    refine gaO_catch V hT [] ⟨0, 13, 16, 19⟩ [] rfl (by intro z hz; simp at hz) rfl (by decide) ww_2_208 gn_12 rfl (fun q => ?_)
    refine g_astore (lv2 := [some (.ref a0), some (gi a1), some (gi a2), some (gi a3), some (.ref a4), some (.ref q)]) V dL_remove_16 (by decide) rfl rfl rfl ?_
    refine g_iconst V (Int32.ofInt 1) dL_remove_18 rfl rfl ?_
    exact g_iret V rfl rfl dL_remove_19 ⟨_, rfl, hw⟩
  · refine ga_re ec es ?_
    refine gi_i2l V dL_remove_9 rfl ?_
    obtain ⟨fs, ha, hl, hw⟩ := hw
    refine g_putN (host := "WordgardenLaw") (C := RX6) (T := TX6) (N := 2) V 0 tyX6 tyX6_ok nmX6 rfl hin_RX6 (by decide) (by decide) gn_22 rfl rfl rfl rfl ha hl dL_remove_10 rfl ?_
    generalize gaUp hp1 a4 _ = hp5 at hw ⊢
    refine g_goto V dL_remove_13 rfl ?_
    refine g_iconst V (Int32.ofInt 0) dL_remove_20 rfl rfl ?_
    exact g_iret V rfl rfl dL_remove_21 ⟨_, rfl, hw⟩
def w_L_replace (a0 : Nat) (a1 : Int) (a2 : Int) (a3 : Int) (a4 : Int) (a5 : Nat) (h : gaH) (Q : Int → gaH → Prop) : Prop := gHas h a0 5 ∧ gCall 3 18 3 18 (fun c3 s4 => w_X5_replace (fun E9 h9 => (E9 = "java/lang/IndexOutOfBoundsException" ∧ Q 1 h9)) a0 a1 a2 a3 a4 h (fun r2 hp1 => gPF hp1 a5 6 0 (.long (gI2l r2)) (fun hp5 => Q 0 hp5)))
abbrev rm_L_replace : Room := { frames := 10, cells := 3, slots := 18, locals := 247 }
theorem hd_L_replace : (yL_replace.cls ≠ "java/lang/invoke/MethodHandle" ∧ yL_replace.cls ≠ "java/lang/invoke/VarHandle" ∧ (parseMethodDescriptor yL_replace.desc).map (fun d => d.parameters.length) = some 6) := by decide +kernel
theorem k_L_replace {l : Launch} (hst : l.stackTraces = false) {G : gaG} {X : String → gaH → Prop} {a0 : Nat} {a1 : Int} {a2 : Int} {a3 : Int} {a4 : Int} {a5 : Nat} {h : gaH} {Q : Int → gaH → Prop} (hw : w_L_replace a0 a1 a2 a3 a4 a5 h Q) : gaC l G yL_replace (gaMW yL_replace cL_replace 7 ((some .int)) [(0, 15, 18, 19)]) rm_L_replace [.ref a0, gi a1, gi a2, gi a3, gi a4, .ref a5] h (gQi Q) X := by
  refine g_startW (lv := [some (.ref a0), some (gi a1), some (gi a2), some (gi a3), some (gi a4), some (.ref a5), none]) hpl_RL hst (Nat.le_of_ble_eq_true rfl) (gaArgs_pad (z := 1) rfl) ww_3_48 ?_
  intro p e s m args below meth c V hT
  show gaP p l e rm_L_replace s m args below meth c G 7 (gaZ below G (gQi Q) X args s rm_L_replace) 0 [some (.ref a0), some (gi a1), some (gi a2), some (gi a3), some (gi a4), some (.ref a5), none] [] h 3 18
  unfold w_L_replace at hw
  refine g_aload V dL_replace_0 rfl rfl ?_
  refine g_aload_n V dL_replace_2 rfl rfl ?_
  refine g_iload_n V dL_replace_3 rfl rfl ?_
  refine g_iload_n V dL_replace_4 rfl rfl ?_
  refine g_iload_n V dL_replace_5 rfl rfl ?_
  refine g_iload V dL_replace_6 rfl rfl ?_
  obtain ⟨hb, hw⟩ := hw
  obtain ⟨fb, hb⟩ := hb
  obtain ⟨hk, hj, c3, s4, ec, es, hw⟩ := hw
  refine g_callV (C := RX5) (T := TX5) (N := 9) (st := [.ref a5]) V (k_X5_replace hst hw) ww_3_49 ww_3_50 ww_3_51 ww_1_1 ww_3_52 hd_X5_replace ⟨by decide, by decide⟩ rfl (by decide) hb rfl rfl (ga_cat rfl) dL_replace_8 hk hj rfl ?_ (ga_ki (fun r2 hp1 hw => ?_))
  · rintro E9 h9 ⟨rfl, hw⟩
    refine gaO_re ec es ?_
    refine gaO_catch V hT [] ⟨0, 15, 18, 19⟩ [] rfl (by intro z hz; simp at hz) rfl (by decide) ww_2_208 gn_12 rfl (fun q => ?_)
    refine g_astore (lv2 := [some (.ref a0), some (gi a1), some (gi a2), some (gi a3), some (gi a4), some (.ref a5), some (.ref q)]) V dL_replace_18 (by decide) rfl rfl rfl ?_
    refine g_iconst V (Int32.ofInt 1) dL_replace_20 rfl rfl ?_
    exact g_iret V rfl rfl dL_replace_21 ⟨_, rfl, hw⟩
  · refine ga_re ec es ?_
    refine gi_i2l V dL_replace_11 rfl ?_
    obtain ⟨fs, ha, hl, hw⟩ := hw
    refine g_putN (host := "WordgardenLaw") (C := RX6) (T := TX6) (N := 2) V 0 tyX6 tyX6_ok nmX6 rfl hin_RX6 (by decide) (by decide) gn_22 rfl rfl rfl rfl ha hl dL_replace_12 rfl ?_
    generalize gaUp hp1 a5 _ = hp5 at hw ⊢
    refine g_goto V dL_replace_15 rfl ?_
    refine g_iconst V (Int32.ofInt 0) dL_replace_22 rfl rfl ?_
    exact g_iret V rfl rfl dL_replace_23 ⟨_, rfl, hw⟩
def w_L_cutTo (a0 : Nat) (a1 : Int) (a2 : Int) (a3 : Nat) (h : gaH) (Q : Int → gaH → Prop) : Prop := gHas h a0 5 ∧ gCall 2 12 2 12 (fun c3 s4 => w_X5_cutTo (fun E9 h9 => (E9 = "java/lang/IndexOutOfBoundsException" ∧ Q 1 h9) ∨ (E9 = "java/lang/IllegalArgumentException" ∧ Q 2 h9)) a0 a1 a2 h (fun r2 hp1 => gPF hp1 a3 6 0 (.long (gI2l r2)) (fun hp5 => Q 0 hp5)))
abbrev rm_L_cutTo : Room := { frames := 10, cells := 2, slots := 12, locals := 246 }
theorem hd_L_cutTo : (yL_cutTo.cls ≠ "java/lang/invoke/MethodHandle" ∧ yL_cutTo.cls ≠ "java/lang/invoke/VarHandle" ∧ (parseMethodDescriptor yL_cutTo.desc).map (fun d => d.parameters.length) = some 4) := by decide +kernel
theorem k_L_cutTo {l : Launch} (hst : l.stackTraces = false) {G : gaG} {X : String → gaH → Prop} {a0 : Nat} {a1 : Int} {a2 : Int} {a3 : Nat} {h : gaH} {Q : Int → gaH → Prop} (hw : w_L_cutTo a0 a1 a2 a3 h Q) : gaC l G yL_cutTo (gaMW yL_cutTo cL_cutTo 5 ((some .int)) [(0, 11, 14, 19), (0, 11, 18, 21)]) rm_L_cutTo [.ref a0, gi a1, gi a2, .ref a3] h (gQi Q) X := by
  refine g_startW (lv := [some (.ref a0), some (gi a1), some (gi a2), some (.ref a3), none]) hpl_RL hst (Nat.le_of_ble_eq_true rfl) (gaArgs_pad (z := 1) rfl) ww_3_55 ?_
  intro p e s m args below meth c V hT
  show gaP p l e rm_L_cutTo s m args below meth c G 5 (gaZ below G (gQi Q) X args s rm_L_cutTo) 0 [some (.ref a0), some (gi a1), some (gi a2), some (.ref a3), none] [] h 2 12
  unfold w_L_cutTo at hw
  refine g_aload_n V dL_cutTo_0 rfl rfl ?_
  refine g_aload_n V dL_cutTo_1 rfl rfl ?_
  refine g_iload_n V dL_cutTo_2 rfl rfl ?_
  refine g_iload_n V dL_cutTo_3 rfl rfl ?_
  obtain ⟨hb, hw⟩ := hw
  obtain ⟨fb, hb⟩ := hb
  obtain ⟨hk, hj, c3, s4, ec, es, hw⟩ := hw
  refine g_callV (C := RX5) (T := TX5) (N := 9) (st := [.ref a3]) V (k_X5_cutTo hst hw) ww_3_56 ww_3_57 ww_3_58 ww_1_1 ww_3_59 hd_X5_cutTo ⟨by decide, by decide⟩ rfl (by decide) hb rfl rfl (ga_cat rfl) dL_cutTo_4 hk hj rfl ?_ (ga_ki (fun r2 hp1 hw => ?_))
  · rintro E9 h9 (⟨rfl, hw⟩ | ⟨rfl, hw⟩)
    · refine gaO_re ec es ?_
      refine gaO_catch V hT [] ⟨0, 11, 14, 19⟩ [⟨0, 11, 18, 21⟩] rfl (by intro z hz; simp at hz) rfl (by decide) ww_2_208 gn_12 rfl (fun q => ?_)
      refine g_astore (lv2 := [some (.ref a0), some (gi a1), some (gi a2), some (.ref a3), some (.ref q)]) V dL_cutTo_14 (by decide) rfl rfl rfl ?_
      refine g_iconst V (Int32.ofInt 1) dL_cutTo_16 rfl rfl ?_
      exact g_iret V rfl rfl dL_cutTo_17 ⟨_, rfl, hw⟩
    · refine gaO_re ec es ?_
      refine gaO_catch V hT [⟨0, 11, 14, 19⟩] ⟨0, 11, 18, 21⟩ [] rfl (by intro z hz; simp only [List.mem_cons, List.not_mem_nil, or_false] at hz; rcases hz with rfl <;> first | exact ⟨by decide, "java/lang/IndexOutOfBoundsException", ww_2_208, List.mem_of_getElem? (i := 0) rfl⟩) rfl (by decide) ww_2_209 gn_20 rfl (fun q => ?_)
      refine g_astore (lv2 := [some (.ref a0), some (gi a1), some (gi a2), some (.ref a3), some (.ref q)]) V dL_cutTo_18 (by decide) rfl rfl rfl ?_
      refine g_iconst V (Int32.ofInt 2) dL_cutTo_20 rfl rfl ?_
      exact g_iret V rfl rfl dL_cutTo_21 ⟨_, rfl, hw⟩
  · refine ga_re ec es ?_
    refine gi_i2l V dL_cutTo_7 rfl ?_
    obtain ⟨fs, ha, hl, hw⟩ := hw
    refine g_putN (host := "WordgardenLaw") (C := RX6) (T := TX6) (N := 2) V 0 tyX6 tyX6_ok nmX6 rfl hin_RX6 (by decide) (by decide) gn_22 rfl rfl rfl rfl ha hl dL_cutTo_8 rfl ?_
    generalize gaUp hp1 a3 _ = hp5 at hw ⊢
    refine g_goto V dL_cutTo_11 rfl ?_
    refine g_iconst V (Int32.ofInt 0) dL_cutTo_22 rfl rfl ?_
    exact g_iret V rfl rfl dL_cutTo_23 ⟨_, rfl, hw⟩
def w_L_turn (a0 : Nat) (a1 : Int) (a2 : Nat) (h : gaH) (Q : Int → gaH → Prop) : Prop := gHas h a0 5 ∧ gCall 1 6 1 6 (fun c3 s4 => w_X5_turn (fun E9 h9 => (E9 = "java/lang/IndexOutOfBoundsException" ∧ Q 1 h9)) a0 a1 h (fun r2 hp1 => gPF hp1 a2 6 0 (.long (gI2l r2)) (fun hp5 => Q 0 hp5)))
abbrev rm_L_turn : Room := { frames := 10, cells := 1, slots := 6, locals := 243 }
theorem hd_L_turn : (yL_turn.cls ≠ "java/lang/invoke/MethodHandle" ∧ yL_turn.cls ≠ "java/lang/invoke/VarHandle" ∧ (parseMethodDescriptor yL_turn.desc).map (fun d => d.parameters.length) = some 3) := by decide +kernel
theorem k_L_turn {l : Launch} (hst : l.stackTraces = false) {G : gaG} {X : String → gaH → Prop} {a0 : Nat} {a1 : Int} {a2 : Nat} {h : gaH} {Q : Int → gaH → Prop} (hw : w_L_turn a0 a1 a2 h Q) : gaC l G yL_turn (gaMW yL_turn cL_turn 4 ((some .int)) [(0, 10, 13, 19)]) rm_L_turn [.ref a0, gi a1, .ref a2] h (gQi Q) X := by
  refine g_startW (lv := [some (.ref a0), some (gi a1), some (.ref a2), none]) hpl_RL hst (Nat.le_of_ble_eq_true rfl) (gaArgs_pad (z := 1) rfl) ww_3_63 ?_
  intro p e s m args below meth c V hT
  show gaP p l e rm_L_turn s m args below meth c G 4 (gaZ below G (gQi Q) X args s rm_L_turn) 0 [some (.ref a0), some (gi a1), some (.ref a2), none] [] h 1 6
  unfold w_L_turn at hw
  refine g_aload_n V dL_turn_0 rfl rfl ?_
  refine g_aload_n V dL_turn_1 rfl rfl ?_
  refine g_iload_n V dL_turn_2 rfl rfl ?_
  obtain ⟨hb, hw⟩ := hw
  obtain ⟨fb, hb⟩ := hb
  obtain ⟨hk, hj, c3, s4, ec, es, hw⟩ := hw
  refine g_callV (C := RX5) (T := TX5) (N := 9) (st := [.ref a2]) V (k_X5_turn hst hw) ww_3_64 ww_3_65 ww_3_66 ww_1_1 ww_3_67 hd_X5_turn ⟨by decide, by decide⟩ rfl (by decide) hb rfl rfl (ga_cat rfl) dL_turn_3 hk hj rfl ?_ (ga_ki (fun r2 hp1 hw => ?_))
  · rintro E9 h9 ⟨rfl, hw⟩
    refine gaO_re ec es ?_
    refine gaO_catch V hT [] ⟨0, 10, 13, 19⟩ [] rfl (by intro z hz; simp at hz) rfl (by decide) ww_2_208 gn_12 rfl (fun q => ?_)
    refine g_astore_n (lv2 := [some (.ref a0), some (gi a1), some (.ref a2), some (.ref q)]) V dL_turn_13 (by decide) rfl rfl rfl ?_
    refine g_iconst V (Int32.ofInt 1) dL_turn_14 rfl rfl ?_
    exact g_iret V rfl rfl dL_turn_15 ⟨_, rfl, hw⟩
  · refine ga_re ec es ?_
    refine gi_i2l V dL_turn_6 rfl ?_
    obtain ⟨fs, ha, hl, hw⟩ := hw
    refine g_putN (host := "WordgardenLaw") (C := RX6) (T := TX6) (N := 2) V 0 tyX6 tyX6_ok nmX6 rfl hin_RX6 (by decide) (by decide) gn_22 rfl rfl rfl rfl ha hl dL_turn_7 rfl ?_
    generalize gaUp hp1 a2 _ = hp5 at hw ⊢
    refine g_goto V dL_turn_10 rfl ?_
    refine g_iconst V (Int32.ofInt 0) dL_turn_16 rfl rfl ?_
    exact g_iret V rfl rfl dL_turn_17 ⟨_, rfl, hw⟩
def w_L_exchange (a0 : Nat) (a1 : Int) (a2 : Nat) (h : gaH) (Q : Int → gaH → Prop) : Prop := gHas h a0 5 ∧ gCall 1 6 1 6 (fun c3 s4 => w_X5_exchange (fun E9 h9 => (E9 = "java/lang/IndexOutOfBoundsException" ∧ Q 1 h9)) a0 a1 h (fun r2 hp1 => gPF hp1 a2 6 0 (.long (gI2l r2)) (fun hp5 => Q 0 hp5)))
abbrev rm_L_exchange : Room := { frames := 10, cells := 1, slots := 6, locals := 244 }
theorem hd_L_exchange : (yL_exchange.cls ≠ "java/lang/invoke/MethodHandle" ∧ yL_exchange.cls ≠ "java/lang/invoke/VarHandle" ∧ (parseMethodDescriptor yL_exchange.desc).map (fun d => d.parameters.length) = some 3) := by decide +kernel
theorem k_L_exchange {l : Launch} (hst : l.stackTraces = false) {G : gaG} {X : String → gaH → Prop} {a0 : Nat} {a1 : Int} {a2 : Nat} {h : gaH} {Q : Int → gaH → Prop} (hw : w_L_exchange a0 a1 a2 h Q) : gaC l G yL_exchange (gaMW yL_exchange cL_exchange 4 ((some .int)) [(0, 10, 13, 19)]) rm_L_exchange [.ref a0, gi a1, .ref a2] h (gQi Q) X := by
  refine g_startW (lv := [some (.ref a0), some (gi a1), some (.ref a2), none]) hpl_RL hst (Nat.le_of_ble_eq_true rfl) (gaArgs_pad (z := 1) rfl) ww_3_74 ?_
  intro p e s m args below meth c V hT
  show gaP p l e rm_L_exchange s m args below meth c G 4 (gaZ below G (gQi Q) X args s rm_L_exchange) 0 [some (.ref a0), some (gi a1), some (.ref a2), none] [] h 1 6
  unfold w_L_exchange at hw
  refine g_aload_n V dL_exchange_0 rfl rfl ?_
  refine g_aload_n V dL_exchange_1 rfl rfl ?_
  refine g_iload_n V dL_exchange_2 rfl rfl ?_
  obtain ⟨hb, hw⟩ := hw
  obtain ⟨fb, hb⟩ := hb
  obtain ⟨hk, hj, c3, s4, ec, es, hw⟩ := hw
  refine g_callV (C := RX5) (T := TX5) (N := 9) (st := [.ref a2]) V (k_X5_exchange hst hw) ww_3_75 ww_3_76 ww_3_77 ww_1_1 ww_3_78 hd_X5_exchange ⟨by decide, by decide⟩ rfl (by decide) hb rfl rfl (ga_cat rfl) dL_exchange_3 hk hj rfl ?_ (ga_ki (fun r2 hp1 hw => ?_))
  · rintro E9 h9 ⟨rfl, hw⟩
    refine gaO_re ec es ?_
    refine gaO_catch V hT [] ⟨0, 10, 13, 19⟩ [] rfl (by intro z hz; simp at hz) rfl (by decide) ww_2_208 gn_12 rfl (fun q => ?_)
    refine g_astore_n (lv2 := [some (.ref a0), some (gi a1), some (.ref a2), some (.ref q)]) V dL_exchange_13 (by decide) rfl rfl rfl ?_
    refine g_iconst V (Int32.ofInt 1) dL_exchange_14 rfl rfl ?_
    exact g_iret V rfl rfl dL_exchange_15 ⟨_, rfl, hw⟩
  · refine ga_re ec es ?_
    refine gi_i2l V dL_exchange_6 rfl ?_
    obtain ⟨fs, ha, hl, hw⟩ := hw
    refine g_putN (host := "WordgardenLaw") (C := RX6) (T := TX6) (N := 2) V 0 tyX6 tyX6_ok nmX6 rfl hin_RX6 (by decide) (by decide) gn_22 rfl rfl rfl rfl ha hl dL_exchange_7 rfl ?_
    generalize gaUp hp1 a2 _ = hp5 at hw ⊢
    refine g_goto V dL_exchange_10 rfl ?_
    refine g_iconst V (Int32.ofInt 0) dL_exchange_16 rfl rfl ?_
    exact g_iret V rfl rfl dL_exchange_17 ⟨_, rfl, hw⟩
def w_L_rotate (a0 : Nat) (a1 : Int) (a2 : Int) (a3 : Nat) (h : gaH) (Q : Int → gaH → Prop) : Prop := gHas h a0 5 ∧ gCall 2 12 2 12 (fun c3 s4 => w_X5_rotate (fun E9 h9 => (E9 = "java/lang/IndexOutOfBoundsException" ∧ Q 1 h9) ∨ (E9 = "java/lang/IllegalArgumentException" ∧ Q 2 h9)) a0 a1 a2 h (fun r2 hp1 => gPF hp1 a3 6 0 (.long (gI2l r2)) (fun hp5 => Q 0 hp5)))
abbrev rm_L_rotate : Room := { frames := 10, cells := 2, slots := 12, locals := 244 }
theorem hd_L_rotate : (yL_rotate.cls ≠ "java/lang/invoke/MethodHandle" ∧ yL_rotate.cls ≠ "java/lang/invoke/VarHandle" ∧ (parseMethodDescriptor yL_rotate.desc).map (fun d => d.parameters.length) = some 4) := by decide +kernel
theorem k_L_rotate {l : Launch} (hst : l.stackTraces = false) {G : gaG} {X : String → gaH → Prop} {a0 : Nat} {a1 : Int} {a2 : Int} {a3 : Nat} {h : gaH} {Q : Int → gaH → Prop} (hw : w_L_rotate a0 a1 a2 a3 h Q) : gaC l G yL_rotate (gaMW yL_rotate cL_rotate 5 ((some .int)) [(0, 11, 14, 19), (0, 11, 18, 21)]) rm_L_rotate [.ref a0, gi a1, gi a2, .ref a3] h (gQi Q) X := by
  refine g_startW (lv := [some (.ref a0), some (gi a1), some (gi a2), some (.ref a3), none]) hpl_RL hst (Nat.le_of_ble_eq_true rfl) (gaArgs_pad (z := 1) rfl) ww_3_81 ?_
  intro p e s m args below meth c V hT
  show gaP p l e rm_L_rotate s m args below meth c G 5 (gaZ below G (gQi Q) X args s rm_L_rotate) 0 [some (.ref a0), some (gi a1), some (gi a2), some (.ref a3), none] [] h 2 12
  unfold w_L_rotate at hw
  refine g_aload_n V dL_rotate_0 rfl rfl ?_
  refine g_aload_n V dL_rotate_1 rfl rfl ?_
  refine g_iload_n V dL_rotate_2 rfl rfl ?_
  refine g_iload_n V dL_rotate_3 rfl rfl ?_
  obtain ⟨hb, hw⟩ := hw
  obtain ⟨fb, hb⟩ := hb
  obtain ⟨hk, hj, c3, s4, ec, es, hw⟩ := hw
  refine g_callV (C := RX5) (T := TX5) (N := 9) (st := [.ref a3]) V (k_X5_rotate hst hw) ww_3_82 ww_3_83 ww_3_84 ww_1_1 ww_3_85 hd_X5_rotate ⟨by decide, by decide⟩ rfl (by decide) hb rfl rfl (ga_cat rfl) dL_rotate_4 hk hj rfl ?_ (ga_ki (fun r2 hp1 hw => ?_))
  · rintro E9 h9 (⟨rfl, hw⟩ | ⟨rfl, hw⟩)
    · refine gaO_re ec es ?_
      refine gaO_catch V hT [] ⟨0, 11, 14, 19⟩ [⟨0, 11, 18, 21⟩] rfl (by intro z hz; simp at hz) rfl (by decide) ww_2_208 gn_12 rfl (fun q => ?_)
      refine g_astore (lv2 := [some (.ref a0), some (gi a1), some (gi a2), some (.ref a3), some (.ref q)]) V dL_rotate_14 (by decide) rfl rfl rfl ?_
      refine g_iconst V (Int32.ofInt 1) dL_rotate_16 rfl rfl ?_
      exact g_iret V rfl rfl dL_rotate_17 ⟨_, rfl, hw⟩
    · refine gaO_re ec es ?_
      refine gaO_catch V hT [⟨0, 11, 14, 19⟩] ⟨0, 11, 18, 21⟩ [] rfl (by intro z hz; simp only [List.mem_cons, List.not_mem_nil, or_false] at hz; rcases hz with rfl <;> first | exact ⟨by decide, "java/lang/IndexOutOfBoundsException", ww_2_208, List.mem_of_getElem? (i := 0) rfl⟩) rfl (by decide) ww_2_209 gn_20 rfl (fun q => ?_)
      refine g_astore (lv2 := [some (.ref a0), some (gi a1), some (gi a2), some (.ref a3), some (.ref q)]) V dL_rotate_18 (by decide) rfl rfl rfl ?_
      refine g_iconst V (Int32.ofInt 2) dL_rotate_20 rfl rfl ?_
      exact g_iret V rfl rfl dL_rotate_21 ⟨_, rfl, hw⟩
  · refine ga_re ec es ?_
    refine gi_i2l V dL_rotate_7 rfl ?_
    obtain ⟨fs, ha, hl, hw⟩ := hw
    refine g_putN (host := "WordgardenLaw") (C := RX6) (T := TX6) (N := 2) V 0 tyX6 tyX6_ok nmX6 rfl hin_RX6 (by decide) (by decide) gn_22 rfl rfl rfl rfl ha hl dL_rotate_8 rfl ?_
    generalize gaUp hp1 a3 _ = hp5 at hw ⊢
    refine g_goto V dL_rotate_11 rfl ?_
    refine g_iconst V (Int32.ofInt 0) dL_rotate_22 rfl rfl ?_
    exact g_iret V rfl rfl dL_rotate_23 ⟨_, rfl, hw⟩
def w_L_copy (a0 : Nat) (a1 : Int) (a2 : Int) (a3 : Nat) (h : gaH) (Q : Int → gaH → Prop) : Prop := gHas h a0 5 ∧ gCall 2 12 2 12 (fun c3 s4 => w_X5_copy (fun E9 h9 => (E9 = "java/lang/IndexOutOfBoundsException" ∧ Q 1 h9)) a0 a1 a2 h (fun r2 hp1 => gPF hp1 a3 6 0 (.long (gI2l r2)) (fun hp5 => Q 0 hp5)))
abbrev rm_L_copy : Room := { frames := 10, cells := 2, slots := 12, locals := 244 }
theorem hd_L_copy : (yL_copy.cls ≠ "java/lang/invoke/MethodHandle" ∧ yL_copy.cls ≠ "java/lang/invoke/VarHandle" ∧ (parseMethodDescriptor yL_copy.desc).map (fun d => d.parameters.length) = some 4) := by decide +kernel
theorem k_L_copy {l : Launch} (hst : l.stackTraces = false) {G : gaG} {X : String → gaH → Prop} {a0 : Nat} {a1 : Int} {a2 : Int} {a3 : Nat} {h : gaH} {Q : Int → gaH → Prop} (hw : w_L_copy a0 a1 a2 a3 h Q) : gaC l G yL_copy (gaMW yL_copy cL_copy 5 ((some .int)) [(0, 11, 14, 19)]) rm_L_copy [.ref a0, gi a1, gi a2, .ref a3] h (gQi Q) X := by
  refine g_startW (lv := [some (.ref a0), some (gi a1), some (gi a2), some (.ref a3), none]) hpl_RL hst (Nat.le_of_ble_eq_true rfl) (gaArgs_pad (z := 1) rfl) ww_3_88 ?_
  intro p e s m args below meth c V hT
  show gaP p l e rm_L_copy s m args below meth c G 5 (gaZ below G (gQi Q) X args s rm_L_copy) 0 [some (.ref a0), some (gi a1), some (gi a2), some (.ref a3), none] [] h 2 12
  unfold w_L_copy at hw
  refine g_aload_n V dL_copy_0 rfl rfl ?_
  refine g_aload_n V dL_copy_1 rfl rfl ?_
  refine g_iload_n V dL_copy_2 rfl rfl ?_
  refine g_iload_n V dL_copy_3 rfl rfl ?_
  obtain ⟨hb, hw⟩ := hw
  obtain ⟨fb, hb⟩ := hb
  obtain ⟨hk, hj, c3, s4, ec, es, hw⟩ := hw
  refine g_callV (C := RX5) (T := TX5) (N := 9) (st := [.ref a3]) V (k_X5_copy hst hw) ww_3_89 ww_3_90 ww_3_91 ww_1_1 ww_3_92 hd_X5_copy ⟨by decide, by decide⟩ rfl (by decide) hb rfl rfl (ga_cat rfl) dL_copy_4 hk hj rfl ?_ (ga_ki (fun r2 hp1 hw => ?_))
  · rintro E9 h9 ⟨rfl, hw⟩
    refine gaO_re ec es ?_
    refine gaO_catch V hT [] ⟨0, 11, 14, 19⟩ [] rfl (by intro z hz; simp at hz) rfl (by decide) ww_2_208 gn_12 rfl (fun q => ?_)
    refine g_astore (lv2 := [some (.ref a0), some (gi a1), some (gi a2), some (.ref a3), some (.ref q)]) V dL_copy_14 (by decide) rfl rfl rfl ?_
    refine g_iconst V (Int32.ofInt 1) dL_copy_16 rfl rfl ?_
    exact g_iret V rfl rfl dL_copy_17 ⟨_, rfl, hw⟩
  · refine ga_re ec es ?_
    refine gi_i2l V dL_copy_7 rfl ?_
    obtain ⟨fs, ha, hl, hw⟩ := hw
    refine g_putN (host := "WordgardenLaw") (C := RX6) (T := TX6) (N := 2) V 0 tyX6 tyX6_ok nmX6 rfl hin_RX6 (by decide) (by decide) gn_22 rfl rfl rfl rfl ha hl dL_copy_8 rfl ?_
    generalize gaUp hp1 a3 _ = hp5 at hw ⊢
    refine g_goto V dL_copy_11 rfl ?_
    refine g_iconst V (Int32.ofInt 0) dL_copy_18 rfl rfl ?_
    exact g_iret V rfl rfl dL_copy_19 ⟨_, rfl, hw⟩
def w_L_apply (a0 : Nat) (a1 : Int) (a2 : Int) (a3 : Int) (a4 : Nat) (h : gaH) (Q : Int → gaH → Prop) : Prop := gHas h a0 5 ∧ gCall 3 18 3 18 (fun c3 s4 => w_X5_apply (fun E9 h9 => (E9 = "java/lang/IndexOutOfBoundsException" ∧ Q 1 h9) ∨ (E9 = "java/lang/IllegalArgumentException" ∧ Q 2 h9)) a0 a1 a2 a3 h (fun r2 hp1 => gPF hp1 a4 6 0 (.long (gI2l r2)) (fun hp5 => Q 0 hp5)))
abbrev rm_L_apply : Room := { frames := 11, cells := 3, slots := 18, locals := 266 }
theorem hd_L_apply : (yL_apply.cls ≠ "java/lang/invoke/MethodHandle" ∧ yL_apply.cls ≠ "java/lang/invoke/VarHandle" ∧ (parseMethodDescriptor yL_apply.desc).map (fun d => d.parameters.length) = some 5) := by decide +kernel
theorem k_L_apply {l : Launch} (hst : l.stackTraces = false) {G : gaG} {X : String → gaH → Prop} {a0 : Nat} {a1 : Int} {a2 : Int} {a3 : Int} {a4 : Nat} {h : gaH} {Q : Int → gaH → Prop} (hw : w_L_apply a0 a1 a2 a3 a4 h Q) : gaC l G yL_apply (gaMW yL_apply cL_apply 6 ((some .int)) [(0, 13, 16, 19), (0, 13, 20, 21)]) rm_L_apply [.ref a0, gi a1, gi a2, gi a3, .ref a4] h (gQi Q) X := by
  refine g_startW (lv := [some (.ref a0), some (gi a1), some (gi a2), some (gi a3), some (.ref a4), none]) hpl_RL hst (Nat.le_of_ble_eq_true rfl) (gaArgs_pad (z := 1) rfl) ww_3_95 ?_
  intro p e s m args below meth c V hT
  show gaP p l e rm_L_apply s m args below meth c G 6 (gaZ below G (gQi Q) X args s rm_L_apply) 0 [some (.ref a0), some (gi a1), some (gi a2), some (gi a3), some (.ref a4), none] [] h 3 18
  unfold w_L_apply at hw
  refine g_aload V dL_apply_0 rfl rfl ?_
  refine g_aload_n V dL_apply_2 rfl rfl ?_
  refine g_iload_n V dL_apply_3 rfl rfl ?_
  refine g_iload_n V dL_apply_4 rfl rfl ?_
  refine g_iload_n V dL_apply_5 rfl rfl ?_
  obtain ⟨hb, hw⟩ := hw
  obtain ⟨fb, hb⟩ := hb
  obtain ⟨hk, hj, c3, s4, ec, es, hw⟩ := hw
  refine g_callV (C := RX5) (T := TX5) (N := 9) (st := [.ref a4]) V (k_X5_apply hst hw) ww_3_96 ww_3_97 ww_3_98 ww_1_1 ww_3_99 hd_X5_apply ⟨by decide, by decide⟩ rfl (by decide) hb rfl rfl (ga_cat rfl) dL_apply_6 hk hj rfl ?_ (ga_ki (fun r2 hp1 hw => ?_))
  · rintro E9 h9 (⟨rfl, hw⟩ | ⟨rfl, hw⟩)
    · refine gaO_re ec es ?_
      refine gaO_catch V hT [] ⟨0, 13, 16, 19⟩ [⟨0, 13, 20, 21⟩] rfl (by intro z hz; simp at hz) rfl (by decide) ww_2_208 gn_12 rfl (fun q => ?_)
      refine g_astore (lv2 := [some (.ref a0), some (gi a1), some (gi a2), some (gi a3), some (.ref a4), some (.ref q)]) V dL_apply_16 (by decide) rfl rfl rfl ?_
      refine g_iconst V (Int32.ofInt 1) dL_apply_18 rfl rfl ?_
      exact g_iret V rfl rfl dL_apply_19 ⟨_, rfl, hw⟩
    · refine gaO_re ec es ?_
      refine gaO_catch V hT [⟨0, 13, 16, 19⟩] ⟨0, 13, 20, 21⟩ [] rfl (by intro z hz; simp only [List.mem_cons, List.not_mem_nil, or_false] at hz; rcases hz with rfl <;> first | exact ⟨by decide, "java/lang/IndexOutOfBoundsException", ww_2_208, List.mem_of_getElem? (i := 0) rfl⟩) rfl (by decide) ww_2_209 gn_20 rfl (fun q => ?_)
      refine g_astore (lv2 := [some (.ref a0), some (gi a1), some (gi a2), some (gi a3), some (.ref a4), some (.ref q)]) V dL_apply_20 (by decide) rfl rfl rfl ?_
      refine g_iconst V (Int32.ofInt 2) dL_apply_22 rfl rfl ?_
      exact g_iret V rfl rfl dL_apply_23 ⟨_, rfl, hw⟩
  · refine ga_re ec es ?_
    refine gi_i2l V dL_apply_9 rfl ?_
    obtain ⟨fs, ha, hl, hw⟩ := hw
    refine g_putN (host := "WordgardenLaw") (C := RX6) (T := TX6) (N := 2) V 0 tyX6 tyX6_ok nmX6 rfl hin_RX6 (by decide) (by decide) gn_22 rfl rfl rfl rfl ha hl dL_apply_10 rfl ?_
    generalize gaUp hp1 a4 _ = hp5 at hw ⊢
    refine g_goto V dL_apply_13 rfl ?_
    refine g_iconst V (Int32.ofInt 0) dL_apply_24 rfl rfl ?_
    exact g_iret V rfl rfl dL_apply_25 ⟨_, rfl, hw⟩
def w_L_undo (a0 : Nat) (a1 : Int) (a2 : Int) (a3 : Int) (a4 : Nat) (h : gaH) (Q : Int → gaH → Prop) : Prop := gHas h a0 5 ∧ gCall 4 24 4 24 (fun c3 s4 => w_X5_undo (fun E9 h9 => (E9 = "java/lang/IndexOutOfBoundsException" ∧ Q 1 h9) ∨ (E9 = "java/lang/IllegalArgumentException" ∧ Q 2 h9) ∨ (E9 = "java/lang/IllegalStateException" ∧ Q 3 h9)) a0 a1 a2 a3 h (fun r2 hp1 => gPF hp1 a4 6 0 (.long (gI2l r2)) (fun hp5 => Q 0 hp5)))
abbrev rm_L_undo : Room := { frames := 11, cells := 4, slots := 24, locals := 266 }
theorem hd_L_undo : (yL_undo.cls ≠ "java/lang/invoke/MethodHandle" ∧ yL_undo.cls ≠ "java/lang/invoke/VarHandle" ∧ (parseMethodDescriptor yL_undo.desc).map (fun d => d.parameters.length) = some 5) := by decide +kernel
theorem k_L_undo {l : Launch} (hst : l.stackTraces = false) {G : gaG} {X : String → gaH → Prop} {a0 : Nat} {a1 : Int} {a2 : Int} {a3 : Int} {a4 : Nat} {h : gaH} {Q : Int → gaH → Prop} (hw : w_L_undo a0 a1 a2 a3 a4 h Q) : gaC l G yL_undo (gaMW yL_undo cL_undo 6 ((some .int)) [(0, 13, 16, 19), (0, 13, 20, 21), (0, 13, 24, 69)]) rm_L_undo [.ref a0, gi a1, gi a2, gi a3, .ref a4] h (gQi Q) X := by
  refine g_startW (lv := [some (.ref a0), some (gi a1), some (gi a2), some (gi a3), some (.ref a4), none]) hpl_RL hst (Nat.le_of_ble_eq_true rfl) (gaArgs_pad (z := 1) rfl) ww_3_113 ?_
  intro p e s m args below meth c V hT
  show gaP p l e rm_L_undo s m args below meth c G 6 (gaZ below G (gQi Q) X args s rm_L_undo) 0 [some (.ref a0), some (gi a1), some (gi a2), some (gi a3), some (.ref a4), none] [] h 4 24
  unfold w_L_undo at hw
  refine g_aload V dL_undo_0 rfl rfl ?_
  refine g_aload_n V dL_undo_2 rfl rfl ?_
  refine g_iload_n V dL_undo_3 rfl rfl ?_
  refine g_iload_n V dL_undo_4 rfl rfl ?_
  refine g_iload_n V dL_undo_5 rfl rfl ?_
  obtain ⟨hb, hw⟩ := hw
  obtain ⟨fb, hb⟩ := hb
  obtain ⟨hk, hj, c3, s4, ec, es, hw⟩ := hw
  refine g_callV (C := RX5) (T := TX5) (N := 9) (st := [.ref a4]) V (k_X5_undo hst hw) ww_3_115 ww_3_116 ww_3_117 ww_1_1 ww_3_118 hd_X5_undo ⟨by decide, by decide⟩ rfl (by decide) hb rfl rfl (ga_cat rfl) dL_undo_6 hk hj rfl ?_ (ga_ki (fun r2 hp1 hw => ?_))
  · rintro E9 h9 (⟨rfl, hw⟩ | ⟨rfl, hw⟩ | ⟨rfl, hw⟩)
    · refine gaO_re ec es ?_
      refine gaO_catch V hT [] ⟨0, 13, 16, 19⟩ [⟨0, 13, 20, 21⟩, ⟨0, 13, 24, 69⟩] rfl (by intro z hz; simp at hz) rfl (by decide) ww_2_208 gn_12 rfl (fun q => ?_)
      refine g_astore (lv2 := [some (.ref a0), some (gi a1), some (gi a2), some (gi a3), some (.ref a4), some (.ref q)]) V dL_undo_16 (by decide) rfl rfl rfl ?_
      refine g_iconst V (Int32.ofInt 1) dL_undo_18 rfl rfl ?_
      exact g_iret V rfl rfl dL_undo_19 ⟨_, rfl, hw⟩
    · refine gaO_re ec es ?_
      refine gaO_catch V hT [⟨0, 13, 16, 19⟩] ⟨0, 13, 20, 21⟩ [⟨0, 13, 24, 69⟩] rfl (by intro z hz; simp only [List.mem_cons, List.not_mem_nil, or_false] at hz; rcases hz with rfl <;> first | exact ⟨by decide, "java/lang/IndexOutOfBoundsException", ww_2_208, List.mem_of_getElem? (i := 0) rfl⟩) rfl (by decide) ww_2_209 gn_20 rfl (fun q => ?_)
      refine g_astore (lv2 := [some (.ref a0), some (gi a1), some (gi a2), some (gi a3), some (.ref a4), some (.ref q)]) V dL_undo_20 (by decide) rfl rfl rfl ?_
      refine g_iconst V (Int32.ofInt 2) dL_undo_22 rfl rfl ?_
      exact g_iret V rfl rfl dL_undo_23 ⟨_, rfl, hw⟩
    · refine gaO_re ec es ?_
      refine gaO_catch V hT [⟨0, 13, 16, 19⟩, ⟨0, 13, 20, 21⟩] ⟨0, 13, 24, 69⟩ [] rfl (by intro z hz; simp only [List.mem_cons, List.not_mem_nil, or_false] at hz; rcases hz with rfl | rfl <;> first | exact ⟨by decide, "java/lang/IndexOutOfBoundsException", ww_2_208, List.mem_of_getElem? (i := 1) rfl⟩ | exact ⟨by decide, "java/lang/IllegalArgumentException", ww_2_209, List.mem_of_getElem? (i := 2) rfl⟩) rfl (by decide) ww_3_114 gn_24 rfl (fun q => ?_)
      refine g_astore (lv2 := [some (.ref a0), some (gi a1), some (gi a2), some (gi a3), some (.ref a4), some (.ref q)]) V dL_undo_24 (by decide) rfl rfl rfl ?_
      refine g_iconst V (Int32.ofInt 3) dL_undo_26 rfl rfl ?_
      exact g_iret V rfl rfl dL_undo_27 ⟨_, rfl, hw⟩
  · refine ga_re ec es ?_
    refine gi_i2l V dL_undo_9 rfl ?_
    obtain ⟨fs, ha, hl, hw⟩ := hw
    refine g_putN (host := "WordgardenLaw") (C := RX6) (T := TX6) (N := 2) V 0 tyX6 tyX6_ok nmX6 rfl hin_RX6 (by decide) (by decide) gn_22 rfl rfl rfl rfl ha hl dL_undo_10 rfl ?_
    generalize gaUp hp1 a4 _ = hp5 at hw ⊢
    refine g_goto V dL_undo_13 rfl ?_
    refine g_iconst V (Int32.ofInt 0) dL_undo_28 rfl rfl ?_
    exact g_iret V rfl rfl dL_undo_29 ⟨_, rfl, hw⟩
def w_L_lay (G : gaG) (a0 : Nat) (a1 : Int) (a2 : Int) (a3 : Int) (a4 : Nat) (h : gaH) (Q : Int → gaH → Prop) : Prop := gHas h a0 5 ∧ gCall 3 18 3 18 (fun c3 s4 => w_X5_lay G (fun E9 h9 => (E9 = "java/lang/IndexOutOfBoundsException" ∧ Q 1 h9) ∨ (E9 = "java/lang/IllegalArgumentException" ∧ Q 2 h9)) a0 a1 a2 a3 h (fun r2 hp1 => gPF hp1 a4 6 0 (.long (gI2l r2)) (fun hp5 => Q 0 hp5)))
abbrev rm_L_lay : Room := { frames := 10, cells := 3, slots := 18, locals := 246 }
theorem hd_L_lay : (yL_lay.cls ≠ "java/lang/invoke/MethodHandle" ∧ yL_lay.cls ≠ "java/lang/invoke/VarHandle" ∧ (parseMethodDescriptor yL_lay.desc).map (fun d => d.parameters.length) = some 5) := by decide +kernel
theorem k_L_lay {l : Launch} (hst : l.stackTraces = false) {G : gaG} {X : String → gaH → Prop} {a0 : Nat} {a1 : Int} {a2 : Int} {a3 : Int} {a4 : Nat} {h : gaH} {Q : Int → gaH → Prop} (hw : w_L_lay G a0 a1 a2 a3 a4 h Q) : gaC l G yL_lay (gaMW yL_lay cL_lay 6 ((some .int)) [(0, 13, 16, 19), (0, 13, 20, 21)]) rm_L_lay [.ref a0, gi a1, gi a2, gi a3, .ref a4] h (gQi Q) X := by
  refine g_startW (lv := [some (.ref a0), some (gi a1), some (gi a2), some (gi a3), some (.ref a4), none]) hpl_RL hst (Nat.le_of_ble_eq_true rfl) (gaArgs_pad (z := 1) rfl) ww_3_165 ?_
  intro p e s m args below meth c V hT
  show gaP p l e rm_L_lay s m args below meth c G 6 (gaZ below G (gQi Q) X args s rm_L_lay) 0 [some (.ref a0), some (gi a1), some (gi a2), some (gi a3), some (.ref a4), none] [] h 3 18
  unfold w_L_lay at hw
  refine g_aload V dL_lay_0 rfl rfl ?_
  refine g_aload_n V dL_lay_2 rfl rfl ?_
  refine g_iload_n V dL_lay_3 rfl rfl ?_
  refine g_iload_n V dL_lay_4 rfl rfl ?_
  refine g_iload_n V dL_lay_5 rfl rfl ?_
  obtain ⟨hb, hw⟩ := hw
  obtain ⟨fb, hb⟩ := hb
  obtain ⟨hk, hj, c3, s4, ec, es, hw⟩ := hw
  refine g_callV (C := RX5) (T := TX5) (N := 9) (st := [.ref a4]) V (k_X5_lay hst hw) ww_3_166 ww_3_167 ww_3_168 ww_1_1 ww_3_169 hd_X5_lay ⟨by decide, by decide⟩ rfl (by decide) hb rfl rfl (ga_cat rfl) dL_lay_6 hk hj rfl ?_ (ga_ki (fun r2 hp1 hw => ?_))
  · rintro E9 h9 (⟨rfl, hw⟩ | ⟨rfl, hw⟩)
    · refine gaO_re ec es ?_
      refine gaO_catch V hT [] ⟨0, 13, 16, 19⟩ [⟨0, 13, 20, 21⟩] rfl (by intro z hz; simp at hz) rfl (by decide) ww_2_208 gn_12 rfl (fun q => ?_)
      refine g_astore (lv2 := [some (.ref a0), some (gi a1), some (gi a2), some (gi a3), some (.ref a4), some (.ref q)]) V dL_lay_16 (by decide) rfl rfl rfl ?_
      refine g_iconst V (Int32.ofInt 1) dL_lay_18 rfl rfl ?_
      exact g_iret V rfl rfl dL_lay_19 ⟨_, rfl, hw⟩
    · refine gaO_re ec es ?_
      refine gaO_catch V hT [⟨0, 13, 16, 19⟩] ⟨0, 13, 20, 21⟩ [] rfl (by intro z hz; simp only [List.mem_cons, List.not_mem_nil, or_false] at hz; rcases hz with rfl <;> first | exact ⟨by decide, "java/lang/IndexOutOfBoundsException", ww_2_208, List.mem_of_getElem? (i := 0) rfl⟩) rfl (by decide) ww_2_209 gn_20 rfl (fun q => ?_)
      refine g_astore (lv2 := [some (.ref a0), some (gi a1), some (gi a2), some (gi a3), some (.ref a4), some (.ref q)]) V dL_lay_20 (by decide) rfl rfl rfl ?_
      refine g_iconst V (Int32.ofInt 2) dL_lay_22 rfl rfl ?_
      exact g_iret V rfl rfl dL_lay_23 ⟨_, rfl, hw⟩
  · refine ga_re ec es ?_
    refine gi_i2l V dL_lay_9 rfl ?_
    obtain ⟨fs, ha, hl, hw⟩ := hw
    refine g_putN (host := "WordgardenLaw") (C := RX6) (T := TX6) (N := 2) V 0 tyX6 tyX6_ok nmX6 rfl hin_RX6 (by decide) (by decide) gn_22 rfl rfl rfl rfl ha hl dL_lay_10 rfl ?_
    generalize gaUp hp1 a4 _ = hp5 at hw ⊢
    refine g_goto V dL_lay_13 rfl ?_
    refine g_iconst V (Int32.ofInt 0) dL_lay_24 rfl rfl ?_
    exact g_iret V rfl rfl dL_lay_25 ⟨_, rfl, hw⟩
def w_L_twos (a0 : Nat) (a1 : Int) (a2 : Int) (a3 : Int) (a4 : Nat) (h : gaH) (Q : Int → gaH → Prop) : Prop := gHas h a0 5 ∧ gCall 3 18 3 18 (fun c3 s4 => w_X5_twos (fun E9 h9 => (E9 = "java/lang/IndexOutOfBoundsException" ∧ Q 1 h9) ∨ (E9 = "java/lang/IllegalArgumentException" ∧ Q 2 h9)) a0 a1 a2 a3 h (fun r2 hp1 => gPF hp1 a4 6 0 (.long (gI2l r2)) (fun hp5 => Q 0 hp5)))
abbrev rm_L_twos : Room := { frames := 10, cells := 3, slots := 18, locals := 245 }
theorem hd_L_twos : (yL_twos.cls ≠ "java/lang/invoke/MethodHandle" ∧ yL_twos.cls ≠ "java/lang/invoke/VarHandle" ∧ (parseMethodDescriptor yL_twos.desc).map (fun d => d.parameters.length) = some 5) := by decide +kernel
theorem k_L_twos {l : Launch} (hst : l.stackTraces = false) {G : gaG} {X : String → gaH → Prop} {a0 : Nat} {a1 : Int} {a2 : Int} {a3 : Int} {a4 : Nat} {h : gaH} {Q : Int → gaH → Prop} (hw : w_L_twos a0 a1 a2 a3 a4 h Q) : gaC l G yL_twos (gaMW yL_twos cL_twos 6 ((some .int)) [(0, 13, 16, 19), (0, 13, 20, 21)]) rm_L_twos [.ref a0, gi a1, gi a2, gi a3, .ref a4] h (gQi Q) X := by
  refine g_startW (lv := [some (.ref a0), some (gi a1), some (gi a2), some (gi a3), some (.ref a4), none]) hpl_RL hst (Nat.le_of_ble_eq_true rfl) (gaArgs_pad (z := 1) rfl) ww_3_172 ?_
  intro p e s m args below meth c V hT
  show gaP p l e rm_L_twos s m args below meth c G 6 (gaZ below G (gQi Q) X args s rm_L_twos) 0 [some (.ref a0), some (gi a1), some (gi a2), some (gi a3), some (.ref a4), none] [] h 3 18
  unfold w_L_twos at hw
  refine g_aload V dL_twos_0 rfl rfl ?_
  refine g_aload_n V dL_twos_2 rfl rfl ?_
  refine g_iload_n V dL_twos_3 rfl rfl ?_
  refine g_iload_n V dL_twos_4 rfl rfl ?_
  refine g_iload_n V dL_twos_5 rfl rfl ?_
  obtain ⟨hb, hw⟩ := hw
  obtain ⟨fb, hb⟩ := hb
  obtain ⟨hk, hj, c3, s4, ec, es, hw⟩ := hw
  refine g_callV (C := RX5) (T := TX5) (N := 9) (st := [.ref a4]) V (k_X5_twos hst hw) ww_3_173 ww_3_174 ww_3_175 ww_1_1 ww_3_176 hd_X5_twos ⟨by decide, by decide⟩ rfl (by decide) hb rfl rfl (ga_cat rfl) dL_twos_6 hk hj rfl ?_ (ga_ki (fun r2 hp1 hw => ?_))
  · rintro E9 h9 (⟨rfl, hw⟩ | ⟨rfl, hw⟩)
    · refine gaO_re ec es ?_
      refine gaO_catch V hT [] ⟨0, 13, 16, 19⟩ [⟨0, 13, 20, 21⟩] rfl (by intro z hz; simp at hz) rfl (by decide) ww_2_208 gn_12 rfl (fun q => ?_)
      refine g_astore (lv2 := [some (.ref a0), some (gi a1), some (gi a2), some (gi a3), some (.ref a4), some (.ref q)]) V dL_twos_16 (by decide) rfl rfl rfl ?_
      refine g_iconst V (Int32.ofInt 1) dL_twos_18 rfl rfl ?_
      exact g_iret V rfl rfl dL_twos_19 ⟨_, rfl, hw⟩
    · refine gaO_re ec es ?_
      refine gaO_catch V hT [⟨0, 13, 16, 19⟩] ⟨0, 13, 20, 21⟩ [] rfl (by intro z hz; simp only [List.mem_cons, List.not_mem_nil, or_false] at hz; rcases hz with rfl <;> first | exact ⟨by decide, "java/lang/IndexOutOfBoundsException", ww_2_208, List.mem_of_getElem? (i := 0) rfl⟩) rfl (by decide) ww_2_209 gn_20 rfl (fun q => ?_)
      refine g_astore (lv2 := [some (.ref a0), some (gi a1), some (gi a2), some (gi a3), some (.ref a4), some (.ref q)]) V dL_twos_20 (by decide) rfl rfl rfl ?_
      refine g_iconst V (Int32.ofInt 2) dL_twos_22 rfl rfl ?_
      exact g_iret V rfl rfl dL_twos_23 ⟨_, rfl, hw⟩
  · refine ga_re ec es ?_
    refine gi_i2l V dL_twos_9 rfl ?_
    obtain ⟨fs, ha, hl, hw⟩ := hw
    refine g_putN (host := "WordgardenLaw") (C := RX6) (T := TX6) (N := 2) V 0 tyX6 tyX6_ok nmX6 rfl hin_RX6 (by decide) (by decide) gn_22 rfl rfl rfl rfl ha hl dL_twos_10 rfl ?_
    generalize gaUp hp1 a4 _ = hp5 at hw ⊢
    refine g_goto V dL_twos_13 rfl ?_
    refine g_iconst V (Int32.ofInt 0) dL_twos_24 rfl rfl ?_
    exact g_iret V rfl rfl dL_twos_25 ⟨_, rfl, hw⟩
def w_L_line (a0 : Nat) (a1 : Int) (a2 : Int) (a3 : Int) (a4 : Int) (a5 : Nat) (h : gaH) (Q : Int → gaH → Prop) : Prop := gHas h a0 5 ∧ gCall 4 24 4 24 (fun c3 s4 => w_X5_line (fun E9 h9 => (E9 = "java/lang/IndexOutOfBoundsException" ∧ Q 1 h9) ∨ (E9 = "java/lang/IllegalArgumentException" ∧ Q 2 h9)) a0 a1 a2 a3 a4 h (fun r2 hp1 => gPF hp1 a5 6 0 (.long (gI2l r2)) (fun hp5 => Q 0 hp5)))
abbrev rm_L_line : Room := { frames := 10, cells := 4, slots := 24, locals := 247 }
theorem hd_L_line : (yL_line.cls ≠ "java/lang/invoke/MethodHandle" ∧ yL_line.cls ≠ "java/lang/invoke/VarHandle" ∧ (parseMethodDescriptor yL_line.desc).map (fun d => d.parameters.length) = some 6) := by decide +kernel
theorem k_L_line {l : Launch} (hst : l.stackTraces = false) {G : gaG} {X : String → gaH → Prop} {a0 : Nat} {a1 : Int} {a2 : Int} {a3 : Int} {a4 : Int} {a5 : Nat} {h : gaH} {Q : Int → gaH → Prop} (hw : w_L_line a0 a1 a2 a3 a4 a5 h Q) : gaC l G yL_line (gaMW yL_line cL_line 7 ((some .int)) [(0, 15, 18, 19), (0, 15, 22, 21)]) rm_L_line [.ref a0, gi a1, gi a2, gi a3, gi a4, .ref a5] h (gQi Q) X := by
  refine g_startW (lv := [some (.ref a0), some (gi a1), some (gi a2), some (gi a3), some (gi a4), some (.ref a5), none]) hpl_RL hst (Nat.le_of_ble_eq_true rfl) (gaArgs_pad (z := 1) rfl) ww_3_200 ?_
  intro p e s m args below meth c V hT
  show gaP p l e rm_L_line s m args below meth c G 7 (gaZ below G (gQi Q) X args s rm_L_line) 0 [some (.ref a0), some (gi a1), some (gi a2), some (gi a3), some (gi a4), some (.ref a5), none] [] h 4 24
  unfold w_L_line at hw
  refine g_aload V dL_line_0 rfl rfl ?_
  refine g_aload_n V dL_line_2 rfl rfl ?_
  refine g_iload_n V dL_line_3 rfl rfl ?_
  refine g_iload_n V dL_line_4 rfl rfl ?_
  refine g_iload_n V dL_line_5 rfl rfl ?_
  refine g_iload V dL_line_6 rfl rfl ?_
  obtain ⟨hb, hw⟩ := hw
  obtain ⟨fb, hb⟩ := hb
  obtain ⟨hk, hj, c3, s4, ec, es, hw⟩ := hw
  refine g_callV (C := RX5) (T := TX5) (N := 9) (st := [.ref a5]) V (k_X5_line hst hw) ww_3_201 ww_3_202 ww_3_203 ww_1_1 ww_3_204 hd_X5_line ⟨by decide, by decide⟩ rfl (by decide) hb rfl rfl (ga_cat rfl) dL_line_8 hk hj rfl ?_ (ga_ki (fun r2 hp1 hw => ?_))
  · rintro E9 h9 (⟨rfl, hw⟩ | ⟨rfl, hw⟩)
    · refine gaO_re ec es ?_
      refine gaO_catch V hT [] ⟨0, 15, 18, 19⟩ [⟨0, 15, 22, 21⟩] rfl (by intro z hz; simp at hz) rfl (by decide) ww_2_208 gn_12 rfl (fun q => ?_)
      refine g_astore (lv2 := [some (.ref a0), some (gi a1), some (gi a2), some (gi a3), some (gi a4), some (.ref a5), some (.ref q)]) V dL_line_18 (by decide) rfl rfl rfl ?_
      refine g_iconst V (Int32.ofInt 1) dL_line_20 rfl rfl ?_
      exact g_iret V rfl rfl dL_line_21 ⟨_, rfl, hw⟩
    · refine gaO_re ec es ?_
      refine gaO_catch V hT [⟨0, 15, 18, 19⟩] ⟨0, 15, 22, 21⟩ [] rfl (by intro z hz; simp only [List.mem_cons, List.not_mem_nil, or_false] at hz; rcases hz with rfl <;> first | exact ⟨by decide, "java/lang/IndexOutOfBoundsException", ww_2_208, List.mem_of_getElem? (i := 0) rfl⟩) rfl (by decide) ww_2_209 gn_20 rfl (fun q => ?_)
      refine g_astore (lv2 := [some (.ref a0), some (gi a1), some (gi a2), some (gi a3), some (gi a4), some (.ref a5), some (.ref q)]) V dL_line_22 (by decide) rfl rfl rfl ?_
      refine g_iconst V (Int32.ofInt 2) dL_line_24 rfl rfl ?_
      exact g_iret V rfl rfl dL_line_25 ⟨_, rfl, hw⟩
  · refine ga_re ec es ?_
    refine gi_i2l V dL_line_11 rfl ?_
    obtain ⟨fs, ha, hl, hw⟩ := hw
    refine g_putN (host := "WordgardenLaw") (C := RX6) (T := TX6) (N := 2) V 0 tyX6 tyX6_ok nmX6 rfl hin_RX6 (by decide) (by decide) gn_22 rfl rfl rfl rfl ha hl dL_line_12 rfl ?_
    generalize gaUp hp1 a5 _ = hp5 at hw ⊢
    refine g_goto V dL_line_15 rfl ?_
    refine g_iconst V (Int32.ofInt 0) dL_line_26 rfl rfl ?_
    exact g_iret V rfl rfl dL_line_27 ⟨_, rfl, hw⟩
def w_L_grow (a0 : Nat) (a1 : Int) (a2 : Int) (a3 : Nat) (h : gaH) (Q : Int → gaH → Prop) : Prop := gHas h a0 5 ∧ gCall 2 12 2 12 (fun c3 s4 => w_X5_grow (fun E9 h9 => (E9 = "java/lang/IndexOutOfBoundsException" ∧ Q 1 h9) ∨ (E9 = "java/lang/IllegalArgumentException" ∧ Q 2 h9)) a0 a1 a2 h (fun r2 hp1 => gPF hp1 a3 6 0 (.long (gI2l r2)) (fun hp5 => Q 0 hp5)))
abbrev rm_L_grow : Room := { frames := 10, cells := 2, slots := 12, locals := 244 }
theorem hd_L_grow : (yL_grow.cls ≠ "java/lang/invoke/MethodHandle" ∧ yL_grow.cls ≠ "java/lang/invoke/VarHandle" ∧ (parseMethodDescriptor yL_grow.desc).map (fun d => d.parameters.length) = some 4) := by decide +kernel
theorem k_L_grow {l : Launch} (hst : l.stackTraces = false) {G : gaG} {X : String → gaH → Prop} {a0 : Nat} {a1 : Int} {a2 : Int} {a3 : Nat} {h : gaH} {Q : Int → gaH → Prop} (hw : w_L_grow a0 a1 a2 a3 h Q) : gaC l G yL_grow (gaMW yL_grow cL_grow 5 ((some .int)) [(0, 11, 14, 19), (0, 11, 18, 21)]) rm_L_grow [.ref a0, gi a1, gi a2, .ref a3] h (gQi Q) X := by
  refine g_startW (lv := [some (.ref a0), some (gi a1), some (gi a2), some (.ref a3), none]) hpl_RL hst (Nat.le_of_ble_eq_true rfl) (gaArgs_pad (z := 1) rfl) ww_3_208 ?_
  intro p e s m args below meth c V hT
  show gaP p l e rm_L_grow s m args below meth c G 5 (gaZ below G (gQi Q) X args s rm_L_grow) 0 [some (.ref a0), some (gi a1), some (gi a2), some (.ref a3), none] [] h 2 12
  unfold w_L_grow at hw
  refine g_aload_n V dL_grow_0 rfl rfl ?_
  refine g_aload_n V dL_grow_1 rfl rfl ?_
  refine g_iload_n V dL_grow_2 rfl rfl ?_
  refine g_iload_n V dL_grow_3 rfl rfl ?_
  obtain ⟨hb, hw⟩ := hw
  obtain ⟨fb, hb⟩ := hb
  obtain ⟨hk, hj, c3, s4, ec, es, hw⟩ := hw
  refine g_callV (C := RX5) (T := TX5) (N := 9) (st := [.ref a3]) V (k_X5_grow hst hw) ww_3_209 ww_3_210 ww_3_211 ww_1_1 ww_3_212 hd_X5_grow ⟨by decide, by decide⟩ rfl (by decide) hb rfl rfl (ga_cat rfl) dL_grow_4 hk hj rfl ?_ (ga_ki (fun r2 hp1 hw => ?_))
  · rintro E9 h9 (⟨rfl, hw⟩ | ⟨rfl, hw⟩)
    · refine gaO_re ec es ?_
      refine gaO_catch V hT [] ⟨0, 11, 14, 19⟩ [⟨0, 11, 18, 21⟩] rfl (by intro z hz; simp at hz) rfl (by decide) ww_2_208 gn_12 rfl (fun q => ?_)
      refine g_astore (lv2 := [some (.ref a0), some (gi a1), some (gi a2), some (.ref a3), some (.ref q)]) V dL_grow_14 (by decide) rfl rfl rfl ?_
      refine g_iconst V (Int32.ofInt 1) dL_grow_16 rfl rfl ?_
      exact g_iret V rfl rfl dL_grow_17 ⟨_, rfl, hw⟩
    · refine gaO_re ec es ?_
      refine gaO_catch V hT [⟨0, 11, 14, 19⟩] ⟨0, 11, 18, 21⟩ [] rfl (by intro z hz; simp only [List.mem_cons, List.not_mem_nil, or_false] at hz; rcases hz with rfl <;> first | exact ⟨by decide, "java/lang/IndexOutOfBoundsException", ww_2_208, List.mem_of_getElem? (i := 0) rfl⟩) rfl (by decide) ww_2_209 gn_20 rfl (fun q => ?_)
      refine g_astore (lv2 := [some (.ref a0), some (gi a1), some (gi a2), some (.ref a3), some (.ref q)]) V dL_grow_18 (by decide) rfl rfl rfl ?_
      refine g_iconst V (Int32.ofInt 2) dL_grow_20 rfl rfl ?_
      exact g_iret V rfl rfl dL_grow_21 ⟨_, rfl, hw⟩
  · refine ga_re ec es ?_
    refine gi_i2l V dL_grow_7 rfl ?_
    obtain ⟨fs, ha, hl, hw⟩ := hw
    refine g_putN (host := "WordgardenLaw") (C := RX6) (T := TX6) (N := 2) V 0 tyX6 tyX6_ok nmX6 rfl hin_RX6 (by decide) (by decide) gn_22 rfl rfl rfl rfl ha hl dL_grow_8 rfl ?_
    generalize gaUp hp1 a3 _ = hp5 at hw ⊢
    refine g_goto V dL_grow_11 rfl ?_
    refine g_iconst V (Int32.ofInt 0) dL_grow_22 rfl rfl ?_
    exact g_iret V rfl rfl dL_grow_23 ⟨_, rfl, hw⟩
def w_L_shrink (a0 : Nat) (a1 : Int) (a2 : Nat) (h : gaH) (Q : Int → gaH → Prop) : Prop := gHas h a0 5 ∧ gCall 2 12 2 12 (fun c3 s4 => w_X5_shrink (fun E9 h9 => (E9 = "java/lang/IndexOutOfBoundsException" ∧ Q 1 h9) ∨ (E9 = "java/lang/IllegalStateException" ∧ Q 2 h9)) a0 a1 h (fun r2 hp1 => gPF hp1 a2 6 0 (.long (gI2l r2)) (fun hp5 => Q 0 hp5)))
abbrev rm_L_shrink : Room := { frames := 10, cells := 2, slots := 12, locals := 243 }
theorem hd_L_shrink : (yL_shrink.cls ≠ "java/lang/invoke/MethodHandle" ∧ yL_shrink.cls ≠ "java/lang/invoke/VarHandle" ∧ (parseMethodDescriptor yL_shrink.desc).map (fun d => d.parameters.length) = some 3) := by decide +kernel
theorem k_L_shrink {l : Launch} (hst : l.stackTraces = false) {G : gaG} {X : String → gaH → Prop} {a0 : Nat} {a1 : Int} {a2 : Nat} {h : gaH} {Q : Int → gaH → Prop} (hw : w_L_shrink a0 a1 a2 h Q) : gaC l G yL_shrink (gaMW yL_shrink cL_shrink 4 ((some .int)) [(0, 10, 13, 19), (0, 10, 16, 69)]) rm_L_shrink [.ref a0, gi a1, .ref a2] h (gQi Q) X := by
  refine g_startW (lv := [some (.ref a0), some (gi a1), some (.ref a2), none]) hpl_RL hst (Nat.le_of_ble_eq_true rfl) (gaArgs_pad (z := 1) rfl) ww_3_224 ?_
  intro p e s m args below meth c V hT
  show gaP p l e rm_L_shrink s m args below meth c G 4 (gaZ below G (gQi Q) X args s rm_L_shrink) 0 [some (.ref a0), some (gi a1), some (.ref a2), none] [] h 2 12
  unfold w_L_shrink at hw
  refine g_aload_n V dL_shrink_0 rfl rfl ?_
  refine g_aload_n V dL_shrink_1 rfl rfl ?_
  refine g_iload_n V dL_shrink_2 rfl rfl ?_
  obtain ⟨hb, hw⟩ := hw
  obtain ⟨fb, hb⟩ := hb
  obtain ⟨hk, hj, c3, s4, ec, es, hw⟩ := hw
  refine g_callV (C := RX5) (T := TX5) (N := 9) (st := [.ref a2]) V (k_X5_shrink hst hw) ww_3_225 ww_3_226 ww_3_227 ww_1_1 ww_3_228 hd_X5_shrink ⟨by decide, by decide⟩ rfl (by decide) hb rfl rfl (ga_cat rfl) dL_shrink_3 hk hj rfl ?_ (ga_ki (fun r2 hp1 hw => ?_))
  · rintro E9 h9 (⟨rfl, hw⟩ | ⟨rfl, hw⟩)
    · refine gaO_re ec es ?_
      refine gaO_catch V hT [] ⟨0, 10, 13, 19⟩ [⟨0, 10, 16, 69⟩] rfl (by intro z hz; simp at hz) rfl (by decide) ww_2_208 gn_12 rfl (fun q => ?_)
      refine g_astore_n (lv2 := [some (.ref a0), some (gi a1), some (.ref a2), some (.ref q)]) V dL_shrink_13 (by decide) rfl rfl rfl ?_
      refine g_iconst V (Int32.ofInt 1) dL_shrink_14 rfl rfl ?_
      exact g_iret V rfl rfl dL_shrink_15 ⟨_, rfl, hw⟩
    · refine gaO_re ec es ?_
      refine gaO_catch V hT [⟨0, 10, 13, 19⟩] ⟨0, 10, 16, 69⟩ [] rfl (by intro z hz; simp only [List.mem_cons, List.not_mem_nil, or_false] at hz; rcases hz with rfl <;> first | exact ⟨by decide, "java/lang/IndexOutOfBoundsException", ww_2_208, List.mem_of_getElem? (i := 1) rfl⟩) rfl (by decide) ww_3_114 gn_24 rfl (fun q => ?_)
      refine g_astore_n (lv2 := [some (.ref a0), some (gi a1), some (.ref a2), some (.ref q)]) V dL_shrink_16 (by decide) rfl rfl rfl ?_
      refine g_iconst V (Int32.ofInt 2) dL_shrink_17 rfl rfl ?_
      exact g_iret V rfl rfl dL_shrink_18 ⟨_, rfl, hw⟩
  · refine ga_re ec es ?_
    refine gi_i2l V dL_shrink_6 rfl ?_
    obtain ⟨fs, ha, hl, hw⟩ := hw
    refine g_putN (host := "WordgardenLaw") (C := RX6) (T := TX6) (N := 2) V 0 tyX6 tyX6_ok nmX6 rfl hin_RX6 (by decide) (by decide) gn_22 rfl rfl rfl rfl ha hl dL_shrink_7 rfl ?_
    generalize gaUp hp1 a2 _ = hp5 at hw ⊢
    refine g_goto V dL_shrink_10 rfl ?_
    refine g_iconst V (Int32.ofInt 0) dL_shrink_19 rfl rfl ?_
    exact g_iret V rfl rfl dL_shrink_20 ⟨_, rfl, hw⟩
def w_L_fresh (a0 : Nat) (a1 : Int) (a2 : Nat) (h : gaH) (Q : Int → gaH → Prop) : Prop := gHas h a0 5 ∧ gCall 1 6 1 6 (fun c3 s4 => w_X5_fresh (fun E9 h9 => (E9 = "java/lang/IndexOutOfBoundsException" ∧ Q 1 h9)) a0 a1 h (fun r2 hp1 => gPF hp1 a2 6 0 (.long (gI2l r2)) (fun hp5 => Q 0 hp5)))
abbrev rm_L_fresh : Room := { frames := 10, cells := 1, slots := 6, locals := 244 }
theorem hd_L_fresh : (yL_fresh.cls ≠ "java/lang/invoke/MethodHandle" ∧ yL_fresh.cls ≠ "java/lang/invoke/VarHandle" ∧ (parseMethodDescriptor yL_fresh.desc).map (fun d => d.parameters.length) = some 3) := by decide +kernel
theorem k_L_fresh {l : Launch} (hst : l.stackTraces = false) {G : gaG} {X : String → gaH → Prop} {a0 : Nat} {a1 : Int} {a2 : Nat} {h : gaH} {Q : Int → gaH → Prop} (hw : w_L_fresh a0 a1 a2 h Q) : gaC l G yL_fresh (gaMW yL_fresh cL_fresh 4 ((some .int)) [(0, 10, 13, 19)]) rm_L_fresh [.ref a0, gi a1, .ref a2] h (gQi Q) X := by
  refine g_startW (lv := [some (.ref a0), some (gi a1), some (.ref a2), none]) hpl_RL hst (Nat.le_of_ble_eq_true rfl) (gaArgs_pad (z := 1) rfl) ww_3_235 ?_
  intro p e s m args below meth c V hT
  show gaP p l e rm_L_fresh s m args below meth c G 4 (gaZ below G (gQi Q) X args s rm_L_fresh) 0 [some (.ref a0), some (gi a1), some (.ref a2), none] [] h 1 6
  unfold w_L_fresh at hw
  refine g_aload_n V dL_fresh_0 rfl rfl ?_
  refine g_aload_n V dL_fresh_1 rfl rfl ?_
  refine g_iload_n V dL_fresh_2 rfl rfl ?_
  obtain ⟨hb, hw⟩ := hw
  obtain ⟨fb, hb⟩ := hb
  obtain ⟨hk, hj, c3, s4, ec, es, hw⟩ := hw
  refine g_callV (C := RX5) (T := TX5) (N := 9) (st := [.ref a2]) V (k_X5_fresh hst hw) ww_3_236 ww_3_237 ww_3_238 ww_1_1 ww_3_239 hd_X5_fresh ⟨by decide, by decide⟩ rfl (by decide) hb rfl rfl (ga_cat rfl) dL_fresh_3 hk hj rfl ?_ (ga_ki (fun r2 hp1 hw => ?_))
  · rintro E9 h9 ⟨rfl, hw⟩
    refine gaO_re ec es ?_
    refine gaO_catch V hT [] ⟨0, 10, 13, 19⟩ [] rfl (by intro z hz; simp at hz) rfl (by decide) ww_2_208 gn_12 rfl (fun q => ?_)
    refine g_astore_n (lv2 := [some (.ref a0), some (gi a1), some (.ref a2), some (.ref q)]) V dL_fresh_13 (by decide) rfl rfl rfl ?_
    refine g_iconst V (Int32.ofInt 1) dL_fresh_14 rfl rfl ?_
    exact g_iret V rfl rfl dL_fresh_15 ⟨_, rfl, hw⟩
  · refine ga_re ec es ?_
    refine gi_i2l V dL_fresh_6 rfl ?_
    obtain ⟨fs, ha, hl, hw⟩ := hw
    refine g_putN (host := "WordgardenLaw") (C := RX6) (T := TX6) (N := 2) V 0 tyX6 tyX6_ok nmX6 rfl hin_RX6 (by decide) (by decide) gn_22 rfl rfl rfl rfl ha hl dL_fresh_7 rfl ?_
    generalize gaUp hp1 a2 _ = hp5 at hw ⊢
    refine g_goto V dL_fresh_10 rfl ?_
    refine g_iconst V (Int32.ofInt 0) dL_fresh_16 rfl rfl ?_
    exact g_iret V rfl rfl dL_fresh_17 ⟨_, rfl, hw⟩
def w_L_length (a0 : Nat) (a1 : Int) (a2 : Nat) (h : gaH) (Q : Int → gaH → Prop) : Prop := gHas h a0 5 ∧ gCall 1 6 1 6 (fun c3 s4 => w_X5_length (fun E9 h9 => (E9 = "java/lang/IndexOutOfBoundsException" ∧ Q 1 h9)) a0 a1 h (fun r2 hp1 => gPF hp1 a2 6 0 (.long (gI2l r2)) (fun hp5 => Q 0 hp5)))
abbrev rm_L_length : Room := { frames := 10, cells := 1, slots := 6, locals := 242 }
theorem hd_L_length : (yL_length.cls ≠ "java/lang/invoke/MethodHandle" ∧ yL_length.cls ≠ "java/lang/invoke/VarHandle" ∧ (parseMethodDescriptor yL_length.desc).map (fun d => d.parameters.length) = some 3) := by decide +kernel
theorem k_L_length {l : Launch} (hst : l.stackTraces = false) {G : gaG} {X : String → gaH → Prop} {a0 : Nat} {a1 : Int} {a2 : Nat} {h : gaH} {Q : Int → gaH → Prop} (hw : w_L_length a0 a1 a2 h Q) : gaC l G yL_length (gaMW yL_length cL_length 4 ((some .int)) [(0, 10, 13, 19)]) rm_L_length [.ref a0, gi a1, .ref a2] h (gQi Q) X := by
  refine g_startW (lv := [some (.ref a0), some (gi a1), some (.ref a2), none]) hpl_RL hst (Nat.le_of_ble_eq_true rfl) (gaArgs_pad (z := 1) rfl) ww_4_3 ?_
  intro p e s m args below meth c V hT
  show gaP p l e rm_L_length s m args below meth c G 4 (gaZ below G (gQi Q) X args s rm_L_length) 0 [some (.ref a0), some (gi a1), some (.ref a2), none] [] h 1 6
  unfold w_L_length at hw
  refine g_aload_n V dL_length_0 rfl rfl ?_
  refine g_aload_n V dL_length_1 rfl rfl ?_
  refine g_iload_n V dL_length_2 rfl rfl ?_
  obtain ⟨hb, hw⟩ := hw
  obtain ⟨fb, hb⟩ := hb
  obtain ⟨hk, hj, c3, s4, ec, es, hw⟩ := hw
  refine g_callV (C := RX5) (T := TX5) (N := 9) (st := [.ref a2]) V (k_X5_length hst hw) ww_4_4 ww_4_5 ww_4_6 ww_1_1 ww_4_7 hd_X5_length ⟨by decide, by decide⟩ rfl (by decide) hb rfl rfl (ga_cat rfl) dL_length_3 hk hj rfl ?_ (ga_ki (fun r2 hp1 hw => ?_))
  · rintro E9 h9 ⟨rfl, hw⟩
    refine gaO_re ec es ?_
    refine gaO_catch V hT [] ⟨0, 10, 13, 19⟩ [] rfl (by intro z hz; simp at hz) rfl (by decide) ww_2_208 gn_12 rfl (fun q => ?_)
    refine g_astore_n (lv2 := [some (.ref a0), some (gi a1), some (.ref a2), some (.ref q)]) V dL_length_13 (by decide) rfl rfl rfl ?_
    refine g_iconst V (Int32.ofInt 1) dL_length_14 rfl rfl ?_
    exact g_iret V rfl rfl dL_length_15 ⟨_, rfl, hw⟩
  · refine ga_re ec es ?_
    refine gi_i2l V dL_length_6 rfl ?_
    obtain ⟨fs, ha, hl, hw⟩ := hw
    refine g_putN (host := "WordgardenLaw") (C := RX6) (T := TX6) (N := 2) V 0 tyX6 tyX6_ok nmX6 rfl hin_RX6 (by decide) (by decide) gn_22 rfl rfl rfl rfl ha hl dL_length_7 rfl ?_
    generalize gaUp hp1 a2 _ = hp5 at hw ⊢
    refine g_goto V dL_length_10 rfl ?_
    refine g_iconst V (Int32.ofInt 0) dL_length_16 rfl rfl ?_
    exact g_iret V rfl rfl dL_length_17 ⟨_, rfl, hw⟩
def w_L_isB_J15 (Q : Int → gaH → Prop) (t0 : Nat) (t1 : Int64) (h : gaH) (kc ks : Nat) : Prop := gPF h t0 6 0 (.long t1) (fun hp1 => Q 0 hp1)
def w_L_isB (a0 : Nat) (a1 : Int) (a2 : Int) (a3 : Nat) (h : gaH) (Q : Int → gaH → Prop) : Prop := gHas h a0 5 ∧ gCall 2 12 2 12 (fun c3 s4 => w_X5_isB (fun E9 h9 => (E9 = "java/lang/IndexOutOfBoundsException" ∧ Q 1 h9)) a0 a1 a2 h (fun r2 hp1 => gR r2 ∧ (if r2 = 0 then w_L_isB_J15 Q a3 (0 : Int64) hp1 c3 s4 else w_L_isB_J15 Q a3 (1 : Int64) hp1 c3 s4)))
abbrev rm_L_isB : Room := { frames := 10, cells := 2, slots := 12, locals := 244 }
theorem hd_L_isB : (yL_isB.cls ≠ "java/lang/invoke/MethodHandle" ∧ yL_isB.cls ≠ "java/lang/invoke/VarHandle" ∧ (parseMethodDescriptor yL_isB.desc).map (fun d => d.parameters.length) = some 4) := by decide +kernel
theorem k_L_isB {l : Launch} (hst : l.stackTraces = false) {G : gaG} {X : String → gaH → Prop} {a0 : Nat} {a1 : Int} {a2 : Int} {a3 : Nat} {h : gaH} {Q : Int → gaH → Prop} (hw : w_L_isB a0 a1 a2 a3 h Q) : gaC l G yL_isB (gaMW yL_isB cL_isB 5 ((some .int)) [(0, 18, 21, 19)]) rm_L_isB [.ref a0, gi a1, gi a2, .ref a3] h (gQi Q) X := by
  refine g_startW (lv := [some (.ref a0), some (gi a1), some (gi a2), some (.ref a3), none]) hpl_RL hst (Nat.le_of_ble_eq_true rfl) (gaArgs_pad (z := 1) rfl) ww_4_10 ?_
  intro p e s m args below meth c V hT
  have h_L_isB_J15 : ∀ (t0 : Nat) (t1 : Int64) (h : gaH) (kc ks : Nat), w_L_isB_J15 Q t0 t1 h kc ks → gaP p l e rm_L_isB s m args below meth c G 5 (gaZ below G (gQi Q) X args s rm_L_isB) 15 [none, none, none, none, none] [.long t1, .ref t0] h kc ks := by
    intro t0 t1 h kc ks hw
    unfold w_L_isB_J15 at hw
    obtain ⟨fs, ha, hl, hw⟩ := hw
    refine g_putN (host := "WordgardenLaw") (C := RX6) (T := TX6) (N := 2) V 0 tyX6 tyX6_ok nmX6 rfl hin_RX6 (by decide) (by decide) gn_22 rfl rfl rfl rfl ha hl dL_isB_15 rfl ?_
    generalize gaUp h t0 _ = hp1 at hw ⊢
    refine g_goto V dL_isB_18 rfl ?_
    refine g_iconst V (Int32.ofInt 0) dL_isB_25 rfl rfl ?_
    exact g_iret V rfl rfl dL_isB_26 ⟨_, rfl, hw⟩
  show gaP p l e rm_L_isB s m args below meth c G 5 (gaZ below G (gQi Q) X args s rm_L_isB) 0 [some (.ref a0), some (gi a1), some (gi a2), some (.ref a3), none] [] h 2 12
  unfold w_L_isB at hw
  refine g_aload_n V dL_isB_0 rfl rfl ?_
  refine g_aload_n V dL_isB_1 rfl rfl ?_
  refine g_iload_n V dL_isB_2 rfl rfl ?_
  refine g_iload_n V dL_isB_3 rfl rfl ?_
  obtain ⟨hb, hw⟩ := hw
  obtain ⟨fb, hb⟩ := hb
  obtain ⟨hk, hj, c3, s4, ec, es, hw⟩ := hw
  refine g_callV (C := RX5) (T := TX5) (N := 9) (st := [.ref a3]) V (k_X5_isB hst hw) ww_4_11 ww_4_12 ww_4_13 ww_1_1 ww_4_14 hd_X5_isB ⟨by decide, by decide⟩ rfl (by decide) hb rfl rfl (ga_cat rfl) dL_isB_4 hk hj rfl ?_ (ga_ki (fun r2 hp1 hw => ?_))
  · rintro E9 h9 ⟨rfl, hw⟩
    refine gaO_re ec es ?_
    refine gaO_catch V hT [] ⟨0, 18, 21, 19⟩ [] rfl (by intro z hz; simp at hz) rfl (by decide) ww_2_208 gn_12 rfl (fun q => ?_)
    refine g_astore (lv2 := [some (.ref a0), some (gi a1), some (gi a2), some (.ref a3), some (.ref q)]) V dL_isB_21 (by decide) rfl rfl rfl ?_
    refine g_iconst V (Int32.ofInt 1) dL_isB_23 rfl rfl ?_
    exact g_iret V rfl rfl dL_isB_24 ⟨_, rfl, hw⟩
  · refine ga_re ec es ?_
    obtain ⟨hx0, hw⟩ := hw
    refine gi_if_eq V dL_isB_7 rfl rfl hx0 (fun q => ?_) (fun q => ?_)
    · have hw := ga_t q hw
      refine g_lconst V (0 : Int64) dL_isB_14 rfl rfl ?_
      refine g_less (bs := [false, false, false, false, true]) (lv2 := [none, none, none, none, none]) rfl ?_
      exact h_L_isB_J15 a3 (0 : Int64) hp1 c3 s4 hw
    · have hw := ga_f q hw
      refine g_lconst V (1 : Int64) dL_isB_10 rfl rfl ?_
      refine g_goto V dL_isB_11 rfl ?_
      refine g_less (bs := [false, false, false, false, true]) (lv2 := [none, none, none, none, none]) rfl ?_
      exact h_L_isB_J15 a3 (1 : Int64) hp1 c3 s4 hw
def w_L_text (G : gaG) (a0 : Nat) (a1 : Int) (a2 : Nat) (h : gaH) (Q : Int → gaH → Prop) : Prop := gHas h a0 5 ∧ gCall 136 8922 136 8922 (fun c3 s4 => w_X5_text G (fun E9 h9 => (E9 = "java/lang/IndexOutOfBoundsException" ∧ Q 1 h9)) a0 a1 h (fun r2 hp1 => gPF hp1 a2 6 1 (.ref r2) (fun hp5 => Q 0 hp5)))
abbrev rm_L_text : Room := { frames := 10, cells := 136, slots := 8922, locals := 242 }
theorem hd_L_text : (yL_text.cls ≠ "java/lang/invoke/MethodHandle" ∧ yL_text.cls ≠ "java/lang/invoke/VarHandle" ∧ (parseMethodDescriptor yL_text.desc).map (fun d => d.parameters.length) = some 3) := by decide +kernel
theorem k_L_text {l : Launch} (hst : l.stackTraces = false) {G : gaG} {X : String → gaH → Prop} {a0 : Nat} {a1 : Int} {a2 : Nat} {h : gaH} {Q : Int → gaH → Prop} (hw : w_L_text G a0 a1 a2 h Q) : gaC l G yL_text (gaMW yL_text cL_text 4 ((some .int)) [(0, 9, 12, 19)]) rm_L_text [.ref a0, gi a1, .ref a2] h (gQi Q) X := by
  refine g_startW (lv := [some (.ref a0), some (gi a1), some (.ref a2), none]) hpl_RL hst (Nat.le_of_ble_eq_true rfl) (gaArgs_pad (z := 1) rfl) ww_4_17 ?_
  intro p e s m args below meth c V hT
  show gaP p l e rm_L_text s m args below meth c G 4 (gaZ below G (gQi Q) X args s rm_L_text) 0 [some (.ref a0), some (gi a1), some (.ref a2), none] [] h 136 8922
  unfold w_L_text at hw
  refine g_aload_n V dL_text_0 rfl rfl ?_
  refine g_aload_n V dL_text_1 rfl rfl ?_
  refine g_iload_n V dL_text_2 rfl rfl ?_
  obtain ⟨hb, hw⟩ := hw
  obtain ⟨fb, hb⟩ := hb
  obtain ⟨hk, hj, c3, s4, ec, es, hw⟩ := hw
  refine g_callV (C := RX5) (T := TX5) (N := 9) (st := [.ref a2]) V (k_X5_text hst hw) ww_4_18 ww_4_19 ww_4_20 ww_1_1 ww_4_21 hd_X5_text ⟨by decide, by decide⟩ rfl (by decide) hb rfl rfl (ga_cat rfl) dL_text_3 hk hj rfl ?_ (ga_ka (fun r2 hp1 hw => ?_))
  · rintro E9 h9 ⟨rfl, hw⟩
    refine gaO_re ec es ?_
    refine gaO_catch V hT [] ⟨0, 9, 12, 19⟩ [] rfl (by intro z hz; simp at hz) rfl (by decide) ww_2_208 gn_12 rfl (fun q => ?_)
    refine g_astore_n (lv2 := [some (.ref a0), some (gi a1), some (.ref a2), some (.ref q)]) V dL_text_12 (by decide) rfl rfl rfl ?_
    refine g_iconst V (Int32.ofInt 1) dL_text_13 rfl rfl ?_
    exact g_iret V rfl rfl dL_text_14 ⟨_, rfl, hw⟩
  · refine ga_re ec es ?_
    obtain ⟨fs, ha, hl, hw⟩ := hw
    refine g_putN (host := "WordgardenLaw") (C := RX6) (T := TX6) (N := 2) V 1 tyX6 tyX6_ok nmX6 rfl hin_RX6 (by decide) (by decide) gn_23 rfl rfl rfl rfl ha hl dL_text_6 rfl ?_
    generalize gaUp hp1 a2 _ = hp5 at hw ⊢
    refine g_goto V dL_text_9 rfl ?_
    refine g_iconst V (Int32.ofInt 0) dL_text_15 rfl rfl ?_
    exact g_iret V rfl rfl dL_text_16 ⟨_, rfl, hw⟩
def w_L_count (a0 : Nat) (a1 : Int) (a2 : Int) (a3 : Nat) (h : gaH) (Q : Int → gaH → Prop) : Prop := gHas h a0 5 ∧ gCall 1 6 1 6 (fun c3 s4 => w_X5_count (fun E9 h9 => (E9 = "java/lang/IndexOutOfBoundsException" ∧ Q 1 h9)) a0 a1 a2 h (fun r2 hp1 => gPF hp1 a3 6 0 (.long (gI2l r2)) (fun hp5 => Q 0 hp5)))
abbrev rm_L_count : Room := { frames := 10, cells := 1, slots := 6, locals := 245 }
theorem hd_L_count : (yL_count.cls ≠ "java/lang/invoke/MethodHandle" ∧ yL_count.cls ≠ "java/lang/invoke/VarHandle" ∧ (parseMethodDescriptor yL_count.desc).map (fun d => d.parameters.length) = some 4) := by decide +kernel
theorem k_L_count {l : Launch} (hst : l.stackTraces = false) {G : gaG} {X : String → gaH → Prop} {a0 : Nat} {a1 : Int} {a2 : Int} {a3 : Nat} {h : gaH} {Q : Int → gaH → Prop} (hw : w_L_count a0 a1 a2 a3 h Q) : gaC l G yL_count (gaMW yL_count cL_count 5 ((some .int)) [(0, 11, 14, 19)]) rm_L_count [.ref a0, gi a1, gi a2, .ref a3] h (gQi Q) X := by
  refine g_startW (lv := [some (.ref a0), some (gi a1), some (gi a2), some (.ref a3), none]) hpl_RL hst (Nat.le_of_ble_eq_true rfl) (gaArgs_pad (z := 1) rfl) ww_5_47 ?_
  intro p e s m args below meth c V hT
  show gaP p l e rm_L_count s m args below meth c G 5 (gaZ below G (gQi Q) X args s rm_L_count) 0 [some (.ref a0), some (gi a1), some (gi a2), some (.ref a3), none] [] h 1 6
  unfold w_L_count at hw
  refine g_aload_n V dL_count_0 rfl rfl ?_
  refine g_aload_n V dL_count_1 rfl rfl ?_
  refine g_iload_n V dL_count_2 rfl rfl ?_
  refine g_iload_n V dL_count_3 rfl rfl ?_
  obtain ⟨hb, hw⟩ := hw
  obtain ⟨fb, hb⟩ := hb
  obtain ⟨hk, hj, c3, s4, ec, es, hw⟩ := hw
  refine g_callV (C := RX5) (T := TX5) (N := 9) (st := [.ref a3]) V (k_X5_count hst hw) ww_5_48 ww_1_233 ww_1_234 ww_1_1 ww_1_235 hd_X5_count ⟨by decide, by decide⟩ rfl (by decide) hb rfl rfl (ga_cat rfl) dL_count_4 hk hj rfl ?_ (ga_ki (fun r2 hp1 hw => ?_))
  · rintro E9 h9 ⟨rfl, hw⟩
    refine gaO_re ec es ?_
    refine gaO_catch V hT [] ⟨0, 11, 14, 19⟩ [] rfl (by intro z hz; simp at hz) rfl (by decide) ww_2_208 gn_12 rfl (fun q => ?_)
    refine g_astore (lv2 := [some (.ref a0), some (gi a1), some (gi a2), some (.ref a3), some (.ref q)]) V dL_count_14 (by decide) rfl rfl rfl ?_
    refine g_iconst V (Int32.ofInt 1) dL_count_16 rfl rfl ?_
    exact g_iret V rfl rfl dL_count_17 ⟨_, rfl, hw⟩
  · refine ga_re ec es ?_
    refine gi_i2l V dL_count_7 rfl ?_
    obtain ⟨fs, ha, hl, hw⟩ := hw
    refine g_putN (host := "WordgardenLaw") (C := RX6) (T := TX6) (N := 2) V 0 tyX6 tyX6_ok nmX6 rfl hin_RX6 (by decide) (by decide) gn_22 rfl rfl rfl rfl ha hl dL_count_8 rfl ?_
    generalize gaUp hp1 a3 _ = hp5 at hw ⊢
    refine g_goto V dL_count_11 rfl ?_
    refine g_iconst V (Int32.ofInt 0) dL_count_18 rfl rfl ?_
    exact g_iret V rfl rfl dL_count_19 ⟨_, rfl, hw⟩
def w_L_find (a0 : Nat) (a1 : Int) (a2 : Int) (a3 : Int) (a4 : Nat) (h : gaH) (Q : Int → gaH → Prop) : Prop := gHas h a0 5 ∧ gCall 3 18 3 18 (fun c3 s4 => w_X5_find (fun E9 h9 => (E9 = "java/lang/IndexOutOfBoundsException" ∧ Q 1 h9)) a0 a1 a2 a3 h (fun r2 hp1 => gPF hp1 a4 6 0 (.long (gI2l r2)) (fun hp5 => Q 0 hp5)))
abbrev rm_L_find : Room := { frames := 10, cells := 3, slots := 18, locals := 247 }
theorem hd_L_find : (yL_find.cls ≠ "java/lang/invoke/MethodHandle" ∧ yL_find.cls ≠ "java/lang/invoke/VarHandle" ∧ (parseMethodDescriptor yL_find.desc).map (fun d => d.parameters.length) = some 5) := by decide +kernel
theorem k_L_find {l : Launch} (hst : l.stackTraces = false) {G : gaG} {X : String → gaH → Prop} {a0 : Nat} {a1 : Int} {a2 : Int} {a3 : Int} {a4 : Nat} {h : gaH} {Q : Int → gaH → Prop} (hw : w_L_find a0 a1 a2 a3 a4 h Q) : gaC l G yL_find (gaMW yL_find cL_find 6 ((some .int)) [(0, 13, 16, 19)]) rm_L_find [.ref a0, gi a1, gi a2, gi a3, .ref a4] h (gQi Q) X := by
  refine g_startW (lv := [some (.ref a0), some (gi a1), some (gi a2), some (gi a3), some (.ref a4), none]) hpl_RL hst (Nat.le_of_ble_eq_true rfl) (gaArgs_pad (z := 1) rfl) ww_5_51 ?_
  intro p e s m args below meth c V hT
  show gaP p l e rm_L_find s m args below meth c G 6 (gaZ below G (gQi Q) X args s rm_L_find) 0 [some (.ref a0), some (gi a1), some (gi a2), some (gi a3), some (.ref a4), none] [] h 3 18
  unfold w_L_find at hw
  refine g_aload V dL_find_0 rfl rfl ?_
  refine g_aload_n V dL_find_2 rfl rfl ?_
  refine g_iload_n V dL_find_3 rfl rfl ?_
  refine g_iload_n V dL_find_4 rfl rfl ?_
  refine g_iload_n V dL_find_5 rfl rfl ?_
  obtain ⟨hb, hw⟩ := hw
  obtain ⟨fb, hb⟩ := hb
  obtain ⟨hk, hj, c3, s4, ec, es, hw⟩ := hw
  refine g_callV (C := RX5) (T := TX5) (N := 9) (st := [.ref a4]) V (k_X5_find hst hw) ww_5_52 ww_5_53 ww_5_54 ww_1_1 ww_5_55 hd_X5_find ⟨by decide, by decide⟩ rfl (by decide) hb rfl rfl (ga_cat rfl) dL_find_6 hk hj rfl ?_ (ga_ki (fun r2 hp1 hw => ?_))
  · rintro E9 h9 ⟨rfl, hw⟩
    refine gaO_re ec es ?_
    refine gaO_catch V hT [] ⟨0, 13, 16, 19⟩ [] rfl (by intro z hz; simp at hz) rfl (by decide) ww_2_208 gn_12 rfl (fun q => ?_)
    refine g_astore (lv2 := [some (.ref a0), some (gi a1), some (gi a2), some (gi a3), some (.ref a4), some (.ref q)]) V dL_find_16 (by decide) rfl rfl rfl ?_
    refine g_iconst V (Int32.ofInt 1) dL_find_18 rfl rfl ?_
    exact g_iret V rfl rfl dL_find_19 ⟨_, rfl, hw⟩
  · refine ga_re ec es ?_
    refine gi_i2l V dL_find_9 rfl ?_
    obtain ⟨fs, ha, hl, hw⟩ := hw
    refine g_putN (host := "WordgardenLaw") (C := RX6) (T := TX6) (N := 2) V 0 tyX6 tyX6_ok nmX6 rfl hin_RX6 (by decide) (by decide) gn_22 rfl rfl rfl rfl ha hl dL_find_10 rfl ?_
    generalize gaUp hp1 a4 _ = hp5 at hw ⊢
    refine g_goto V dL_find_13 rfl ?_
    refine g_iconst V (Int32.ofInt 0) dL_find_20 rfl rfl ?_
    exact g_iret V rfl rfl dL_find_21 ⟨_, rfl, hw⟩
def w_L_findLast (a0 : Nat) (a1 : Int) (a2 : Int) (a3 : Int) (a4 : Nat) (h : gaH) (Q : Int → gaH → Prop) : Prop := gHas h a0 5 ∧ gCall 3 18 3 18 (fun c3 s4 => w_X5_findLast (fun E9 h9 => (E9 = "java/lang/IndexOutOfBoundsException" ∧ Q 1 h9)) a0 a1 a2 a3 h (fun r2 hp1 => gPF hp1 a4 6 0 (.long (gI2l r2)) (fun hp5 => Q 0 hp5)))
abbrev rm_L_findLast : Room := { frames := 10, cells := 3, slots := 18, locals := 247 }
theorem hd_L_findLast : (yL_findLast.cls ≠ "java/lang/invoke/MethodHandle" ∧ yL_findLast.cls ≠ "java/lang/invoke/VarHandle" ∧ (parseMethodDescriptor yL_findLast.desc).map (fun d => d.parameters.length) = some 5) := by decide +kernel
theorem k_L_findLast {l : Launch} (hst : l.stackTraces = false) {G : gaG} {X : String → gaH → Prop} {a0 : Nat} {a1 : Int} {a2 : Int} {a3 : Int} {a4 : Nat} {h : gaH} {Q : Int → gaH → Prop} (hw : w_L_findLast a0 a1 a2 a3 a4 h Q) : gaC l G yL_findLast (gaMW yL_findLast cL_findLast 6 ((some .int)) [(0, 13, 16, 19)]) rm_L_findLast [.ref a0, gi a1, gi a2, gi a3, .ref a4] h (gQi Q) X := by
  refine g_startW (lv := [some (.ref a0), some (gi a1), some (gi a2), some (gi a3), some (.ref a4), none]) hpl_RL hst (Nat.le_of_ble_eq_true rfl) (gaArgs_pad (z := 1) rfl) ww_5_59 ?_
  intro p e s m args below meth c V hT
  show gaP p l e rm_L_findLast s m args below meth c G 6 (gaZ below G (gQi Q) X args s rm_L_findLast) 0 [some (.ref a0), some (gi a1), some (gi a2), some (gi a3), some (.ref a4), none] [] h 3 18
  unfold w_L_findLast at hw
  refine g_aload V dL_findLast_0 rfl rfl ?_
  refine g_aload_n V dL_findLast_2 rfl rfl ?_
  refine g_iload_n V dL_findLast_3 rfl rfl ?_
  refine g_iload_n V dL_findLast_4 rfl rfl ?_
  refine g_iload_n V dL_findLast_5 rfl rfl ?_
  obtain ⟨hb, hw⟩ := hw
  obtain ⟨fb, hb⟩ := hb
  obtain ⟨hk, hj, c3, s4, ec, es, hw⟩ := hw
  refine g_callV (C := RX5) (T := TX5) (N := 9) (st := [.ref a4]) V (k_X5_findLast hst hw) ww_5_60 ww_5_61 ww_5_62 ww_1_1 ww_5_63 hd_X5_findLast ⟨by decide, by decide⟩ rfl (by decide) hb rfl rfl (ga_cat rfl) dL_findLast_6 hk hj rfl ?_ (ga_ki (fun r2 hp1 hw => ?_))
  · rintro E9 h9 ⟨rfl, hw⟩
    refine gaO_re ec es ?_
    refine gaO_catch V hT [] ⟨0, 13, 16, 19⟩ [] rfl (by intro z hz; simp at hz) rfl (by decide) ww_2_208 gn_12 rfl (fun q => ?_)
    refine g_astore (lv2 := [some (.ref a0), some (gi a1), some (gi a2), some (gi a3), some (.ref a4), some (.ref q)]) V dL_findLast_16 (by decide) rfl rfl rfl ?_
    refine g_iconst V (Int32.ofInt 1) dL_findLast_18 rfl rfl ?_
    exact g_iret V rfl rfl dL_findLast_19 ⟨_, rfl, hw⟩
  · refine ga_re ec es ?_
    refine gi_i2l V dL_findLast_9 rfl ?_
    obtain ⟨fs, ha, hl, hw⟩ := hw
    refine g_putN (host := "WordgardenLaw") (C := RX6) (T := TX6) (N := 2) V 0 tyX6 tyX6_ok nmX6 rfl hin_RX6 (by decide) (by decide) gn_22 rfl rfl rfl rfl ha hl dL_findLast_10 rfl ?_
    generalize gaUp hp1 a4 _ = hp5 at hw ⊢
    refine g_goto V dL_findLast_13 rfl ?_
    refine g_iconst V (Int32.ofInt 0) dL_findLast_20 rfl rfl ?_
    exact g_iret V rfl rfl dL_findLast_21 ⟨_, rfl, hw⟩
def w_L_order (a0 : Nat) (a1 : Int) (a2 : Int) (a3 : Nat) (h : gaH) (Q : Int → gaH → Prop) : Prop := gHas h a0 5 ∧ gCall 2 12 2 12 (fun c3 s4 => w_X5_order (fun E9 h9 => (E9 = "java/lang/IndexOutOfBoundsException" ∧ Q 1 h9)) a0 a1 a2 h (fun r2 hp1 => gPF hp1 a3 6 0 (.long (gI2l r2)) (fun hp5 => Q 0 hp5)))
abbrev rm_L_order : Room := { frames := 10, cells := 2, slots := 12, locals := 243 }
theorem hd_L_order : (yL_order.cls ≠ "java/lang/invoke/MethodHandle" ∧ yL_order.cls ≠ "java/lang/invoke/VarHandle" ∧ (parseMethodDescriptor yL_order.desc).map (fun d => d.parameters.length) = some 4) := by decide +kernel
theorem k_L_order {l : Launch} (hst : l.stackTraces = false) {G : gaG} {X : String → gaH → Prop} {a0 : Nat} {a1 : Int} {a2 : Int} {a3 : Nat} {h : gaH} {Q : Int → gaH → Prop} (hw : w_L_order a0 a1 a2 a3 h Q) : gaC l G yL_order (gaMW yL_order cL_order 5 ((some .int)) [(0, 11, 14, 19)]) rm_L_order [.ref a0, gi a1, gi a2, .ref a3] h (gQi Q) X := by
  refine g_startW (lv := [some (.ref a0), some (gi a1), some (gi a2), some (.ref a3), none]) hpl_RL hst (Nat.le_of_ble_eq_true rfl) (gaArgs_pad (z := 1) rfl) ww_5_66 ?_
  intro p e s m args below meth c V hT
  show gaP p l e rm_L_order s m args below meth c G 5 (gaZ below G (gQi Q) X args s rm_L_order) 0 [some (.ref a0), some (gi a1), some (gi a2), some (.ref a3), none] [] h 2 12
  unfold w_L_order at hw
  refine g_aload_n V dL_order_0 rfl rfl ?_
  refine g_aload_n V dL_order_1 rfl rfl ?_
  refine g_iload_n V dL_order_2 rfl rfl ?_
  refine g_iload_n V dL_order_3 rfl rfl ?_
  obtain ⟨hb, hw⟩ := hw
  obtain ⟨fb, hb⟩ := hb
  obtain ⟨hk, hj, c3, s4, ec, es, hw⟩ := hw
  refine g_callV (C := RX5) (T := TX5) (N := 9) (st := [.ref a3]) V (k_X5_order hst hw) ww_5_67 ww_5_68 ww_5_69 ww_1_1 ww_5_70 hd_X5_order ⟨by decide, by decide⟩ rfl (by decide) hb rfl rfl (ga_cat rfl) dL_order_4 hk hj rfl ?_ (ga_ki (fun r2 hp1 hw => ?_))
  · rintro E9 h9 ⟨rfl, hw⟩
    refine gaO_re ec es ?_
    refine gaO_catch V hT [] ⟨0, 11, 14, 19⟩ [] rfl (by intro z hz; simp at hz) rfl (by decide) ww_2_208 gn_12 rfl (fun q => ?_)
    refine g_astore (lv2 := [some (.ref a0), some (gi a1), some (gi a2), some (.ref a3), some (.ref q)]) V dL_order_14 (by decide) rfl rfl rfl ?_
    refine g_iconst V (Int32.ofInt 1) dL_order_16 rfl rfl ?_
    exact g_iret V rfl rfl dL_order_17 ⟨_, rfl, hw⟩
  · refine ga_re ec es ?_
    refine gi_i2l V dL_order_7 rfl ?_
    obtain ⟨fs, ha, hl, hw⟩ := hw
    refine g_putN (host := "WordgardenLaw") (C := RX6) (T := TX6) (N := 2) V 0 tyX6 tyX6_ok nmX6 rfl hin_RX6 (by decide) (by decide) gn_22 rfl rfl rfl rfl ha hl dL_order_8 rfl ?_
    generalize gaUp hp1 a3 _ = hp5 at hw ⊢
    refine g_goto V dL_order_11 rfl ?_
    refine g_iconst V (Int32.ofInt 0) dL_order_18 rfl rfl ?_
    exact g_iret V rfl rfl dL_order_19 ⟨_, rfl, hw⟩
def w_L_isMirrored_J14 (Q : Int → gaH → Prop) (t0 : Nat) (t1 : Int64) (h : gaH) (kc ks : Nat) : Prop := gPF h t0 6 0 (.long t1) (fun hp1 => Q 0 hp1)
def w_L_isMirrored (a0 : Nat) (a1 : Int) (a2 : Nat) (h : gaH) (Q : Int → gaH → Prop) : Prop := gHas h a0 5 ∧ gCall 1 6 1 6 (fun c3 s4 => w_X5_isMirrored (fun E9 h9 => (E9 = "java/lang/IndexOutOfBoundsException" ∧ Q 1 h9)) a0 a1 h (fun r2 hp1 => gR r2 ∧ (if r2 = 0 then w_L_isMirrored_J14 Q a2 (0 : Int64) hp1 c3 s4 else w_L_isMirrored_J14 Q a2 (1 : Int64) hp1 c3 s4)))
abbrev rm_L_isMirrored : Room := { frames := 10, cells := 1, slots := 6, locals := 243 }
theorem hd_L_isMirrored : (yL_isMirrored.cls ≠ "java/lang/invoke/MethodHandle" ∧ yL_isMirrored.cls ≠ "java/lang/invoke/VarHandle" ∧ (parseMethodDescriptor yL_isMirrored.desc).map (fun d => d.parameters.length) = some 3) := by decide +kernel
theorem k_L_isMirrored {l : Launch} (hst : l.stackTraces = false) {G : gaG} {X : String → gaH → Prop} {a0 : Nat} {a1 : Int} {a2 : Nat} {h : gaH} {Q : Int → gaH → Prop} (hw : w_L_isMirrored a0 a1 a2 h Q) : gaC l G yL_isMirrored (gaMW yL_isMirrored cL_isMirrored 4 ((some .int)) [(0, 17, 20, 19)]) rm_L_isMirrored [.ref a0, gi a1, .ref a2] h (gQi Q) X := by
  refine g_startW (lv := [some (.ref a0), some (gi a1), some (.ref a2), none]) hpl_RL hst (Nat.le_of_ble_eq_true rfl) (gaArgs_pad (z := 1) rfl) ww_5_73 ?_
  intro p e s m args below meth c V hT
  have h_L_isMirrored_J14 : ∀ (t0 : Nat) (t1 : Int64) (h : gaH) (kc ks : Nat), w_L_isMirrored_J14 Q t0 t1 h kc ks → gaP p l e rm_L_isMirrored s m args below meth c G 4 (gaZ below G (gQi Q) X args s rm_L_isMirrored) 14 [none, none, none, none] [.long t1, .ref t0] h kc ks := by
    intro t0 t1 h kc ks hw
    unfold w_L_isMirrored_J14 at hw
    obtain ⟨fs, ha, hl, hw⟩ := hw
    refine g_putN (host := "WordgardenLaw") (C := RX6) (T := TX6) (N := 2) V 0 tyX6 tyX6_ok nmX6 rfl hin_RX6 (by decide) (by decide) gn_22 rfl rfl rfl rfl ha hl dL_isMirrored_14 rfl ?_
    generalize gaUp h t0 _ = hp1 at hw ⊢
    refine g_goto V dL_isMirrored_17 rfl ?_
    refine g_iconst V (Int32.ofInt 0) dL_isMirrored_23 rfl rfl ?_
    exact g_iret V rfl rfl dL_isMirrored_24 ⟨_, rfl, hw⟩
  show gaP p l e rm_L_isMirrored s m args below meth c G 4 (gaZ below G (gQi Q) X args s rm_L_isMirrored) 0 [some (.ref a0), some (gi a1), some (.ref a2), none] [] h 1 6
  unfold w_L_isMirrored at hw
  refine g_aload_n V dL_isMirrored_0 rfl rfl ?_
  refine g_aload_n V dL_isMirrored_1 rfl rfl ?_
  refine g_iload_n V dL_isMirrored_2 rfl rfl ?_
  obtain ⟨hb, hw⟩ := hw
  obtain ⟨fb, hb⟩ := hb
  obtain ⟨hk, hj, c3, s4, ec, es, hw⟩ := hw
  refine g_callV (C := RX5) (T := TX5) (N := 9) (st := [.ref a2]) V (k_X5_isMirrored hst hw) ww_5_74 ww_2_98 ww_2_99 ww_1_1 ww_2_100 hd_X5_isMirrored ⟨by decide, by decide⟩ rfl (by decide) hb rfl rfl (ga_cat rfl) dL_isMirrored_3 hk hj rfl ?_ (ga_ki (fun r2 hp1 hw => ?_))
  · rintro E9 h9 ⟨rfl, hw⟩
    refine gaO_re ec es ?_
    refine gaO_catch V hT [] ⟨0, 17, 20, 19⟩ [] rfl (by intro z hz; simp at hz) rfl (by decide) ww_2_208 gn_12 rfl (fun q => ?_)
    refine g_astore_n (lv2 := [some (.ref a0), some (gi a1), some (.ref a2), some (.ref q)]) V dL_isMirrored_20 (by decide) rfl rfl rfl ?_
    refine g_iconst V (Int32.ofInt 1) dL_isMirrored_21 rfl rfl ?_
    exact g_iret V rfl rfl dL_isMirrored_22 ⟨_, rfl, hw⟩
  · refine ga_re ec es ?_
    obtain ⟨hx0, hw⟩ := hw
    refine gi_if_eq V dL_isMirrored_6 rfl rfl hx0 (fun q => ?_) (fun q => ?_)
    · have hw := ga_t q hw
      refine g_lconst V (0 : Int64) dL_isMirrored_13 rfl rfl ?_
      refine g_less (bs := [false, false, false, true]) (lv2 := [none, none, none, none]) rfl ?_
      exact h_L_isMirrored_J14 a2 (0 : Int64) hp1 c3 s4 hw
    · have hw := ga_f q hw
      refine g_lconst V (1 : Int64) dL_isMirrored_9 rfl rfl ?_
      refine g_goto V dL_isMirrored_10 rfl ?_
      refine g_less (bs := [false, false, false, true]) (lv2 := [none, none, none, none]) rfl ?_
      exact h_L_isMirrored_J14 a2 (1 : Int64) hp1 c3 s4 hw
def w_L_spread (a0 : Nat) (a1 : Int) (a2 : Int) (a3 : Int) (a4 : Nat) (h : gaH) (Q : Int → gaH → Prop) : Prop := gHas h a0 5 ∧ gCall 2 12 2 12 (fun c3 s4 => w_X5_spread (fun E9 h9 => (E9 = "java/lang/IndexOutOfBoundsException" ∧ Q 1 h9) ∨ (E9 = "java/lang/IllegalArgumentException" ∧ Q 2 h9)) a0 a1 a2 a3 h (fun r2 hp1 => gPF hp1 a4 6 0 (.long (gI2l r2)) (fun hp5 => Q 0 hp5)))
abbrev rm_L_spread : Room := { frames := 10, cells := 2, slots := 12, locals := 245 }
theorem hd_L_spread : (yL_spread.cls ≠ "java/lang/invoke/MethodHandle" ∧ yL_spread.cls ≠ "java/lang/invoke/VarHandle" ∧ (parseMethodDescriptor yL_spread.desc).map (fun d => d.parameters.length) = some 5) := by decide +kernel
theorem k_L_spread {l : Launch} (hst : l.stackTraces = false) {G : gaG} {X : String → gaH → Prop} {a0 : Nat} {a1 : Int} {a2 : Int} {a3 : Int} {a4 : Nat} {h : gaH} {Q : Int → gaH → Prop} (hw : w_L_spread a0 a1 a2 a3 a4 h Q) : gaC l G yL_spread (gaMW yL_spread cL_spread 6 ((some .int)) [(0, 13, 16, 19), (0, 13, 20, 21)]) rm_L_spread [.ref a0, gi a1, gi a2, gi a3, .ref a4] h (gQi Q) X := by
  refine g_startW (lv := [some (.ref a0), some (gi a1), some (gi a2), some (gi a3), some (.ref a4), none]) hpl_RL hst (Nat.le_of_ble_eq_true rfl) (gaArgs_pad (z := 1) rfl) ww_5_77 ?_
  intro p e s m args below meth c V hT
  show gaP p l e rm_L_spread s m args below meth c G 6 (gaZ below G (gQi Q) X args s rm_L_spread) 0 [some (.ref a0), some (gi a1), some (gi a2), some (gi a3), some (.ref a4), none] [] h 2 12
  unfold w_L_spread at hw
  refine g_aload V dL_spread_0 rfl rfl ?_
  refine g_aload_n V dL_spread_2 rfl rfl ?_
  refine g_iload_n V dL_spread_3 rfl rfl ?_
  refine g_iload_n V dL_spread_4 rfl rfl ?_
  refine g_iload_n V dL_spread_5 rfl rfl ?_
  obtain ⟨hb, hw⟩ := hw
  obtain ⟨fb, hb⟩ := hb
  obtain ⟨hk, hj, c3, s4, ec, es, hw⟩ := hw
  refine g_callV (C := RX5) (T := TX5) (N := 9) (st := [.ref a4]) V (k_X5_spread hst hw) ww_5_78 ww_5_79 ww_5_80 ww_1_1 ww_5_81 hd_X5_spread ⟨by decide, by decide⟩ rfl (by decide) hb rfl rfl (ga_cat rfl) dL_spread_6 hk hj rfl ?_ (ga_ki (fun r2 hp1 hw => ?_))
  · rintro E9 h9 (⟨rfl, hw⟩ | ⟨rfl, hw⟩)
    · refine gaO_re ec es ?_
      refine gaO_catch V hT [] ⟨0, 13, 16, 19⟩ [⟨0, 13, 20, 21⟩] rfl (by intro z hz; simp at hz) rfl (by decide) ww_2_208 gn_12 rfl (fun q => ?_)
      refine g_astore (lv2 := [some (.ref a0), some (gi a1), some (gi a2), some (gi a3), some (.ref a4), some (.ref q)]) V dL_spread_16 (by decide) rfl rfl rfl ?_
      refine g_iconst V (Int32.ofInt 1) dL_spread_18 rfl rfl ?_
      exact g_iret V rfl rfl dL_spread_19 ⟨_, rfl, hw⟩
    · refine gaO_re ec es ?_
      refine gaO_catch V hT [⟨0, 13, 16, 19⟩] ⟨0, 13, 20, 21⟩ [] rfl (by intro z hz; simp only [List.mem_cons, List.not_mem_nil, or_false] at hz; rcases hz with rfl <;> first | exact ⟨by decide, "java/lang/IndexOutOfBoundsException", ww_2_208, List.mem_of_getElem? (i := 0) rfl⟩) rfl (by decide) ww_2_209 gn_20 rfl (fun q => ?_)
      refine g_astore (lv2 := [some (.ref a0), some (gi a1), some (gi a2), some (gi a3), some (.ref a4), some (.ref q)]) V dL_spread_20 (by decide) rfl rfl rfl ?_
      refine g_iconst V (Int32.ofInt 2) dL_spread_22 rfl rfl ?_
      exact g_iret V rfl rfl dL_spread_23 ⟨_, rfl, hw⟩
  · refine ga_re ec es ?_
    refine gi_i2l V dL_spread_9 rfl ?_
    obtain ⟨fs, ha, hl, hw⟩ := hw
    refine g_putN (host := "WordgardenLaw") (C := RX6) (T := TX6) (N := 2) V 0 tyX6 tyX6_ok nmX6 rfl hin_RX6 (by decide) (by decide) gn_22 rfl rfl rfl rfl ha hl dL_spread_10 rfl ?_
    generalize gaUp hp1 a4 _ = hp5 at hw ⊢
    refine g_goto V dL_spread_13 rfl ?_
    refine g_iconst V (Int32.ofInt 0) dL_spread_24 rfl rfl ?_
    exact g_iret V rfl rfl dL_spread_25 ⟨_, rfl, hw⟩
def w_L_kinds (a0 : Nat) (a1 : Int) (a2 : Int) (a3 : Int) (a4 : Nat) (h : gaH) (Q : Int → gaH → Prop) : Prop := gHas h a0 5 ∧ gCall 2 12 2 12 (fun c3 s4 => w_X5_kinds (fun E9 h9 => (E9 = "java/lang/IndexOutOfBoundsException" ∧ Q 1 h9) ∨ (E9 = "java/lang/IllegalArgumentException" ∧ Q 2 h9)) a0 a1 a2 a3 h (fun r2 hp1 => gPF hp1 a4 6 0 (.long (gI2l r2)) (fun hp5 => Q 0 hp5)))
abbrev rm_L_kinds : Room := { frames := 10, cells := 2, slots := 12, locals := 245 }
theorem hd_L_kinds : (yL_kinds.cls ≠ "java/lang/invoke/MethodHandle" ∧ yL_kinds.cls ≠ "java/lang/invoke/VarHandle" ∧ (parseMethodDescriptor yL_kinds.desc).map (fun d => d.parameters.length) = some 5) := by decide +kernel
theorem k_L_kinds {l : Launch} (hst : l.stackTraces = false) {G : gaG} {X : String → gaH → Prop} {a0 : Nat} {a1 : Int} {a2 : Int} {a3 : Int} {a4 : Nat} {h : gaH} {Q : Int → gaH → Prop} (hw : w_L_kinds a0 a1 a2 a3 a4 h Q) : gaC l G yL_kinds (gaMW yL_kinds cL_kinds 6 ((some .int)) [(0, 13, 16, 19), (0, 13, 20, 21)]) rm_L_kinds [.ref a0, gi a1, gi a2, gi a3, .ref a4] h (gQi Q) X := by
  refine g_startW (lv := [some (.ref a0), some (gi a1), some (gi a2), some (gi a3), some (.ref a4), none]) hpl_RL hst (Nat.le_of_ble_eq_true rfl) (gaArgs_pad (z := 1) rfl) ww_5_91 ?_
  intro p e s m args below meth c V hT
  show gaP p l e rm_L_kinds s m args below meth c G 6 (gaZ below G (gQi Q) X args s rm_L_kinds) 0 [some (.ref a0), some (gi a1), some (gi a2), some (gi a3), some (.ref a4), none] [] h 2 12
  unfold w_L_kinds at hw
  refine g_aload V dL_kinds_0 rfl rfl ?_
  refine g_aload_n V dL_kinds_2 rfl rfl ?_
  refine g_iload_n V dL_kinds_3 rfl rfl ?_
  refine g_iload_n V dL_kinds_4 rfl rfl ?_
  refine g_iload_n V dL_kinds_5 rfl rfl ?_
  obtain ⟨hb, hw⟩ := hw
  obtain ⟨fb, hb⟩ := hb
  obtain ⟨hk, hj, c3, s4, ec, es, hw⟩ := hw
  refine g_callV (C := RX5) (T := TX5) (N := 9) (st := [.ref a4]) V (k_X5_kinds hst hw) ww_5_92 ww_5_93 ww_5_94 ww_1_1 ww_5_95 hd_X5_kinds ⟨by decide, by decide⟩ rfl (by decide) hb rfl rfl (ga_cat rfl) dL_kinds_6 hk hj rfl ?_ (ga_ki (fun r2 hp1 hw => ?_))
  · rintro E9 h9 (⟨rfl, hw⟩ | ⟨rfl, hw⟩)
    · refine gaO_re ec es ?_
      refine gaO_catch V hT [] ⟨0, 13, 16, 19⟩ [⟨0, 13, 20, 21⟩] rfl (by intro z hz; simp at hz) rfl (by decide) ww_2_208 gn_12 rfl (fun q => ?_)
      refine g_astore (lv2 := [some (.ref a0), some (gi a1), some (gi a2), some (gi a3), some (.ref a4), some (.ref q)]) V dL_kinds_16 (by decide) rfl rfl rfl ?_
      refine g_iconst V (Int32.ofInt 1) dL_kinds_18 rfl rfl ?_
      exact g_iret V rfl rfl dL_kinds_19 ⟨_, rfl, hw⟩
    · refine gaO_re ec es ?_
      refine gaO_catch V hT [⟨0, 13, 16, 19⟩] ⟨0, 13, 20, 21⟩ [] rfl (by intro z hz; simp only [List.mem_cons, List.not_mem_nil, or_false] at hz; rcases hz with rfl <;> first | exact ⟨by decide, "java/lang/IndexOutOfBoundsException", ww_2_208, List.mem_of_getElem? (i := 0) rfl⟩) rfl (by decide) ww_2_209 gn_20 rfl (fun q => ?_)
      refine g_astore (lv2 := [some (.ref a0), some (gi a1), some (gi a2), some (gi a3), some (.ref a4), some (.ref q)]) V dL_kinds_20 (by decide) rfl rfl rfl ?_
      refine g_iconst V (Int32.ofInt 2) dL_kinds_22 rfl rfl ?_
      exact g_iret V rfl rfl dL_kinds_23 ⟨_, rfl, hw⟩
  · refine ga_re ec es ?_
    refine gi_i2l V dL_kinds_9 rfl ?_
    obtain ⟨fs, ha, hl, hw⟩ := hw
    refine g_putN (host := "WordgardenLaw") (C := RX6) (T := TX6) (N := 2) V 0 tyX6 tyX6_ok nmX6 rfl hin_RX6 (by decide) (by decide) gn_22 rfl rfl rfl rfl ha hl dL_kinds_10 rfl ?_
    generalize gaUp hp1 a4 _ = hp5 at hw ⊢
    refine g_goto V dL_kinds_13 rfl ?_
    refine g_iconst V (Int32.ofInt 0) dL_kinds_24 rfl rfl ?_
    exact g_iret V rfl rfl dL_kinds_25 ⟨_, rfl, hw⟩
def w_L_times (a0 : Nat) (a1 : Int) (a2 : Nat) (h : gaH) (Q : Int → gaH → Prop) : Prop := gHas h a0 5 ∧ gCall 1 6 1 6 (fun c3 s4 => w_X5_times (fun E9 h9 => (E9 = "java/lang/IndexOutOfBoundsException" ∧ Q 1 h9)) a0 a1 h (fun r2 hp1 => gPF hp1 a2 6 0 (.long (gI2l r2)) (fun hp5 => Q 0 hp5)))
abbrev rm_L_times : Room := { frames := 10, cells := 1, slots := 6, locals := 242 }
theorem hd_L_times : (yL_times.cls ≠ "java/lang/invoke/MethodHandle" ∧ yL_times.cls ≠ "java/lang/invoke/VarHandle" ∧ (parseMethodDescriptor yL_times.desc).map (fun d => d.parameters.length) = some 3) := by decide +kernel
theorem k_L_times {l : Launch} (hst : l.stackTraces = false) {G : gaG} {X : String → gaH → Prop} {a0 : Nat} {a1 : Int} {a2 : Nat} {h : gaH} {Q : Int → gaH → Prop} (hw : w_L_times a0 a1 a2 h Q) : gaC l G yL_times (gaMW yL_times cL_times 4 ((some .int)) [(0, 10, 13, 19)]) rm_L_times [.ref a0, gi a1, .ref a2] h (gQi Q) X := by
  refine g_startW (lv := [some (.ref a0), some (gi a1), some (.ref a2), none]) hpl_RL hst (Nat.le_of_ble_eq_true rfl) (gaArgs_pad (z := 1) rfl) ww_5_104 ?_
  intro p e s m args below meth c V hT
  show gaP p l e rm_L_times s m args below meth c G 4 (gaZ below G (gQi Q) X args s rm_L_times) 0 [some (.ref a0), some (gi a1), some (.ref a2), none] [] h 1 6
  unfold w_L_times at hw
  refine g_aload_n V dL_times_0 rfl rfl ?_
  refine g_aload_n V dL_times_1 rfl rfl ?_
  refine g_iload_n V dL_times_2 rfl rfl ?_
  obtain ⟨hb, hw⟩ := hw
  obtain ⟨fb, hb⟩ := hb
  obtain ⟨hk, hj, c3, s4, ec, es, hw⟩ := hw
  refine g_callV (C := RX5) (T := TX5) (N := 9) (st := [.ref a2]) V (k_X5_times hst hw) ww_5_105 ww_2_108 ww_2_109 ww_1_1 ww_2_110 hd_X5_times ⟨by decide, by decide⟩ rfl (by decide) hb rfl rfl (ga_cat rfl) dL_times_3 hk hj rfl ?_ (ga_ki (fun r2 hp1 hw => ?_))
  · rintro E9 h9 ⟨rfl, hw⟩
    refine gaO_re ec es ?_
    refine gaO_catch V hT [] ⟨0, 10, 13, 19⟩ [] rfl (by intro z hz; simp at hz) rfl (by decide) ww_2_208 gn_12 rfl (fun q => ?_)
    refine g_astore_n (lv2 := [some (.ref a0), some (gi a1), some (.ref a2), some (.ref q)]) V dL_times_13 (by decide) rfl rfl rfl ?_
    refine g_iconst V (Int32.ofInt 1) dL_times_14 rfl rfl ?_
    exact g_iret V rfl rfl dL_times_15 ⟨_, rfl, hw⟩
  · refine ga_re ec es ?_
    refine gi_i2l V dL_times_6 rfl ?_
    obtain ⟨fs, ha, hl, hw⟩ := hw
    refine g_putN (host := "WordgardenLaw") (C := RX6) (T := TX6) (N := 2) V 0 tyX6 tyX6_ok nmX6 rfl hin_RX6 (by decide) (by decide) gn_22 rfl rfl rfl rfl ha hl dL_times_7 rfl ?_
    generalize gaUp hp1 a2 _ = hp5 at hw ⊢
    refine g_goto V dL_times_10 rfl ?_
    refine g_iconst V (Int32.ofInt 0) dL_times_16 rfl rfl ?_
    exact g_iret V rfl rfl dL_times_17 ⟨_, rfl, hw⟩
def w_L_overlaps (a0 : Nat) (a1 : Int) (a2 : Nat) (h : gaH) (Q : Int → gaH → Prop) : Prop := gHas h a0 5 ∧ gCall 1 6 1 6 (fun c3 s4 => w_X5_overlaps (fun E9 h9 => (E9 = "java/lang/IndexOutOfBoundsException" ∧ Q 1 h9)) a0 a1 h (fun r2 hp1 => gPF hp1 a2 6 0 (.long (gI2l r2)) (fun hp5 => Q 0 hp5)))
abbrev rm_L_overlaps : Room := { frames := 10, cells := 1, slots := 6, locals := 242 }
theorem hd_L_overlaps : (yL_overlaps.cls ≠ "java/lang/invoke/MethodHandle" ∧ yL_overlaps.cls ≠ "java/lang/invoke/VarHandle" ∧ (parseMethodDescriptor yL_overlaps.desc).map (fun d => d.parameters.length) = some 3) := by decide +kernel
theorem k_L_overlaps {l : Launch} (hst : l.stackTraces = false) {G : gaG} {X : String → gaH → Prop} {a0 : Nat} {a1 : Int} {a2 : Nat} {h : gaH} {Q : Int → gaH → Prop} (hw : w_L_overlaps a0 a1 a2 h Q) : gaC l G yL_overlaps (gaMW yL_overlaps cL_overlaps 4 ((some .int)) [(0, 10, 13, 19)]) rm_L_overlaps [.ref a0, gi a1, .ref a2] h (gQi Q) X := by
  refine g_startW (lv := [some (.ref a0), some (gi a1), some (.ref a2), none]) hpl_RL hst (Nat.le_of_ble_eq_true rfl) (gaArgs_pad (z := 1) rfl) ww_5_108 ?_
  intro p e s m args below meth c V hT
  show gaP p l e rm_L_overlaps s m args below meth c G 4 (gaZ below G (gQi Q) X args s rm_L_overlaps) 0 [some (.ref a0), some (gi a1), some (.ref a2), none] [] h 1 6
  unfold w_L_overlaps at hw
  refine g_aload_n V dL_overlaps_0 rfl rfl ?_
  refine g_aload_n V dL_overlaps_1 rfl rfl ?_
  refine g_iload_n V dL_overlaps_2 rfl rfl ?_
  obtain ⟨hb, hw⟩ := hw
  obtain ⟨fb, hb⟩ := hb
  obtain ⟨hk, hj, c3, s4, ec, es, hw⟩ := hw
  refine g_callV (C := RX5) (T := TX5) (N := 9) (st := [.ref a2]) V (k_X5_overlaps hst hw) ww_5_109 ww_2_121 ww_2_122 ww_1_1 ww_2_123 hd_X5_overlaps ⟨by decide, by decide⟩ rfl (by decide) hb rfl rfl (ga_cat rfl) dL_overlaps_3 hk hj rfl ?_ (ga_ki (fun r2 hp1 hw => ?_))
  · rintro E9 h9 ⟨rfl, hw⟩
    refine gaO_re ec es ?_
    refine gaO_catch V hT [] ⟨0, 10, 13, 19⟩ [] rfl (by intro z hz; simp at hz) rfl (by decide) ww_2_208 gn_12 rfl (fun q => ?_)
    refine g_astore_n (lv2 := [some (.ref a0), some (gi a1), some (.ref a2), some (.ref q)]) V dL_overlaps_13 (by decide) rfl rfl rfl ?_
    refine g_iconst V (Int32.ofInt 1) dL_overlaps_14 rfl rfl ?_
    exact g_iret V rfl rfl dL_overlaps_15 ⟨_, rfl, hw⟩
  · refine ga_re ec es ?_
    refine gi_i2l V dL_overlaps_6 rfl ?_
    obtain ⟨fs, ha, hl, hw⟩ := hw
    refine g_putN (host := "WordgardenLaw") (C := RX6) (T := TX6) (N := 2) V 0 tyX6 tyX6_ok nmX6 rfl hin_RX6 (by decide) (by decide) gn_22 rfl rfl rfl rfl ha hl dL_overlaps_7 rfl ?_
    generalize gaUp hp1 a2 _ = hp5 at hw ⊢
    refine g_goto V dL_overlaps_10 rfl ?_
    refine g_iconst V (Int32.ofInt 0) dL_overlaps_16 rfl rfl ?_
    exact g_iret V rfl rfl dL_overlaps_17 ⟨_, rfl, hw⟩
def w_L_mirrors (a0 : Nat) (a1 : Int) (a2 : Nat) (h : gaH) (Q : Int → gaH → Prop) : Prop := gHas h a0 5 ∧ gCall 1 6 1 6 (fun c3 s4 => w_X5_mirrors (fun E9 h9 => (E9 = "java/lang/IndexOutOfBoundsException" ∧ Q 1 h9)) a0 a1 h (fun r2 hp1 => gPF hp1 a2 6 0 (.long (gI2l r2)) (fun hp5 => Q 0 hp5)))
abbrev rm_L_mirrors : Room := { frames := 10, cells := 1, slots := 6, locals := 242 }
theorem hd_L_mirrors : (yL_mirrors.cls ≠ "java/lang/invoke/MethodHandle" ∧ yL_mirrors.cls ≠ "java/lang/invoke/VarHandle" ∧ (parseMethodDescriptor yL_mirrors.desc).map (fun d => d.parameters.length) = some 3) := by decide +kernel
theorem k_L_mirrors {l : Launch} (hst : l.stackTraces = false) {G : gaG} {X : String → gaH → Prop} {a0 : Nat} {a1 : Int} {a2 : Nat} {h : gaH} {Q : Int → gaH → Prop} (hw : w_L_mirrors a0 a1 a2 h Q) : gaC l G yL_mirrors (gaMW yL_mirrors cL_mirrors 4 ((some .int)) [(0, 10, 13, 19)]) rm_L_mirrors [.ref a0, gi a1, .ref a2] h (gQi Q) X := by
  refine g_startW (lv := [some (.ref a0), some (gi a1), some (.ref a2), none]) hpl_RL hst (Nat.le_of_ble_eq_true rfl) (gaArgs_pad (z := 1) rfl) ww_5_112 ?_
  intro p e s m args below meth c V hT
  show gaP p l e rm_L_mirrors s m args below meth c G 4 (gaZ below G (gQi Q) X args s rm_L_mirrors) 0 [some (.ref a0), some (gi a1), some (.ref a2), none] [] h 1 6
  unfold w_L_mirrors at hw
  refine g_aload_n V dL_mirrors_0 rfl rfl ?_
  refine g_aload_n V dL_mirrors_1 rfl rfl ?_
  refine g_iload_n V dL_mirrors_2 rfl rfl ?_
  obtain ⟨hb, hw⟩ := hw
  obtain ⟨fb, hb⟩ := hb
  obtain ⟨hk, hj, c3, s4, ec, es, hw⟩ := hw
  refine g_callV (C := RX5) (T := TX5) (N := 9) (st := [.ref a2]) V (k_X5_mirrors hst hw) ww_5_113 ww_5_114 ww_5_115 ww_1_1 ww_5_116 hd_X5_mirrors ⟨by decide, by decide⟩ rfl (by decide) hb rfl rfl (ga_cat rfl) dL_mirrors_3 hk hj rfl ?_ (ga_ki (fun r2 hp1 hw => ?_))
  · rintro E9 h9 ⟨rfl, hw⟩
    refine gaO_re ec es ?_
    refine gaO_catch V hT [] ⟨0, 10, 13, 19⟩ [] rfl (by intro z hz; simp at hz) rfl (by decide) ww_2_208 gn_12 rfl (fun q => ?_)
    refine g_astore_n (lv2 := [some (.ref a0), some (gi a1), some (.ref a2), some (.ref q)]) V dL_mirrors_13 (by decide) rfl rfl rfl ?_
    refine g_iconst V (Int32.ofInt 1) dL_mirrors_14 rfl rfl ?_
    exact g_iret V rfl rfl dL_mirrors_15 ⟨_, rfl, hw⟩
  · refine ga_re ec es ?_
    refine gi_i2l V dL_mirrors_6 rfl ?_
    obtain ⟨fs, ha, hl, hw⟩ := hw
    refine g_putN (host := "WordgardenLaw") (C := RX6) (T := TX6) (N := 2) V 0 tyX6 tyX6_ok nmX6 rfl hin_RX6 (by decide) (by decide) gn_22 rfl rfl rfl rfl ha hl dL_mirrors_7 rfl ?_
    generalize gaUp hp1 a2 _ = hp5 at hw ⊢
    refine g_goto V dL_mirrors_10 rfl ?_
    refine g_iconst V (Int32.ofInt 0) dL_mirrors_16 rfl rfl ?_
    exact g_iret V rfl rfl dL_mirrors_17 ⟨_, rfl, hw⟩
def w_L_folds (a0 : Nat) (a1 : Int) (a2 : Nat) (h : gaH) (Q : Int → gaH → Prop) : Prop := gHas h a0 5 ∧ gCall 1 6 1 6 (fun c3 s4 => w_X5_folds (fun E9 h9 => (E9 = "java/lang/IndexOutOfBoundsException" ∧ Q 1 h9)) a0 a1 h (fun r2 hp1 => gPF hp1 a2 6 0 (.long (gI2l r2)) (fun hp5 => Q 0 hp5)))
abbrev rm_L_folds : Room := { frames := 10, cells := 1, slots := 6, locals := 242 }
theorem hd_L_folds : (yL_folds.cls ≠ "java/lang/invoke/MethodHandle" ∧ yL_folds.cls ≠ "java/lang/invoke/VarHandle" ∧ (parseMethodDescriptor yL_folds.desc).map (fun d => d.parameters.length) = some 3) := by decide +kernel
theorem k_L_folds {l : Launch} (hst : l.stackTraces = false) {G : gaG} {X : String → gaH → Prop} {a0 : Nat} {a1 : Int} {a2 : Nat} {h : gaH} {Q : Int → gaH → Prop} (hw : w_L_folds a0 a1 a2 h Q) : gaC l G yL_folds (gaMW yL_folds cL_folds 4 ((some .int)) [(0, 10, 13, 19)]) rm_L_folds [.ref a0, gi a1, .ref a2] h (gQi Q) X := by
  refine g_startW (lv := [some (.ref a0), some (gi a1), some (.ref a2), none]) hpl_RL hst (Nat.le_of_ble_eq_true rfl) (gaArgs_pad (z := 1) rfl) ww_5_122 ?_
  intro p e s m args below meth c V hT
  show gaP p l e rm_L_folds s m args below meth c G 4 (gaZ below G (gQi Q) X args s rm_L_folds) 0 [some (.ref a0), some (gi a1), some (.ref a2), none] [] h 1 6
  unfold w_L_folds at hw
  refine g_aload_n V dL_folds_0 rfl rfl ?_
  refine g_aload_n V dL_folds_1 rfl rfl ?_
  refine g_iload_n V dL_folds_2 rfl rfl ?_
  obtain ⟨hb, hw⟩ := hw
  obtain ⟨fb, hb⟩ := hb
  obtain ⟨hk, hj, c3, s4, ec, es, hw⟩ := hw
  refine g_callV (C := RX5) (T := TX5) (N := 9) (st := [.ref a2]) V (k_X5_folds hst hw) ww_5_123 ww_2_131 ww_2_132 ww_1_1 ww_2_133 hd_X5_folds ⟨by decide, by decide⟩ rfl (by decide) hb rfl rfl (ga_cat rfl) dL_folds_3 hk hj rfl ?_ (ga_ki (fun r2 hp1 hw => ?_))
  · rintro E9 h9 ⟨rfl, hw⟩
    refine gaO_re ec es ?_
    refine gaO_catch V hT [] ⟨0, 10, 13, 19⟩ [] rfl (by intro z hz; simp at hz) rfl (by decide) ww_2_208 gn_12 rfl (fun q => ?_)
    refine g_astore_n (lv2 := [some (.ref a0), some (gi a1), some (.ref a2), some (.ref q)]) V dL_folds_13 (by decide) rfl rfl rfl ?_
    refine g_iconst V (Int32.ofInt 1) dL_folds_14 rfl rfl ?_
    exact g_iret V rfl rfl dL_folds_15 ⟨_, rfl, hw⟩
  · refine ga_re ec es ?_
    refine gi_i2l V dL_folds_6 rfl ?_
    obtain ⟨fs, ha, hl, hw⟩ := hw
    refine g_putN (host := "WordgardenLaw") (C := RX6) (T := TX6) (N := 2) V 0 tyX6 tyX6_ok nmX6 rfl hin_RX6 (by decide) (by decide) gn_22 rfl rfl rfl rfl ha hl dL_folds_7 rfl ?_
    generalize gaUp hp1 a2 _ = hp5 at hw ⊢
    refine g_goto V dL_folds_10 rfl ?_
    refine g_iconst V (Int32.ofInt 0) dL_folds_16 rfl rfl ?_
    exact g_iret V rfl rfl dL_folds_17 ⟨_, rfl, hw⟩
def w_L_least (a0 : Nat) (a1 : Int) (a2 : Nat) (h : gaH) (Q : Int → gaH → Prop) : Prop := gHas h a0 5 ∧ gCall 1 6 1 6 (fun c3 s4 => w_X5_least (fun E9 h9 => (E9 = "java/lang/IndexOutOfBoundsException" ∧ Q 1 h9)) a0 a1 h (fun r2 hp1 => gPF hp1 a2 6 0 (.long (gI2l r2)) (fun hp5 => Q 0 hp5)))
abbrev rm_L_least : Room := { frames := 10, cells := 1, slots := 6, locals := 242 }
theorem hd_L_least : (yL_least.cls ≠ "java/lang/invoke/MethodHandle" ∧ yL_least.cls ≠ "java/lang/invoke/VarHandle" ∧ (parseMethodDescriptor yL_least.desc).map (fun d => d.parameters.length) = some 3) := by decide +kernel
theorem k_L_least {l : Launch} (hst : l.stackTraces = false) {G : gaG} {X : String → gaH → Prop} {a0 : Nat} {a1 : Int} {a2 : Nat} {h : gaH} {Q : Int → gaH → Prop} (hw : w_L_least a0 a1 a2 h Q) : gaC l G yL_least (gaMW yL_least cL_least 4 ((some .int)) [(0, 10, 13, 19)]) rm_L_least [.ref a0, gi a1, .ref a2] h (gQi Q) X := by
  refine g_startW (lv := [some (.ref a0), some (gi a1), some (.ref a2), none]) hpl_RL hst (Nat.le_of_ble_eq_true rfl) (gaArgs_pad (z := 1) rfl) ww_5_126 ?_
  intro p e s m args below meth c V hT
  show gaP p l e rm_L_least s m args below meth c G 4 (gaZ below G (gQi Q) X args s rm_L_least) 0 [some (.ref a0), some (gi a1), some (.ref a2), none] [] h 1 6
  unfold w_L_least at hw
  refine g_aload_n V dL_least_0 rfl rfl ?_
  refine g_aload_n V dL_least_1 rfl rfl ?_
  refine g_iload_n V dL_least_2 rfl rfl ?_
  obtain ⟨hb, hw⟩ := hw
  obtain ⟨fb, hb⟩ := hb
  obtain ⟨hk, hj, c3, s4, ec, es, hw⟩ := hw
  refine g_callV (C := RX5) (T := TX5) (N := 9) (st := [.ref a2]) V (k_X5_least hst hw) ww_5_127 ww_2_139 ww_2_140 ww_1_1 ww_2_141 hd_X5_least ⟨by decide, by decide⟩ rfl (by decide) hb rfl rfl (ga_cat rfl) dL_least_3 hk hj rfl ?_ (ga_ki (fun r2 hp1 hw => ?_))
  · rintro E9 h9 ⟨rfl, hw⟩
    refine gaO_re ec es ?_
    refine gaO_catch V hT [] ⟨0, 10, 13, 19⟩ [] rfl (by intro z hz; simp at hz) rfl (by decide) ww_2_208 gn_12 rfl (fun q => ?_)
    refine g_astore_n (lv2 := [some (.ref a0), some (gi a1), some (.ref a2), some (.ref q)]) V dL_least_13 (by decide) rfl rfl rfl ?_
    refine g_iconst V (Int32.ofInt 1) dL_least_14 rfl rfl ?_
    exact g_iret V rfl rfl dL_least_15 ⟨_, rfl, hw⟩
  · refine ga_re ec es ?_
    refine gi_i2l V dL_least_6 rfl ?_
    obtain ⟨fs, ha, hl, hw⟩ := hw
    refine g_putN (host := "WordgardenLaw") (C := RX6) (T := TX6) (N := 2) V 0 tyX6 tyX6_ok nmX6 rfl hin_RX6 (by decide) (by decide) gn_22 rfl rfl rfl rfl ha hl dL_least_7 rfl ?_
    generalize gaUp hp1 a2 _ = hp5 at hw ⊢
    refine g_goto V dL_least_10 rfl ?_
    refine g_iconst V (Int32.ofInt 0) dL_least_16 rfl rfl ?_
    exact g_iret V rfl rfl dL_least_17 ⟨_, rfl, hw⟩
def w_L_isApart_J15 (Q : Int → gaH → Prop) (t0 : Nat) (t1 : Int64) (h : gaH) (kc ks : Nat) : Prop := gPF h t0 6 0 (.long t1) (fun hp1 => Q 0 hp1)
def w_L_isApart (a0 : Nat) (a1 : Int) (a2 : Int) (a3 : Nat) (h : gaH) (Q : Int → gaH → Prop) : Prop := gHas h a0 5 ∧ gCall 2 12 2 12 (fun c3 s4 => w_X5_isApart (fun E9 h9 => (E9 = "java/lang/IllegalArgumentException" ∧ Q 1 h9)) a0 a1 a2 h (fun r2 hp1 => gR r2 ∧ (if r2 = 0 then w_L_isApart_J15 Q a3 (0 : Int64) hp1 c3 s4 else w_L_isApart_J15 Q a3 (1 : Int64) hp1 c3 s4)))
abbrev rm_L_isApart : Room := { frames := 11, cells := 2, slots := 12, locals := 264 }
theorem hd_L_isApart : (yL_isApart.cls ≠ "java/lang/invoke/MethodHandle" ∧ yL_isApart.cls ≠ "java/lang/invoke/VarHandle" ∧ (parseMethodDescriptor yL_isApart.desc).map (fun d => d.parameters.length) = some 4) := by decide +kernel
theorem k_L_isApart {l : Launch} (hst : l.stackTraces = false) {G : gaG} {X : String → gaH → Prop} {a0 : Nat} {a1 : Int} {a2 : Int} {a3 : Nat} {h : gaH} {Q : Int → gaH → Prop} (hw : w_L_isApart a0 a1 a2 a3 h Q) : gaC l G yL_isApart (gaMW yL_isApart cL_isApart 5 ((some .int)) [(0, 18, 21, 21)]) rm_L_isApart [.ref a0, gi a1, gi a2, .ref a3] h (gQi Q) X := by
  refine g_startW (lv := [some (.ref a0), some (gi a1), some (gi a2), some (.ref a3), none]) hpl_RL hst (Nat.le_of_ble_eq_true rfl) (gaArgs_pad (z := 1) rfl) ww_5_130 ?_
  intro p e s m args below meth c V hT
  have h_L_isApart_J15 : ∀ (t0 : Nat) (t1 : Int64) (h : gaH) (kc ks : Nat), w_L_isApart_J15 Q t0 t1 h kc ks → gaP p l e rm_L_isApart s m args below meth c G 5 (gaZ below G (gQi Q) X args s rm_L_isApart) 15 [none, none, none, none, none] [.long t1, .ref t0] h kc ks := by
    intro t0 t1 h kc ks hw
    unfold w_L_isApart_J15 at hw
    obtain ⟨fs, ha, hl, hw⟩ := hw
    refine g_putN (host := "WordgardenLaw") (C := RX6) (T := TX6) (N := 2) V 0 tyX6 tyX6_ok nmX6 rfl hin_RX6 (by decide) (by decide) gn_22 rfl rfl rfl rfl ha hl dL_isApart_15 rfl ?_
    generalize gaUp h t0 _ = hp1 at hw ⊢
    refine g_goto V dL_isApart_18 rfl ?_
    refine g_iconst V (Int32.ofInt 0) dL_isApart_25 rfl rfl ?_
    exact g_iret V rfl rfl dL_isApart_26 ⟨_, rfl, hw⟩
  show gaP p l e rm_L_isApart s m args below meth c G 5 (gaZ below G (gQi Q) X args s rm_L_isApart) 0 [some (.ref a0), some (gi a1), some (gi a2), some (.ref a3), none] [] h 2 12
  unfold w_L_isApart at hw
  refine g_aload_n V dL_isApart_0 rfl rfl ?_
  refine g_aload_n V dL_isApart_1 rfl rfl ?_
  refine g_iload_n V dL_isApart_2 rfl rfl ?_
  refine g_iload_n V dL_isApart_3 rfl rfl ?_
  obtain ⟨hb, hw⟩ := hw
  obtain ⟨fb, hb⟩ := hb
  obtain ⟨hk, hj, c3, s4, ec, es, hw⟩ := hw
  refine g_callV (C := RX5) (T := TX5) (N := 9) (st := [.ref a3]) V (k_X5_isApart hst hw) ww_5_131 ww_5_132 ww_5_133 ww_1_1 ww_5_134 hd_X5_isApart ⟨by decide, by decide⟩ rfl (by decide) hb rfl rfl (ga_cat rfl) dL_isApart_4 hk hj rfl ?_ (ga_ki (fun r2 hp1 hw => ?_))
  · rintro E9 h9 ⟨rfl, hw⟩
    refine gaO_re ec es ?_
    refine gaO_catch V hT [] ⟨0, 18, 21, 21⟩ [] rfl (by intro z hz; simp at hz) rfl (by decide) ww_2_209 gn_20 rfl (fun q => ?_)
    refine g_astore (lv2 := [some (.ref a0), some (gi a1), some (gi a2), some (.ref a3), some (.ref q)]) V dL_isApart_21 (by decide) rfl rfl rfl ?_
    refine g_iconst V (Int32.ofInt 1) dL_isApart_23 rfl rfl ?_
    exact g_iret V rfl rfl dL_isApart_24 ⟨_, rfl, hw⟩
  · refine ga_re ec es ?_
    obtain ⟨hx0, hw⟩ := hw
    refine gi_if_eq V dL_isApart_7 rfl rfl hx0 (fun q => ?_) (fun q => ?_)
    · have hw := ga_t q hw
      refine g_lconst V (0 : Int64) dL_isApart_14 rfl rfl ?_
      refine g_less (bs := [false, false, false, false, true]) (lv2 := [none, none, none, none, none]) rfl ?_
      exact h_L_isApart_J15 a3 (0 : Int64) hp1 c3 s4 hw
    · have hw := ga_f q hw
      refine g_lconst V (1 : Int64) dL_isApart_10 rfl rfl ?_
      refine g_goto V dL_isApart_11 rfl ?_
      refine g_less (bs := [false, false, false, false, true]) (lv2 := [none, none, none, none, none]) rfl ?_
      exact h_L_isApart_J15 a3 (1 : Int64) hp1 c3 s4 hw
def w_L_turns (G : gaG) (a0 : Nat) (a1 : Int) (a2 : Nat) (h : gaH) (Q : Int → gaH → Prop) : Prop := gHas h a0 5 ∧ gCall 136 8922 136 8922 (fun c3 s4 => w_X5_turns G (fun E9 h9 => (E9 = "java/lang/IndexOutOfBoundsException" ∧ Q 1 h9)) a0 a1 h (fun r2 hp1 => gPF hp1 a2 6 1 (.ref r2) (fun hp5 => Q 0 hp5)))
abbrev rm_L_turns : Room := { frames := 10, cells := 136, slots := 8922, locals := 245 }
theorem hd_L_turns : (yL_turns.cls ≠ "java/lang/invoke/MethodHandle" ∧ yL_turns.cls ≠ "java/lang/invoke/VarHandle" ∧ (parseMethodDescriptor yL_turns.desc).map (fun d => d.parameters.length) = some 3) := by decide +kernel
theorem k_L_turns {l : Launch} (hst : l.stackTraces = false) {G : gaG} {X : String → gaH → Prop} {a0 : Nat} {a1 : Int} {a2 : Nat} {h : gaH} {Q : Int → gaH → Prop} (hw : w_L_turns G a0 a1 a2 h Q) : gaC l G yL_turns (gaMW yL_turns cL_turns 4 ((some .int)) [(0, 9, 12, 19)]) rm_L_turns [.ref a0, gi a1, .ref a2] h (gQi Q) X := by
  refine g_startW (lv := [some (.ref a0), some (gi a1), some (.ref a2), none]) hpl_RL hst (Nat.le_of_ble_eq_true rfl) (gaArgs_pad (z := 1) rfl) ww_5_137 ?_
  intro p e s m args below meth c V hT
  show gaP p l e rm_L_turns s m args below meth c G 4 (gaZ below G (gQi Q) X args s rm_L_turns) 0 [some (.ref a0), some (gi a1), some (.ref a2), none] [] h 136 8922
  unfold w_L_turns at hw
  refine g_aload_n V dL_turns_0 rfl rfl ?_
  refine g_aload_n V dL_turns_1 rfl rfl ?_
  refine g_iload_n V dL_turns_2 rfl rfl ?_
  obtain ⟨hb, hw⟩ := hw
  obtain ⟨fb, hb⟩ := hb
  obtain ⟨hk, hj, c3, s4, ec, es, hw⟩ := hw
  refine g_callV (C := RX5) (T := TX5) (N := 9) (st := [.ref a2]) V (k_X5_turns hst hw) ww_5_138 ww_5_139 ww_5_140 ww_1_1 ww_5_141 hd_X5_turns ⟨by decide, by decide⟩ rfl (by decide) hb rfl rfl (ga_cat rfl) dL_turns_3 hk hj rfl ?_ (ga_ka (fun r2 hp1 hw => ?_))
  · rintro E9 h9 ⟨rfl, hw⟩
    refine gaO_re ec es ?_
    refine gaO_catch V hT [] ⟨0, 9, 12, 19⟩ [] rfl (by intro z hz; simp at hz) rfl (by decide) ww_2_208 gn_12 rfl (fun q => ?_)
    refine g_astore_n (lv2 := [some (.ref a0), some (gi a1), some (.ref a2), some (.ref q)]) V dL_turns_12 (by decide) rfl rfl rfl ?_
    refine g_iconst V (Int32.ofInt 1) dL_turns_13 rfl rfl ?_
    exact g_iret V rfl rfl dL_turns_14 ⟨_, rfl, hw⟩
  · refine ga_re ec es ?_
    obtain ⟨fs, ha, hl, hw⟩ := hw
    refine g_putN (host := "WordgardenLaw") (C := RX6) (T := TX6) (N := 2) V 1 tyX6 tyX6_ok nmX6 rfl hin_RX6 (by decide) (by decide) gn_23 rfl rfl rfl rfl ha hl dL_turns_6 rfl ?_
    generalize gaUp hp1 a2 _ = hp5 at hw ⊢
    refine g_goto V dL_turns_9 rfl ?_
    refine g_iconst V (Int32.ofInt 0) dL_turns_15 rfl rfl ?_
    exact g_iret V rfl rfl dL_turns_16 ⟨_, rfl, hw⟩
def w_L_grown (G : gaG) (a0 : Nat) (a1 : Int) (a2 : Int) (a3 : Nat) (h : gaH) (Q : Int → gaH → Prop) : Prop := gHas h a0 5 ∧ gCall 136 8922 136 8922 (fun c3 s4 => w_X5_grown G (fun E9 h9 => (E9 = "java/lang/IndexOutOfBoundsException" ∧ Q 1 h9)) a0 a1 a2 h (fun r2 hp1 => gPF hp1 a3 6 1 (.ref r2) (fun hp5 => Q 0 hp5)))
abbrev rm_L_grown : Room := { frames := 10, cells := 136, slots := 8922, locals := 243 }
theorem hd_L_grown : (yL_grown.cls ≠ "java/lang/invoke/MethodHandle" ∧ yL_grown.cls ≠ "java/lang/invoke/VarHandle" ∧ (parseMethodDescriptor yL_grown.desc).map (fun d => d.parameters.length) = some 4) := by decide +kernel
theorem k_L_grown {l : Launch} (hst : l.stackTraces = false) {G : gaG} {X : String → gaH → Prop} {a0 : Nat} {a1 : Int} {a2 : Int} {a3 : Nat} {h : gaH} {Q : Int → gaH → Prop} (hw : w_L_grown G a0 a1 a2 a3 h Q) : gaC l G yL_grown (gaMW yL_grown cL_grown 5 ((some .int)) [(0, 10, 13, 19)]) rm_L_grown [.ref a0, gi a1, gi a2, .ref a3] h (gQi Q) X := by
  refine g_startW (lv := [some (.ref a0), some (gi a1), some (gi a2), some (.ref a3), none]) hpl_RL hst (Nat.le_of_ble_eq_true rfl) (gaArgs_pad (z := 1) rfl) ww_5_148 ?_
  intro p e s m args below meth c V hT
  show gaP p l e rm_L_grown s m args below meth c G 5 (gaZ below G (gQi Q) X args s rm_L_grown) 0 [some (.ref a0), some (gi a1), some (gi a2), some (.ref a3), none] [] h 136 8922
  unfold w_L_grown at hw
  refine g_aload_n V dL_grown_0 rfl rfl ?_
  refine g_aload_n V dL_grown_1 rfl rfl ?_
  refine g_iload_n V dL_grown_2 rfl rfl ?_
  refine g_iload_n V dL_grown_3 rfl rfl ?_
  obtain ⟨hb, hw⟩ := hw
  obtain ⟨fb, hb⟩ := hb
  obtain ⟨hk, hj, c3, s4, ec, es, hw⟩ := hw
  refine g_callV (C := RX5) (T := TX5) (N := 9) (st := [.ref a3]) V (k_X5_grown hst hw) ww_5_149 ww_5_150 ww_5_151 ww_1_1 ww_5_152 hd_X5_grown ⟨by decide, by decide⟩ rfl (by decide) hb rfl rfl (ga_cat rfl) dL_grown_4 hk hj rfl ?_ (ga_ka (fun r2 hp1 hw => ?_))
  · rintro E9 h9 ⟨rfl, hw⟩
    refine gaO_re ec es ?_
    refine gaO_catch V hT [] ⟨0, 10, 13, 19⟩ [] rfl (by intro z hz; simp at hz) rfl (by decide) ww_2_208 gn_12 rfl (fun q => ?_)
    refine g_astore (lv2 := [some (.ref a0), some (gi a1), some (gi a2), some (.ref a3), some (.ref q)]) V dL_grown_13 (by decide) rfl rfl rfl ?_
    refine g_iconst V (Int32.ofInt 1) dL_grown_15 rfl rfl ?_
    exact g_iret V rfl rfl dL_grown_16 ⟨_, rfl, hw⟩
  · refine ga_re ec es ?_
    obtain ⟨fs, ha, hl, hw⟩ := hw
    refine g_putN (host := "WordgardenLaw") (C := RX6) (T := TX6) (N := 2) V 1 tyX6 tyX6_ok nmX6 rfl hin_RX6 (by decide) (by decide) gn_23 rfl rfl rfl rfl ha hl dL_grown_7 rfl ?_
    generalize gaUp hp1 a3 _ = hp5 at hw ⊢
    refine g_goto V dL_grown_10 rfl ?_
    refine g_iconst V (Int32.ofInt 0) dL_grown_17 rfl rfl ?_
    exact g_iret V rfl rfl dL_grown_18 ⟨_, rfl, hw⟩
def w_L_size (a0 : Nat) (a1 : Int) (a2 : Int) (a3 : Nat) (h : gaH) (Q : Int → gaH → Prop) : Prop := gHas h a0 5 ∧ gCall 1 6 1 6 (fun c3 s4 => w_X5_size (fun E9 h9 => (E9 = "java/lang/IndexOutOfBoundsException" ∧ Q 1 h9)) a0 a1 a2 h (fun r2 hp1 => gPF hp1 a3 6 0 (.long (gI2l r2)) (fun hp5 => Q 0 hp5)))
abbrev rm_L_size : Room := { frames := 10, cells := 1, slots := 6, locals := 243 }
theorem hd_L_size : (yL_size.cls ≠ "java/lang/invoke/MethodHandle" ∧ yL_size.cls ≠ "java/lang/invoke/VarHandle" ∧ (parseMethodDescriptor yL_size.desc).map (fun d => d.parameters.length) = some 4) := by decide +kernel
theorem k_L_size {l : Launch} (hst : l.stackTraces = false) {G : gaG} {X : String → gaH → Prop} {a0 : Nat} {a1 : Int} {a2 : Int} {a3 : Nat} {h : gaH} {Q : Int → gaH → Prop} (hw : w_L_size a0 a1 a2 a3 h Q) : gaC l G yL_size (gaMW yL_size cL_size 5 ((some .int)) [(0, 11, 14, 19)]) rm_L_size [.ref a0, gi a1, gi a2, .ref a3] h (gQi Q) X := by
  refine g_startW (lv := [some (.ref a0), some (gi a1), some (gi a2), some (.ref a3), none]) hpl_RL hst (Nat.le_of_ble_eq_true rfl) (gaArgs_pad (z := 1) rfl) ww_5_155 ?_
  intro p e s m args below meth c V hT
  show gaP p l e rm_L_size s m args below meth c G 5 (gaZ below G (gQi Q) X args s rm_L_size) 0 [some (.ref a0), some (gi a1), some (gi a2), some (.ref a3), none] [] h 1 6
  unfold w_L_size at hw
  refine g_aload_n V dL_size_0 rfl rfl ?_
  refine g_aload_n V dL_size_1 rfl rfl ?_
  refine g_iload_n V dL_size_2 rfl rfl ?_
  refine g_iload_n V dL_size_3 rfl rfl ?_
  obtain ⟨hb, hw⟩ := hw
  obtain ⟨fb, hb⟩ := hb
  obtain ⟨hk, hj, c3, s4, ec, es, hw⟩ := hw
  refine g_callV (C := RX5) (T := TX5) (N := 9) (st := [.ref a3]) V (k_X5_size hst hw) ww_5_156 ww_2_157 ww_2_158 ww_1_1 ww_2_159 hd_X5_size ⟨by decide, by decide⟩ rfl (by decide) hb rfl rfl (ga_cat rfl) dL_size_4 hk hj rfl ?_ (ga_ki (fun r2 hp1 hw => ?_))
  · rintro E9 h9 ⟨rfl, hw⟩
    refine gaO_re ec es ?_
    refine gaO_catch V hT [] ⟨0, 11, 14, 19⟩ [] rfl (by intro z hz; simp at hz) rfl (by decide) ww_2_208 gn_12 rfl (fun q => ?_)
    refine g_astore (lv2 := [some (.ref a0), some (gi a1), some (gi a2), some (.ref a3), some (.ref q)]) V dL_size_14 (by decide) rfl rfl rfl ?_
    refine g_iconst V (Int32.ofInt 1) dL_size_16 rfl rfl ?_
    exact g_iret V rfl rfl dL_size_17 ⟨_, rfl, hw⟩
  · refine ga_re ec es ?_
    refine gi_i2l V dL_size_7 rfl ?_
    obtain ⟨fs, ha, hl, hw⟩ := hw
    refine g_putN (host := "WordgardenLaw") (C := RX6) (T := TX6) (N := 2) V 0 tyX6 tyX6_ok nmX6 rfl hin_RX6 (by decide) (by decide) gn_22 rfl rfl rfl rfl ha hl dL_size_8 rfl ?_
    generalize gaUp hp1 a3 _ = hp5 at hw ⊢
    refine g_goto V dL_size_11 rfl ?_
    refine g_iconst V (Int32.ofInt 0) dL_size_18 rfl rfl ?_
    exact g_iret V rfl rfl dL_size_19 ⟨_, rfl, hw⟩
def w_L_ups (a0 : Nat) (a1 : Int) (a2 : Int) (a3 : Nat) (h : gaH) (Q : Int → gaH → Prop) : Prop := gHas h a0 5 ∧ gCall 1 6 1 6 (fun c3 s4 => w_X5_ups (fun E9 h9 => (E9 = "java/lang/IndexOutOfBoundsException" ∧ Q 1 h9)) a0 a1 a2 h (fun r2 hp1 => gPF hp1 a3 6 0 (.long (gI2l r2)) (fun hp5 => Q 0 hp5)))
abbrev rm_L_ups : Room := { frames := 10, cells := 1, slots := 6, locals := 243 }
theorem hd_L_ups : (yL_ups.cls ≠ "java/lang/invoke/MethodHandle" ∧ yL_ups.cls ≠ "java/lang/invoke/VarHandle" ∧ (parseMethodDescriptor yL_ups.desc).map (fun d => d.parameters.length) = some 4) := by decide +kernel
theorem k_L_ups {l : Launch} (hst : l.stackTraces = false) {G : gaG} {X : String → gaH → Prop} {a0 : Nat} {a1 : Int} {a2 : Int} {a3 : Nat} {h : gaH} {Q : Int → gaH → Prop} (hw : w_L_ups a0 a1 a2 a3 h Q) : gaC l G yL_ups (gaMW yL_ups cL_ups 5 ((some .int)) [(0, 11, 14, 19)]) rm_L_ups [.ref a0, gi a1, gi a2, .ref a3] h (gQi Q) X := by
  refine g_startW (lv := [some (.ref a0), some (gi a1), some (gi a2), some (.ref a3), none]) hpl_RL hst (Nat.le_of_ble_eq_true rfl) (gaArgs_pad (z := 1) rfl) ww_5_159 ?_
  intro p e s m args below meth c V hT
  show gaP p l e rm_L_ups s m args below meth c G 5 (gaZ below G (gQi Q) X args s rm_L_ups) 0 [some (.ref a0), some (gi a1), some (gi a2), some (.ref a3), none] [] h 1 6
  unfold w_L_ups at hw
  refine g_aload_n V dL_ups_0 rfl rfl ?_
  refine g_aload_n V dL_ups_1 rfl rfl ?_
  refine g_iload_n V dL_ups_2 rfl rfl ?_
  refine g_iload_n V dL_ups_3 rfl rfl ?_
  obtain ⟨hb, hw⟩ := hw
  obtain ⟨fb, hb⟩ := hb
  obtain ⟨hk, hj, c3, s4, ec, es, hw⟩ := hw
  refine g_callV (C := RX5) (T := TX5) (N := 9) (st := [.ref a3]) V (k_X5_ups hst hw) ww_5_160 ww_2_165 ww_2_166 ww_1_1 ww_2_167 hd_X5_ups ⟨by decide, by decide⟩ rfl (by decide) hb rfl rfl (ga_cat rfl) dL_ups_4 hk hj rfl ?_ (ga_ki (fun r2 hp1 hw => ?_))
  · rintro E9 h9 ⟨rfl, hw⟩
    refine gaO_re ec es ?_
    refine gaO_catch V hT [] ⟨0, 11, 14, 19⟩ [] rfl (by intro z hz; simp at hz) rfl (by decide) ww_2_208 gn_12 rfl (fun q => ?_)
    refine g_astore (lv2 := [some (.ref a0), some (gi a1), some (gi a2), some (.ref a3), some (.ref q)]) V dL_ups_14 (by decide) rfl rfl rfl ?_
    refine g_iconst V (Int32.ofInt 1) dL_ups_16 rfl rfl ?_
    exact g_iret V rfl rfl dL_ups_17 ⟨_, rfl, hw⟩
  · refine ga_re ec es ?_
    refine gi_i2l V dL_ups_7 rfl ?_
    obtain ⟨fs, ha, hl, hw⟩ := hw
    refine g_putN (host := "WordgardenLaw") (C := RX6) (T := TX6) (N := 2) V 0 tyX6 tyX6_ok nmX6 rfl hin_RX6 (by decide) (by decide) gn_22 rfl rfl rfl rfl ha hl dL_ups_8 rfl ?_
    generalize gaUp hp1 a3 _ = hp5 at hw ⊢
    refine g_goto V dL_ups_11 rfl ?_
    refine g_iconst V (Int32.ofInt 0) dL_ups_18 rfl rfl ?_
    exact g_iret V rfl rfl dL_ups_19 ⟨_, rfl, hw⟩
def w_L_cross (a0 : Nat) (a1 : Int) (a2 : Nat) (h : gaH) (Q : Int → gaH → Prop) : Prop := gHas h a0 5 ∧ gCall 1 6 1 6 (fun c3 s4 => w_X5_cross (fun E9 h9 => (E9 = "java/lang/IndexOutOfBoundsException" ∧ Q 1 h9)) a0 a1 h (fun r2 hp1 => gPF hp1 a2 6 0 (.long (gI2l r2)) (fun hp5 => Q 0 hp5)))
abbrev rm_L_cross : Room := { frames := 10, cells := 1, slots := 6, locals := 243 }
theorem hd_L_cross : (yL_cross.cls ≠ "java/lang/invoke/MethodHandle" ∧ yL_cross.cls ≠ "java/lang/invoke/VarHandle" ∧ (parseMethodDescriptor yL_cross.desc).map (fun d => d.parameters.length) = some 3) := by decide +kernel
theorem k_L_cross {l : Launch} (hst : l.stackTraces = false) {G : gaG} {X : String → gaH → Prop} {a0 : Nat} {a1 : Int} {a2 : Nat} {h : gaH} {Q : Int → gaH → Prop} (hw : w_L_cross a0 a1 a2 h Q) : gaC l G yL_cross (gaMW yL_cross cL_cross 4 ((some .int)) [(0, 10, 13, 19)]) rm_L_cross [.ref a0, gi a1, .ref a2] h (gQi Q) X := by
  refine g_startW (lv := [some (.ref a0), some (gi a1), some (.ref a2), none]) hpl_RL hst (Nat.le_of_ble_eq_true rfl) (gaArgs_pad (z := 1) rfl) ww_5_163 ?_
  intro p e s m args below meth c V hT
  show gaP p l e rm_L_cross s m args below meth c G 4 (gaZ below G (gQi Q) X args s rm_L_cross) 0 [some (.ref a0), some (gi a1), some (.ref a2), none] [] h 1 6
  unfold w_L_cross at hw
  refine g_aload_n V dL_cross_0 rfl rfl ?_
  refine g_aload_n V dL_cross_1 rfl rfl ?_
  refine g_iload_n V dL_cross_2 rfl rfl ?_
  obtain ⟨hb, hw⟩ := hw
  obtain ⟨fb, hb⟩ := hb
  obtain ⟨hk, hj, c3, s4, ec, es, hw⟩ := hw
  refine g_callV (C := RX5) (T := TX5) (N := 9) (st := [.ref a2]) V (k_X5_cross hst hw) ww_5_164 ww_2_69 ww_2_70 ww_1_1 ww_2_71 hd_X5_cross ⟨by decide, by decide⟩ rfl (by decide) hb rfl rfl (ga_cat rfl) dL_cross_3 hk hj rfl ?_ (ga_ki (fun r2 hp1 hw => ?_))
  · rintro E9 h9 ⟨rfl, hw⟩
    refine gaO_re ec es ?_
    refine gaO_catch V hT [] ⟨0, 10, 13, 19⟩ [] rfl (by intro z hz; simp at hz) rfl (by decide) ww_2_208 gn_12 rfl (fun q => ?_)
    refine g_astore_n (lv2 := [some (.ref a0), some (gi a1), some (.ref a2), some (.ref q)]) V dL_cross_13 (by decide) rfl rfl rfl ?_
    refine g_iconst V (Int32.ofInt 1) dL_cross_14 rfl rfl ?_
    exact g_iret V rfl rfl dL_cross_15 ⟨_, rfl, hw⟩
  · refine ga_re ec es ?_
    refine gi_i2l V dL_cross_6 rfl ?_
    obtain ⟨fs, ha, hl, hw⟩ := hw
    refine g_putN (host := "WordgardenLaw") (C := RX6) (T := TX6) (N := 2) V 0 tyX6 tyX6_ok nmX6 rfl hin_RX6 (by decide) (by decide) gn_22 rfl rfl rfl rfl ha hl dL_cross_7 rfl ?_
    generalize gaUp hp1 a2 _ = hp5 at hw ⊢
    refine g_goto V dL_cross_10 rfl ?_
    refine g_iconst V (Int32.ofInt 0) dL_cross_16 rfl rfl ?_
    exact g_iret V rfl rfl dL_cross_17 ⟨_, rfl, hw⟩
def w_L_alike (a0 : Nat) (a1 : Int) (a2 : Nat) (h : gaH) (Q : Int → gaH → Prop) : Prop := gHas h a0 5 ∧ gCall 1 6 1 6 (fun c3 s4 => w_X5_alike (fun E9 h9 => (E9 = "java/lang/IndexOutOfBoundsException" ∧ Q 1 h9)) a0 a1 h (fun r2 hp1 => gPF hp1 a2 6 0 (.long (gI2l r2)) (fun hp5 => Q 0 hp5)))
abbrev rm_L_alike : Room := { frames := 10, cells := 1, slots := 6, locals := 243 }
theorem hd_L_alike : (yL_alike.cls ≠ "java/lang/invoke/MethodHandle" ∧ yL_alike.cls ≠ "java/lang/invoke/VarHandle" ∧ (parseMethodDescriptor yL_alike.desc).map (fun d => d.parameters.length) = some 3) := by decide +kernel
theorem k_L_alike {l : Launch} (hst : l.stackTraces = false) {G : gaG} {X : String → gaH → Prop} {a0 : Nat} {a1 : Int} {a2 : Nat} {h : gaH} {Q : Int → gaH → Prop} (hw : w_L_alike a0 a1 a2 h Q) : gaC l G yL_alike (gaMW yL_alike cL_alike 4 ((some .int)) [(0, 10, 13, 19)]) rm_L_alike [.ref a0, gi a1, .ref a2] h (gQi Q) X := by
  refine g_startW (lv := [some (.ref a0), some (gi a1), some (.ref a2), none]) hpl_RL hst (Nat.le_of_ble_eq_true rfl) (gaArgs_pad (z := 1) rfl) ww_5_167 ?_
  intro p e s m args below meth c V hT
  show gaP p l e rm_L_alike s m args below meth c G 4 (gaZ below G (gQi Q) X args s rm_L_alike) 0 [some (.ref a0), some (gi a1), some (.ref a2), none] [] h 1 6
  unfold w_L_alike at hw
  refine g_aload_n V dL_alike_0 rfl rfl ?_
  refine g_aload_n V dL_alike_1 rfl rfl ?_
  refine g_iload_n V dL_alike_2 rfl rfl ?_
  obtain ⟨hb, hw⟩ := hw
  obtain ⟨fb, hb⟩ := hb
  obtain ⟨hk, hj, c3, s4, ec, es, hw⟩ := hw
  refine g_callV (C := RX5) (T := TX5) (N := 9) (st := [.ref a2]) V (k_X5_alike hst hw) ww_5_168 ww_2_73 ww_2_74 ww_1_1 ww_2_75 hd_X5_alike ⟨by decide, by decide⟩ rfl (by decide) hb rfl rfl (ga_cat rfl) dL_alike_3 hk hj rfl ?_ (ga_ki (fun r2 hp1 hw => ?_))
  · rintro E9 h9 ⟨rfl, hw⟩
    refine gaO_re ec es ?_
    refine gaO_catch V hT [] ⟨0, 10, 13, 19⟩ [] rfl (by intro z hz; simp at hz) rfl (by decide) ww_2_208 gn_12 rfl (fun q => ?_)
    refine g_astore_n (lv2 := [some (.ref a0), some (gi a1), some (.ref a2), some (.ref q)]) V dL_alike_13 (by decide) rfl rfl rfl ?_
    refine g_iconst V (Int32.ofInt 1) dL_alike_14 rfl rfl ?_
    exact g_iret V rfl rfl dL_alike_15 ⟨_, rfl, hw⟩
  · refine ga_re ec es ?_
    refine gi_i2l V dL_alike_6 rfl ?_
    obtain ⟨fs, ha, hl, hw⟩ := hw
    refine g_putN (host := "WordgardenLaw") (C := RX6) (T := TX6) (N := 2) V 0 tyX6 tyX6_ok nmX6 rfl hin_RX6 (by decide) (by decide) gn_22 rfl rfl rfl rfl ha hl dL_alike_7 rfl ?_
    generalize gaUp hp1 a2 _ = hp5 at hw ⊢
    refine g_goto V dL_alike_10 rfl ?_
    refine g_iconst V (Int32.ofInt 0) dL_alike_16 rfl rfl ?_
    exact g_iret V rfl rfl dL_alike_17 ⟨_, rfl, hw⟩
def w_L_house (a0 : Nat) (a1 : Int) (a2 : Nat) (h : gaH) (Q : Int → gaH → Prop) : Prop := gHas h a0 5 ∧ gCall 1 6 1 6 (fun c3 s4 => w_X5_house (fun E9 h9 => (E9 = "java/lang/IllegalArgumentException" ∧ Q 1 h9)) a0 a1 h (fun r2 hp1 => gPF hp1 a2 6 0 (.long (gI2l r2)) (fun hp5 => Q 0 hp5)))
abbrev rm_L_house : Room := { frames := 10, cells := 1, slots := 6, locals := 241 }
theorem hd_L_house : (yL_house.cls ≠ "java/lang/invoke/MethodHandle" ∧ yL_house.cls ≠ "java/lang/invoke/VarHandle" ∧ (parseMethodDescriptor yL_house.desc).map (fun d => d.parameters.length) = some 3) := by decide +kernel
theorem k_L_house {l : Launch} (hst : l.stackTraces = false) {G : gaG} {X : String → gaH → Prop} {a0 : Nat} {a1 : Int} {a2 : Nat} {h : gaH} {Q : Int → gaH → Prop} (hw : w_L_house a0 a1 a2 h Q) : gaC l G yL_house (gaMW yL_house cL_house 4 ((some .int)) [(0, 10, 13, 21)]) rm_L_house [.ref a0, gi a1, .ref a2] h (gQi Q) X := by
  refine g_startW (lv := [some (.ref a0), some (gi a1), some (.ref a2), none]) hpl_RL hst (Nat.le_of_ble_eq_true rfl) (gaArgs_pad (z := 1) rfl) ww_5_171 ?_
  intro p e s m args below meth c V hT
  show gaP p l e rm_L_house s m args below meth c G 4 (gaZ below G (gQi Q) X args s rm_L_house) 0 [some (.ref a0), some (gi a1), some (.ref a2), none] [] h 1 6
  unfold w_L_house at hw
  refine g_aload_n V dL_house_0 rfl rfl ?_
  refine g_aload_n V dL_house_1 rfl rfl ?_
  refine g_iload_n V dL_house_2 rfl rfl ?_
  obtain ⟨hb, hw⟩ := hw
  obtain ⟨fb, hb⟩ := hb
  obtain ⟨hk, hj, c3, s4, ec, es, hw⟩ := hw
  refine g_callV (C := RX5) (T := TX5) (N := 9) (st := [.ref a2]) V (k_X5_house hst hw) ww_5_172 ww_2_169 ww_2_170 ww_1_1 ww_2_171 hd_X5_house ⟨by decide, by decide⟩ rfl (by decide) hb rfl rfl (ga_cat rfl) dL_house_3 hk hj rfl ?_ (ga_ki (fun r2 hp1 hw => ?_))
  · rintro E9 h9 ⟨rfl, hw⟩
    refine gaO_re ec es ?_
    refine gaO_catch V hT [] ⟨0, 10, 13, 21⟩ [] rfl (by intro z hz; simp at hz) rfl (by decide) ww_2_209 gn_20 rfl (fun q => ?_)
    refine g_astore_n (lv2 := [some (.ref a0), some (gi a1), some (.ref a2), some (.ref q)]) V dL_house_13 (by decide) rfl rfl rfl ?_
    refine g_iconst V (Int32.ofInt 1) dL_house_14 rfl rfl ?_
    exact g_iret V rfl rfl dL_house_15 ⟨_, rfl, hw⟩
  · refine ga_re ec es ?_
    refine gi_i2l V dL_house_6 rfl ?_
    obtain ⟨fs, ha, hl, hw⟩ := hw
    refine g_putN (host := "WordgardenLaw") (C := RX6) (T := TX6) (N := 2) V 0 tyX6 tyX6_ok nmX6 rfl hin_RX6 (by decide) (by decide) gn_22 rfl rfl rfl rfl ha hl dL_house_7 rfl ?_
    generalize gaUp hp1 a2 _ = hp5 at hw ⊢
    refine g_goto V dL_house_10 rfl ?_
    refine g_iconst V (Int32.ofInt 0) dL_house_16 rfl rfl ?_
    exact g_iret V rfl rfl dL_house_17 ⟨_, rfl, hw⟩
