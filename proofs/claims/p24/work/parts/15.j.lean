def w_J5_init_d00df (G : gaG) (a0 : Nat) (a1 : Int) (h : gaH) (Q : gaH → Prop) : Prop := gNA h 101 (gi 0) a1 1 64 (fun o1 hp2 c3 s4 => gPF hp2 a0 1 0 (.ref o1) (fun hp5 => gPF hp5 a0 1 1 (gi 0) (fun hp6 => Q hp6)))
abbrev rm_J5_init_d00df : Room := { frames := 2, cells := 1, slots := 64, locals := 60 }
theorem hd_J5_init_d00df : (yJ5_init_d00df.cls ≠ "java/lang/invoke/MethodHandle" ∧ yJ5_init_d00df.cls ≠ "java/lang/invoke/VarHandle" ∧ (parseMethodDescriptor yJ5_init_d00df.desc).map (fun d => d.parameters.length) = some 1) := by decide +kernel
theorem hdo_J5_init_d00df : "java/lang/AbstractStringBuilder" ≠ "java/lang/invoke/MethodHandle" ∧ "java/lang/AbstractStringBuilder" ≠ "java/lang/invoke/VarHandle" ∧ (parseMethodDescriptor yJ5_init_d00df.desc).map (fun d => d.parameters.length) = some 1 := by decide +kernel
theorem k_J5_init_d00df {l : Launch} (hst : l.stackTraces = false) {G : gaG} {X : String → gaH → Prop} {a0 : Nat} {a1 : Int} {h : gaH} {Q : gaH → Prop} (hw : w_J5_init_d00df G a0 a1 h Q) : gaC l G yJ5_init_d00df (gaM yJ5_init_d00df cJ5_init_d00df 2 ((none : Option Jvm.ClassFile.FieldType))) rm_J5_init_d00df [.ref a0, gi a1] h (gQv Q) X := by
  refine g_start (lv := [some (.ref a0), some (gi a1)]) hpl_RJ5 hst (Nat.le_of_ble_eq_true rfl) (gaArgs_pad (z := 0) rfl) ww_4_32 ?_
  intro p e s m args below meth c V hT
  show gaP p l e rm_J5_init_d00df s m args below meth c G 2 (gaZ below G (gQv Q) X args s rm_J5_init_d00df) 0 [some (.ref a0), some (gi a1)] [] h 1 64
  unfold w_J5_init_d00df at hw
  refine g_aload_n V dJ5_init_d00df_0 rfl rfl ?_
  refine g_objInit V ww_4_33 ww_1_32 ww_1_33 dJ5_init_d00df_1 (by decide) (by decide) (ga_cat rfl) rfl ?_
  refine g_gets V V.z1 ww_4_34 dJ5_init_d00df_4 rfl ?_
  refine gi_if_eq V dJ5_init_d00df_7 rfl rfl (by decide) (fun q => ?_) (fun q => ?_)
  · exact absurd q (by decide)
  · refine g_aload_n V dJ5_init_d00df_10 rfl rfl ?_
    refine g_iload_n V dJ5_init_d00df_11 rfl rfl ?_
    obtain ⟨h0, h9, hk, hj, hw⟩ := hw
    refine gi_newarray (atype := .byte) (t := 101) V (by decide) rfl ww_1_221 h0 h9 dJ5_init_d00df_12 rfl hk hj (fun o1 hf => ?_)
    obtain ⟨c3, s4, ec, es, hw⟩ := hw o1 hf
    refine ga_re ec es ?_
    generalize gaUp h o1 _ = hp2 at hw ⊢
    obtain ⟨fs, ha, hl, hw⟩ := hw
    refine g_put (C := RJ4) (T := TJ4) (N := 4) V 0 tyJ4 tyJ4_ok nmJ4 rfl hin_RJ4 (by decide) (by decide) ww_4_43 rfl rfl rfl rfl ha hl dJ5_init_d00df_14 rfl ?_
    generalize gaUp hp2 a0 _ = hp5 at hw ⊢
    refine g_aload_n V dJ5_init_d00df_17 rfl rfl ?_
    refine g_iconst V (Int32.ofInt 0) dJ5_init_d00df_18 rfl rfl ?_
    obtain ⟨fs, ha, hl, hw⟩ := hw
    refine g_put (C := RJ4) (T := TJ4) (N := 4) V 1 tyJ4 tyJ4_ok nmJ4 rfl hin_RJ4 (by decide) (by decide) ww_4_44 rfl rfl (by decide) rfl ha hl dJ5_init_d00df_19 rfl ?_
    generalize gaUp hp5 a0 _ = hp6 at hw ⊢
    refine g_goto V dJ5_init_d00df_22 rfl ?_
    exact g_vret V rfl dJ5_init_d00df_38 ⟨rfl, hw⟩
def w_J4_init_da8c8 (G : gaG) (a0 : Nat) (h : gaH) (Q : gaH → Prop) : Prop := gCall 1 64 1 64 (fun c3 s4 => w_J5_init_d00df G a0 16 h (fun hp1 => Q hp1))
abbrev rm_J4_init_da8c8 : Room := { frames := 3, cells := 1, slots := 64, locals := 81 }
theorem hd_J4_init_da8c8 : (yJ4_init_da8c8.cls ≠ "java/lang/invoke/MethodHandle" ∧ yJ4_init_da8c8.cls ≠ "java/lang/invoke/VarHandle" ∧ (parseMethodDescriptor yJ4_init_da8c8.desc).map (fun d => d.parameters.length) = some 0) := by decide +kernel
theorem k_J4_init_da8c8 {l : Launch} (hst : l.stackTraces = false) {G : gaG} {X : String → gaH → Prop} {a0 : Nat} {h : gaH} {Q : gaH → Prop} (hw : w_J4_init_da8c8 G a0 h Q) : gaC l G yJ4_init_da8c8 (gaM yJ4_init_da8c8 cJ4_init_da8c8 1 ((none : Option Jvm.ClassFile.FieldType))) rm_J4_init_da8c8 [.ref a0] h (gQv Q) X := by
  refine g_start (lv := [some (.ref a0)]) hpl_RJ4 hst (Nat.le_of_ble_eq_true rfl) (gaArgs_pad (z := 0) rfl) ww_4_29 ?_
  intro p e s m args below meth c V hT
  show gaP p l e rm_J4_init_da8c8 s m args below meth c G 1 (gaZ below G (gQv Q) X args s rm_J4_init_da8c8) 0 [some (.ref a0)] [] h 1 64
  unfold w_J4_init_da8c8 at hw
  refine g_aload_n V dJ4_init_da8c8_0 rfl rfl ?_
  refine g_bipush V (Int32.ofInt 16) dJ4_init_da8c8_1 rfl rfl ?_
  obtain ⟨hk, hj, c3, s4, ec, es, hw⟩ := hw
  refine g_callI (st := []) V (k_J5_init_d00df hst hw) ww_4_30 ww_4_31 ww_1_17 ww_4_32 rfl hd_J5_init_d00df ⟨by decide, by decide⟩ rfl rfl (ga_cat rfl) dJ4_init_da8c8_3 hk hj rfl (gaX_all hT V) (ga_kv (fun hp1 hw => ?_))
  refine ga_re ec es ?_
  exact g_vret V rfl dJ4_init_da8c8_6 ⟨rfl, hw⟩
def w_J8_newLength_cabcc_J21 (Q : Int → gaH → Prop) (v0 : Int) (v1 : Int) (h : gaH) : Prop := False
def w_J8_newLength_cabcc (a0 : Int) (a1 : Int) (a2 : Int) (h : gaH) (Q : Int → gaH → Prop) : Prop := gR a1 ∧ gR a2 ∧ (gR (a0 + (max a1 a2)) ∧ (if (a0 + (max a1 a2)) ≤ 0 then w_J8_newLength_cabcc_J21 Q a0 a1 h else gR (a0 + (max a1 a2)) ∧ (if 2147483639 < (a0 + (max a1 a2)) then w_J8_newLength_cabcc_J21 Q a0 a1 h else Q (a0 + (max a1 a2)) h)))
abbrev rm_J8_newLength_cabcc : Room := { frames := 2, cells := 0, slots := 0, locals := 60 }
theorem hd_J8_newLength_cabcc : (yJ8_newLength_cabcc.cls ≠ "java/lang/invoke/MethodHandle" ∧ yJ8_newLength_cabcc.cls ≠ "java/lang/invoke/VarHandle" ∧ (parseMethodDescriptor yJ8_newLength_cabcc.desc).map (fun d => d.parameters.length) = some 3) := by decide +kernel
theorem k_J8_newLength_cabcc {l : Launch} (hst : l.stackTraces = false) {G : gaG} {X : String → gaH → Prop} {a0 : Int} {a1 : Int} {a2 : Int} {h : gaH} {Q : Int → gaH → Prop} (hw : w_J8_newLength_cabcc a0 a1 a2 h Q) : gaC l G yJ8_newLength_cabcc (gaM yJ8_newLength_cabcc cJ8_newLength_cabcc 4 ((some .int))) rm_J8_newLength_cabcc [gi a0, gi a1, gi a2] h (gQi Q) X := by
  refine g_start (lv := [some (gi a0), some (gi a1), some (gi a2), none]) hpl_RJ8 hst (Nat.le_of_ble_eq_true rfl) (gaArgs_pad (z := 1) rfl) ww_4_73 ?_
  intro p e s m args below meth c V hT
  have h_J8_newLength_cabcc_J21 : ∀ (v0 : Int) (v1 : Int) (h : gaH), w_J8_newLength_cabcc_J21 Q v0 v1 h → gaP p l e rm_J8_newLength_cabcc s m args below meth c G 4 (gaZ below G (gQi Q) X args s rm_J8_newLength_cabcc) 21 [some (gi v0), some (gi v1), none, none] [] h 0 0 := by
    intro v0 v1 h hw
    unfold w_J8_newLength_cabcc_J21 at hw
    refine g_iload_n V dJ8_newLength_cabcc_21 rfl rfl ?_
    refine g_iload_n V dJ8_newLength_cabcc_22 rfl rfl ?_
    exact hw.elim
  unfold w_J8_newLength_cabcc at hw
  refine g_iload_n V dJ8_newLength_cabcc_0 rfl rfl ?_
  refine g_iload_n V dJ8_newLength_cabcc_1 rfl rfl ?_
  refine g_iload_n V dJ8_newLength_cabcc_2 rfl rfl ?_
  obtain ⟨hx0, hx1, hw⟩ := hw
  refine gi_mmax V ww_4_74 ww_2_118 ww_1_13 ww_2_119 (by decide) (by decide) (ga_cat rfl) hx0 hx1 dJ8_newLength_cabcc_3 rfl ?_
  refine gi_iadd V dJ8_newLength_cabcc_6 rfl ?_
  refine g_istore_n (lv2 := [some (gi a0), some (gi a1), some (gi a2), some (gi (a0 + (max a1 a2)))]) V dJ8_newLength_cabcc_7 (by decide) rfl rfl rfl ?_
  refine g_iconst V (Int32.ofInt 0) dJ8_newLength_cabcc_8 rfl rfl ?_
  refine g_iload_n V dJ8_newLength_cabcc_9 rfl rfl ?_
  obtain ⟨hx1, hw⟩ := hw
  refine gi_icmp_ge V dJ8_newLength_cabcc_10 rfl rfl (by decide) hx1 (fun q => ?_) (fun q => ?_)
  · have hw := ga_t q hw
    refine g_less (bs := [true, true, false, false]) (lv2 := [some (gi a0), some (gi a1), none, none]) rfl ?_
    exact h_J8_newLength_cabcc_J21 a0 a1 h hw
  · have hw := ga_f q hw
    refine g_iload_n V dJ8_newLength_cabcc_13 rfl rfl ?_
    refine g_ldc V (Int32.ofInt 2147483639) dJ8_newLength_cabcc_14 ww_4_75 rfl ?_
    obtain ⟨hx0, hw⟩ := hw
    refine gi_icmp_gt V dJ8_newLength_cabcc_16 rfl rfl hx0 (by decide) (fun q => ?_) (fun q => ?_)
    · have hw := ga_t q hw
      refine g_less (bs := [true, true, false, false]) (lv2 := [some (gi a0), some (gi a1), none, none]) rfl ?_
      exact h_J8_newLength_cabcc_J21 a0 a1 h hw
    · have hw := ga_f q hw
      refine g_iload_n V dJ8_newLength_cabcc_19 rfl rfl ?_
      exact g_iret V rfl rfl dJ8_newLength_cabcc_20 ⟨_, rfl, hw⟩
def w_J5_newCapacity_0f7a4 (a0 : Nat) (a1 : Int) (h : gaH) (Q : Int → gaH → Prop) : Prop := gA h a0 1 0 (fun r1 => gAL h r1 101 (fun r2 => gI h a0 1 1 (fun r3 => gI h a0 1 1 (fun r4 => w_J8_newLength_cabcc r2 ((gShl a1 r3) - r2) (r2 + (gShl 2 r4)) h (fun r6 hp5 => gR r6 ∧ (if r6 = 2147483647 then False else gI hp5 a0 1 1 (fun r7 => Q (gShr r6 r7) hp5)))))))
abbrev rm_J5_newCapacity_0f7a4 : Room := { frames := 3, cells := 0, slots := 0, locals := 83 }
theorem hd_J5_newCapacity_0f7a4 : yJ5_newCapacity_0f7a4.cls = RJ5 ∧ (yJ5_newCapacity_0f7a4.cls ≠ "java/lang/invoke/MethodHandle" ∧ yJ5_newCapacity_0f7a4.cls ≠ "java/lang/invoke/VarHandle" ∧ (parseMethodDescriptor yJ5_newCapacity_0f7a4.desc).map (fun d => d.parameters.length) = some 1) := by decide +kernel
theorem hdo_J5_newCapacity_0f7a4 : "java/lang/AbstractStringBuilder" ≠ "java/lang/invoke/MethodHandle" ∧ "java/lang/AbstractStringBuilder" ≠ "java/lang/invoke/VarHandle" ∧ (parseMethodDescriptor yJ5_newCapacity_0f7a4.desc).map (fun d => d.parameters.length) = some 1 := by decide +kernel
theorem k_J5_newCapacity_0f7a4 {l : Launch} (hst : l.stackTraces = false) {G : gaG} {X : String → gaH → Prop} {a0 : Nat} {a1 : Int} {h : gaH} {Q : Int → gaH → Prop} (hw : w_J5_newCapacity_0f7a4 a0 a1 h Q) : gaC l G yJ5_newCapacity_0f7a4 (gaM yJ5_newCapacity_0f7a4 cJ5_newCapacity_0f7a4 6 ((some .int))) rm_J5_newCapacity_0f7a4 [.ref a0, gi a1] h (gQi Q) X := by
  refine g_start (lv := [some (.ref a0), some (gi a1), none, none, none, none]) hpl_RJ5 hst (Nat.le_of_ble_eq_true rfl) (gaArgs_pad (z := 4) rfl) ww_4_70 ?_
  intro p e s m args below meth c V hT
  unfold w_J5_newCapacity_0f7a4 at hw
  refine g_aload_n V dJ5_newCapacity_0f7a4_0 rfl rfl ?_
  obtain ⟨fs, r1, ha, hv, hw⟩ := hw
  refine g_get (C := RJ4) (T := TJ4) (N := 4) V 0 rfl hin_RJ4 (by decide) (by decide) ww_4_43 rfl ha hv dJ5_newCapacity_0f7a4_1 rfl ?_
  obtain ⟨t9, vs, ha, ht, hw⟩ := hw
  refine gi_arraylength (t0 := 101) V (by simp [gaT]) ha ht dJ5_newCapacity_0f7a4_4 rfl ?_
  generalize (vs.length : Int) = r2 at hw ⊢
  refine g_istore_n (lv2 := [some (.ref a0), some (gi a1), some (gi r2), none, none, none]) V dJ5_newCapacity_0f7a4_5 (by decide) rfl rfl rfl ?_
  refine g_iload_n V dJ5_newCapacity_0f7a4_6 rfl rfl ?_
  refine g_aload_n V dJ5_newCapacity_0f7a4_7 rfl rfl ?_
  obtain ⟨fs, r3, ha, hv, hw⟩ := hw
  refine g_get (C := RJ4) (T := TJ4) (N := 4) V 1 rfl hin_RJ4 (by decide) (by decide) ww_4_44 rfl ha hv dJ5_newCapacity_0f7a4_8 rfl ?_
  refine gi_ishl V dJ5_newCapacity_0f7a4_11 rfl ?_
  refine g_istore_n (lv2 := [some (.ref a0), some (gi a1), some (gi r2), some (gi (gShl a1 r3)), none, none]) V dJ5_newCapacity_0f7a4_12 (by decide) rfl rfl rfl ?_
  refine g_iload_n V dJ5_newCapacity_0f7a4_13 rfl rfl ?_
  refine g_iload_n V dJ5_newCapacity_0f7a4_14 rfl rfl ?_
  refine gi_isub V dJ5_newCapacity_0f7a4_15 rfl ?_
  refine g_istore (lv2 := [some (.ref a0), some (gi a1), some (gi r2), some (gi (gShl a1 r3)), some (gi ((gShl a1 r3) - r2)), none]) V dJ5_newCapacity_0f7a4_16 (by decide) rfl rfl rfl ?_
  refine g_iload_n V dJ5_newCapacity_0f7a4_18 rfl rfl ?_
  refine g_iload V dJ5_newCapacity_0f7a4_19 rfl rfl ?_
  refine g_iload_n V dJ5_newCapacity_0f7a4_21 rfl rfl ?_
  refine g_iconst V (Int32.ofInt 2) dJ5_newCapacity_0f7a4_22 rfl rfl ?_
  refine g_aload_n V dJ5_newCapacity_0f7a4_23 rfl rfl ?_
  obtain ⟨fs, r4, ha, hv, hw⟩ := hw
  refine g_get (C := RJ4) (T := TJ4) (N := 4) V 1 rfl hin_RJ4 (by decide) (by decide) ww_4_44 rfl ha hv dJ5_newCapacity_0f7a4_24 rfl ?_
  refine gi_ishl V dJ5_newCapacity_0f7a4_27 rfl ?_
  refine gi_iadd V dJ5_newCapacity_0f7a4_28 rfl ?_
  refine g_callS (st := []) V (k_J8_newLength_cabcc hst hw) ww_4_71 ww_4_72 ww_1_21 ww_4_73 hd_J8_newLength_cabcc ⟨by decide, by decide⟩ rfl rfl (ga_cat rfl) dJ5_newCapacity_0f7a4_29 (Nat.zero_le _) (Nat.zero_le _) rfl (gaX_all hT V) (ga_ki (fun r6 hp5 hw => ?_))
  refine g_istore (lv2 := [some (.ref a0), some (gi a1), some (gi r2), some (gi (gShl a1 r3)), some (gi ((gShl a1 r3) - r2)), some (gi r6)]) V dJ5_newCapacity_0f7a4_32 (by decide) rfl rfl rfl ?_
  refine g_iload V dJ5_newCapacity_0f7a4_34 rfl rfl ?_
  refine g_ldc V (Int32.ofInt 2147483647) dJ5_newCapacity_0f7a4_36 ww_4_79 rfl ?_
  obtain ⟨hx0, hw⟩ := hw
  refine gi_icmp_ne V dJ5_newCapacity_0f7a4_38 rfl rfl hx0 (by decide) (fun q => ?_) (fun q => ?_)
  · have hw := ga_f q hw
    refine g_iload V dJ5_newCapacity_0f7a4_51 rfl rfl ?_
    refine g_aload_n V dJ5_newCapacity_0f7a4_53 rfl rfl ?_
    obtain ⟨fs, r7, ha, hv, hw⟩ := hw
    refine g_get (C := RJ4) (T := TJ4) (N := 4) V 1 rfl hin_RJ4 (by decide) (by decide) ww_4_44 rfl ha hv dJ5_newCapacity_0f7a4_54 rfl ?_
    refine gi_ishr V dJ5_newCapacity_0f7a4_57 rfl ?_
    exact g_iret V rfl rfl dJ5_newCapacity_0f7a4_58 ⟨_, rfl, hw⟩
  · have hw := ga_t q hw
    exact hw.elim
def w_J7_copyOf_9075b (a0 : Nat) (a1 : Int) (h : gaH) (Q : Nat → gaH → Prop) : Prop := gAL h a0 101 (fun r1 => gR a1 ∧ gR r1 ∧ (if a1 = r1 then gCL h a0 101 2 134 (fun o8 hp9 c10 s11 => gHas hp9 o8 101 ∧ (Q o8 hp9)) else gNA h 101 (gi 0) a1 2 134 (fun o2 hp3 c4 s5 => gAL hp3 a0 101 (fun r6 => gR r6 ∧ gR a1 ∧ (¬ a0 = o2 ∧ gCP hp3 a0 o2 101 0 0 (min r6 a1) (fun hp7 => Q o2 hp7))))))
abbrev rm_J7_copyOf_9075b : Room := { frames := 2, cells := 2, slots := 134, locals := 60 }
theorem hd_J7_copyOf_9075b : (yJ7_copyOf_9075b.cls ≠ "java/lang/invoke/MethodHandle" ∧ yJ7_copyOf_9075b.cls ≠ "java/lang/invoke/VarHandle" ∧ (parseMethodDescriptor yJ7_copyOf_9075b.desc).map (fun d => d.parameters.length) = some 2) := by decide +kernel
theorem k_J7_copyOf_9075b {l : Launch} (hst : l.stackTraces = false) {G : gaG} {X : String → gaH → Prop} {a0 : Nat} {a1 : Int} {h : gaH} {Q : Nat → gaH → Prop} (hw : w_J7_copyOf_9075b a0 a1 h Q) : gaC l G yJ7_copyOf_9075b (gaM yJ7_copyOf_9075b cJ7_copyOf_9075b 3 ((some (.array .byte)))) rm_J7_copyOf_9075b [.ref a0, gi a1] h (gQa Q) X := by
  refine g_start (lv := [some (.ref a0), some (gi a1), none]) hpl_RJ7 hst (Nat.le_of_ble_eq_true rfl) (gaArgs_pad (z := 1) rfl) ww_4_82 ?_
  intro p e s m args below meth c V hT
  show gaP p l e rm_J7_copyOf_9075b s m args below meth c G 3 (gaZ below G (gQa Q) X args s rm_J7_copyOf_9075b) 0 [some (.ref a0), some (gi a1), none] [] h 2 134
  unfold w_J7_copyOf_9075b at hw
  refine g_iload_n V dJ7_copyOf_9075b_0 rfl rfl ?_
  refine g_aload_n V dJ7_copyOf_9075b_1 rfl rfl ?_
  obtain ⟨t9, vs, ha, ht, hw⟩ := hw
  refine gi_arraylength (t0 := 101) V (by simp [gaT]) ha ht dJ7_copyOf_9075b_2 rfl ?_
  generalize (vs.length : Int) = r1 at hw ⊢
  obtain ⟨hx0, hx1, hw⟩ := hw
  refine gi_icmp_ne V dJ7_copyOf_9075b_3 rfl rfl hx0 hx1 (fun q => ?_) (fun q => ?_)
  · have hw := ga_f q hw
    refine g_iload_n V dJ7_copyOf_9075b_14 rfl rfl ?_
    obtain ⟨h0, h9, hk, hj, hw⟩ := hw
    refine gi_newarray (atype := .byte) (t := 101) V (by decide) rfl ww_1_221 h0 h9 dJ7_copyOf_9075b_15 rfl hk hj (fun o2 hf => ?_)
    obtain ⟨c4, s5, ec, es, hw⟩ := hw o2 hf
    refine ga_re ec es ?_
    generalize gaUp h o2 _ = hp3 at hw ⊢
    refine g_astore_n (lv2 := [some (.ref a0), some (gi a1), some (.ref o2)]) V dJ7_copyOf_9075b_17 (by decide) rfl rfl rfl ?_
    refine g_aload_n V dJ7_copyOf_9075b_18 rfl rfl ?_
    refine g_iconst V (Int32.ofInt 0) dJ7_copyOf_9075b_19 rfl rfl ?_
    refine g_aload_n V dJ7_copyOf_9075b_20 rfl rfl ?_
    refine g_iconst V (Int32.ofInt 0) dJ7_copyOf_9075b_21 rfl rfl ?_
    refine g_aload_n V dJ7_copyOf_9075b_22 rfl rfl ?_
    obtain ⟨t9, vs, ha, ht, hw⟩ := hw
    refine gi_arraylength (t0 := 101) V (by simp [gaT]) ha ht dJ7_copyOf_9075b_23 rfl ?_
    generalize (vs.length : Int) = r6 at hw ⊢
    refine g_iload_n V dJ7_copyOf_9075b_24 rfl rfl ?_
    obtain ⟨hx0, hx1, hw⟩ := hw
    refine gi_mmin V ww_4_90 ww_2_4 ww_1_13 ww_2_5 (by decide) (by decide) (ga_cat rfl) hx0 hx1 dJ7_copyOf_9075b_25 rfl ?_
    obtain ⟨hne, vs, ws, ha0, ha1, z1, z2, z3, z4, z5, z6, z7, hfit, hw⟩ := hw
    refine g_acopy V ww_4_91 ww_4_93 ww_4_92 ww_1_23 (by decide) (by decide) (ga_cat rfl) hne ha0 ha1 z1 z2 z3 z4 z5 z6 z7 hfit dJ7_copyOf_9075b_28 rfl (fun us u1 u2 => ?_)
    have hw := hw us u1 u2
    generalize gaUp hp3 o2 _ = hp7 at hw ⊢
    refine g_aload_n V dJ7_copyOf_9075b_31 rfl rfl ?_
    exact g_aret V rfl (by first | exact Or.inl ⟨_, rfl⟩ | exact Or.inr ⟨_, rfl⟩) dJ7_copyOf_9075b_32 ⟨_, rfl, hw⟩
  · have hw := ga_t q hw
    refine g_aload_n V dJ7_copyOf_9075b_6 rfl rfl ?_
    obtain ⟨vs, ha, hfit, hk, hj, hw⟩ := hw
    refine g_clone V ww_4_83 ww_4_84 ww_4_85 ww_4_86 ww_4_87 gn_25 (by decide) (by decide) (ga_cat rfl) ha hfit dJ7_copyOf_9075b_7 rfl hk hj (fun o8 hf => ?_)
    obtain ⟨c10, s11, ec, es, hw⟩ := hw o8 hf
    refine ga_re ec es ?_
    generalize gaUp h o8 _ = hp9 at hw ⊢
    obtain ⟨hb, hw⟩ := hw
    obtain ⟨fb, hb⟩ := hb
    refine g_castB V ww_4_89 hb dJ7_copyOf_9075b_10 rfl ?_
    exact g_aret V rfl (by first | exact Or.inl ⟨_, rfl⟩ | exact Or.inr ⟨_, rfl⟩) dJ7_copyOf_9075b_13 ⟨_, rfl, hw⟩
def w_J5_ensureCapacityInternal_d00df (a0 : Nat) (a1 : Int) (h : gaH) (Q : gaH → Prop) : Prop := gA h a0 1 0 (fun r1 => gAL h r1 101 (fun r2 => gI h a0 1 1 (fun r3 => gR (a1 - (gShr r2 r3)) ∧ (if (a1 - (gShr r2 r3)) ≤ 0 then Q h else gA h a0 1 0 (fun r4 => gHas h a0 1 ∧ w_J5_newCapacity_0f7a4 a0 a1 h (fun r6 hp5 => gI hp5 a0 1 1 (fun r7 => gCall 2 134 2 134 (fun c10 s11 => w_J7_copyOf_9075b r4 (gShl r6 r7) hp5 (fun r9 hp8 => gPF hp8 a0 1 0 (.ref r9) (fun hp12 => Q hp12))))))))))
abbrev rm_J5_ensureCapacityInternal_d00df : Room := { frames := 4, cells := 2, slots := 134, locals := 108 }
theorem hd_J5_ensureCapacityInternal_d00df : yJ5_ensureCapacityInternal_d00df.cls = RJ5 ∧ (yJ5_ensureCapacityInternal_d00df.cls ≠ "java/lang/invoke/MethodHandle" ∧ yJ5_ensureCapacityInternal_d00df.cls ≠ "java/lang/invoke/VarHandle" ∧ (parseMethodDescriptor yJ5_ensureCapacityInternal_d00df.desc).map (fun d => d.parameters.length) = some 1) := by decide +kernel
theorem hdo_J5_ensureCapacityInternal_d00df : "java/lang/AbstractStringBuilder" ≠ "java/lang/invoke/MethodHandle" ∧ "java/lang/AbstractStringBuilder" ≠ "java/lang/invoke/VarHandle" ∧ (parseMethodDescriptor yJ5_ensureCapacityInternal_d00df.desc).map (fun d => d.parameters.length) = some 1 := by decide +kernel
theorem k_J5_ensureCapacityInternal_d00df {l : Launch} (hst : l.stackTraces = false) {G : gaG} {X : String → gaH → Prop} {a0 : Nat} {a1 : Int} {h : gaH} {Q : gaH → Prop} (hw : w_J5_ensureCapacityInternal_d00df a0 a1 h Q) : gaC l G yJ5_ensureCapacityInternal_d00df (gaM yJ5_ensureCapacityInternal_d00df cJ5_ensureCapacityInternal_d00df 3 ((none : Option Jvm.ClassFile.FieldType))) rm_J5_ensureCapacityInternal_d00df [.ref a0, gi a1] h (gQv Q) X := by
  refine g_start (lv := [some (.ref a0), some (gi a1), none]) hpl_RJ5 hst (Nat.le_of_ble_eq_true rfl) (gaArgs_pad (z := 1) rfl) ww_4_66 ?_
  intro p e s m args below meth c V hT
  show gaP p l e rm_J5_ensureCapacityInternal_d00df s m args below meth c G 3 (gaZ below G (gQv Q) X args s rm_J5_ensureCapacityInternal_d00df) 0 [some (.ref a0), some (gi a1), none] [] h 2 134
  unfold w_J5_ensureCapacityInternal_d00df at hw
  refine g_aload_n V dJ5_ensureCapacityInternal_d00df_0 rfl rfl ?_
  obtain ⟨fs, r1, ha, hv, hw⟩ := hw
  refine g_get (C := RJ4) (T := TJ4) (N := 4) V 0 rfl hin_RJ4 (by decide) (by decide) ww_4_43 rfl ha hv dJ5_ensureCapacityInternal_d00df_1 rfl ?_
  obtain ⟨t9, vs, ha, ht, hw⟩ := hw
  refine gi_arraylength (t0 := 101) V (by simp [gaT]) ha ht dJ5_ensureCapacityInternal_d00df_4 rfl ?_
  generalize (vs.length : Int) = r2 at hw ⊢
  refine g_aload_n V dJ5_ensureCapacityInternal_d00df_5 rfl rfl ?_
  obtain ⟨fs, r3, ha, hv, hw⟩ := hw
  refine g_get (C := RJ4) (T := TJ4) (N := 4) V 1 rfl hin_RJ4 (by decide) (by decide) ww_4_44 rfl ha hv dJ5_ensureCapacityInternal_d00df_6 rfl ?_
  refine gi_ishr V dJ5_ensureCapacityInternal_d00df_9 rfl ?_
  refine g_istore_n (lv2 := [some (.ref a0), some (gi a1), some (gi (gShr r2 r3))]) V dJ5_ensureCapacityInternal_d00df_10 (by decide) rfl rfl rfl ?_
  refine g_iload_n V dJ5_ensureCapacityInternal_d00df_11 rfl rfl ?_
  refine g_iload_n V dJ5_ensureCapacityInternal_d00df_12 rfl rfl ?_
  refine gi_isub V dJ5_ensureCapacityInternal_d00df_13 rfl ?_
  obtain ⟨hx0, hw⟩ := hw
  refine gi_if_le V dJ5_ensureCapacityInternal_d00df_14 rfl rfl hx0 (fun q => ?_) (fun q => ?_)
  · have hw := ga_t q hw
    exact g_vret V rfl dJ5_ensureCapacityInternal_d00df_38 ⟨rfl, hw⟩
  · have hw := ga_f q hw
    refine g_aload_n V dJ5_ensureCapacityInternal_d00df_17 rfl rfl ?_
    refine g_aload_n V dJ5_ensureCapacityInternal_d00df_18 rfl rfl ?_
    obtain ⟨fs, r4, ha, hv, hw⟩ := hw
    refine g_get (C := RJ4) (T := TJ4) (N := 4) V 0 rfl hin_RJ4 (by decide) (by decide) ww_4_43 rfl ha hv dJ5_ensureCapacityInternal_d00df_19 rfl ?_
    refine g_aload_n V dJ5_ensureCapacityInternal_d00df_22 rfl rfl ?_
    refine g_iload_n V dJ5_ensureCapacityInternal_d00df_23 rfl rfl ?_
    obtain ⟨hb, hw⟩ := hw
    obtain ⟨fb, hb⟩ := hb
    refine g_callU (C := RJ4) (T := TJ4) (N := 4) (st := [.ref r4, .ref a0]) V (k_J5_newCapacity_0f7a4 hst hw) ww_4_67 ww_7_81 ww_4_69 wq_1 ww_1_17 ww_4_70 rfl hdo_J5_newCapacity_0f7a4 ⟨by decide, by decide⟩ rfl (by decide) hb rfl rfl (ga_cat rfl) dJ5_ensureCapacityInternal_d00df_24 (Nat.zero_le _) (Nat.zero_le _) rfl (gaX_all hT V) (ga_ki (fun r6 hp5 hw => ?_))
    refine g_aload_n V dJ5_ensureCapacityInternal_d00df_27 rfl rfl ?_
    obtain ⟨fs, r7, ha, hv, hw⟩ := hw
    refine g_get (C := RJ4) (T := TJ4) (N := 4) V 1 rfl hin_RJ4 (by decide) (by decide) ww_4_44 rfl ha hv dJ5_ensureCapacityInternal_d00df_28 rfl ?_
    refine gi_ishl V dJ5_ensureCapacityInternal_d00df_31 rfl ?_
    obtain ⟨hk, hj, c10, s11, ec, es, hw⟩ := hw
    refine g_callS (st := [.ref a0]) V (k_J7_copyOf_9075b hst hw) ww_4_80 ww_4_81 ww_1_22 ww_4_82 hd_J7_copyOf_9075b ⟨by decide, by decide⟩ rfl rfl (ga_cat rfl) dJ5_ensureCapacityInternal_d00df_32 hk hj rfl (gaX_all hT V) (ga_ka (fun r9 hp8 hw => ?_))
    refine ga_re ec es ?_
    obtain ⟨fs, ha, hl, hw⟩ := hw
    refine g_put (C := RJ4) (T := TJ4) (N := 4) V 0 tyJ4 tyJ4_ok nmJ4 rfl hin_RJ4 (by decide) (by decide) ww_4_43 rfl rfl rfl rfl ha hl dJ5_ensureCapacityInternal_d00df_35 rfl ?_
    generalize gaUp hp8 a0 _ = hp12 at hw ⊢
    exact g_vret V rfl dJ5_ensureCapacityInternal_d00df_38 ⟨rfl, hw⟩
def w_J5_isLatin1_aae02 (G : gaG) (a0 : Nat) (h : gaH) (Q : Int → gaH → Prop) : Prop := gI h a0 1 1 (fun r1 => gR r1 ∧ (if r1 = 0 then Q 1 h else Q 0 h))
abbrev rm_J5_isLatin1_aae02 : Room := { frames := 0, cells := 0, slots := 0, locals := 0 }
theorem hd_J5_isLatin1_aae02 : yJ5_isLatin1_aae02.cls = RJ5 ∧ (yJ5_isLatin1_aae02.cls ≠ "java/lang/invoke/MethodHandle" ∧ yJ5_isLatin1_aae02.cls ≠ "java/lang/invoke/VarHandle" ∧ (parseMethodDescriptor yJ5_isLatin1_aae02.desc).map (fun d => d.parameters.length) = some 0) := by decide +kernel
theorem hdo_J5_isLatin1_aae02 : "java/lang/AbstractStringBuilder" ≠ "java/lang/invoke/MethodHandle" ∧ "java/lang/AbstractStringBuilder" ≠ "java/lang/invoke/VarHandle" ∧ (parseMethodDescriptor yJ5_isLatin1_aae02.desc).map (fun d => d.parameters.length) = some 0 := by decide +kernel
theorem k_J5_isLatin1_aae02 {l : Launch} (hst : l.stackTraces = false) {G : gaG} {X : String → gaH → Prop} {a0 : Nat} {h : gaH} {Q : Int → gaH → Prop} (hw : w_J5_isLatin1_aae02 G a0 h Q) : gaC l G yJ5_isLatin1_aae02 (gaM yJ5_isLatin1_aae02 cJ5_isLatin1_aae02 1 ((some .boolean))) rm_J5_isLatin1_aae02 [.ref a0] h (gQi Q) X := by
  refine g_start (lv := [some (.ref a0)]) hpl_RJ5 hst (Nat.le_of_ble_eq_true rfl) (gaArgs_pad (z := 0) rfl) ww_4_98 ?_
  intro p e s m args below meth c V hT
  unfold w_J5_isLatin1_aae02 at hw
  refine g_gets V V.z1 ww_4_34 dJ5_isLatin1_aae02_0 rfl ?_
  refine gi_if_eq V dJ5_isLatin1_aae02_3 rfl rfl (by decide) (fun q => ?_) (fun q => ?_)
  · exact absurd q (by decide)
  · refine g_aload_n V dJ5_isLatin1_aae02_6 rfl rfl ?_
    obtain ⟨fs, r1, ha, hv, hw⟩ := hw
    refine g_get (C := RJ4) (T := TJ4) (N := 4) V 1 rfl hin_RJ4 (by decide) (by decide) ww_4_44 rfl ha hv dJ5_isLatin1_aae02_7 rfl ?_
    obtain ⟨hx0, hw⟩ := hw
    refine gi_if_ne V dJ5_isLatin1_aae02_10 rfl rfl hx0 (fun q => ?_) (fun q => ?_)
    · have hw := ga_f q hw
      refine g_iconst V (Int32.ofInt 0) dJ5_isLatin1_aae02_17 rfl rfl ?_
      exact g_iret V rfl rfl dJ5_isLatin1_aae02_18 ⟨_, rfl, hw⟩
    · have hw := ga_t q hw
      refine g_iconst V (Int32.ofInt 1) dJ5_isLatin1_aae02_13 rfl rfl ?_
      refine g_goto V dJ5_isLatin1_aae02_14 rfl ?_
      exact g_iret V rfl rfl dJ5_isLatin1_aae02_18 ⟨_, rfl, hw⟩
def w_J1_canEncode_fc78d (a0 : Int) (h : gaH) (Q : Int → gaH → Prop) : Prop := gR a0 ∧ (if 255 < a0 then Q 0 h else Q 1 h)
abbrev rm_J1_canEncode_fc78d : Room := { frames := 0, cells := 0, slots := 0, locals := 0 }
theorem hd_J1_canEncode_fc78d : (yJ1_canEncode_fc78d.cls ≠ "java/lang/invoke/MethodHandle" ∧ yJ1_canEncode_fc78d.cls ≠ "java/lang/invoke/VarHandle" ∧ (parseMethodDescriptor yJ1_canEncode_fc78d.desc).map (fun d => d.parameters.length) = some 1) := by decide +kernel
theorem k_J1_canEncode_fc78d {l : Launch} (hst : l.stackTraces = false) {G : gaG} {X : String → gaH → Prop} {a0 : Int} {h : gaH} {Q : Int → gaH → Prop} (hw : w_J1_canEncode_fc78d a0 h Q) : gaC l G yJ1_canEncode_fc78d (gaM yJ1_canEncode_fc78d cJ1_canEncode_fc78d 1 ((some .boolean))) rm_J1_canEncode_fc78d [gi a0] h (gQi Q) X := by
  refine g_start (lv := [some (gi a0)]) hpl_RJ1 hst (Nat.le_of_ble_eq_true rfl) (gaArgs_pad (z := 0) rfl) ww_4_101 ?_
  intro p e s m args below meth c V hT
  unfold w_J1_canEncode_fc78d at hw
  refine g_iload_n V dJ1_canEncode_fc78d_0 rfl rfl ?_
  refine g_sipush V (Int32.ofInt 255) dJ1_canEncode_fc78d_1 rfl rfl ?_
  obtain ⟨hx0, hw⟩ := hw
  refine gi_icmp_gt V dJ1_canEncode_fc78d_4 rfl rfl hx0 (by decide) (fun q => ?_) (fun q => ?_)
  · have hw := ga_t q hw
    refine g_iconst V (Int32.ofInt 0) dJ1_canEncode_fc78d_11 rfl rfl ?_
    exact g_iret V rfl rfl dJ1_canEncode_fc78d_12 ⟨_, rfl, hw⟩
  · have hw := ga_f q hw
    refine g_iconst V (Int32.ofInt 1) dJ1_canEncode_fc78d_7 rfl rfl ?_
    refine g_goto V dJ1_canEncode_fc78d_8 rfl ?_
    exact g_iret V rfl rfl dJ1_canEncode_fc78d_12 ⟨_, rfl, hw⟩
def w_J5_append_3fe6f_J45 (G : gaG) (Q : Nat → gaH → Prop) (v0 : Nat) (v1 : Int) (h : gaH) (kc ks : Nat) : Prop := gHas h v0 1 ∧ w_J5_isLatin1_aae02 G v0 h (fun r2 hp1 => gR r2 ∧ (if r2 = 0 then gA hp1 v0 1 0 (fun r3 => gI hp1 v0 1 3 (fun r4 => gPF hp1 v0 1 3 (gi (r4 + 1)) (fun hp5 => False))) else False))
def w_J5_append_3fe6f (G : gaG) (a0 : Nat) (a1 : Int) (h : gaH) (Q : Nat → gaH → Prop) : Prop := gI h a0 1 3 (fun r1 => gHas h a0 1 ∧ gCall 2 134 2 134 (fun c4 s5 => w_J5_ensureCapacityInternal_d00df a0 (r1 + 1) h (fun hp2 => gHas hp2 a0 1 ∧ w_J5_isLatin1_aae02 G a0 hp2 (fun r7 hp6 => gR r7 ∧ (if r7 = 0 then w_J5_append_3fe6f_J45 G Q a0 a1 hp6 c4 s5 else w_J1_canEncode_fc78d a1 hp6 (fun r9 hp8 => gR r9 ∧ (if r9 = 0 then w_J5_append_3fe6f_J45 G Q a0 a1 hp8 c4 s5 else gA hp8 a0 1 0 (fun r10 => gI hp8 a0 1 3 (fun r11 => gPF hp8 a0 1 3 (gi (r11 + 1)) (fun hp12 => narrow .byte (gi (gI2b a1)) = gi (gI2b a1) ∧ gSI hp12 r10 101 r11 (gi (gI2b a1)) (fun hp13 => Q a0 hp13)))))))))))
abbrev rm_J5_append_3fe6f : Room := { frames := 5, cells := 2, slots := 134, locals := 130 }
theorem hd_J5_append_3fe6f : yJ5_append_3fe6f.cls = RJ5 ∧ (yJ5_append_3fe6f.cls ≠ "java/lang/invoke/MethodHandle" ∧ yJ5_append_3fe6f.cls ≠ "java/lang/invoke/VarHandle" ∧ (parseMethodDescriptor yJ5_append_3fe6f.desc).map (fun d => d.parameters.length) = some 1) := by decide +kernel
theorem hdo_J5_append_3fe6f : "java/lang/AbstractStringBuilder" ≠ "java/lang/invoke/MethodHandle" ∧ "java/lang/AbstractStringBuilder" ≠ "java/lang/invoke/VarHandle" ∧ (parseMethodDescriptor yJ5_append_3fe6f.desc).map (fun d => d.parameters.length) = some 1 := by decide +kernel
theorem hdu_J5_append_3fe6f : yJ5_append_3fe6f.name ≠ "<init>" ∧ (parseMethodDescriptor yJ5_append_3fe6f.desc).map (fun d => d.parameters.length) = some 1 := by decide +kernel
theorem k_J5_append_3fe6f {l : Launch} (hst : l.stackTraces = false) {G : gaG} {X : String → gaH → Prop} {a0 : Nat} {a1 : Int} {h : gaH} {Q : Nat → gaH → Prop} (hw : w_J5_append_3fe6f G a0 a1 h Q) : gaC l G yJ5_append_3fe6f (gaM yJ5_append_3fe6f cJ5_append_3fe6f 2 ((some (.object "java/lang/AbstractStringBuilder")))) rm_J5_append_3fe6f [.ref a0, gi a1] h (gQa Q) X := by
  refine g_start (lv := [some (.ref a0), some (gi a1)]) hpl_RJ5 hst (Nat.le_of_ble_eq_true rfl) (gaArgs_pad (z := 0) rfl) ww_4_62 ?_
  intro p e s m args below meth c V hT
  have h_J5_append_3fe6f_J45 : ∀ (v0 : Nat) (v1 : Int) (h : gaH) (kc ks : Nat), w_J5_append_3fe6f_J45 G Q v0 v1 h kc ks → gaP p l e rm_J5_append_3fe6f s m args below meth c G 2 (gaZ below G (gQa Q) X args s rm_J5_append_3fe6f) 45 [some (.ref v0), some (gi v1)] [] h kc ks := by
    intro v0 v1 h kc ks hw
    unfold w_J5_append_3fe6f_J45 at hw
    refine g_aload_n V dJ5_append_3fe6f_45 rfl rfl ?_
    obtain ⟨hb, hw⟩ := hw
    obtain ⟨fb, hb⟩ := hb
    refine g_callU (C := RJ4) (T := TJ4) (N := 4) (st := []) V (k_J5_isLatin1_aae02 hst hw) ww_4_94 ww_4_96 ww_4_95 ww_4_97 ww_1_17 ww_4_98 rfl hdo_J5_isLatin1_aae02 ⟨by decide, by decide⟩ rfl (by decide) hb rfl rfl (ga_cat rfl) dJ5_append_3fe6f_46 (Nat.zero_le _) (Nat.zero_le _) rfl (gaX_all hT V) (ga_ki (fun r2 hp1 hw => ?_))
    obtain ⟨hx0, hw⟩ := hw
    refine gi_if_eq V dJ5_append_3fe6f_49 rfl rfl hx0 (fun q => ?_) (fun q => ?_)
    · have hw := ga_t q hw
      refine g_aload_n V dJ5_append_3fe6f_56 rfl rfl ?_
      obtain ⟨fs, r3, ha, hv, hw⟩ := hw
      refine g_get (C := RJ4) (T := TJ4) (N := 4) V 0 rfl hin_RJ4 (by decide) (by decide) ww_4_43 rfl ha hv dJ5_append_3fe6f_57 rfl ?_
      refine g_aload_n V dJ5_append_3fe6f_60 rfl rfl ?_
      refine g_dup V dJ5_append_3fe6f_61 rfl rfl ?_
      obtain ⟨fs, r4, ha, hv, hw⟩ := hw
      refine g_get (C := RJ4) (T := TJ4) (N := 4) V 3 rfl hin_RJ4 (by decide) (by decide) ww_4_46 rfl ha hv dJ5_append_3fe6f_62 rfl ?_
      refine g_dup_x1 V dJ5_append_3fe6f_65 rfl rfl rfl ?_
      refine g_iconst V (Int32.ofInt 1) dJ5_append_3fe6f_66 rfl rfl ?_
      refine gi_iadd V dJ5_append_3fe6f_67 rfl ?_
      obtain ⟨fs, ha, hl, hw⟩ := hw
      refine g_put (C := RJ4) (T := TJ4) (N := 4) V 3 tyJ4 tyJ4_ok nmJ4 rfl hin_RJ4 (by decide) (by decide) ww_4_46 rfl rfl rfl rfl ha hl dJ5_append_3fe6f_68 rfl ?_
      generalize gaUp hp1 v0 _ = hp5 at hw ⊢
      refine g_iload_n V dJ5_append_3fe6f_71 rfl rfl ?_
      exact hw.elim
    · have hw := ga_f q hw
      refine g_aload_n V dJ5_append_3fe6f_52 rfl rfl ?_
      exact hw.elim
  show gaP p l e rm_J5_append_3fe6f s m args below meth c G 2 (gaZ below G (gQa Q) X args s rm_J5_append_3fe6f) 0 [some (.ref a0), some (gi a1)] [] h 2 134
  unfold w_J5_append_3fe6f at hw
  refine g_aload_n V dJ5_append_3fe6f_0 rfl rfl ?_
  refine g_aload_n V dJ5_append_3fe6f_1 rfl rfl ?_
  obtain ⟨fs, r1, ha, hv, hw⟩ := hw
  refine g_get (C := RJ4) (T := TJ4) (N := 4) V 3 rfl hin_RJ4 (by decide) (by decide) ww_4_46 rfl ha hv dJ5_append_3fe6f_2 rfl ?_
  refine g_iconst V (Int32.ofInt 1) dJ5_append_3fe6f_5 rfl rfl ?_
  refine gi_iadd V dJ5_append_3fe6f_6 rfl ?_
  obtain ⟨hb, hw⟩ := hw
  obtain ⟨fb, hb⟩ := hb
  obtain ⟨hk, hj, c4, s5, ec, es, hw⟩ := hw
  refine g_callU (C := RJ4) (T := TJ4) (N := 4) (st := []) V (k_J5_ensureCapacityInternal_d00df hst hw) ww_4_63 ww_7_80 ww_4_65 wq_0 ww_1_17 ww_4_66 rfl hdo_J5_ensureCapacityInternal_d00df ⟨by decide, by decide⟩ rfl (by decide) hb rfl rfl (ga_cat rfl) dJ5_append_3fe6f_7 hk hj rfl (gaX_all hT V) (ga_kv (fun hp2 hw => ?_))
  refine ga_re ec es ?_
  refine g_aload_n V dJ5_append_3fe6f_10 rfl rfl ?_
  obtain ⟨hb, hw⟩ := hw
  obtain ⟨fb, hb⟩ := hb
  refine g_callU (C := RJ4) (T := TJ4) (N := 4) (st := []) V (k_J5_isLatin1_aae02 hst hw) ww_4_94 ww_4_96 ww_4_95 ww_4_97 ww_1_17 ww_4_98 rfl hdo_J5_isLatin1_aae02 ⟨by decide, by decide⟩ rfl (by decide) hb rfl rfl (ga_cat rfl) dJ5_append_3fe6f_11 (Nat.zero_le _) (Nat.zero_le _) rfl (gaX_all hT V) (ga_ki (fun r7 hp6 hw => ?_))
  obtain ⟨hx0, hw⟩ := hw
  refine gi_if_eq V dJ5_append_3fe6f_14 rfl rfl hx0 (fun q => ?_) (fun q => ?_)
  · have hw := ga_t q hw
    exact h_J5_append_3fe6f_J45 a0 a1 hp6 c4 s5 hw
  · have hw := ga_f q hw
    refine g_iload_n V dJ5_append_3fe6f_17 rfl rfl ?_
    refine g_callS (st := []) V (k_J1_canEncode_fc78d hst hw) ww_4_99 ww_4_100 ww_1_24 ww_4_101 hd_J1_canEncode_fc78d ⟨by decide, by decide⟩ rfl rfl (ga_cat rfl) dJ5_append_3fe6f_18 (Nat.zero_le _) (Nat.zero_le _) rfl (gaX_all hT V) (ga_ki (fun r9 hp8 hw => ?_))
    obtain ⟨hx0, hw⟩ := hw
    refine gi_if_eq V dJ5_append_3fe6f_21 rfl rfl hx0 (fun q => ?_) (fun q => ?_)
    · have hw := ga_t q hw
      exact h_J5_append_3fe6f_J45 a0 a1 hp8 c4 s5 hw
    · have hw := ga_f q hw
      refine g_aload_n V dJ5_append_3fe6f_24 rfl rfl ?_
      obtain ⟨fs, r10, ha, hv, hw⟩ := hw
      refine g_get (C := RJ4) (T := TJ4) (N := 4) V 0 rfl hin_RJ4 (by decide) (by decide) ww_4_43 rfl ha hv dJ5_append_3fe6f_25 rfl ?_
      refine g_aload_n V dJ5_append_3fe6f_28 rfl rfl ?_
      refine g_dup V dJ5_append_3fe6f_29 rfl rfl ?_
      obtain ⟨fs, r11, ha, hv, hw⟩ := hw
      refine g_get (C := RJ4) (T := TJ4) (N := 4) V 3 rfl hin_RJ4 (by decide) (by decide) ww_4_46 rfl ha hv dJ5_append_3fe6f_30 rfl ?_
      refine g_dup_x1 V dJ5_append_3fe6f_33 rfl rfl rfl ?_
      refine g_iconst V (Int32.ofInt 1) dJ5_append_3fe6f_34 rfl rfl ?_
      refine gi_iadd V dJ5_append_3fe6f_35 rfl ?_
      obtain ⟨fs, ha, hl, hw⟩ := hw
      refine g_put (C := RJ4) (T := TJ4) (N := 4) V 3 tyJ4 tyJ4_ok nmJ4 rfl hin_RJ4 (by decide) (by decide) ww_4_46 rfl rfl rfl rfl ha hl dJ5_append_3fe6f_36 rfl ?_
      generalize gaUp hp8 a0 _ = hp12 at hw ⊢
      refine g_iload_n V dJ5_append_3fe6f_39 rfl rfl ?_
      refine gi_i2b V dJ5_append_3fe6f_40 rfl ?_
      obtain ⟨hb, hw⟩ := hw
      obtain ⟨vs, ha, h0, h9, hi, hw⟩ := hw
      refine gi_bastoreB V hb ha h0 h9 hi dJ5_append_3fe6f_41 rfl ?_
      generalize gaUp hp12 r10 _ = hp13 at hw ⊢
      refine g_goto V dJ5_append_3fe6f_42 rfl ?_
      refine g_aload_n V dJ5_append_3fe6f_75 rfl rfl ?_
      exact g_aret V rfl (by first | exact Or.inl ⟨_, rfl⟩ | exact Or.inr ⟨_, rfl⟩) dJ5_append_3fe6f_76 ⟨_, rfl, hw⟩
def w_J4_append_cf468 (G : gaG) (a0 : Nat) (a1 : Int) (h : gaH) (Q : Nat → gaH → Prop) : Prop := gHas h a0 1 ∧ gCall 2 134 2 134 (fun c3 s4 => w_J5_append_3fe6f G a0 a1 h (fun r2 hp1 => Q a0 hp1))
abbrev rm_J4_append_cf468 : Room := { frames := 6, cells := 2, slots := 134, locals := 151 }
theorem hd_J4_append_cf468 : yJ4_append_cf468.cls = RJ4 ∧ (yJ4_append_cf468.cls ≠ "java/lang/invoke/MethodHandle" ∧ yJ4_append_cf468.cls ≠ "java/lang/invoke/VarHandle" ∧ (parseMethodDescriptor yJ4_append_cf468.desc).map (fun d => d.parameters.length) = some 1) := by decide +kernel
theorem k_J4_append_cf468 {l : Launch} (hst : l.stackTraces = false) {G : gaG} {X : String → gaH → Prop} {a0 : Nat} {a1 : Int} {h : gaH} {Q : Nat → gaH → Prop} (hw : w_J4_append_cf468 G a0 a1 h Q) : gaC l G yJ4_append_cf468 (gaM yJ4_append_cf468 cJ4_append_cf468 2 ((some (.object "java/lang/StringBuilder")))) rm_J4_append_cf468 [.ref a0, gi a1] h (gQa Q) X := by
  refine g_start (lv := [some (.ref a0), some (gi a1)]) hpl_RJ4 hst (Nat.le_of_ble_eq_true rfl) (gaArgs_pad (z := 0) rfl) ww_4_59 ?_
  intro p e s m args below meth c V hT
  show gaP p l e rm_J4_append_cf468 s m args below meth c G 2 (gaZ below G (gQa Q) X args s rm_J4_append_cf468) 0 [some (.ref a0), some (gi a1)] [] h 2 134
  unfold w_J4_append_cf468 at hw
  refine g_aload_n V dJ4_append_cf468_0 rfl rfl ?_
  refine g_iload_n V dJ4_append_cf468_1 rfl rfl ?_
  obtain ⟨hb, hw⟩ := hw
  obtain ⟨fb, hb⟩ := hb
  obtain ⟨hk, hj, c3, s4, ec, es, hw⟩ := hw
  refine g_callSU (C := RJ4) (T := TJ4) (N := 4) (st := []) V (k_J5_append_3fe6f hst hw) ww_4_60 ww_7_79 ww_4_55 ww_4_61 ww_1_17 ww_4_62 hdu_J5_append_3fe6f ⟨by decide, by decide⟩ rfl (by decide) hb rfl rfl (ga_cat rfl) dJ4_append_cf468_2 hk hj rfl (gaX_all hT V) (ga_ka (fun r2 hp1 hw => ?_))
  refine ga_re ec es ?_
  refine g_pop V dJ4_append_cf468_5 rfl rfl ?_
  refine g_aload_n V dJ4_append_cf468_6 rfl rfl ?_
  exact g_aret V rfl (by first | exact Or.inl ⟨_, rfl⟩ | exact Or.inr ⟨_, rfl⟩) dJ4_append_cf468_7 ⟨_, rfl, hw⟩
def w_J5_getValue_6d5f1 (a0 : Nat) (h : gaH) (Q : Nat → gaH → Prop) : Prop := gA h a0 1 0 (fun r1 => Q r1 h)
abbrev rm_J5_getValue_6d5f1 : Room := { frames := 0, cells := 0, slots := 0, locals := 0 }
theorem hd_J5_getValue_6d5f1 : yJ5_getValue_6d5f1.cls = RJ5 ∧ (yJ5_getValue_6d5f1.cls ≠ "java/lang/invoke/MethodHandle" ∧ yJ5_getValue_6d5f1.cls ≠ "java/lang/invoke/VarHandle" ∧ (parseMethodDescriptor yJ5_getValue_6d5f1.desc).map (fun d => d.parameters.length) = some 0) := by decide +kernel
theorem hdo_J5_getValue_6d5f1 : "java/lang/AbstractStringBuilder" ≠ "java/lang/invoke/MethodHandle" ∧ "java/lang/AbstractStringBuilder" ≠ "java/lang/invoke/VarHandle" ∧ (parseMethodDescriptor yJ5_getValue_6d5f1.desc).map (fun d => d.parameters.length) = some 0 := by decide +kernel
theorem k_J5_getValue_6d5f1 {l : Launch} (hst : l.stackTraces = false) {G : gaG} {X : String → gaH → Prop} {a0 : Nat} {h : gaH} {Q : Nat → gaH → Prop} (hw : w_J5_getValue_6d5f1 a0 h Q) : gaC l G yJ5_getValue_6d5f1 (gaM yJ5_getValue_6d5f1 cJ5_getValue_6d5f1 1 ((some (.array .byte)))) rm_J5_getValue_6d5f1 [.ref a0] h (gQa Q) X := by
  refine g_start (lv := [some (.ref a0)]) hpl_RJ5 hst (Nat.le_of_ble_eq_true rfl) (gaArgs_pad (z := 0) rfl) ww_4_164 ?_
  intro p e s m args below meth c V hT
  unfold w_J5_getValue_6d5f1 at hw
  refine g_aload_n V dJ5_getValue_6d5f1_0 rfl rfl ?_
  obtain ⟨fs, r1, ha, hv, hw⟩ := hw
  refine g_get (C := RJ4) (T := TJ4) (N := 4) V 0 rfl hin_RJ4 (by decide) (by decide) ww_4_43 rfl ha hv dJ5_getValue_6d5f1_1 rfl ?_
  exact g_aret V rfl (by first | exact Or.inl ⟨_, rfl⟩ | exact Or.inr ⟨_, rfl⟩) dJ5_getValue_6d5f1_4 ⟨_, rfl, hw⟩
def w_J5_length_8abf5 (a0 : Nat) (h : gaH) (Q : Int → gaH → Prop) : Prop := gI h a0 1 3 (fun r1 => Q r1 h)
abbrev rm_J5_length_8abf5 : Room := { frames := 0, cells := 0, slots := 0, locals := 0 }
theorem hd_J5_length_8abf5 : yJ5_length_8abf5.cls = RJ5 ∧ (yJ5_length_8abf5.cls ≠ "java/lang/invoke/MethodHandle" ∧ yJ5_length_8abf5.cls ≠ "java/lang/invoke/VarHandle" ∧ (parseMethodDescriptor yJ5_length_8abf5.desc).map (fun d => d.parameters.length) = some 0) := by decide +kernel
theorem hdo_J5_length_8abf5 : "java/lang/AbstractStringBuilder" ≠ "java/lang/invoke/MethodHandle" ∧ "java/lang/AbstractStringBuilder" ≠ "java/lang/invoke/VarHandle" ∧ (parseMethodDescriptor yJ5_length_8abf5.desc).map (fun d => d.parameters.length) = some 0 := by decide +kernel
theorem hdu_J5_length_8abf5 : yJ5_length_8abf5.name ≠ "<init>" ∧ (parseMethodDescriptor yJ5_length_8abf5.desc).map (fun d => d.parameters.length) = some 0 := by decide +kernel
theorem k_J5_length_8abf5 {l : Launch} (hst : l.stackTraces = false) {G : gaG} {X : String → gaH → Prop} {a0 : Nat} {h : gaH} {Q : Int → gaH → Prop} (hw : w_J5_length_8abf5 a0 h Q) : gaC l G yJ5_length_8abf5 (gaM yJ5_length_8abf5 cJ5_length_8abf5 1 ((some .int))) rm_J5_length_8abf5 [.ref a0] h (gQi Q) X := by
  refine g_start (lv := [some (.ref a0)]) hpl_RJ5 hst (Nat.le_of_ble_eq_true rfl) (gaArgs_pad (z := 0) rfl) ww_4_172 ?_
  intro p e s m args below meth c V hT
  unfold w_J5_length_8abf5 at hw
  refine g_aload_n V dJ5_length_8abf5_0 rfl rfl ?_
  obtain ⟨fs, r1, ha, hv, hw⟩ := hw
  refine g_get (C := RJ4) (T := TJ4) (N := 4) V 3 rfl hin_RJ4 (by decide) (by decide) ww_4_46 rfl ha hv dJ5_length_8abf5_1 rfl ?_
  exact g_iret V rfl rfl dJ5_length_8abf5_4 ⟨_, rfl, hw⟩
def w_J4_length_8abf5 (a0 : Nat) (h : gaH) (Q : Int → gaH → Prop) : Prop := gHas h a0 1 ∧ w_J5_length_8abf5 a0 h (fun r2 hp1 => Q r2 hp1)
abbrev rm_J4_length_8abf5 : Room := { frames := 1, cells := 0, slots := 0, locals := 20 }
theorem hd_J4_length_8abf5 : yJ4_length_8abf5.cls = RJ4 ∧ (yJ4_length_8abf5.cls ≠ "java/lang/invoke/MethodHandle" ∧ yJ4_length_8abf5.cls ≠ "java/lang/invoke/VarHandle" ∧ (parseMethodDescriptor yJ4_length_8abf5.desc).map (fun d => d.parameters.length) = some 0) := by decide +kernel
theorem hdo_J4_length_8abf5 : "java/lang/AbstractStringBuilder" ≠ "java/lang/invoke/MethodHandle" ∧ "java/lang/AbstractStringBuilder" ≠ "java/lang/invoke/VarHandle" ∧ (parseMethodDescriptor yJ4_length_8abf5.desc).map (fun d => d.parameters.length) = some 0 := by decide +kernel
theorem k_J4_length_8abf5 {l : Launch} (hst : l.stackTraces = false) {G : gaG} {X : String → gaH → Prop} {a0 : Nat} {h : gaH} {Q : Int → gaH → Prop} (hw : w_J4_length_8abf5 a0 h Q) : gaC l G yJ4_length_8abf5 (gaM yJ4_length_8abf5 cJ4_length_8abf5 1 ((some .int))) rm_J4_length_8abf5 [.ref a0] h (gQi Q) X := by
  refine g_start (lv := [some (.ref a0)]) hpl_RJ4 hst (Nat.le_of_ble_eq_true rfl) (gaArgs_pad (z := 0) rfl) ww_4_170 ?_
  intro p e s m args below meth c V hT
  unfold w_J4_length_8abf5 at hw
  refine g_aload_n V dJ4_length_8abf5_0 rfl rfl ?_
  obtain ⟨hb, hw⟩ := hw
  obtain ⟨fb, hb⟩ := hb
  refine g_callSU (C := RJ4) (T := TJ4) (N := 4) (st := []) V (k_J5_length_8abf5 hst hw) ww_4_171 ww_4_167 ww_4_55 ww_4_166 ww_1_17 ww_4_172 hdu_J5_length_8abf5 ⟨by decide, by decide⟩ rfl (by decide) hb rfl rfl (ga_cat rfl) dJ4_length_8abf5_1 (Nat.zero_le _) (Nat.zero_le _) rfl (gaX_all hT V) (ga_ki (fun r2 hp1 hw => ?_))
  exact g_iret V rfl rfl dJ4_length_8abf5_4 ⟨_, rfl, hw⟩
def w_J7_checkLength_df160 (a0 : Int) (a1 : Int) (h : gaH) (Q : gaH → Prop) : Prop := gR a1 ∧ gR a0 ∧ (if a0 ≤ a1 then Q h else False)
abbrev rm_J7_checkLength_df160 : Room := { frames := 0, cells := 0, slots := 0, locals := 0 }
theorem hd_J7_checkLength_df160 : (yJ7_checkLength_df160.cls ≠ "java/lang/invoke/MethodHandle" ∧ yJ7_checkLength_df160.cls ≠ "java/lang/invoke/VarHandle" ∧ (parseMethodDescriptor yJ7_checkLength_df160.desc).map (fun d => d.parameters.length) = some 2) := by decide +kernel
theorem k_J7_checkLength_df160 {l : Launch} (hst : l.stackTraces = false) {G : gaG} {X : String → gaH → Prop} {a0 : Int} {a1 : Int} {h : gaH} {Q : gaH → Prop} (hw : w_J7_checkLength_df160 a0 a1 h Q) : gaC l G yJ7_checkLength_df160 (gaM yJ7_checkLength_df160 cJ7_checkLength_df160 2 ((none : Option Jvm.ClassFile.FieldType))) rm_J7_checkLength_df160 [gi a0, gi a1] h (gQv Q) X := by
  refine g_start (lv := [some (gi a0), some (gi a1)]) hpl_RJ7 hst (Nat.le_of_ble_eq_true rfl) (gaArgs_pad (z := 0) rfl) ww_4_182 ?_
  intro p e s m args below meth c V hT
  unfold w_J7_checkLength_df160 at hw
  refine g_iload_n V dJ7_checkLength_df160_0 rfl rfl ?_
  refine g_iload_n V dJ7_checkLength_df160_1 rfl rfl ?_
  obtain ⟨hx0, hx1, hw⟩ := hw
  refine gi_icmp_ge V dJ7_checkLength_df160_2 rfl rfl hx0 hx1 (fun q => ?_) (fun q => ?_)
  · have hw := ga_t q hw
    exact g_vret V rfl dJ7_checkLength_df160_37 ⟨rfl, hw⟩
  · have hw := ga_f q hw
    exact hw.elim
def w_J7_copyOfRangeByte_39247 (a0 : Nat) (a1 : Int) (a2 : Int) (h : gaH) (Q : Nat → gaH → Prop) : Prop := w_J7_checkLength_df160 a1 a2 h (fun hp1 => gNA hp1 101 (gi 0) (a2 - a1) 1 64 (fun o3 hp4 c5 s6 => gAL hp4 a0 101 (fun r7 => gR (r7 - a1) ∧ gR (a2 - a1) ∧ (¬ a0 = o3 ∧ gCP hp4 a0 o3 101 a1 0 (min (r7 - a1) (a2 - a1)) (fun hp8 => Q o3 hp8)))))
abbrev rm_J7_copyOfRangeByte_39247 : Room := { frames := 2, cells := 1, slots := 64, locals := 60 }
theorem hd_J7_copyOfRangeByte_39247 : (yJ7_copyOfRangeByte_39247.cls ≠ "java/lang/invoke/MethodHandle" ∧ yJ7_copyOfRangeByte_39247.cls ≠ "java/lang/invoke/VarHandle" ∧ (parseMethodDescriptor yJ7_copyOfRangeByte_39247.desc).map (fun d => d.parameters.length) = some 3) := by decide +kernel
theorem k_J7_copyOfRangeByte_39247 {l : Launch} (hst : l.stackTraces = false) {G : gaG} {X : String → gaH → Prop} {a0 : Nat} {a1 : Int} {a2 : Int} {h : gaH} {Q : Nat → gaH → Prop} (hw : w_J7_copyOfRangeByte_39247 a0 a1 a2 h Q) : gaC l G yJ7_copyOfRangeByte_39247 (gaM yJ7_copyOfRangeByte_39247 cJ7_copyOfRangeByte_39247 5 ((some (.array .byte)))) rm_J7_copyOfRangeByte_39247 [.ref a0, gi a1, gi a2] h (gQa Q) X := by
  refine g_start (lv := [some (.ref a0), some (gi a1), some (gi a2), none, none]) hpl_RJ7 hst (Nat.le_of_ble_eq_true rfl) (gaArgs_pad (z := 2) rfl) ww_4_179 ?_
  intro p e s m args below meth c V hT
  show gaP p l e rm_J7_copyOfRangeByte_39247 s m args below meth c G 5 (gaZ below G (gQa Q) X args s rm_J7_copyOfRangeByte_39247) 0 [some (.ref a0), some (gi a1), some (gi a2), none, none] [] h 1 64
  unfold w_J7_copyOfRangeByte_39247 at hw
  refine g_iload_n V dJ7_copyOfRangeByte_39247_0 rfl rfl ?_
  refine g_iload_n V dJ7_copyOfRangeByte_39247_1 rfl rfl ?_
  refine g_callS (st := []) V (k_J7_checkLength_df160 hst hw) ww_4_180 ww_4_181 ww_1_22 ww_4_182 hd_J7_checkLength_df160 ⟨by decide, by decide⟩ rfl rfl (ga_cat rfl) dJ7_copyOfRangeByte_39247_2 (Nat.zero_le _) (Nat.zero_le _) rfl (gaX_all hT V) (ga_kv (fun hp1 hw => ?_))
  refine g_iload_n V dJ7_copyOfRangeByte_39247_5 rfl rfl ?_
  refine g_iload_n V dJ7_copyOfRangeByte_39247_6 rfl rfl ?_
  refine gi_isub V dJ7_copyOfRangeByte_39247_7 rfl ?_
  refine g_istore_n (lv2 := [some (.ref a0), some (gi a1), some (gi a2), some (gi (a2 - a1)), none]) V dJ7_copyOfRangeByte_39247_8 (by decide) rfl rfl rfl ?_
  refine g_iload_n V dJ7_copyOfRangeByte_39247_9 rfl rfl ?_
  obtain ⟨h0, h9, hk, hj, hw⟩ := hw
  refine gi_newarray (atype := .byte) (t := 101) V (by decide) rfl ww_1_221 h0 h9 dJ7_copyOfRangeByte_39247_10 rfl hk hj (fun o3 hf => ?_)
  obtain ⟨c5, s6, ec, es, hw⟩ := hw o3 hf
  refine ga_re ec es ?_
  generalize gaUp hp1 o3 _ = hp4 at hw ⊢
  refine g_astore (lv2 := [some (.ref a0), some (gi a1), some (gi a2), some (gi (a2 - a1)), some (.ref o3)]) V dJ7_copyOfRangeByte_39247_12 (by decide) rfl rfl rfl ?_
  refine g_aload_n V dJ7_copyOfRangeByte_39247_14 rfl rfl ?_
  refine g_iload_n V dJ7_copyOfRangeByte_39247_15 rfl rfl ?_
  refine g_aload V dJ7_copyOfRangeByte_39247_16 rfl rfl ?_
  refine g_iconst V (Int32.ofInt 0) dJ7_copyOfRangeByte_39247_18 rfl rfl ?_
  refine g_aload_n V dJ7_copyOfRangeByte_39247_19 rfl rfl ?_
  obtain ⟨t9, vs, ha, ht, hw⟩ := hw
  refine gi_arraylength (t0 := 101) V (by simp [gaT]) ha ht dJ7_copyOfRangeByte_39247_20 rfl ?_
  generalize (vs.length : Int) = r7 at hw ⊢
  refine g_iload_n V dJ7_copyOfRangeByte_39247_21 rfl rfl ?_
  refine gi_isub V dJ7_copyOfRangeByte_39247_22 rfl ?_
  refine g_iload_n V dJ7_copyOfRangeByte_39247_23 rfl rfl ?_
  obtain ⟨hx0, hx1, hw⟩ := hw
  refine gi_mmin V ww_4_90 ww_2_4 ww_1_13 ww_2_5 (by decide) (by decide) (ga_cat rfl) hx0 hx1 dJ7_copyOfRangeByte_39247_24 rfl ?_
  obtain ⟨hne, vs, ws, ha0, ha1, z1, z2, z3, z4, z5, z6, z7, hfit, hw⟩ := hw
  refine g_acopy V ww_4_91 ww_4_93 ww_4_92 ww_1_23 (by decide) (by decide) (ga_cat rfl) hne ha0 ha1 z1 z2 z3 z4 z5 z6 z7 hfit dJ7_copyOfRangeByte_39247_27 rfl (fun us u1 u2 => ?_)
  have hw := hw us u1 u2
  generalize gaUp hp4 o3 _ = hp8 at hw ⊢
  refine g_aload V dJ7_copyOfRangeByte_39247_30 rfl rfl ?_
  exact g_aret V rfl (by first | exact Or.inl ⟨_, rfl⟩ | exact Or.inr ⟨_, rfl⟩) dJ7_copyOfRangeByte_39247_32 ⟨_, rfl, hw⟩
def w_J7_copyOfRange_39247_J10 (Q : Nat → gaH → Prop) (v0 : Nat) (v1 : Int) (v2 : Int) (h : gaH) (kc ks : Nat) : Prop := gCall 1 64 kc ks (fun c3 s4 => w_J7_copyOfRangeByte_39247 v0 v1 v2 h (fun r2 hp1 => Q r2 hp1))
def w_J7_copyOfRange_39247 (a0 : Nat) (a1 : Int) (a2 : Int) (h : gaH) (Q : Nat → gaH → Prop) : Prop := gR a1 ∧ (if a1 = 0 then gAL h a0 101 (fun r1 => gR a2 ∧ gR r1 ∧ (if a2 = r1 then gCL h a0 101 2 134 (fun o2 hp3 c4 s5 => gHas hp3 o2 101 ∧ (Q o2 hp3)) else w_J7_copyOfRange_39247_J10 Q a0 a1 a2 h 2 134)) else w_J7_copyOfRange_39247_J10 Q a0 a1 a2 h 2 134)
abbrev rm_J7_copyOfRange_39247 : Room := { frames := 3, cells := 2, slots := 134, locals := 84 }
theorem hd_J7_copyOfRange_39247 : (yJ7_copyOfRange_39247.cls ≠ "java/lang/invoke/MethodHandle" ∧ yJ7_copyOfRange_39247.cls ≠ "java/lang/invoke/VarHandle" ∧ (parseMethodDescriptor yJ7_copyOfRange_39247.desc).map (fun d => d.parameters.length) = some 3) := by decide +kernel
theorem k_J7_copyOfRange_39247 {l : Launch} (hst : l.stackTraces = false) {G : gaG} {X : String → gaH → Prop} {a0 : Nat} {a1 : Int} {a2 : Int} {h : gaH} {Q : Nat → gaH → Prop} (hw : w_J7_copyOfRange_39247 a0 a1 a2 h Q) : gaC l G yJ7_copyOfRange_39247 (gaM yJ7_copyOfRange_39247 cJ7_copyOfRange_39247 3 ((some (.array .byte)))) rm_J7_copyOfRange_39247 [.ref a0, gi a1, gi a2] h (gQa Q) X := by
  refine g_start (lv := [some (.ref a0), some (gi a1), some (gi a2)]) hpl_RJ7 hst (Nat.le_of_ble_eq_true rfl) (gaArgs_pad (z := 0) rfl) ww_4_176 ?_
  intro p e s m args below meth c V hT
  have h_J7_copyOfRange_39247_J10 : ∀ (v0 : Nat) (v1 : Int) (v2 : Int) (h : gaH) (kc ks : Nat), w_J7_copyOfRange_39247_J10 Q v0 v1 v2 h kc ks → gaP p l e rm_J7_copyOfRange_39247 s m args below meth c G 3 (gaZ below G (gQa Q) X args s rm_J7_copyOfRange_39247) 10 [some (.ref v0), some (gi v1), some (gi v2)] [] h kc ks := by
    intro v0 v1 v2 h kc ks hw
    unfold w_J7_copyOfRange_39247_J10 at hw
    refine g_aload_n V dJ7_copyOfRange_39247_10 rfl rfl ?_
    refine g_iload_n V dJ7_copyOfRange_39247_11 rfl rfl ?_
    refine g_iload_n V dJ7_copyOfRange_39247_12 rfl rfl ?_
    obtain ⟨hk, hj, c3, s4, ec, es, hw⟩ := hw
    refine g_callS (st := []) V (k_J7_copyOfRangeByte_39247 hst hw) ww_4_177 ww_4_178 ww_1_22 ww_4_179 hd_J7_copyOfRangeByte_39247 ⟨by decide, by decide⟩ rfl rfl (ga_cat rfl) dJ7_copyOfRange_39247_13 hk hj rfl (gaX_all hT V) (ga_ka (fun r2 hp1 hw => ?_))
    refine ga_re ec es ?_
    exact g_aret V rfl (by first | exact Or.inl ⟨_, rfl⟩ | exact Or.inr ⟨_, rfl⟩) dJ7_copyOfRange_39247_16 ⟨_, rfl, hw⟩
  show gaP p l e rm_J7_copyOfRange_39247 s m args below meth c G 3 (gaZ below G (gQa Q) X args s rm_J7_copyOfRange_39247) 0 [some (.ref a0), some (gi a1), some (gi a2)] [] h 2 134
  unfold w_J7_copyOfRange_39247 at hw
  refine g_iload_n V dJ7_copyOfRange_39247_0 rfl rfl ?_
  obtain ⟨hx0, hw⟩ := hw
  refine gi_if_ne V dJ7_copyOfRange_39247_1 rfl rfl hx0 (fun q => ?_) (fun q => ?_)
  · have hw := ga_f q hw
    exact h_J7_copyOfRange_39247_J10 a0 a1 a2 h 2 134 hw
  · have hw := ga_t q hw
    refine g_iload_n V dJ7_copyOfRange_39247_4 rfl rfl ?_
    refine g_aload_n V dJ7_copyOfRange_39247_5 rfl rfl ?_
    obtain ⟨t9, vs, ha, ht, hw⟩ := hw
    refine gi_arraylength (t0 := 101) V (by simp [gaT]) ha ht dJ7_copyOfRange_39247_6 rfl ?_
    generalize (vs.length : Int) = r1 at hw ⊢
    obtain ⟨hx0, hx1, hw⟩ := hw
    refine gi_icmp_eq V dJ7_copyOfRange_39247_7 rfl rfl hx0 hx1 (fun q => ?_) (fun q => ?_)
    · have hw := ga_t q hw
      refine g_aload_n V dJ7_copyOfRange_39247_17 rfl rfl ?_
      obtain ⟨vs, ha, hfit, hk, hj, hw⟩ := hw
      refine g_clone V ww_4_83 ww_4_84 ww_4_85 ww_4_86 ww_4_87 gn_25 (by decide) (by decide) (ga_cat rfl) ha hfit dJ7_copyOfRange_39247_18 rfl hk hj (fun o2 hf => ?_)
      obtain ⟨c4, s5, ec, es, hw⟩ := hw o2 hf
      refine ga_re ec es ?_
      generalize gaUp h o2 _ = hp3 at hw ⊢
      obtain ⟨hb, hw⟩ := hw
      obtain ⟨fb, hb⟩ := hb
      refine g_castB V ww_4_89 hb dJ7_copyOfRange_39247_21 rfl ?_
      exact g_aret V rfl (by first | exact Or.inl ⟨_, rfl⟩ | exact Or.inr ⟨_, rfl⟩) dJ7_copyOfRange_39247_24 ⟨_, rfl, hw⟩
    · have hw := ga_f q hw
      exact h_J7_copyOfRange_39247_J10 a0 a1 a2 h 2 134 hw
def w_J0_init_db425_J79 (G : gaG) (Q : gaH → Prop) (v0 : Nat) (v3 : Nat) (v4 : Int) (h : gaH) (kc ks : Nat) : Prop := gPF h v0 0 1 (gi 1) (fun hp1 => gCall 2 134 kc ks (fun c4 s5 => w_J7_copyOfRange_39247 v3 0 (gShl v4 1) hp1 (fun r3 hp2 => gPF hp2 v0 0 0 (.ref r3) (fun hp6 => Q hp6))))
def w_J0_init_db425 (G : gaG) (a0 : Nat) (a1 : Nat) (h : gaH) (Q : gaH → Prop) : Prop := gHas h a1 1 ∧ w_J5_getValue_6d5f1 a1 h (fun r2 hp1 => gHas hp1 a1 1 ∧ w_J4_length_8abf5 a1 hp1 (fun r4 hp3 => gHas hp3 a1 1 ∧ w_J5_isLatin1_aae02 G a1 hp3 (fun r6 hp5 => gR r6 ∧ (if r6 = 0 then gI hp5 a1 1 2 (fun r7 => gR r7 ∧ (if r7 = 0 then w_J0_init_db425_J79 G Q a0 r2 r4 hp5 4 268 else False)) else gPF hp5 a0 0 1 (gi 0) (fun hp8 => gCall 2 134 4 268 (fun c11 s12 => w_J7_copyOfRange_39247 r2 0 r4 hp8 (fun r10 hp9 => gPF hp9 a0 0 0 (.ref r10) (fun hp13 => Q hp13))))))))
abbrev rm_J0_init_db425 : Room := { frames := 4, cells := 4, slots := 268, locals := 106 }
theorem hd_J0_init_db425 : (yJ0_init_db425.cls ≠ "java/lang/invoke/MethodHandle" ∧ yJ0_init_db425.cls ≠ "java/lang/invoke/VarHandle" ∧ (parseMethodDescriptor yJ0_init_db425.desc).map (fun d => d.parameters.length) = some 2) := by decide +kernel
theorem k_J0_init_db425 {l : Launch} (hst : l.stackTraces = false) {G : gaG} {X : String → gaH → Prop} {a0 : Nat} {a1 : Nat} {h : gaH} {Q : gaH → Prop} (hw : w_J0_init_db425 G a0 a1 h Q) : gaC l G yJ0_init_db425 (gaM yJ0_init_db425 cJ0_init_db425 5 ((none : Option Jvm.ClassFile.FieldType))) rm_J0_init_db425 [.ref a0, .ref a1, .null] h (gQv Q) X := by
  refine g_start (lv := [some (.ref a0), some (.ref a1), some (.null), none, none]) hpl_RJ0 hst (Nat.le_of_ble_eq_true rfl) (gaArgs_pad (z := 2) rfl) ww_4_158 ?_
  intro p e s m args below meth c V hT
  have h_J0_init_db425_J79 : ∀ (v0 : Nat) (v3 : Nat) (v4 : Int) (h : gaH) (kc ks : Nat), w_J0_init_db425_J79 G Q v0 v3 v4 h kc ks → gaP p l e rm_J0_init_db425 s m args below meth c G 5 (gaZ below G (gQv Q) X args s rm_J0_init_db425) 79 [some (.ref v0), none, none, some (.ref v3), some (gi v4)] [] h kc ks := by
    intro v0 v3 v4 h kc ks hw
    unfold w_J0_init_db425_J79 at hw
    refine g_aload_n V dJ0_init_db425_79 rfl rfl ?_
    refine g_iconst V (Int32.ofInt 1) dJ0_init_db425_80 rfl rfl ?_
    obtain ⟨fs, ha, hl, hw⟩ := hw
    refine g_putF (C := RJ0) (T := TJ0) (N := 4) V 1 tyJ0 tyJ0_ok nmJ0 rfl hin_RJ0 (by decide) (by decide) ww_5_35 rfl rfl rfl rfl (by decide) rfl ha hl dJ0_init_db425_81 rfl ?_
    generalize gaUp h v0 _ = hp1 at hw ⊢
    refine g_aload_n V dJ0_init_db425_84 rfl rfl ?_
    refine g_aload_n V dJ0_init_db425_85 rfl rfl ?_
    refine g_iconst V (Int32.ofInt 0) dJ0_init_db425_86 rfl rfl ?_
    refine g_iload V dJ0_init_db425_87 rfl rfl ?_
    refine g_iconst V (Int32.ofInt 1) dJ0_init_db425_89 rfl rfl ?_
    refine gi_ishl V dJ0_init_db425_90 rfl ?_
    obtain ⟨hk, hj, c4, s5, ec, es, hw⟩ := hw
    refine g_callS (st := [.ref v0]) V (k_J7_copyOfRange_39247 hst hw) ww_4_174 ww_4_175 ww_1_22 ww_4_176 hd_J7_copyOfRange_39247 ⟨by decide, by decide⟩ rfl rfl (ga_cat rfl) dJ0_init_db425_91 hk hj rfl (gaX_all hT V) (ga_ka (fun r3 hp2 hw => ?_))
    refine ga_re ec es ?_
    obtain ⟨fs, ha, hl, hw⟩ := hw
    refine g_putF (C := RJ0) (T := TJ0) (N := 4) V 0 tyJ0 tyJ0_ok nmJ0 rfl hin_RJ0 (by decide) (by decide) ww_5_34 rfl rfl rfl rfl rfl rfl ha hl dJ0_init_db425_94 rfl ?_
    generalize gaUp hp2 v0 _ = hp6 at hw ⊢
    exact g_vret V rfl dJ0_init_db425_97 ⟨rfl, hw⟩
  show gaP p l e rm_J0_init_db425 s m args below meth c G 5 (gaZ below G (gQv Q) X args s rm_J0_init_db425) 0 [some (.ref a0), some (.ref a1), some (.null), none, none] [] h 4 268
  unfold w_J0_init_db425 at hw
  refine g_aload_n V dJ0_init_db425_0 rfl rfl ?_
  refine g_objInit V ww_4_159 ww_1_32 ww_1_33 dJ0_init_db425_1 (by decide) (by decide) (ga_cat rfl) rfl ?_
  refine g_aload_n V dJ0_init_db425_4 rfl rfl ?_
  obtain ⟨hb, hw⟩ := hw
  obtain ⟨fb, hb⟩ := hb
  refine g_callU (C := RJ4) (T := TJ4) (N := 4) (st := []) V (k_J5_getValue_6d5f1 hst hw) ww_4_160 ww_4_162 ww_4_161 ww_4_163 ww_1_17 ww_4_164 rfl hdo_J5_getValue_6d5f1 ⟨by decide, by decide⟩ rfl (by decide) hb rfl rfl (ga_cat rfl) dJ0_init_db425_5 (Nat.zero_le _) (Nat.zero_le _) rfl (gaX_all hT V) (ga_ka (fun r2 hp1 hw => ?_))
  refine g_astore_n (lv2 := [some (.ref a0), some (.ref a1), some (.null), some (.ref r2), none]) V dJ0_init_db425_8 (by decide) rfl rfl rfl ?_
  refine g_aload_n V dJ0_init_db425_9 rfl rfl ?_
  obtain ⟨hb, hw⟩ := hw
  obtain ⟨fb, hb⟩ := hb
  refine g_callO (C := RJ4) (T := TJ4) (N := 4) (st := []) V (k_J4_length_8abf5 hst hw) ww_4_165 ww_4_167 ww_4_166 ww_4_169 ww_4_168 ww_1_18 ww_4_170 ww_4_172 hdo_J4_length_8abf5 ⟨by decide, by decide⟩ rfl (by decide) hb rfl rfl (ga_cat rfl) dJ0_init_db425_10 (Nat.zero_le _) (Nat.zero_le _) rfl (gaX_all hT V) (ga_ki (fun r4 hp3 hw => ?_))
  refine g_istore (lv2 := [some (.ref a0), some (.ref a1), some (.null), some (.ref r2), some (gi r4)]) V dJ0_init_db425_13 (by decide) rfl rfl rfl ?_
  refine g_aload_n V dJ0_init_db425_15 rfl rfl ?_
  obtain ⟨hb, hw⟩ := hw
  obtain ⟨fb, hb⟩ := hb
  refine g_callU (C := RJ4) (T := TJ4) (N := 4) (st := []) V (k_J5_isLatin1_aae02 hst hw) ww_4_173 ww_4_96 ww_4_95 ww_4_97 ww_1_17 ww_4_98 rfl hdo_J5_isLatin1_aae02 ⟨by decide, by decide⟩ rfl (by decide) hb rfl rfl (ga_cat rfl) dJ0_init_db425_16 (Nat.zero_le _) (Nat.zero_le _) rfl (gaX_all hT V) (ga_ki (fun r6 hp5 hw => ?_))
  obtain ⟨hx0, hw⟩ := hw
  refine gi_if_eq V dJ0_init_db425_19 rfl rfl hx0 (fun q => ?_) (fun q => ?_)
  · have hw := ga_t q hw
    refine g_gets V V.z1 ww_5_3 dJ0_init_db425_41 rfl ?_
    refine gi_if_eq V dJ0_init_db425_44 rfl rfl (by decide) (fun q => ?_) (fun q => ?_)
    · exact absurd q (by decide)
    · refine g_aload_n V dJ0_init_db425_47 rfl rfl ?_
      obtain ⟨fs, r7, ha, hv, hw⟩ := hw
      refine g_get (C := RJ4) (T := TJ4) (N := 4) V 2 rfl hin_RJ4 (by decide) (by decide) ww_4_45 rfl ha hv dJ0_init_db425_48 rfl ?_
      obtain ⟨hx0, hw⟩ := hw
      refine gi_if_eq V dJ0_init_db425_51 rfl rfl hx0 (fun q => ?_) (fun q => ?_)
      · have hw := ga_t q hw
        refine g_less (bs := [true, false, false, true, true]) (lv2 := [some (.ref a0), none, none, some (.ref r2), some (gi r4)]) rfl ?_
        exact h_J0_init_db425_J79 a0 r2 r4 hp5 4 268 hw
      · have hw := ga_f q hw
        refine g_aload_n V dJ0_init_db425_54 rfl rfl ?_
        refine g_aload_n V dJ0_init_db425_55 rfl rfl ?_
        refine g_iconst V (Int32.ofInt 0) dJ0_init_db425_56 rfl rfl ?_
        refine g_iload V dJ0_init_db425_57 rfl rfl ?_
        exact hw.elim
  · have hw := ga_f q hw
    refine g_aload_n V dJ0_init_db425_22 rfl rfl ?_
    refine g_iconst V (Int32.ofInt 0) dJ0_init_db425_23 rfl rfl ?_
    obtain ⟨fs, ha, hl, hw⟩ := hw
    refine g_putF (C := RJ0) (T := TJ0) (N := 4) V 1 tyJ0 tyJ0_ok nmJ0 rfl hin_RJ0 (by decide) (by decide) ww_5_35 rfl rfl rfl rfl (by decide) rfl ha hl dJ0_init_db425_24 rfl ?_
    generalize gaUp hp5 a0 _ = hp8 at hw ⊢
    refine g_aload_n V dJ0_init_db425_27 rfl rfl ?_
    refine g_aload_n V dJ0_init_db425_28 rfl rfl ?_
    refine g_iconst V (Int32.ofInt 0) dJ0_init_db425_29 rfl rfl ?_
    refine g_iload V dJ0_init_db425_30 rfl rfl ?_
    obtain ⟨hk, hj, c11, s12, ec, es, hw⟩ := hw
    refine g_callS (st := [.ref a0]) V (k_J7_copyOfRange_39247 hst hw) ww_4_174 ww_4_175 ww_1_22 ww_4_176 hd_J7_copyOfRange_39247 ⟨by decide, by decide⟩ rfl rfl (ga_cat rfl) dJ0_init_db425_32 hk hj rfl (gaX_all hT V) (ga_ka (fun r10 hp9 hw => ?_))
    refine ga_re ec es ?_
    obtain ⟨fs, ha, hl, hw⟩ := hw
    refine g_putF (C := RJ0) (T := TJ0) (N := 4) V 0 tyJ0 tyJ0_ok nmJ0 rfl hin_RJ0 (by decide) (by decide) ww_5_34 rfl rfl rfl rfl rfl rfl ha hl dJ0_init_db425_35 rfl ?_
    generalize gaUp hp9 a0 _ = hp13 at hw ⊢
    refine g_goto V dJ0_init_db425_38 rfl ?_
    exact g_vret V rfl dJ0_init_db425_97 ⟨rfl, hw⟩
def w_J0_init_81219 (G : gaG) (a0 : Nat) (a1 : Nat) (h : gaH) (Q : gaH → Prop) : Prop := gCall 4 268 4 268 (fun c3 s4 => w_J0_init_db425 G a0 a1 h (fun hp1 => Q hp1))
abbrev rm_J0_init_81219 : Room := { frames := 5, cells := 4, slots := 268, locals := 130 }
theorem hd_J0_init_81219 : (yJ0_init_81219.cls ≠ "java/lang/invoke/MethodHandle" ∧ yJ0_init_81219.cls ≠ "java/lang/invoke/VarHandle" ∧ (parseMethodDescriptor yJ0_init_81219.desc).map (fun d => d.parameters.length) = some 1) := by decide +kernel
theorem k_J0_init_81219 {l : Launch} (hst : l.stackTraces = false) {G : gaG} {X : String → gaH → Prop} {a0 : Nat} {a1 : Nat} {h : gaH} {Q : gaH → Prop} (hw : w_J0_init_81219 G a0 a1 h Q) : gaC l G yJ0_init_81219 (gaM yJ0_init_81219 cJ0_init_81219 2 ((none : Option Jvm.ClassFile.FieldType))) rm_J0_init_81219 [.ref a0, .ref a1] h (gQv Q) X := by
  refine g_start (lv := [some (.ref a0), some (.ref a1)]) hpl_RJ0 hst (Nat.le_of_ble_eq_true rfl) (gaArgs_pad (z := 0) rfl) ww_4_155 ?_
  intro p e s m args below meth c V hT
  show gaP p l e rm_J0_init_81219 s m args below meth c G 2 (gaZ below G (gQv Q) X args s rm_J0_init_81219) 0 [some (.ref a0), some (.ref a1)] [] h 4 268
  unfold w_J0_init_81219 at hw
  refine g_aload_n V dJ0_init_81219_0 rfl rfl ?_
  refine g_aload_n V dJ0_init_81219_1 rfl rfl ?_
  refine g_aconst_null V dJ0_init_81219_2 rfl ?_
  obtain ⟨hk, hj, c3, s4, ec, es, hw⟩ := hw
  refine g_callI (st := []) V (k_J0_init_db425 hst hw) ww_4_156 ww_4_157 ww_1_19 ww_4_158 rfl hd_J0_init_db425 ⟨by decide, by decide⟩ rfl rfl (ga_cat rfl) dJ0_init_81219_3 hk hj rfl (gaX_all hT V) (ga_kv (fun hp1 hw => ?_))
  refine ga_re ec es ?_
  exact g_vret V rfl dJ0_init_81219_6 ⟨rfl, hw⟩
def w_J4_toString_0e30d (G : gaG) (a0 : Nat) (h : gaH) (Q : Nat → gaH → Prop) : Prop := gNO h 0 4 ([.null, gi 0, gi 0, gi 0]) 5 272 (fun o1 hp2 c3 s4 => gCall 4 268 c3 s4 (fun c7 s8 => w_J0_init_81219 G o1 a0 hp2 (fun hp5 => Q o1 hp5)))
abbrev rm_J4_toString_0e30d : Room := { frames := 6, cells := 5, slots := 272, locals := 151 }
theorem hd_J4_toString_0e30d : yJ4_toString_0e30d.cls = RJ4 ∧ (yJ4_toString_0e30d.cls ≠ "java/lang/invoke/MethodHandle" ∧ yJ4_toString_0e30d.cls ≠ "java/lang/invoke/VarHandle" ∧ (parseMethodDescriptor yJ4_toString_0e30d.desc).map (fun d => d.parameters.length) = some 0) := by decide +kernel
theorem k_J4_toString_0e30d {l : Launch} (hst : l.stackTraces = false) {G : gaG} {X : String → gaH → Prop} {a0 : Nat} {h : gaH} {Q : Nat → gaH → Prop} (hw : w_J4_toString_0e30d G a0 h Q) : gaC l G yJ4_toString_0e30d (gaM yJ4_toString_0e30d cJ4_toString_0e30d 1 ((some (.object "java/lang/String")))) rm_J4_toString_0e30d [.ref a0] h (gQa Q) X := by
  refine g_start (lv := [some (.ref a0)]) hpl_RJ4 hst (Nat.le_of_ble_eq_true rfl) (gaArgs_pad (z := 0) rfl) ww_4_150 ?_
  intro p e s m args below meth c V hT
  show gaP p l e rm_J4_toString_0e30d s m args below meth c G 1 (gaZ below G (gQa Q) X args s rm_J4_toString_0e30d) 0 [some (.ref a0)] [] h 5 272
  unfold w_J4_toString_0e30d at hw
  obtain ⟨hk, hj, hw⟩ := hw
  refine g_new (ci := 0) (C := RJ0) (T := TJ0) (N := 4) (fs := [.null, gi 0, gi 0, gi 0]) V tyJ0 tyJ0_ok rfl hin_RJ0 (by decide) ww_4_151 ww_4_152 ww_1_19 hdf_RJ0 dJ4_toString_0e30d_0 rfl hk hj (fun o1 hf => ?_)
  obtain ⟨c3, s4, ec, es, hw⟩ := hw o1 hf
  refine ga_re ec es ?_
  generalize gaUp h o1 _ = hp2 at hw ⊢
  refine g_dup V dJ4_toString_0e30d_3 rfl rfl ?_
  refine g_aload_n V dJ4_toString_0e30d_4 rfl rfl ?_
  obtain ⟨hk, hj, c7, s8, ec, es, hw⟩ := hw
  refine g_callI (st := [.ref o1]) V (k_J0_init_81219 hst hw) ww_4_153 ww_4_154 ww_1_19 ww_4_155 rfl hd_J0_init_81219 ⟨by decide, by decide⟩ rfl rfl (ga_cat rfl) dJ4_toString_0e30d_5 hk hj rfl (gaX_all hT V) (ga_kv (fun hp5 hw => ?_))
  refine ga_re ec es ?_
  exact g_aret V rfl (by first | exact Or.inl ⟨_, rfl⟩ | exact Or.inr ⟨_, rfl⟩) dJ4_toString_0e30d_8 ⟨_, rfl, hw⟩
def w_J6_stringSize_0f7a4_L16 (Q : Int → gaH → Prop) : Nat → (Int → Int → Int → Int → gaH → Prop)
  | 0 => fun _ _ _ _ _ => False
  | n + 1 => fun v0 v1 v2 v3 h => gR v3 ∧ (if 10 ≤ v3 then Q (10 + v1) h else gR v0 ∧ gR v2 ∧ (if v0 ≤ v2 then w_J6_stringSize_0f7a4_L16 Q n v0 v1 (10 * v2) (v3 + 1) h else Q (v3 + v1) h))
def w_J6_stringSize_0f7a4 (a0 : Int) (h : gaH) (Q : Int → gaH → Prop) : Prop := gR a0 ∧ (if a0 < 0 then ∃ z, w_J6_stringSize_0f7a4_L16 Q z a0 1 (-10) 1 h else ∃ z, w_J6_stringSize_0f7a4_L16 Q z (-a0) 0 (-10) 1 h)
abbrev rm_J6_stringSize_0f7a4 : Room := { frames := 0, cells := 0, slots := 0, locals := 0 }
theorem hd_J6_stringSize_0f7a4 : (yJ6_stringSize_0f7a4.cls ≠ "java/lang/invoke/MethodHandle" ∧ yJ6_stringSize_0f7a4.cls ≠ "java/lang/invoke/VarHandle" ∧ (parseMethodDescriptor yJ6_stringSize_0f7a4.desc).map (fun d => d.parameters.length) = some 1) := by decide +kernel
theorem k_J6_stringSize_0f7a4 {l : Launch} (hst : l.stackTraces = false) {G : gaG} {X : String → gaH → Prop} {a0 : Int} {h : gaH} {Q : Int → gaH → Prop} (hw : w_J6_stringSize_0f7a4 a0 h Q) : gaC l G yJ6_stringSize_0f7a4 (gaM yJ6_stringSize_0f7a4 cJ6_stringSize_0f7a4 4 ((some .int))) rm_J6_stringSize_0f7a4 [gi a0] h (gQi Q) X := by
  refine g_start (lv := [some (gi a0), none, none, none]) hpl_RJ6 hst (Nat.le_of_ble_eq_true rfl) (gaArgs_pad (z := 3) rfl) ww_4_195 ?_
  intro p e s m args below meth c V hT
  have h_J6_stringSize_0f7a4_L16 : ∀ (n : Nat), ∀ (v0 : Int) (v1 : Int) (v2 : Int) (v3 : Int) (h : gaH), w_J6_stringSize_0f7a4_L16 Q n v0 v1 v2 v3 h → gaP p l e rm_J6_stringSize_0f7a4 s m args below meth c G 4 (gaZ below G (gQi Q) X args s rm_J6_stringSize_0f7a4) 16 [some (gi v0), some (gi v1), some (gi v2), some (gi v3)] [] h 0 0 := by
    intro n
    induction n with
    | zero =>
      intro v0 v1 v2 v3 h hw
      exact hw.elim
    | succ n ih =>
      intro v0 v1 v2 v3 h hw
      unfold w_J6_stringSize_0f7a4_L16 at hw
      refine g_iload_n V dJ6_stringSize_0f7a4_16 rfl rfl ?_
      refine g_bipush V (Int32.ofInt 10) dJ6_stringSize_0f7a4_17 rfl rfl ?_
      obtain ⟨hx0, hw⟩ := hw
      refine gi_icmp_ge V dJ6_stringSize_0f7a4_19 rfl rfl hx0 (by decide) (fun q => ?_) (fun q => ?_)
      · have hw := ga_t q hw
        refine g_bipush V (Int32.ofInt 10) dJ6_stringSize_0f7a4_42 rfl rfl ?_
        refine g_iload_n V dJ6_stringSize_0f7a4_44 rfl rfl ?_
        refine gi_iadd V dJ6_stringSize_0f7a4_45 rfl ?_
        exact g_iret V rfl rfl dJ6_stringSize_0f7a4_46 ⟨_, rfl, hw⟩
      · have hw := ga_f q hw
        refine g_iload_n V dJ6_stringSize_0f7a4_22 rfl rfl ?_
        refine g_iload_n V dJ6_stringSize_0f7a4_23 rfl rfl ?_
        obtain ⟨hx0, hx1, hw⟩ := hw
        refine gi_icmp_le V dJ6_stringSize_0f7a4_24 rfl rfl hx0 hx1 (fun q => ?_) (fun q => ?_)
        · have hw := ga_t q hw
          refine g_bipush V (Int32.ofInt 10) dJ6_stringSize_0f7a4_31 rfl rfl ?_
          refine g_iload_n V dJ6_stringSize_0f7a4_33 rfl rfl ?_
          refine gi_imul V dJ6_stringSize_0f7a4_34 rfl ?_
          refine g_istore_n (lv2 := [some (gi v0), some (gi v1), some (gi (10 * v2)), some (gi v3)]) V dJ6_stringSize_0f7a4_35 (by decide) rfl rfl rfl ?_
          refine gi_iinc (lv2 := [some (gi v0), some (gi v1), some (gi (10 * v2)), some (gi (v3 + 1))]) V dJ6_stringSize_0f7a4_36 (by decide) rfl rfl rfl rfl ?_
          refine g_goto V dJ6_stringSize_0f7a4_39 rfl ?_
          exact ih v0 v1 (10 * v2) (v3 + 1) h hw
        · have hw := ga_f q hw
          refine g_iload_n V dJ6_stringSize_0f7a4_27 rfl rfl ?_
          refine g_iload_n V dJ6_stringSize_0f7a4_28 rfl rfl ?_
          refine gi_iadd V dJ6_stringSize_0f7a4_29 rfl ?_
          exact g_iret V rfl rfl dJ6_stringSize_0f7a4_30 ⟨_, rfl, hw⟩
  unfold w_J6_stringSize_0f7a4 at hw
  refine g_iconst V (Int32.ofInt 1) dJ6_stringSize_0f7a4_0 rfl rfl ?_
  refine g_istore_n (lv2 := [some (gi a0), some (gi 1), none, none]) V dJ6_stringSize_0f7a4_1 (by decide) rfl rfl rfl ?_
  refine g_iload_n V dJ6_stringSize_0f7a4_2 rfl rfl ?_
  obtain ⟨hx0, hw⟩ := hw
  refine gi_if_lt V dJ6_stringSize_0f7a4_3 rfl rfl hx0 (fun q => ?_) (fun q => ?_)
  · have hw := ga_t q hw
    refine g_bipush V (Int32.ofInt (-10)) dJ6_stringSize_0f7a4_11 rfl rfl ?_
    refine g_istore_n (lv2 := [some (gi a0), some (gi 1), some (gi (-10)), none]) V dJ6_stringSize_0f7a4_13 (by decide) rfl rfl rfl ?_
    refine g_iconst V (Int32.ofInt 1) dJ6_stringSize_0f7a4_14 rfl rfl ?_
    refine g_istore_n (lv2 := [some (gi a0), some (gi 1), some (gi (-10)), some (gi 1)]) V dJ6_stringSize_0f7a4_15 (by decide) rfl rfl rfl ?_
    obtain ⟨z, hw⟩ := hw
    exact h_J6_stringSize_0f7a4_L16 z a0 1 (-10) 1 h hw
  · have hw := ga_f q hw
    refine g_iconst V (Int32.ofInt 0) dJ6_stringSize_0f7a4_6 rfl rfl ?_
    refine g_istore_n (lv2 := [some (gi a0), some (gi 0), none, none]) V dJ6_stringSize_0f7a4_7 (by decide) rfl rfl rfl ?_
    refine g_iload_n V dJ6_stringSize_0f7a4_8 rfl rfl ?_
    refine gi_ineg V dJ6_stringSize_0f7a4_9 rfl ?_
    refine g_istore_n (lv2 := [some (gi (-a0)), some (gi 0), none, none]) V dJ6_stringSize_0f7a4_10 (by decide) rfl rfl rfl ?_
    refine g_bipush V (Int32.ofInt (-10)) dJ6_stringSize_0f7a4_11 rfl rfl ?_
    refine g_istore_n (lv2 := [some (gi (-a0)), some (gi 0), some (gi (-10)), none]) V dJ6_stringSize_0f7a4_13 (by decide) rfl rfl rfl ?_
    refine g_iconst V (Int32.ofInt 1) dJ6_stringSize_0f7a4_14 rfl rfl ?_
    refine g_istore_n (lv2 := [some (gi (-a0)), some (gi 0), some (gi (-10)), some (gi 1)]) V dJ6_stringSize_0f7a4_15 (by decide) rfl rfl rfl ?_
    obtain ⟨z, hw⟩ := hw
    exact h_J6_stringSize_0f7a4_L16 z (-a0) 0 (-10) 1 h hw
def w_J6_getChars_ba4f3_J104 (G : gaG) (Q : Int → gaH → Prop) (v2 : Nat) (v5 : Int) (v6 : Int) (h : gaH) : Prop := gR v6 ∧ (if v6 = 0 then Q v5 h else gSI h v2 101 (v5 + (-1)) (gi 45) (fun hp1 => Q (v5 + (-1)) hp1))
def w_J6_getChars_ba4f3_L22 (G : gaG) (Q : Int → gaH → Prop) : Nat → (Int → Nat → Int → Int → gaH → Prop)
  | 0 => fun _ _ _ _ _ => False
  | n + 1 => fun v0 v2 v5 v6 h => gR v0 ∧ (if (-100) < v0 then gLI h (G.2.2.2 1) 101 (-v0) (fun r1 => narrow .byte (gi r1) = gi r1 ∧ gSI h v2 101 (v5 + (-1)) (gi r1) (fun hp2 => gR v0 ∧ (if (-9) ≤ v0 then w_J6_getChars_ba4f3_J104 G Q v2 (v5 + (-1)) v6 hp2 else gLI hp2 (G.2.2.2 2) 101 (-v0) (fun r3 => narrow .byte (gi r3) = gi r3 ∧ gSI hp2 v2 101 ((v5 + (-1)) + (-1)) (gi r3) (fun hp4 => w_J6_getChars_ba4f3_J104 G Q v2 ((v5 + (-1)) + (-1)) v6 hp4))))) else gLI h (G.2.2.2 1) 101 (((gDiv v0 100) * 100) - v0) (fun r5 => narrow .byte (gi r5) = gi r5 ∧ gSI h v2 101 (v5 + (-1)) (gi r5) (fun hp6 => gLI hp6 (G.2.2.2 2) 101 (((gDiv v0 100) * 100) - v0) (fun r7 => narrow .byte (gi r7) = gi r7 ∧ gSI hp6 v2 101 ((v5 + (-1)) + (-1)) (gi r7) (fun hp8 => w_J6_getChars_ba4f3_L22 G Q n (gDiv v0 100) v2 ((v5 + (-1)) + (-1)) v6 hp8)))))
def w_J6_getChars_ba4f3_J12 (G : gaG) (Q : Int → gaH → Prop) (v0 : Int) (v2 : Nat) (v5 : Int) (t0 : Int) (h : gaH) : Prop := gR t0 ∧ (if t0 = 0 then ∃ z, w_J6_getChars_ba4f3_L22 G Q z (-v0) v2 v5 t0 h else ∃ z, w_J6_getChars_ba4f3_L22 G Q z v0 v2 v5 t0 h)
def w_J6_getChars_ba4f3 (G : gaG) (a0 : Int) (a1 : Int) (a2 : Nat) (h : gaH) (Q : Int → gaH → Prop) : Prop := gR a0 ∧ (if 0 ≤ a0 then w_J6_getChars_ba4f3_J12 G Q a0 a2 a1 0 h else w_J6_getChars_ba4f3_J12 G Q a0 a2 a1 1 h)
abbrev rm_J6_getChars_ba4f3 : Room := { frames := 0, cells := 0, slots := 0, locals := 0 }
theorem hd_J6_getChars_ba4f3 : (yJ6_getChars_ba4f3.cls ≠ "java/lang/invoke/MethodHandle" ∧ yJ6_getChars_ba4f3.cls ≠ "java/lang/invoke/VarHandle" ∧ (parseMethodDescriptor yJ6_getChars_ba4f3.desc).map (fun d => d.parameters.length) = some 3) := by decide +kernel
theorem k_J6_getChars_ba4f3 {l : Launch} (hst : l.stackTraces = false) {G : gaG} {X : String → gaH → Prop} {a0 : Int} {a1 : Int} {a2 : Nat} {h : gaH} {Q : Int → gaH → Prop} (hw : w_J6_getChars_ba4f3 G a0 a1 a2 h Q) : gaC l G yJ6_getChars_ba4f3 (gaM yJ6_getChars_ba4f3 cJ6_getChars_ba4f3 7 ((some .int))) rm_J6_getChars_ba4f3 [gi a0, gi a1, .ref a2] h (gQi Q) X := by
  refine g_start (lv := [some (gi a0), some (gi a1), some (.ref a2), none, none, none, none]) hpl_RJ6 hst (Nat.le_of_ble_eq_true rfl) (gaArgs_pad (z := 4) rfl) ww_4_198 ?_
  intro p e s m args below meth c V hT
  have h_J6_getChars_ba4f3_J104 : ∀ (v2 : Nat) (v5 : Int) (v6 : Int) (h : gaH), w_J6_getChars_ba4f3_J104 G Q v2 v5 v6 h → gaP p l e rm_J6_getChars_ba4f3 s m args below meth c G 7 (gaZ below G (gQi Q) X args s rm_J6_getChars_ba4f3) 104 [none, none, some (.ref v2), none, none, some (gi v5), some (gi v6)] [] h 0 0 := by
    intro v2 v5 v6 h hw
    unfold w_J6_getChars_ba4f3_J104 at hw
    refine g_iload V dJ6_getChars_ba4f3_104 rfl rfl ?_
    obtain ⟨hx0, hw⟩ := hw
    refine gi_if_eq V dJ6_getChars_ba4f3_106 rfl rfl hx0 (fun q => ?_) (fun q => ?_)
    · have hw := ga_t q hw
      refine g_iload V dJ6_getChars_ba4f3_118 rfl rfl ?_
      exact g_iret V rfl rfl dJ6_getChars_ba4f3_120 ⟨_, rfl, hw⟩
    · have hw := ga_f q hw
      refine g_aload_n V dJ6_getChars_ba4f3_109 rfl rfl ?_
      refine gi_iinc (lv2 := [none, none, some (.ref v2), none, none, some (gi (v5 + (-1))), some (gi v6)]) V dJ6_getChars_ba4f3_110 (by decide) rfl rfl rfl rfl ?_
      refine g_iload V dJ6_getChars_ba4f3_113 rfl rfl ?_
      refine g_bipush V (Int32.ofInt 45) dJ6_getChars_ba4f3_115 rfl rfl ?_
      obtain ⟨vs, ha, h0, h9, hi, hw⟩ := hw
      refine gi_bastoreB V (by decide) ha h0 h9 hi dJ6_getChars_ba4f3_117 rfl ?_
      generalize gaUp h v2 _ = hp1 at hw ⊢
      refine g_iload V dJ6_getChars_ba4f3_118 rfl rfl ?_
      exact g_iret V rfl rfl dJ6_getChars_ba4f3_120 ⟨_, rfl, hw⟩
  have h_J6_getChars_ba4f3_L22 : ∀ (n : Nat), ∀ (v0 : Int) (v2 : Nat) (v5 : Int) (v6 : Int) (h : gaH), w_J6_getChars_ba4f3_L22 G Q n v0 v2 v5 v6 h → gaP p l e rm_J6_getChars_ba4f3 s m args below meth c G 7 (gaZ below G (gQi Q) X args s rm_J6_getChars_ba4f3) 22 [some (gi v0), none, some (.ref v2), none, none, some (gi v5), some (gi v6)] [] h 0 0 := by
    intro n
    induction n with
    | zero =>
      intro v0 v2 v5 v6 h hw
      exact hw.elim
    | succ n ih =>
      intro v0 v2 v5 v6 h hw
      unfold w_J6_getChars_ba4f3_L22 at hw
      refine g_iload_n V dJ6_getChars_ba4f3_22 rfl rfl ?_
      refine g_bipush V (Int32.ofInt (-100)) dJ6_getChars_ba4f3_23 rfl rfl ?_
      obtain ⟨hx0, hw⟩ := hw
      refine gi_icmp_gt V dJ6_getChars_ba4f3_25 rfl rfl hx0 (by decide) (fun q => ?_) (fun q => ?_)
      · have hw := ga_t q hw
        refine g_aload_n V dJ6_getChars_ba4f3_72 rfl rfl ?_
        refine gi_iinc (lv2 := [some (gi v0), none, some (.ref v2), none, none, some (gi (v5 + (-1))), some (gi v6)]) V dJ6_getChars_ba4f3_73 (by decide) rfl rfl rfl rfl ?_
        refine g_iload V dJ6_getChars_ba4f3_76 rfl rfl ?_
        refine g_gets V V.z2 ww_4_199 dJ6_getChars_ba4f3_78 rfl ?_
        refine g_iload_n V dJ6_getChars_ba4f3_81 rfl rfl ?_
        refine gi_ineg V dJ6_getChars_ba4f3_82 rfl ?_
        obtain ⟨t9, vs, r1, ha, ht, h0, h9, hv, hw⟩ := hw
        refine gi_baloadB V ha ht h0 h9 hv dJ6_getChars_ba4f3_83 rfl ?_
        obtain ⟨hb, hw⟩ := hw
        obtain ⟨vs, ha, h0, h9, hi, hw⟩ := hw
        refine gi_bastoreB V hb ha h0 h9 hi dJ6_getChars_ba4f3_84 rfl ?_
        generalize gaUp h v2 _ = hp2 at hw ⊢
        refine g_iload_n V dJ6_getChars_ba4f3_85 rfl rfl ?_
        refine g_bipush V (Int32.ofInt (-9)) dJ6_getChars_ba4f3_86 rfl rfl ?_
        obtain ⟨hx0, hw⟩ := hw
        refine gi_icmp_ge V dJ6_getChars_ba4f3_88 rfl rfl hx0 (by decide) (fun q => ?_) (fun q => ?_)
        · have hw := ga_t q hw
          refine g_less (bs := [false, true, true, true, true, true, true]) (lv2 := [none, none, some (.ref v2), none, none, some (gi (v5 + (-1))), some (gi v6)]) rfl ?_
          exact h_J6_getChars_ba4f3_J104 v2 (v5 + (-1)) v6 hp2 hw
        · have hw := ga_f q hw
          refine g_aload_n V dJ6_getChars_ba4f3_91 rfl rfl ?_
          refine gi_iinc (lv2 := [some (gi v0), none, some (.ref v2), none, none, some (gi ((v5 + (-1)) + (-1))), some (gi v6)]) V dJ6_getChars_ba4f3_92 (by decide) rfl rfl rfl rfl ?_
          refine g_iload V dJ6_getChars_ba4f3_95 rfl rfl ?_
          refine g_gets V V.z3 ww_4_201 dJ6_getChars_ba4f3_97 rfl ?_
          refine g_iload_n V dJ6_getChars_ba4f3_100 rfl rfl ?_
          refine gi_ineg V dJ6_getChars_ba4f3_101 rfl ?_
          obtain ⟨t9, vs, r3, ha, ht, h0, h9, hv, hw⟩ := hw
          refine gi_baloadB V ha ht h0 h9 hv dJ6_getChars_ba4f3_102 rfl ?_
          obtain ⟨hb, hw⟩ := hw
          obtain ⟨vs, ha, h0, h9, hi, hw⟩ := hw
          refine gi_bastoreB V hb ha h0 h9 hi dJ6_getChars_ba4f3_103 rfl ?_
          generalize gaUp hp2 v2 _ = hp4 at hw ⊢
          refine g_less (bs := [false, true, true, true, true, true, true]) (lv2 := [none, none, some (.ref v2), none, none, some (gi ((v5 + (-1)) + (-1))), some (gi v6)]) rfl ?_
          exact h_J6_getChars_ba4f3_J104 v2 ((v5 + (-1)) + (-1)) v6 hp4 hw
      · have hw := ga_f q hw
        refine g_iload_n V dJ6_getChars_ba4f3_28 rfl rfl ?_
        refine g_bipush V (Int32.ofInt 100) dJ6_getChars_ba4f3_29 rfl rfl ?_
        refine gi_idiv V dJ6_getChars_ba4f3_31 (by decide) (by decide) rfl ?_
        refine g_istore_n (lv2 := [some (gi v0), none, some (.ref v2), some (gi (gDiv v0 100)), none, some (gi v5), some (gi v6)]) V dJ6_getChars_ba4f3_32 (by decide) rfl rfl rfl ?_
        refine g_iload_n V dJ6_getChars_ba4f3_33 rfl rfl ?_
        refine g_bipush V (Int32.ofInt 100) dJ6_getChars_ba4f3_34 rfl rfl ?_
        refine gi_imul V dJ6_getChars_ba4f3_36 rfl ?_
        refine g_iload_n V dJ6_getChars_ba4f3_37 rfl rfl ?_
        refine gi_isub V dJ6_getChars_ba4f3_38 rfl ?_
        refine g_istore (lv2 := [some (gi v0), none, some (.ref v2), some (gi (gDiv v0 100)), some (gi (((gDiv v0 100) * 100) - v0)), some (gi v5), some (gi v6)]) V dJ6_getChars_ba4f3_39 (by decide) rfl rfl rfl ?_
        refine g_iload_n V dJ6_getChars_ba4f3_41 rfl rfl ?_
        refine g_istore_n (lv2 := [some (gi (gDiv v0 100)), none, some (.ref v2), some (gi (gDiv v0 100)), some (gi (((gDiv v0 100) * 100) - v0)), some (gi v5), some (gi v6)]) V dJ6_getChars_ba4f3_42 (by decide) rfl rfl rfl ?_
        refine g_aload_n V dJ6_getChars_ba4f3_43 rfl rfl ?_
        refine gi_iinc (lv2 := [some (gi (gDiv v0 100)), none, some (.ref v2), some (gi (gDiv v0 100)), some (gi (((gDiv v0 100) * 100) - v0)), some (gi (v5 + (-1))), some (gi v6)]) V dJ6_getChars_ba4f3_44 (by decide) rfl rfl rfl rfl ?_
        refine g_iload V dJ6_getChars_ba4f3_47 rfl rfl ?_
        refine g_gets V V.z2 ww_4_199 dJ6_getChars_ba4f3_49 rfl ?_
        refine g_iload V dJ6_getChars_ba4f3_52 rfl rfl ?_
        obtain ⟨t9, vs, r5, ha, ht, h0, h9, hv, hw⟩ := hw
        refine gi_baloadB V ha ht h0 h9 hv dJ6_getChars_ba4f3_54 rfl ?_
        obtain ⟨hb, hw⟩ := hw
        obtain ⟨vs, ha, h0, h9, hi, hw⟩ := hw
        refine gi_bastoreB V hb ha h0 h9 hi dJ6_getChars_ba4f3_55 rfl ?_
        generalize gaUp h v2 _ = hp6 at hw ⊢
        refine g_aload_n V dJ6_getChars_ba4f3_56 rfl rfl ?_
        refine gi_iinc (lv2 := [some (gi (gDiv v0 100)), none, some (.ref v2), some (gi (gDiv v0 100)), some (gi (((gDiv v0 100) * 100) - v0)), some (gi ((v5 + (-1)) + (-1))), some (gi v6)]) V dJ6_getChars_ba4f3_57 (by decide) rfl rfl rfl rfl ?_
        refine g_iload V dJ6_getChars_ba4f3_60 rfl rfl ?_
        refine g_gets V V.z3 ww_4_201 dJ6_getChars_ba4f3_62 rfl ?_
        refine g_iload V dJ6_getChars_ba4f3_65 rfl rfl ?_
        obtain ⟨t9, vs, r7, ha, ht, h0, h9, hv, hw⟩ := hw
        refine gi_baloadB V ha ht h0 h9 hv dJ6_getChars_ba4f3_67 rfl ?_
        obtain ⟨hb, hw⟩ := hw
        obtain ⟨vs, ha, h0, h9, hi, hw⟩ := hw
        refine gi_bastoreB V hb ha h0 h9 hi dJ6_getChars_ba4f3_68 rfl ?_
        generalize gaUp hp6 v2 _ = hp8 at hw ⊢
        refine g_goto V dJ6_getChars_ba4f3_69 rfl ?_
        refine g_less (bs := [true, true, true, false, false, true, true]) (lv2 := [some (gi (gDiv v0 100)), none, some (.ref v2), none, none, some (gi ((v5 + (-1)) + (-1))), some (gi v6)]) rfl ?_
        exact ih (gDiv v0 100) v2 ((v5 + (-1)) + (-1)) v6 hp8 hw
  have h_J6_getChars_ba4f3_J12 : ∀ (v0 : Int) (v2 : Nat) (v5 : Int) (t0 : Int) (h : gaH), w_J6_getChars_ba4f3_J12 G Q v0 v2 v5 t0 h → gaP p l e rm_J6_getChars_ba4f3 s m args below meth c G 7 (gaZ below G (gQi Q) X args s rm_J6_getChars_ba4f3) 12 [some (gi v0), none, some (.ref v2), none, none, some (gi v5), none] [gi t0] h 0 0 := by
    intro v0 v2 v5 t0 h hw
    unfold w_J6_getChars_ba4f3_J12 at hw
    refine g_istore (lv2 := [some (gi v0), none, some (.ref v2), none, none, some (gi v5), some (gi t0)]) V dJ6_getChars_ba4f3_12 (by decide) rfl rfl rfl ?_
    refine g_iload V dJ6_getChars_ba4f3_14 rfl rfl ?_
    obtain ⟨hx0, hw⟩ := hw
    refine gi_if_ne V dJ6_getChars_ba4f3_16 rfl rfl hx0 (fun q => ?_) (fun q => ?_)
    · have hw := ga_f q hw
      obtain ⟨z, hw⟩ := hw
      exact h_J6_getChars_ba4f3_L22 z v0 v2 v5 t0 h hw
    · have hw := ga_t q hw
      refine g_iload_n V dJ6_getChars_ba4f3_19 rfl rfl ?_
      refine gi_ineg V dJ6_getChars_ba4f3_20 rfl ?_
      refine g_istore_n (lv2 := [some (gi (-v0)), none, some (.ref v2), none, none, some (gi v5), some (gi t0)]) V dJ6_getChars_ba4f3_21 (by decide) rfl rfl rfl ?_
      obtain ⟨z, hw⟩ := hw
      exact h_J6_getChars_ba4f3_L22 z (-v0) v2 v5 t0 h hw
  unfold w_J6_getChars_ba4f3 at hw
  refine g_iload_n V dJ6_getChars_ba4f3_0 rfl rfl ?_
  refine g_istore (lv2 := [some (gi a0), some (gi a1), some (.ref a2), none, none, some (gi a1), none]) V dJ6_getChars_ba4f3_1 (by decide) rfl rfl rfl ?_
  refine g_iload_n V dJ6_getChars_ba4f3_3 rfl rfl ?_
  obtain ⟨hx0, hw⟩ := hw
  refine gi_if_ge V dJ6_getChars_ba4f3_4 rfl rfl hx0 (fun q => ?_) (fun q => ?_)
  · have hw := ga_t q hw
    refine g_iconst V (Int32.ofInt 0) dJ6_getChars_ba4f3_11 rfl rfl ?_
    refine g_less (bs := [true, false, true, true, true, true, true]) (lv2 := [some (gi a0), none, some (.ref a2), none, none, some (gi a1), none]) rfl ?_
    exact h_J6_getChars_ba4f3_J12 a0 a2 a1 0 h hw
  · have hw := ga_f q hw
    refine g_iconst V (Int32.ofInt 1) dJ6_getChars_ba4f3_7 rfl rfl ?_
    refine g_goto V dJ6_getChars_ba4f3_8 rfl ?_
    refine g_less (bs := [true, false, true, true, true, true, true]) (lv2 := [some (gi a0), none, some (.ref a2), none, none, some (gi a1), none]) rfl ?_
    exact h_J6_getChars_ba4f3_J12 a0 a2 a1 1 h hw
def w_J5_append_c97b9 (G : gaG) (a0 : Nat) (a1 : Int) (h : gaH) (Q : Nat → gaH → Prop) : Prop := gI h a0 1 3 (fun r1 => w_J6_stringSize_0f7a4 a1 h (fun r3 hp2 => gHas hp2 a0 1 ∧ gCall 2 134 2 134 (fun c6 s7 => w_J5_ensureCapacityInternal_d00df a0 (r1 + r3) hp2 (fun hp4 => gHas hp4 a0 1 ∧ w_J5_isLatin1_aae02 G a0 hp4 (fun r9 hp8 => gR r9 ∧ (if r9 = 0 then gA hp8 a0 1 0 (fun r10 => False) else gA hp8 a0 1 0 (fun r11 => w_J6_getChars_ba4f3 G a1 (r1 + r3) r11 hp8 (fun r13 hp12 => gPF hp12 a0 1 3 (gi (r1 + r3)) (fun hp14 => Q a0 hp14)))))))))
abbrev rm_J5_append_c97b9 : Room := { frames := 5, cells := 2, slots := 134, locals := 130 }
theorem hd_J5_append_c97b9 : yJ5_append_c97b9.cls = RJ5 ∧ (yJ5_append_c97b9.cls ≠ "java/lang/invoke/MethodHandle" ∧ yJ5_append_c97b9.cls ≠ "java/lang/invoke/VarHandle" ∧ (parseMethodDescriptor yJ5_append_c97b9.desc).map (fun d => d.parameters.length) = some 1) := by decide +kernel
theorem hdo_J5_append_c97b9 : "java/lang/AbstractStringBuilder" ≠ "java/lang/invoke/MethodHandle" ∧ "java/lang/AbstractStringBuilder" ≠ "java/lang/invoke/VarHandle" ∧ (parseMethodDescriptor yJ5_append_c97b9.desc).map (fun d => d.parameters.length) = some 1 := by decide +kernel
theorem hdu_J5_append_c97b9 : yJ5_append_c97b9.name ≠ "<init>" ∧ (parseMethodDescriptor yJ5_append_c97b9.desc).map (fun d => d.parameters.length) = some 1 := by decide +kernel
theorem k_J5_append_c97b9 {l : Launch} (hst : l.stackTraces = false) {G : gaG} {X : String → gaH → Prop} {a0 : Nat} {a1 : Int} {h : gaH} {Q : Nat → gaH → Prop} (hw : w_J5_append_c97b9 G a0 a1 h Q) : gaC l G yJ5_append_c97b9 (gaM yJ5_append_c97b9 cJ5_append_c97b9 4 ((some (.object "java/lang/AbstractStringBuilder")))) rm_J5_append_c97b9 [.ref a0, gi a1] h (gQa Q) X := by
  refine g_start (lv := [some (.ref a0), some (gi a1), none, none]) hpl_RJ5 hst (Nat.le_of_ble_eq_true rfl) (gaArgs_pad (z := 2) rfl) ww_4_192 ?_
  intro p e s m args below meth c V hT
  show gaP p l e rm_J5_append_c97b9 s m args below meth c G 4 (gaZ below G (gQa Q) X args s rm_J5_append_c97b9) 0 [some (.ref a0), some (gi a1), none, none] [] h 2 134
  unfold w_J5_append_c97b9 at hw
  refine g_aload_n V dJ5_append_c97b9_0 rfl rfl ?_
  obtain ⟨fs, r1, ha, hv, hw⟩ := hw
  refine g_get (C := RJ4) (T := TJ4) (N := 4) V 3 rfl hin_RJ4 (by decide) (by decide) ww_4_46 rfl ha hv dJ5_append_c97b9_1 rfl ?_
  refine g_istore_n (lv2 := [some (.ref a0), some (gi a1), some (gi r1), none]) V dJ5_append_c97b9_4 (by decide) rfl rfl rfl ?_
  refine g_iload_n V dJ5_append_c97b9_5 rfl rfl ?_
  refine g_iload_n V dJ5_append_c97b9_6 rfl rfl ?_
  refine g_callS (st := [gi r1]) V (k_J6_stringSize_0f7a4 hst hw) ww_4_193 ww_4_194 ww_1_14 ww_4_195 hd_J6_stringSize_0f7a4 ⟨by decide, by decide⟩ rfl rfl (ga_cat rfl) dJ5_append_c97b9_7 (Nat.zero_le _) (Nat.zero_le _) rfl (gaX_all hT V) (ga_ki (fun r3 hp2 hw => ?_))
  refine gi_iadd V dJ5_append_c97b9_10 rfl ?_
  refine g_istore_n (lv2 := [some (.ref a0), some (gi a1), some (gi r1), some (gi (r1 + r3))]) V dJ5_append_c97b9_11 (by decide) rfl rfl rfl ?_
  refine g_aload_n V dJ5_append_c97b9_12 rfl rfl ?_
  refine g_iload_n V dJ5_append_c97b9_13 rfl rfl ?_
  obtain ⟨hb, hw⟩ := hw
  obtain ⟨fb, hb⟩ := hb
  obtain ⟨hk, hj, c6, s7, ec, es, hw⟩ := hw
  refine g_callU (C := RJ4) (T := TJ4) (N := 4) (st := []) V (k_J5_ensureCapacityInternal_d00df hst hw) ww_4_63 ww_7_80 ww_4_65 wq_0 ww_1_17 ww_4_66 rfl hdo_J5_ensureCapacityInternal_d00df ⟨by decide, by decide⟩ rfl (by decide) hb rfl rfl (ga_cat rfl) dJ5_append_c97b9_14 hk hj rfl (gaX_all hT V) (ga_kv (fun hp4 hw => ?_))
  refine ga_re ec es ?_
  refine g_aload_n V dJ5_append_c97b9_17 rfl rfl ?_
  obtain ⟨hb, hw⟩ := hw
  obtain ⟨fb, hb⟩ := hb
  refine g_callU (C := RJ4) (T := TJ4) (N := 4) (st := []) V (k_J5_isLatin1_aae02 hst hw) ww_4_94 ww_4_96 ww_4_95 ww_4_97 ww_1_17 ww_4_98 rfl hdo_J5_isLatin1_aae02 ⟨by decide, by decide⟩ rfl (by decide) hb rfl rfl (ga_cat rfl) dJ5_append_c97b9_18 (Nat.zero_le _) (Nat.zero_le _) rfl (gaX_all hT V) (ga_ki (fun r9 hp8 hw => ?_))
  obtain ⟨hx0, hw⟩ := hw
  refine gi_if_eq V dJ5_append_c97b9_21 rfl rfl hx0 (fun q => ?_) (fun q => ?_)
  · have hw := ga_t q hw
    refine g_iload_n V dJ5_append_c97b9_37 rfl rfl ?_
    refine g_iload_n V dJ5_append_c97b9_38 rfl rfl ?_
    refine g_iload_n V dJ5_append_c97b9_39 rfl rfl ?_
    refine g_aload_n V dJ5_append_c97b9_40 rfl rfl ?_
    obtain ⟨fs, r10, ha, hv, hw⟩ := hw
    refine g_get (C := RJ4) (T := TJ4) (N := 4) V 0 rfl hin_RJ4 (by decide) (by decide) ww_4_43 rfl ha hv dJ5_append_c97b9_41 rfl ?_
    exact hw.elim
  · have hw := ga_f q hw
    refine g_iload_n V dJ5_append_c97b9_24 rfl rfl ?_
    refine g_iload_n V dJ5_append_c97b9_25 rfl rfl ?_
    refine g_aload_n V dJ5_append_c97b9_26 rfl rfl ?_
    obtain ⟨fs, r11, ha, hv, hw⟩ := hw
    refine g_get (C := RJ4) (T := TJ4) (N := 4) V 0 rfl hin_RJ4 (by decide) (by decide) ww_4_43 rfl ha hv dJ5_append_c97b9_27 rfl ?_
    refine g_callS (st := []) V (k_J6_getChars_ba4f3 hst hw) ww_4_196 ww_4_197 ww_1_14 ww_4_198 hd_J6_getChars_ba4f3 ⟨by decide, by decide⟩ rfl rfl (ga_cat rfl) dJ5_append_c97b9_30 (Nat.zero_le _) (Nat.zero_le _) rfl (gaX_all hT V) (ga_ki (fun r13 hp12 hw => ?_))
    refine g_pop V dJ5_append_c97b9_33 rfl rfl ?_
    refine g_goto V dJ5_append_c97b9_34 rfl ?_
    refine g_aload_n V dJ5_append_c97b9_48 rfl rfl ?_
    refine g_iload_n V dJ5_append_c97b9_49 rfl rfl ?_
    obtain ⟨fs, ha, hl, hw⟩ := hw
    refine g_put (C := RJ4) (T := TJ4) (N := 4) V 3 tyJ4 tyJ4_ok nmJ4 rfl hin_RJ4 (by decide) (by decide) ww_4_46 rfl rfl rfl rfl ha hl dJ5_append_c97b9_50 rfl ?_
    generalize gaUp hp12 a0 _ = hp14 at hw ⊢
    refine g_aload_n V dJ5_append_c97b9_53 rfl rfl ?_
    exact g_aret V rfl (by first | exact Or.inl ⟨_, rfl⟩ | exact Or.inr ⟨_, rfl⟩) dJ5_append_c97b9_54 ⟨_, rfl, hw⟩
def w_J4_append_bf812 (G : gaG) (a0 : Nat) (a1 : Int) (h : gaH) (Q : Nat → gaH → Prop) : Prop := gHas h a0 1 ∧ gCall 2 134 2 134 (fun c3 s4 => w_J5_append_c97b9 G a0 a1 h (fun r2 hp1 => Q a0 hp1))
abbrev rm_J4_append_bf812 : Room := { frames := 6, cells := 2, slots := 134, locals := 153 }
theorem hd_J4_append_bf812 : yJ4_append_bf812.cls = RJ4 ∧ (yJ4_append_bf812.cls ≠ "java/lang/invoke/MethodHandle" ∧ yJ4_append_bf812.cls ≠ "java/lang/invoke/VarHandle" ∧ (parseMethodDescriptor yJ4_append_bf812.desc).map (fun d => d.parameters.length) = some 1) := by decide +kernel
theorem k_J4_append_bf812 {l : Launch} (hst : l.stackTraces = false) {G : gaG} {X : String → gaH → Prop} {a0 : Nat} {a1 : Int} {h : gaH} {Q : Nat → gaH → Prop} (hw : w_J4_append_bf812 G a0 a1 h Q) : gaC l G yJ4_append_bf812 (gaM yJ4_append_bf812 cJ4_append_bf812 2 ((some (.object "java/lang/StringBuilder")))) rm_J4_append_bf812 [.ref a0, gi a1] h (gQa Q) X := by
  refine g_start (lv := [some (.ref a0), some (gi a1)]) hpl_RJ4 hst (Nat.le_of_ble_eq_true rfl) (gaArgs_pad (z := 0) rfl) ww_4_189 ?_
  intro p e s m args below meth c V hT
  show gaP p l e rm_J4_append_bf812 s m args below meth c G 2 (gaZ below G (gQa Q) X args s rm_J4_append_bf812) 0 [some (.ref a0), some (gi a1)] [] h 2 134
  unfold w_J4_append_bf812 at hw
  refine g_aload_n V dJ4_append_bf812_0 rfl rfl ?_
  refine g_iload_n V dJ4_append_bf812_1 rfl rfl ?_
  obtain ⟨hb, hw⟩ := hw
  obtain ⟨fb, hb⟩ := hb
  obtain ⟨hk, hj, c3, s4, ec, es, hw⟩ := hw
  refine g_callSU (C := RJ4) (T := TJ4) (N := 4) (st := []) V (k_J5_append_c97b9 hst hw) ww_4_190 ww_7_83 ww_4_55 ww_4_191 ww_1_17 ww_4_192 hdu_J5_append_c97b9 ⟨by decide, by decide⟩ rfl (by decide) hb rfl rfl (ga_cat rfl) dJ4_append_bf812_2 hk hj rfl (gaX_all hT V) (ga_ka (fun r2 hp1 hw => ?_))
  refine ga_re ec es ?_
  refine g_pop V dJ4_append_bf812_5 rfl rfl ?_
  refine g_aload_n V dJ4_append_bf812_6 rfl rfl ?_
  exact g_aret V rfl (by first | exact Or.inl ⟨_, rfl⟩ | exact Or.inr ⟨_, rfl⟩) dJ4_append_bf812_7 ⟨_, rfl, hw⟩
