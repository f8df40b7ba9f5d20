def w_L_write (a0 : Nat) (a1 : Int) (a2 : Int) (a3 : Nat) (h : gaH) (Q : Int → gaH → Prop) : Prop := gHas h a0 5 ∧ gCall 2 12 2 12 (fun c3 s4 => w_X5_write (fun E9 h9 => (E9 = "java/lang/IndexOutOfBoundsException" ∧ Q 1 h9) ∨ (E9 = "java/lang/IllegalArgumentException" ∧ Q 2 h9)) a0 a1 a2 h (fun r2 hp1 => gPF hp1 a3 6 0 (.long (gI2l r2)) (fun hp5 => Q 0 hp5)))
abbrev rm_L_write : Room := { frames := 10, cells := 2, slots := 12, locals := 244 }
theorem hd_L_write : (yL_write.cls ≠ "java/lang/invoke/MethodHandle" ∧ yL_write.cls ≠ "java/lang/invoke/VarHandle" ∧ (parseMethodDescriptor yL_write.desc).map (fun d => d.parameters.length) = some 4) := by decide +kernel
theorem k_L_write {l : Launch} (hst : l.stackTraces = false) {G : gaG} {X : String → gaH → Prop} {a0 : Nat} {a1 : Int} {a2 : Int} {a3 : Nat} {h : gaH} {Q : Int → gaH → Prop} (hw : w_L_write a0 a1 a2 a3 h Q) : gaC l G yL_write (gaMW yL_write cL_write 5 ((some .int)) [(0, 11, 14, 19), (0, 11, 18, 21)]) rm_L_write [.ref a0, gi a1, gi a2, .ref a3] h (gQi Q) X := by
  refine g_startW (lv := [some (.ref a0), some (gi a1), some (gi a2), some (.ref a3), none]) hpl_RL hst (Nat.le_of_ble_eq_true rfl) (gaArgs_pad (z := 1) rfl) ww_2_207 ?_
  intro p e s m args below meth c V hT
  show gaP p l e rm_L_write s m args below meth c G 5 (gaZ below G (gQi Q) X args s rm_L_write) 0 [some (.ref a0), some (gi a1), some (gi a2), some (.ref a3), none] [] h 2 12
  unfold w_L_write at hw
  refine g_aload_n V dL_write_0 rfl rfl ?_
  refine g_aload_n V dL_write_1 rfl rfl ?_
  refine g_iload_n V dL_write_2 rfl rfl ?_
  refine g_iload_n V dL_write_3 rfl rfl ?_
  obtain ⟨hb, hw⟩ := hw
  obtain ⟨fb, hb⟩ := hb
  obtain ⟨hk, hj, c3, s4, ec, es, hw⟩ := hw
  refine g_callV (C := RX5) (T := TX5) (N := 9) (st := [.ref a3]) V (k_X5_write hst hw) ww_2_210 ww_2_211 ww_2_212 ww_1_1 ww_2_213 hd_X5_write ⟨by decide, by decide⟩ rfl (by decide) hb rfl rfl (ga_cat rfl) dL_write_4 hk hj rfl ?_ (ga_ki (fun r2 hp1 hw => ?_))
  · rintro E9 h9 (⟨rfl, hw⟩ | ⟨rfl, hw⟩)
    · refine gaO_re ec es ?_
      refine gaO_catch V hT [] ⟨0, 11, 14, 19⟩ [⟨0, 11, 18, 21⟩] rfl (by intro z hz; simp at hz) rfl (by decide) ww_2_208 gn_12 rfl (fun q => ?_)
      refine g_astore (lv2 := [some (.ref a0), some (gi a1), some (gi a2), some (.ref a3), some (.ref q)]) V dL_write_14 (by decide) rfl rfl rfl ?_
      refine g_iconst V (Int32.ofInt 1) dL_write_16 rfl rfl ?_
      exact g_iret V rfl rfl dL_write_17 ⟨_, rfl, hw⟩
    · refine gaO_re ec es ?_
      refine gaO_catch V hT [⟨0, 11, 14, 19⟩] ⟨0, 11, 18, 21⟩ [] rfl (by intro z hz; simp only [List.mem_cons, List.not_mem_nil, or_false] at hz; rcases hz with rfl <;> first | exact ⟨by decide, "java/lang/IndexOutOfBoundsException", ww_2_208, List.mem_of_getElem? (i := 0) rfl⟩) rfl (by decide) ww_2_209 gn_20 rfl (fun q => ?_)
      refine g_astore (lv2 := [some (.ref a0), some (gi a1), some (gi a2), some (.ref a3), some (.ref q)]) V dL_write_18 (by decide) rfl rfl rfl ?_
      refine g_iconst V (Int32.ofInt 2) dL_write_20 rfl rfl ?_
      exact g_iret V rfl rfl dL_write_21 ⟨_, rfl, hw⟩
  · refine ga_re ec es ?_
    refine gi_i2l V dL_write_7 rfl ?_
    obtain ⟨fs, ha, hl, hw⟩ := hw
    refine g_putN (host := "WordgardenLaw") (C := RX6) (T := TX6) (N := 2) V 0 tyX6 tyX6_ok nmX6 rfl hin_RX6 (by decide) (by decide) gn_22 rfl rfl rfl rfl ha hl dL_write_8 rfl ?_
    generalize gaUp hp1 a3 _ = hp5 at hw ⊢
    refine g_goto V dL_write_11 rfl ?_
    refine g_iconst V (Int32.ofInt 0) dL_write_22 rfl rfl ?_
    exact g_iret V rfl rfl dL_write_23 ⟨_, rfl, hw⟩
def w_L_append (a0 : Nat) (a1 : Int) (a2 : Int) (a3 : Nat) (h : gaH) (Q : Int → gaH → Prop) : Prop := gHas h a0 5 ∧ gCall 2 12 2 12 (fun c3 s4 => w_X5_append (fun E9 h9 => (E9 = "java/lang/IndexOutOfBoundsException" ∧ Q 1 h9)) a0 a1 a2 h (fun r2 hp1 => gPF hp1 a3 6 0 (.long (gI2l r2)) (fun hp5 => Q 0 hp5)))
abbrev rm_L_append : Room := { frames := 10, cells := 2, slots := 12, locals := 244 }
theorem hd_L_append : (yL_append.cls ≠ "java/lang/invoke/MethodHandle" ∧ yL_append.cls ≠ "java/lang/invoke/VarHandle" ∧ (parseMethodDescriptor yL_append.desc).map (fun d => d.parameters.length) = some 4) := by decide +kernel
theorem k_L_append {l : Launch} (hst : l.stackTraces = false) {G : gaG} {X : String → gaH → Prop} {a0 : Nat} {a1 : Int} {a2 : Int} {a3 : Nat} {h : gaH} {Q : Int → gaH → Prop} (hw : w_L_append a0 a1 a2 a3 h Q) : gaC l G yL_append (gaMW yL_append cL_append 5 ((some .int)) [(0, 11, 14, 19)]) rm_L_append [.ref a0, gi a1, gi a2, .ref a3] h (gQi Q) X := by
  refine g_startW (lv := [some (.ref a0), some (gi a1), some (gi a2), some (.ref a3), none]) hpl_RL hst (Nat.le_of_ble_eq_true rfl) (gaArgs_pad (z := 1) rfl) ww_2_222 ?_
  intro p e s m args below meth c V hT
  show gaP p l e rm_L_append s m args below meth c G 5 (gaZ below G (gQi Q) X args s rm_L_append) 0 [some (.ref a0), some (gi a1), some (gi a2), some (.ref a3), none] [] h 2 12
  unfold w_L_append at hw
  refine g_aload_n V dL_append_0 rfl rfl ?_
  refine g_aload_n V dL_append_1 rfl rfl ?_
  refine g_iload_n V dL_append_2 rfl rfl ?_
  refine g_iload_n V dL_append_3 rfl rfl ?_
  obtain ⟨hb, hw⟩ := hw
  obtain ⟨fb, hb⟩ := hb
  obtain ⟨hk, hj, c3, s4, ec, es, hw⟩ := hw
  refine g_callV (C := RX5) (T := TX5) (N := 9) (st := [.ref a3]) V (k_X5_append hst hw) ww_2_223 ww_2_224 ww_2_225 ww_1_1 ww_2_226 hd_X5_append ⟨by decide, by decide⟩ rfl (by decide) hb rfl rfl (ga_cat rfl) dL_append_4 hk hj rfl ?_ (ga_ki (fun r2 hp1 hw => ?_))
  · rintro E9 h9 ⟨rfl, hw⟩
    refine gaO_re ec es ?_
    refine gaO_catch V hT [] ⟨0, 11, 14, 19⟩ [] rfl (by intro z hz; simp at hz) rfl (by decide) ww_2_208 gn_12 rfl (fun q => ?_)
    refine g_astore (lv2 := [some (.ref a0), some (gi a1), some (gi a2), some (.ref a3), some (.ref q)]) V dL_append_14 (by decide) rfl rfl rfl ?_
    refine g_iconst V (Int32.ofInt 1) dL_append_16 rfl rfl ?_
    exact g_iret V rfl rfl dL_append_17 ⟨_, rfl, hw⟩
  · refine ga_re ec es ?_
    refine gi_i2l V dL_append_7 rfl ?_
    obtain ⟨fs, ha, hl, hw⟩ := hw
    refine g_putN (host := "WordgardenLaw") (C := RX6) (T := TX6) (N := 2) V 0 tyX6 tyX6_ok nmX6 rfl hin_RX6 (by decide) (by decide) gn_22 rfl rfl rfl rfl ha hl dL_append_8 rfl ?_
    generalize gaUp hp1 a3 _ = hp5 at hw ⊢
    refine g_goto V dL_append_11 rfl ?_
    refine g_iconst V (Int32.ofInt 0) dL_append_18 rfl rfl ?_
    exact g_iret V rfl rfl dL_append_19 ⟨_, rfl, hw⟩
def w_L_insertSign (a0 : Nat) (a1 : Int) (a2 : Int) (a3 : Int) (a4 : Nat) (h : gaH) (Q : Int → gaH → Prop) : Prop := gHas h a0 5 ∧ gCall 2 12 2 12 (fun c3 s4 => w_X5_insertSign (fun E9 h9 => (E9 = "java/lang/IndexOutOfBoundsException" ∧ Q 1 h9)) a0 a1 a2 a3 h (fun r2 hp1 => gPF hp1 a4 6 0 (.long (gI2l r2)) (fun hp5 => Q 0 hp5)))
abbrev rm_L_insertSign : Room := { frames := 10, cells := 2, slots := 12, locals := 245 }
theorem hd_L_insertSign : (yL_insertSign.cls ≠ "java/lang/invoke/MethodHandle" ∧ yL_insertSign.cls ≠ "java/lang/invoke/VarHandle" ∧ (parseMethodDescriptor yL_insertSign.desc).map (fun d => d.parameters.length) = some 5) := by decide +kernel
theorem k_L_insertSign {l : Launch} (hst : l.stackTraces = false) {G : gaG} {X : String → gaH → Prop} {a0 : Nat} {a1 : Int} {a2 : Int} {a3 : Int} {a4 : Nat} {h : gaH} {Q : Int → gaH → Prop} (hw : w_L_insertSign a0 a1 a2 a3 a4 h Q) : gaC l G yL_insertSign (gaMW yL_insertSign cL_insertSign 6 ((some .int)) [(0, 13, 16, 19)]) rm_L_insertSign [.ref a0, gi a1, gi a2, gi a3, .ref a4] h (gQi Q) X := by
  refine g_startW (lv := [some (.ref a0), some (gi a1), some (gi a2), some (gi a3), some (.ref a4), none]) hpl_RL hst (Nat.le_of_ble_eq_true rfl) (gaArgs_pad (z := 1) rfl) ww_3_0 ?_
  intro p e s m args below meth c V hT
  show gaP p l e rm_L_insertSign s m args below meth c G 6 (gaZ below G (gQi Q) X args s rm_L_insertSign) 0 [some (.ref a0), some (gi a1), some (gi a2), some (gi a3), some (.ref a4), none] [] h 2 12
  unfold w_L_insertSign at hw
  refine g_aload V dL_insertSign_0 rfl rfl ?_
  refine g_aload_n V dL_insertSign_2 rfl rfl ?_
  refine g_iload_n V dL_insertSign_3 rfl rfl ?_
  refine g_iload_n V dL_insertSign_4 rfl rfl ?_
  refine g_iload_n V dL_insertSign_5 rfl rfl ?_
  obtain ⟨hb, hw⟩ := hw
  obtain ⟨fb, hb⟩ := hb
  obtain ⟨hk, hj, c3, s4, ec, es, hw⟩ := hw
  refine g_callV (C := RX5) (T := TX5) (N := 9) (st := [.ref a4]) V (k_X5_insertSign hst hw) ww_3_1 ww_3_2 ww_3_3 ww_1_1 ww_3_4 hd_X5_insertSign ⟨by decide, by decide⟩ rfl (by decide) hb rfl rfl (ga_cat rfl) dL_insertSign_6 hk hj rfl ?_ (ga_ki (fun r2 hp1 hw => ?_))
  · rintro E9 h9 ⟨rfl, hw⟩
    refine gaO_re ec es ?_
    refine gaO_catch V hT [] ⟨0, 13, 16, 19⟩ [] rfl (by intro z hz; simp at hz) rfl (by decide) ww_2_208 gn_12 rfl (fun q => ?_)
    refine g_astore (lv2 := [some (.ref a0), some (gi a1), some (gi a2), some (gi a3), some (.ref a4), some (.ref q)]) V dL_insertSign_16 (by decide) rfl rfl rfl ?_
    refine g_iconst V (Int32.ofInt 1) dL_insertSign_18 rfl rfl ?_
    exact g_iret V rfl rfl dL_insertSign_19 ⟨_, rfl, hw⟩
  · refine ga_re ec es ?_
    refine gi_i2l V dL_insertSign_9 rfl ?_
    obtain ⟨fs, ha, hl, hw⟩ := hw
    refine g_putN (host := "WordgardenLaw") (C := RX6) (T := TX6) (N := 2) V 0 tyX6 tyX6_ok nmX6 rfl hin_RX6 (by decide) (by decide) gn_22 rfl rfl rfl rfl ha hl dL_insertSign_10 rfl ?_
    generalize gaUp hp1 a4 _ = hp5 at hw ⊢
    refine g_goto V dL_insertSign_13 rfl ?_
    refine g_iconst V (Int32.ofInt 0) dL_insertSign_20 rfl rfl ?_
    exact g_iret V rfl rfl dL_insertSign_21 ⟨_, rfl, hw⟩
def w_L_insertSheet (a0 : Nat) (a1 : Int) (a2 : Int) (a3 : Int) (a4 : Nat) (h : gaH) (Q : Int → gaH → Prop) : Prop := gHas h a0 5 ∧ gCall 3 18 3 18 (fun c3 s4 => w_X5_insertSheet (fun E9 h9 => (E9 = "java/lang/IndexOutOfBoundsException" ∧ Q 1 h9)) a0 a1 a2 a3 h (fun r2 hp1 => gPF hp1 a4 6 0 (.long (gI2l r2)) (fun hp5 => Q 0 hp5)))
abbrev rm_L_insertSheet : Room := { frames := 10, cells := 3, slots := 18, locals := 246 }
theorem hd_L_insertSheet : (yL_insertSheet.cls ≠ "java/lang/invoke/MethodHandle" ∧ yL_insertSheet.cls ≠ "java/lang/invoke/VarHandle" ∧ (parseMethodDescriptor yL_insertSheet.desc).map (fun d => d.parameters.length) = some 5) := by decide +kernel
theorem k_L_insertSheet {l : Launch} (hst : l.stackTraces = false) {G : gaG} {X : String → gaH → Prop} {a0 : Nat} {a1 : Int} {a2 : Int} {a3 : Int} {a4 : Nat} {h : gaH} {Q : Int → gaH → Prop} (hw : w_L_insertSheet a0 a1 a2 a3 a4 h Q) : gaC l G yL_insertSheet (gaMW yL_insertSheet cL_insertSheet 6 ((some .int)) [(0, 13, 16, 19)]) rm_L_insertSheet [.ref a0, gi a1, gi a2, gi a3, .ref a4] h (gQi Q) X := by
  refine g_startW (lv := [some (.ref a0), some (gi a1), some (gi a2), some (gi a3), some (.ref a4), none]) hpl_RL hst (Nat.le_of_ble_eq_true rfl) (gaArgs_pad (z := 1) rfl) ww_3_12 ?_
  intro p e s m args below meth c V hT
  show gaP p l e rm_L_insertSheet s m args below meth c G 6 (gaZ below G (gQi Q) X args s rm_L_insertSheet) 0 [some (.ref a0), some (gi a1), some (gi a2), some (gi a3), some (.ref a4), none] [] h 3 18
  unfold w_L_insertSheet at hw
  refine g_aload V dL_insertSheet_0 rfl rfl ?_
  refine g_aload_n V dL_insertSheet_2 rfl rfl ?_
  refine g_iload_n V dL_insertSheet_3 rfl rfl ?_
  refine g_iload_n V dL_insertSheet_4 rfl rfl ?_
  refine g_iload_n V dL_insertSheet_5 rfl rfl ?_
  obtain ⟨hb, hw⟩ := hw
  obtain ⟨fb, hb⟩ := hb
  obtain ⟨hk, hj, c3, s4, ec, es, hw⟩ := hw
  refine g_callV (C := RX5) (T := TX5) (N := 9) (st := [.ref a4]) V (k_X5_insertSheet hst hw) ww_3_13 ww_3_14 ww_3_15 ww_1_1 ww_3_16 hd_X5_insertSheet ⟨by decide, by decide⟩ rfl (by decide) hb rfl rfl (ga_cat rfl) dL_insertSheet_6 hk hj rfl ?_ (ga_ki (fun r2 hp1 hw => ?_))
  · rintro E9 h9 ⟨rfl, hw⟩
    refine gaO_re ec es ?_
    refine gaO_catch V hT [] ⟨0, 13, 16, 19⟩ [] rfl (by intro z hz; simp at hz) rfl (by decide) ww_2_208 gn_12 rfl (fun q => ?_)
    refine g_astore (lv2 := [some (.ref a0), some (gi a1), some (gi a2), some (gi a3), some (.ref a4), some (.ref q)]) V dL_insertSheet_16 (by decide) rfl rfl rfl ?_
    refine g_iconst V (Int32.ofInt 1) dL_insertSheet_18 rfl rfl ?_
    exact g_iret V rfl rfl dL_insertSheet_19 ⟨_, rfl, hw⟩
  · refine ga_re ec es ?_
    refine gi_i2l V dL_insertSheet_9 rfl ?_
    obtain ⟨fs, ha, hl, hw⟩ := hw
    refine g_putN (host := "WordgardenLaw") (C := RX6) (T := TX6) (N := 2) V 0 tyX6 tyX6_ok nmX6 rfl hin_RX6 (by decide) (by decide) gn_22 rfl rfl rfl rfl ha hl dL_insertSheet_10 rfl ?_
    generalize gaUp hp1 a4 _ = hp5 at hw ⊢
    refine g_goto V dL_insertSheet_13 rfl ?_
    refine g_iconst V (Int32.ofInt 0) dL_insertSheet_20 rfl rfl ?_
    exact g_iret V rfl rfl dL_insertSheet_21 ⟨_, rfl, hw⟩
def w_L_setSign (a0 : Nat) (a1 : Int) (a2 : Int) (a3 : Int) (a4 : Nat) (h : gaH) (Q : Int → gaH → Prop) : Prop := gHas h a0 5 ∧ gCall 2 12 2 12 (fun c3 s4 => w_X5_setSign (fun E9 h9 => (E9 = "java/lang/IndexOutOfBoundsException" ∧ Q 1 h9)) a0 a1 a2 a3 h (fun r2 hp1 => gPF hp1 a4 6 0 (.long (gI2l r2)) (fun hp5 => Q 0 hp5)))
abbrev rm_L_setSign : Room := { frames := 10, cells := 2, slots := 12, locals := 246 }
theorem hd_L_setSign : (yL_setSign.cls ≠ "java/lang/invoke/MethodHandle" ∧ yL_setSign.cls ≠ "java/lang/invoke/VarHandle" ∧ (parseMethodDescriptor yL_setSign.desc).map (fun d => d.parameters.length) = some 5) := by decide +kernel
theorem k_L_setSign {l : Launch} (hst : l.stackTraces = false) {G : gaG} {X : String → gaH → Prop} {a0 : Nat} {a1 : Int} {a2 : Int} {a3 : Int} {a4 : Nat} {h : gaH} {Q : Int → gaH → Prop} (hw : w_L_setSign a0 a1 a2 a3 a4 h Q) : gaC l G yL_setSign (gaMW yL_setSign cL_setSign 6 ((some .int)) [(0, 13, 16, 19)]) rm_L_setSign [.ref a0, gi a1, gi a2, gi a3, .ref a4] h (gQi Q) X := by
  refine g_startW (lv := [some (.ref a0), some (gi a1), some (gi a2), some (gi a3), some (.ref a4), none]) hpl_RL hst (Nat.le_of_ble_eq_true rfl) (gaArgs_pad (z := 1) rfl) ww_3_19 ?_
  intro p e s m args below meth c V hT
  show gaP p l e rm_L_setSign s m args below meth c G 6 (gaZ below G (gQi Q) X args s rm_L_setSign) 0 [some (.ref a0), some (gi a1), some (gi a2), some (gi a3), some (.ref a4), none] [] h 2 12
  unfold w_L_setSign at hw
  refine g_aload V dL_setSign_0 rfl rfl ?_
  refine g_aload_n V dL_setSign_2 rfl rfl ?_
  refine g_iload_n V dL_setSign_3 rfl rfl ?_
  refine g_iload_n V dL_setSign_4 rfl rfl ?_
  refine g_iload_n V dL_setSign_5 rfl rfl ?_
  obtain ⟨hb, hw⟩ := hw
  obtain ⟨fb, hb⟩ := hb
  obtain ⟨hk, hj, c3, s4, ec, es, hw⟩ := hw
  refine g_callV (C := RX5) (T := TX5) (N := 9) (st := [.ref a4]) V (k_X5_setSign hst hw) ww_3_20 ww_3_21 ww_3_22 ww_1_1 ww_3_23 hd_X5_setSign ⟨by decide, by decide⟩ rfl (by decide) hb rfl rfl (ga_cat rfl) dL_setSign_6 hk hj rfl ?_ (ga_ki (fun r2 hp1 hw => ?_))
  · rintro E9 h9 ⟨rfl, hw⟩
    refine gaO_re ec es ?_
    refine gaO_catch V hT [] ⟨0, 13, 16, 19⟩ [] rfl (by intro z hz; simp at hz) rfl (by decide) ww_2_208 gn_12 rfl (fun q => ?_)
    refine g_astore (lv2 := [some (.ref a0), some (gi a1), some (gi a2), some (gi a3), some (.ref a4), some (.ref q)]) V dL_setSign_16 (by decide) rfl rfl rfl ?_
    refine g_iconst V (Int32.ofInt 1) dL_setSign_18 rfl rfl ?_
    exact g_iret V rfl rfl dL_setSign_19 ⟨_, rfl, hw⟩
  · refine ga_re ec es ?_
    refine gi_i2l V dL_setSign_9 rfl ?_
    obtain ⟨fs, ha, hl, hw⟩ := hw
    refine g_putN (host := "WordgardenLaw") (C := RX6) (T := TX6) (N := 2) V 0 tyX6 tyX6_ok nmX6 rfl hin_RX6 (by decide) (by decide) gn_22 rfl rfl rfl rfl ha hl dL_setSign_10 rfl ?_
    generalize gaUp hp1 a4 _ = hp5 at hw ⊢
    refine g_goto V dL_setSign_13 rfl ?_
    refine g_iconst V (Int32.ofInt 0) dL_setSign_20 rfl rfl ?_
    exact g_iret V rfl rfl dL_setSign_21 ⟨_, rfl, hw⟩
def w_L_removeSign (a0 : Nat) (a1 : Int) (a2 : Int) (a3 : Nat) (h : gaH) (Q : Int → gaH → Prop) : Prop := gHas h a0 5 ∧ gCall 2 12 2 12 (fun c3 s4 => w_X5_removeSign (fun E9 h9 => (E9 = "java/lang/IndexOutOfBoundsException" ∧ Q 1 h9)) a0 a1 a2 h (fun r2 hp1 => gPF hp1 a3 6 0 (.long (gI2l r2)) (fun hp5 => Q 0 hp5)))
abbrev rm_L_removeSign : Room := { frames := 10, cells := 2, slots := 12, locals := 244 }
theorem hd_L_removeSign : (yL_removeSign.cls ≠ "java/lang/invoke/MethodHandle" ∧ yL_removeSign.cls ≠ "java/lang/invoke/VarHandle" ∧ (parseMethodDescriptor yL_removeSign.desc).map (fun d => d.parameters.length) = some 4) := by decide +kernel
theorem k_L_removeSign {l : Launch} (hst : l.stackTraces = false) {G : gaG} {X : String → gaH → Prop} {a0 : Nat} {a1 : Int} {a2 : Int} {a3 : Nat} {h : gaH} {Q : Int → gaH → Prop} (hw : w_L_removeSign a0 a1 a2 a3 h Q) : gaC l G yL_removeSign (gaMW yL_removeSign cL_removeSign 5 ((some .int)) [(0, 11, 14, 19)]) rm_L_removeSign [.ref a0, gi a1, gi a2, .ref a3] h (gQi Q) X := by
  refine g_startW (lv := [some (.ref a0), some (gi a1), some (gi a2), some (.ref a3), none]) hpl_RL hst (Nat.le_of_ble_eq_true rfl) (gaArgs_pad (z := 1) rfl) ww_3_27 ?_
  intro p e s m args below meth c V hT
  show gaP p l e rm_L_removeSign s m args below meth c G 5 (gaZ below G (gQi Q) X args s rm_L_removeSign) 0 [some (.ref a0), some (gi a1), some (gi a2), some (.ref a3), none] [] h 2 12
  unfold w_L_removeSign at hw
  refine g_aload_n V dL_removeSign_0 rfl rfl ?_
  refine g_aload_n V dL_removeSign_1 rfl rfl ?_
  refine g_iload_n V dL_removeSign_2 rfl rfl ?_
  refine g_iload_n V dL_removeSign_3 rfl rfl ?_
  obtain ⟨hb, hw⟩ := hw
  obtain ⟨fb, hb⟩ := hb
  obtain ⟨hk, hj, c3, s4, ec, es, hw⟩ := hw
  refine g_callV (C := RX5) (T := TX5) (N := 9) (st := [.ref a3]) V (k_X5_removeSign hst hw) ww_3_28 ww_3_29 ww_3_30 ww_1_1 ww_3_31 hd_X5_removeSign ⟨by decide, by decide⟩ rfl (by decide) hb rfl rfl (ga_cat rfl) dL_removeSign_4 hk hj rfl ?_ (ga_ki (fun r2 hp1 hw => ?_))
  · rintro E9 h9 ⟨rfl, hw⟩
    refine gaO_re ec es ?_
    refine gaO_catch V hT [] ⟨0, 11, 14, 19⟩ [] rfl (by intro z hz; simp at hz) rfl (by decide) ww_2_208 gn_12 rfl (fun q => ?_)
    refine g_astore (lv2 := [some (.ref a0), some (gi a1), some (gi a2), some (.ref a3), some (.ref q)]) V dL_removeSign_14 (by decide) rfl rfl rfl ?_
    refine g_iconst V (Int32.ofInt 1) dL_removeSign_16 rfl rfl ?_
    exact g_iret V rfl rfl dL_removeSign_17 ⟨_, rfl, hw⟩
  · refine ga_re ec es ?_
    refine gi_i2l V dL_removeSign_7 rfl ?_
    obtain ⟨fs, ha, hl, hw⟩ := hw
    refine g_putN (host := "WordgardenLaw") (C := RX6) (T := TX6) (N := 2) V 0 tyX6 tyX6_ok nmX6 rfl hin_RX6 (by decide) (by decide) gn_22 rfl rfl rfl rfl ha hl dL_removeSign_8 rfl ?_
    generalize gaUp hp1 a3 _ = hp5 at hw ⊢
    refine g_goto V dL_removeSign_11 rfl ?_
    refine g_iconst V (Int32.ofInt 0) dL_removeSign_18 rfl rfl ?_
    exact g_iret V rfl rfl dL_removeSign_19 ⟨_, rfl, hw⟩
def w_L_remove (a0 : Nat) (a1 : Int) (a2 : Int) (a3 : Int) (a4 : Nat) (h : gaH) (Q : Int → gaH → Prop) : Prop := gHas h a0 5 ∧ gCall 2 12 2 12 (fun c3 s4 => w_X5_remove (fun E9 h9 => (E9 = "java/lang/IndexOutOfBoundsException" ∧ Q 1 h9)) a0 a1 a2 a3 h (fun r2 hp1 => gPF hp1 a4 6 0 (.long (gI2l r2)) (fun hp5 => Q 0 hp5)))
abbrev rm_L_remove : Room := { frames := 10, cells := 2, slots := 12, locals := 245 }
theorem hd_L_remove : (yL_remove.cls ≠ "java/lang/invoke/MethodHandle" ∧ yL_remove.cls ≠ "java/lang/invoke/VarHandle" ∧ (parseMethodDescriptor yL_remove.desc).map (fun d => d.parameters.length) = some 5) := by decide +kernel
theorem k_L_remove {l : Launch} (hst : l.stackTraces = false) {G : gaG} {X : String → gaH → Prop} {a0 : Nat} {a1 : Int} {a2 : Int} {a3 : Int} {a4 : Nat} {h : gaH} {Q : Int → gaH → Prop} (hw : w_L_remove a0 a1 a2 a3 a4 h Q) : gaC l G yL_remove (gaMW yL_remove cL_remove 6 ((some .int)) [(0, 13, 16, 19)]) rm_L_remove [.ref a0, gi a1, gi a2, gi a3, .ref a4] h (gQi Q) X := by
  refine g_startW (lv := [some (.ref a0), some (gi a1), some (gi a2), some (gi a3), some (.ref a4), none]) hpl_RL hst (Nat.le_of_ble_eq_true rfl) (gaArgs_pad (z := 1) rfl) ww_3_41 ?_
  intro p e s m args below meth c V hT
  show gaP p l e rm_L_remove s m args below meth c G 6 (gaZ below G (gQi Q) X args s rm_L_remove) 0 [some (.ref a0), some (gi a1), some (gi a2), some (gi a3), some (.ref a4), none] [] h 2 12
  unfold w_L_remove at hw
  refine g_aload V dL_remove_0 rfl rfl ?_
  refine g_aload_n V dL_remove_2 rfl rfl ?_
  refine g_iload_n V dL_remove_3 rfl rfl ?_
  refine g_iload_n V dL_remove_4 rfl rfl ?_
  refine g_iload_n V dL_remove_5 rfl rfl ?_
  obtain ⟨hb, hw⟩ := hw
  obtain ⟨fb, hb⟩ := hb
  obtain ⟨hk, hj, c3, s4, ec, es, hw⟩ := hw
  refine g_callV (C := RX5) (T := TX5) (N := 9) (st := [.ref a4]) V (k_X5_remove hst hw) ww_3_42 ww_3_43 ww_3_44 ww_1_1 ww_3_45 hd_X5_remove ⟨by decide, by decide⟩ rfl (by decide) hb rfl rfl (ga_cat rfl) dL_remove_6 hk hj rfl ?_ (ga_ki (fun r2 hp1 hw => ?_))
  · rintro E9 h9 ⟨rfl, hw⟩
    refine gaO_re ec es ?_
    refine gaO_catch V hT [] ⟨0, 13, 16, 19⟩ [] rfl (by intro z hz; simp at hz) rfl (by decide) ww_2_208 gn_12 rfl (fun q => ?_)
    refine g_astore (lv2 := [some (.ref a0), some (gi a1), some (gi a2), some (gi a3), some (.ref a4), some (.ref q)]) V dL_remove_16 (by decide) rfl rfl rfl ?_
    refine g_iconst V (Int32.ofInt 1) dL_remove_18 rfl rfl ?_
    exact g_iret V rfl rfl dL_remove_19 ⟨_, rfl, hw⟩
  · refine ga_re ec es ?_
    refine gi_i2l V dL_remove_9 rfl ?_
    obtain ⟨fs, ha, hl, hw⟩ := hw
    refine g_putN (host := "WordgardenLaw") (C := RX6) (T := TX6) (N := 2) V 0 tyX6 tyX6_ok nmX6 rfl hin_RX6 (by decide) (by decide) gn_22 rfl rfl rfl rfl ha hl dL_remove_10 rfl ?_
    generalize gaUp hp1 a4 _ = hp5 at hw ⊢
    refine g_goto V dL_remove_13 rfl ?_
    refine g_iconst V (Int32.ofInt 0) dL_remove_20 rfl rfl ?_
    exact g_iret V rfl rfl dL_remove_21 ⟨_, rfl, hw⟩
def w_L_replace (a0 : Nat) (a1 : Int) (a2 : Int) (a3 : Int) (a4 : Int) (a5 : Nat) (h : gaH) (Q : Int → gaH → Prop) : Prop := gHas h a0 5 ∧ gCall 3 18 3 18 (fun c3 s4 => w_X5_replace (fun E9 h9 => (E9 = "java/lang/IndexOutOfBoundsException" ∧ Q 1 h9)) a0 a1 a2 a3 a4 h (fun r2 hp1 => gPF hp1 a5 6 0 (.long (gI2l r2)) (fun hp5 => Q 0 hp5)))
abbrev rm_L_replace : Room := { frames := 10, cells := 3, slots := 18, locals := 247 }
theorem hd_L_replace : (yL_replace.cls ≠ "java/lang/invoke/MethodHandle" ∧ yL_replace.cls ≠ "java/lang/invoke/VarHandle" ∧ (parseMethodDescriptor yL_replace.desc).map (fun d => d.parameters.length) = some 6) := by decide +kernel
theorem k_L_replace {l : Launch} (hst : l.stackTraces = false) {G : gaG} {X : String → gaH → Prop} {a0 : Nat} {a1 : Int} {a2 : Int} {a3 : Int} {a4 : Int} {a5 : Nat} {h : gaH} {Q : Int → gaH → Prop} (hw : w_L_replace a0 a1 a2 a3 a4 a5 h Q) : gaC l G yL_replace (gaMW yL_replace cL_replace 7 ((some .int)) [(0, 15, 18, 19)]) rm_L_replace [.ref a0, gi a1, gi a2, gi a3, gi a4, .ref a5] h (gQi Q) X := by
  refine g_startW (lv := [some (.ref a0), some (gi a1), some (gi a2), some (gi a3), some (gi a4), some (.ref a5), none]) hpl_RL hst (Nat.le_of_ble_eq_true rfl) (gaArgs_pad (z := 1) rfl) ww_3_48 ?_
  intro p e s m args below meth c V hT
  show gaP p l e rm_L_replace s m args below meth c G 7 (gaZ below G (gQi Q) X args s rm_L_replace) 0 [some (.ref a0), some (gi a1), some (gi a2), some (gi a3), some (gi a4), some (.ref a5), none] [] h 3 18
  unfold w_L_replace at hw
  refine g_aload V dL_replace_0 rfl rfl ?_
  refine g_aload_n V dL_replace_2 rfl rfl ?_
  refine g_iload_n V dL_replace_3 rfl rfl ?_
  refine g_iload_n V dL_replace_4 rfl rfl ?_
  refine g_iload_n V dL_replace_5 rfl rfl ?_
  refine g_iload V dL_replace_6 rfl rfl ?_
  obtain ⟨hb, hw⟩ := hw
  obtain ⟨fb, hb⟩ := hb
  obtain ⟨hk, hj, c3, s4, ec, es, hw⟩ := hw
  refine g_callV (C := RX5) (T := TX5) (N := 9) (st := [.ref a5]) V (k_X5_replace hst hw) ww_3_49 ww_3_50 ww_3_51 ww_1_1 ww_3_52 hd_X5_replace ⟨by decide, by decide⟩ rfl (by decide) hb rfl rfl (ga_cat rfl) dL_replace_8 hk hj rfl ?_ (ga_ki (fun r2 hp1 hw => ?_))
  · rintro E9 h9 ⟨rfl, hw⟩
    refine gaO_re ec es ?_
    refine gaO_catch V hT [] ⟨0, 15, 18, 19⟩ [] rfl (by intro z hz; simp at hz) rfl (by decide) ww_2_208 gn_12 rfl (fun q => ?_)
    refine g_astore (lv2 := [some (.ref a0), some (gi a1), some (gi a2), some (gi a3), some (gi a4), some (.ref a5), some (.ref q)]) V dL_replace_18 (by decide) rfl rfl rfl ?_
    refine g_iconst V (Int32.ofInt 1) dL_replace_20 rfl rfl ?_
    exact g_iret V rfl rfl dL_replace_21 ⟨_, rfl, hw⟩
  · refine ga_re ec es ?_
    refine gi_i2l V dL_replace_11 rfl ?_
    obtain ⟨fs, ha, hl, hw⟩ := hw
    refine g_putN (host := "WordgardenLaw") (C := RX6) (T := TX6) (N := 2) V 0 tyX6 tyX6_ok nmX6 rfl hin_RX6 (by decide) (by decide) gn_22 rfl rfl rfl rfl ha hl dL_replace_12 rfl ?_
    generalize gaUp hp1 a5 _ = hp5 at hw ⊢
    refine g_goto V dL_replace_15 rfl ?_
    refine g_iconst V (Int32.ofInt 0) dL_replace_22 rfl rfl ?_
    exact g_iret V rfl rfl dL_replace_23 ⟨_, rfl, hw⟩
def w_L_cutTo (a0 : Nat) (a1 : Int) (a2 : Int) (a3 : Nat) (h : gaH) (Q : Int → gaH → Prop) : Prop := gHas h a0 5 ∧ gCall 2 12 2 12 (fun c3 s4 => w_X5_cutTo (fun E9 h9 => (E9 = "java/lang/IndexOutOfBoundsException" ∧ Q 1 h9) ∨ (E9 = "java/lang/IllegalArgumentException" ∧ Q 2 h9)) a0 a1 a2 h (fun r2 hp1 => gPF hp1 a3 6 0 (.long (gI2l r2)) (fun hp5 => Q 0 hp5)))
abbrev rm_L_cutTo : Room := { frames := 10, cells := 2, slots := 12, locals := 246 }
theorem hd_L_cutTo : (yL_cutTo.cls ≠ "java/lang/invoke/MethodHandle" ∧ yL_cutTo.cls ≠ "java/lang/invoke/VarHandle" ∧ (parseMethodDescriptor yL_cutTo.desc).map (fun d => d.parameters.length) = some 4) := by decide +kernel
theorem k_L_cutTo {l : Launch} (hst : l.stackTraces = false) {G : gaG} {X : String → gaH → Prop} {a0 : Nat} {a1 : Int} {a2 : Int} {a3 : Nat} {h : gaH} {Q : Int → gaH → Prop} (hw : w_L_cutTo a0 a1 a2 a3 h Q) : gaC l G yL_cutTo (gaMW yL_cutTo cL_cutTo 5 ((some .int)) [(0, 11, 14, 19), (0, 11, 18, 21)]) rm_L_cutTo [.ref a0, gi a1, gi a2, .ref a3] h (gQi Q) X := by
  refine g_startW (lv := [some (.ref a0), some (gi a1), some (gi a2), some (.ref a3), none]) hpl_RL hst (Nat.le_of_ble_eq_true rfl) (gaArgs_pad (z := 1) rfl) ww_3_55 ?_
  intro p e s m args below meth c V hT
  show gaP p l e rm_L_cutTo s m args below meth c G 5 (gaZ below G (gQi Q) X args s rm_L_cutTo) 0 [some (.ref a0), some (gi a1), some (gi a2), some (.ref a3), none] [] h 2 12
  unfold w_L_cutTo at hw
  refine g_aload_n V dL_cutTo_0 rfl rfl ?_
  refine g_aload_n V dL_cutTo_1 rfl rfl ?_
  refine g_iload_n V dL_cutTo_2 rfl rfl ?_
  refine g_iload_n V dL_cutTo_3 rfl rfl ?_
  obtain ⟨hb, hw⟩ := hw
  obtain ⟨fb, hb⟩ := hb
  obtain ⟨hk, hj, c3, s4, ec, es, hw⟩ := hw
  refine g_callV (C := RX5) (T := TX5) (N := 9) (st := [.ref a3]) V (k_X5_cutTo hst hw) ww_3_56 ww_3_57 ww_3_58 ww_1_1 ww_3_59 hd_X5_cutTo ⟨by decide, by decide⟩ rfl (by decide) hb rfl rfl (ga_cat rfl) dL_cutTo_4 hk hj rfl ?_ (ga_ki (fun r2 hp1 hw => ?_))
  · rintro E9 h9 (⟨rfl, hw⟩ | ⟨rfl, hw⟩)
    · refine gaO_re ec es ?_
      refine gaO_catch V hT [] ⟨0, 11, 14, 19⟩ [⟨0, 11, 18, 21⟩] rfl (by intro z hz; simp at hz) rfl (by decide) ww_2_208 gn_12 rfl (fun q => ?_)
      refine g_astore (lv2 := [some (.ref a0), some (gi a1), some (gi a2), some (.ref a3), some (.ref q)]) V dL_cutTo_14 (by decide) rfl rfl rfl ?_
      refine g_iconst V (Int32.ofInt 1) dL_cutTo_16 rfl rfl ?_
      exact g_iret V rfl rfl dL_cutTo_17 ⟨_, rfl, hw⟩
    · refine gaO_re ec es ?_
      refine gaO_catch V hT [⟨0, 11, 14, 19⟩] ⟨0, 11, 18, 21⟩ [] rfl (by intro z hz; simp only [List.mem_cons, List.not_mem_nil, or_false] at hz; rcases hz with rfl <;> first | exact ⟨by decide, "java/lang/IndexOutOfBoundsException", ww_2_208, List.mem_of_getElem? (i := 0) rfl⟩) rfl (by decide) ww_2_209 gn_20 rfl (fun q => ?_)
      refine g_astore (lv2 := [some (.ref a0), some (gi a1), some (gi a2), some (.ref a3), some (.ref q)]) V dL_cutTo_18 (by decide) rfl rfl rfl ?_
      refine g_iconst V (Int32.ofInt 2) dL_cutTo_20 rfl rfl ?_
      exact g_iret V rfl rfl dL_cutTo_21 ⟨_, rfl, hw⟩
  · refine ga_re ec es ?_
    refine gi_i2l V dL_cutTo_7 rfl ?_
    obtain ⟨fs, ha, hl, hw⟩ := hw
    refine g_putN (host := "WordgardenLaw") (C := RX6) (T := TX6) (N := 2) V 0 tyX6 tyX6_ok nmX6 rfl hin_RX6 (by decide) (by decide) gn_22 rfl rfl rfl rfl ha hl dL_cutTo_8 rfl ?_
    generalize gaUp hp1 a3 _ = hp5 at hw ⊢
    refine g_goto V dL_cutTo_11 rfl ?_
    refine g_iconst V (Int32.ofInt 0) dL_cutTo_22 rfl rfl ?_
    exact g_iret V rfl rfl dL_cutTo_23 ⟨_, rfl, hw⟩
def w_L_turn (a0 : Nat) (a1 : Int) (a2 : Nat) (h : gaH) (Q : Int → gaH → Prop) : Prop := gHas h a0 5 ∧ gCall 1 6 1 6 (fun c3 s4 => w_X5_turn (fun E9 h9 => (E9 = "java/lang/IndexOutOfBoundsException" ∧ Q 1 h9)) a0 a1 h (fun r2 hp1 => gPF hp1 a2 6 0 (.long (gI2l r2)) (fun hp5 => Q 0 hp5)))
abbrev rm_L_turn : Room := { frames := 10, cells := 1, slots := 6, locals := 243 }
theorem hd_L_turn : (yL_turn.cls ≠ "java/lang/invoke/MethodHandle" ∧ yL_turn.cls ≠ "java/lang/invoke/VarHandle" ∧ (parseMethodDescriptor yL_turn.desc).map (fun d => d.parameters.length) = some 3) := by decide +kernel
theorem k_L_turn {l : Launch} (hst : l.stackTraces = false) {G : gaG} {X : String → gaH → Prop} {a0 : Nat} {a1 : Int} {a2 : Nat} {h : gaH} {Q : Int → gaH → Prop} (hw : w_L_turn a0 a1 a2 h Q) : gaC l G yL_turn (gaMW yL_turn cL_turn 4 ((some .int)) [(0, 10, 13, 19)]) rm_L_turn [.ref a0, gi a1, .ref a2] h (gQi Q) X := by
  refine g_startW (lv := [some (.ref a0), some (gi a1), some (.ref a2), none]) hpl_RL hst (Nat.le_of_ble_eq_true rfl) (gaArgs_pad (z := 1) rfl) ww_3_63 ?_
  intro p e s m args below meth c V hT
  show gaP p l e rm_L_turn s m args below meth c G 4 (gaZ below G (gQi Q) X args s rm_L_turn) 0 [some (.ref a0), some (gi a1), some (.ref a2), none] [] h 1 6
  unfold w_L_turn at hw
  refine g_aload_n V dL_turn_0 rfl rfl ?_
  refine g_aload_n V dL_turn_1 rfl rfl ?_
  refine g_iload_n V dL_turn_2 rfl rfl ?_
  obtain ⟨hb, hw⟩ := hw
  obtain ⟨fb, hb⟩ := hb
  obtain ⟨hk, hj, c3, s4, ec, es, hw⟩ := hw
  refine g_callV (C := RX5) (T := TX5) (N := 9) (st := [.ref a2]) V (k_X5_turn hst hw) ww_3_64 ww_3_65 ww_3_66 ww_1_1 ww_3_67 hd_X5_turn ⟨by decide, by decide⟩ rfl (by decide) hb rfl rfl (ga_cat rfl) dL_turn_3 hk hj rfl ?_ (ga_ki (fun r2 hp1 hw => ?_))
  · rintro E9 h9 ⟨rfl, hw⟩
    refine gaO_re ec es ?_
    refine gaO_catch V hT [] ⟨0, 10, 13, 19⟩ [] rfl (by intro z hz; simp at hz) rfl (by decide) ww_2_208 gn_12 rfl (fun q => ?_)
    refine g_astore_n (lv2 := [some (.ref a0), some (gi a1), some (.ref a2), some (.ref q)]) V dL_turn_13 (by decide) rfl rfl rfl ?_
    refine g_iconst V (Int32.ofInt 1) dL_turn_14 rfl rfl ?_
    exact g_iret V rfl rfl dL_turn_15 ⟨_, rfl, hw⟩
  · refine ga_re ec es ?_
    refine gi_i2l V dL_turn_6 rfl ?_
    obtain ⟨fs, ha, hl, hw⟩ := hw
    refine g_putN (host := "WordgardenLaw") (C := RX6) (T := TX6) (N := 2) V 0 tyX6 tyX6_ok nmX6 rfl hin_RX6 (by decide) (by decide) gn_22 rfl rfl rfl rfl ha hl dL_turn_7 rfl ?_
    generalize gaUp hp1 a2 _ = hp5 at hw ⊢
    refine g_goto V dL_turn_10 rfl ?_
    refine g_iconst V (Int32.ofInt 0) dL_turn_16 rfl rfl ?_
    exact g_iret V rfl rfl dL_turn_17 ⟨_, rfl, hw⟩
def w_L_exchange (a0 : Nat) (a1 : Int) (a2 : Nat) (h : gaH) (Q : Int → gaH → Prop) : Prop := gHas h a0 5 ∧ gCall 1 6 1 6 (fun c3 s4 => w_X5_exchange (fun E9 h9 => (E9 = "java/lang/IndexOutOfBoundsException" ∧ Q 1 h9)) a0 a1 h (fun r2 hp1 => gPF hp1 a2 6 0 (.long (gI2l r2)) (fun hp5 => Q 0 hp5)))
abbrev rm_L_exchange : Room := { frames := 10, cells := 1, slots := 6, locals := 244 }
theorem hd_L_exchange : (yL_exchange.cls ≠ "java/lang/invoke/MethodHandle" ∧ yL_exchange.cls ≠ "java/lang/invoke/VarHandle" ∧ (parseMethodDescriptor yL_exchange.desc).map (fun d => d.parameters.length) = some 3) := by decide +kernel
theorem k_L_exchange {l : Launch} (hst : l.stackTraces = false) {G : gaG} {X : String → gaH → Prop} {a0 : Nat} {a1 : Int} {a2 : Nat} {h : gaH} {Q : Int → gaH → Prop} (hw : w_L_exchange a0 a1 a2 h Q) : gaC l G yL_exchange (gaMW yL_exchange cL_exchange 4 ((some .int)) [(0, 10, 13, 19)]) rm_L_exchange [.ref a0, gi a1, .ref a2] h (gQi Q) X := by
  refine g_startW (lv := [some (.ref a0), some (gi a1), some (.ref a2), none]) hpl_RL hst (Nat.le_of_ble_eq_true rfl) (gaArgs_pad (z := 1) rfl) ww_3_74 ?_
  intro p e s m args below meth c V hT
  show gaP p l e rm_L_exchange s m args below meth c G 4 (gaZ below G (gQi Q) X args s rm_L_exchange) 0 [some (.ref a0), some (gi a1), some (.ref a2), none] [] h 1 6
  unfold w_L_exchange at hw
  refine g_aload_n V dL_exchange_0 rfl rfl ?_
  refine g_aload_n V dL_exchange_1 rfl rfl ?_
  refine g_iload_n V dL_exchange_2 rfl rfl ?_
  obtain ⟨hb, hw⟩ := hw
  obtain ⟨fb, hb⟩ := hb
  obtain ⟨hk, hj, c3, s4, ec, es, hw⟩ := hw
  refine g_callV (C := RX5) (T := TX5) (N := 9) (st := [.ref a2]) V (k_X5_exchange hst hw) ww_3_75 ww_3_76 ww_3_77 ww_1_1 ww_3_78 hd_X5_exchange ⟨by decide, by decide⟩ rfl (by decide) hb rfl rfl (ga_cat rfl) dL_exchange_3 hk hj rfl ?_ (ga_ki (fun r2 hp1 hw => ?_))
  · rintro E9 h9 ⟨rfl, hw⟩
    refine gaO_re ec es ?_
    refine gaO_catch V hT [] ⟨0, 10, 13, 19⟩ [] rfl (by intro z hz; simp at hz) rfl (by decide) ww_2_208 gn_12 rfl (fun q => ?_)
    refine g_astore_n (lv2 := [some (.ref a0), some (gi a1), some (.ref a2), some (.ref q)]) V dL_exchange_13 (by decide) rfl rfl rfl ?_
    refine g_iconst V (Int32.ofInt 1) dL_exchange_14 rfl rfl ?_
    exact g_iret V rfl rfl dL_exchange_15 ⟨_, rfl, hw⟩
  · refine ga_re ec es ?_
    refine gi_i2l V dL_exchange_6 rfl ?_
    obtain ⟨fs, ha, hl, hw⟩ := hw
    refine g_putN (host := "WordgardenLaw") (C := RX6) (T := TX6) (N := 2) V 0 tyX6 tyX6_ok nmX6 rfl hin_RX6 (by decide) (by decide) gn_22 rfl rfl rfl rfl ha hl dL_exchange_7 rfl ?_
    generalize gaUp hp1 a2 _ = hp5 at hw ⊢
    refine g_goto V dL_exchange_10 rfl ?_
    refine g_iconst V (Int32.ofInt 0) dL_exchange_16 rfl rfl ?_
    exact g_iret V rfl rfl dL_exchange_17 ⟨_, rfl, hw⟩
def w_L_rotate (a0 : Nat) (a1 : Int) (a2 : Int) (a3 : Nat) (h : gaH) (Q : Int → gaH → Prop) : Prop := gHas h a0 5 ∧ gCall 2 12 2 12 (fun c3 s4 => w_X5_rotate (fun E9 h9 => (E9 = "java/lang/IndexOutOfBoundsException" ∧ Q 1 h9) ∨ (E9 = "java/lang/IllegalArgumentException" ∧ Q 2 h9)) a0 a1 a2 h (fun r2 hp1 => gPF hp1 a3 6 0 (.long (gI2l r2)) (fun hp5 => Q 0 hp5)))
abbrev rm_L_rotate : Room := { frames := 10, cells := 2, slots := 12, locals := 244 }
theorem hd_L_rotate : (yL_rotate.cls ≠ "java/lang/invoke/MethodHandle" ∧ yL_rotate.cls ≠ "java/lang/invoke/VarHandle" ∧ (parseMethodDescriptor yL_rotate.desc).map (fun d => d.parameters.length) = some 4) := by decide +kernel
theorem k_L_rotate {l : Launch} (hst : l.stackTraces = false) {G : gaG} {X : String → gaH → Prop} {a0 : Nat} {a1 : Int} {a2 : Int} {a3 : Nat} {h : gaH} {Q : Int → gaH → Prop} (hw : w_L_rotate a0 a1 a2 a3 h Q) : gaC l G yL_rotate (gaMW yL_rotate cL_rotate 5 ((some .int)) [(0, 11, 14, 19), (0, 11, 18, 21)]) rm_L_rotate [.ref a0, gi a1, gi a2, .ref a3] h (gQi Q) X := by
  refine g_startW (lv := [some (.ref a0), some (gi a1), some (gi a2), some (.ref a3), none]) hpl_RL hst (Nat.le_of_ble_eq_true rfl) (gaArgs_pad (z := 1) rfl) ww_3_81 ?_
  intro p e s m args below meth c V hT
  show gaP p l e rm_L_rotate s m args below meth c G 5 (gaZ below G (gQi Q) X args s rm_L_rotate) 0 [some (.ref a0), some (gi a1), some (gi a2), some (.ref a3), none] [] h 2 12
  unfold w_L_rotate at hw
  refine g_aload_n V dL_rotate_0 rfl rfl ?_
  refine g_aload_n V dL_rotate_1 rfl rfl ?_
  refine g_iload_n V dL_rotate_2 rfl rfl ?_
  refine g_iload_n V dL_rotate_3 rfl rfl ?_
  obtain ⟨hb, hw⟩ := hw
  obtain ⟨fb, hb⟩ := hb
  obtain ⟨hk, hj, c3, s4, ec, es, hw⟩ := hw
  refine g_callV (C := RX5) (T := TX5) (N := 9) (st := [.ref a3]) V (k_X5_rotate hst hw) ww_3_82 ww_3_83 ww_3_84 ww_1_1 ww_3_85 hd_X5_rotate ⟨by decide, by decide⟩ rfl (by decide) hb rfl rfl (ga_cat rfl) dL_rotate_4 hk hj rfl ?_ (ga_ki (fun r2 hp1 hw => ?_))
  · rintro E9 h9 (⟨rfl, hw⟩ | ⟨rfl, hw⟩)
    · refine gaO_re ec es ?_
      refine gaO_catch V hT [] ⟨0, 11, 14, 19⟩ [⟨0, 11, 18, 21⟩] rfl (by intro z hz; simp at hz) rfl (by decide) ww_2_208 gn_12 rfl (fun q => ?_)
      refine g_astore (lv2 := [some (.ref a0), some (gi a1), some (gi a2), some (.ref a3), some (.ref q)]) V dL_rotate_14 (by decide) rfl rfl rfl ?_
      refine g_iconst V (Int32.ofInt 1) dL_rotate_16 rfl rfl ?_
      exact g_iret V rfl rfl dL_rotate_17 ⟨_, rfl, hw⟩
    · refine gaO_re ec es ?_
      refine gaO_catch V hT [⟨0, 11, 14, 19⟩] ⟨0, 11, 18, 21⟩ [] rfl (by intro z hz; simp only [List.mem_cons, List.not_mem_nil, or_false] at hz; rcases hz with rfl <;> first | exact ⟨by decide, "java/lang/IndexOutOfBoundsException", ww_2_208, List.mem_of_getElem? (i := 0) rfl⟩) rfl (by decide) ww_2_209 gn_20 rfl (fun q => ?_)
      refine g_astore (lv2 := [some (.ref a0), some (gi a1), some (gi a2), some (.ref a3), some (.ref q)]) V dL_rotate_18 (by decide) rfl rfl rfl ?_
      refine g_iconst V (Int32.ofInt 2) dL_rotate_20 rfl rfl ?_
      exact g_iret V rfl rfl dL_rotate_21 ⟨_, rfl, hw⟩
  · refine ga_re ec es ?_
    refine gi_i2l V dL_rotate_7 rfl ?_
    obtain ⟨fs, ha, hl, hw⟩ := hw
    refine g_putN (host := "WordgardenLaw") (C := RX6) (T := TX6) (N := 2) V 0 tyX6 tyX6_ok nmX6 rfl hin_RX6 (by decide) (by decide) gn_22 rfl rfl rfl rfl ha hl dL_rotate_8 rfl ?_
    generalize gaUp hp1 a3 _ = hp5 at hw ⊢
    refine g_goto V dL_rotate_11 rfl ?_
    refine g_iconst V (Int32.ofInt 0) dL_rotate_22 rfl rfl ?_
    exact g_iret V rfl rfl dL_rotate_23 ⟨_, rfl, hw⟩
def w_L_copy (a0 : Nat) (a1 : Int) (a2 : Int) (a3 : Nat) (h : gaH) (Q : Int → gaH → Prop) : Prop := gHas h a0 5 ∧ gCall 2 12 2 12 (fun c3 s4 => w_X5_copy (fun E9 h9 => (E9 = "java/lang/IndexOutOfBoundsException" ∧ Q 1 h9)) a0 a1 a2 h (fun r2 hp1 => gPF hp1 a3 6 0 (.long (gI2l r2)) (fun hp5 => Q 0 hp5)))
abbrev rm_L_copy : Room := { frames := 10, cells := 2, slots := 12, locals := 244 }
theorem hd_L_copy : (yL_copy.cls ≠ "java/lang/invoke/MethodHandle" ∧ yL_copy.cls ≠ "java/lang/invoke/VarHandle" ∧ (parseMethodDescriptor yL_copy.desc).map (fun d => d.parameters.length) = some 4) := by decide +kernel
theorem k_L_copy {l : Launch} (hst : l.stackTraces = false) {G : gaG} {X : String → gaH → Prop} {a0 : Nat} {a1 : Int} {a2 : Int} {a3 : Nat} {h : gaH} {Q : Int → gaH → Prop} (hw : w_L_copy a0 a1 a2 a3 h Q) : gaC l G yL_copy (gaMW yL_copy cL_copy 5 ((some .int)) [(0, 11, 14, 19)]) rm_L_copy [.ref a0, gi a1, gi a2, .ref a3] h (gQi Q) X := by
  refine g_startW (lv := [some (.ref a0), some (gi a1), some (gi a2), some (.ref a3), none]) hpl_RL hst (Nat.le_of_ble_eq_true rfl) (gaArgs_pad (z := 1) rfl) ww_3_88 ?_
  intro p e s m args below meth c V hT
  show gaP p l e rm_L_copy s m args below meth c G 5 (gaZ below G (gQi Q) X args s rm_L_copy) 0 [some (.ref a0), some (gi a1), some (gi a2), some (.ref a3), none] [] h 2 12
  unfold w_L_copy at hw
  refine g_aload_n V dL_copy_0 rfl rfl ?_
  refine g_aload_n V dL_copy_1 rfl rfl ?_
  refine g_iload_n V dL_copy_2 rfl rfl ?_
  refine g_iload_n V dL_copy_3 rfl rfl ?_
  obtain ⟨hb, hw⟩ := hw
  obtain ⟨fb, hb⟩ := hb
  obtain ⟨hk, hj, c3, s4, ec, es, hw⟩ := hw
  refine g_callV (C := RX5) (T := TX5) (N := 9) (st := [.ref a3]) V (k_X5_copy hst hw) ww_3_89 ww_3_90 ww_3_91 ww_1_1 ww_3_92 hd_X5_copy ⟨by decide, by decide⟩ rfl (by decide) hb rfl rfl (ga_cat rfl) dL_copy_4 hk hj rfl ?_ (ga_ki (fun r2 hp1 hw => ?_))
  · rintro E9 h9 ⟨rfl, hw⟩
    refine gaO_re ec es ?_
    refine gaO_catch V hT [] ⟨0, 11, 14, 19⟩ [] rfl (by intro z hz; simp at hz) rfl (by decide) ww_2_208 gn_12 rfl (fun q => ?_)
    refine g_astore (lv2 := [some (.ref a0), some (gi a1), some (gi a2), some (.ref a3), some (.ref q)]) V dL_copy_14 (by decide) rfl rfl rfl ?_
    refine g_iconst V (Int32.ofInt 1) dL_copy_16 rfl rfl ?_
    exact g_iret V rfl rfl dL_copy_17 ⟨_, rfl, hw⟩
  · refine ga_re ec es ?_
    refine gi_i2l V dL_copy_7 rfl ?_
    obtain ⟨fs, ha, hl, hw⟩ := hw
    refine g_putN (host := "WordgardenLaw") (C := RX6) (T := TX6) (N := 2) V 0 tyX6 tyX6_ok nmX6 rfl hin_RX6 (by decide) (by decide) gn_22 rfl rfl rfl rfl ha hl dL_copy_8 rfl ?_
    generalize gaUp hp1 a3 _ = hp5 at hw ⊢
    refine g_goto V dL_copy_11 rfl ?_
    refine g_iconst V (Int32.ofInt 0) dL_copy_18 rfl rfl ?_
    exact g_iret V rfl rfl dL_copy_19 ⟨_, rfl, hw⟩
def w_L_apply (a0 : Nat) (a1 : Int) (a2 : Int) (a3 : Int) (a4 : Nat) (h : gaH) (Q : Int → gaH → Prop) : Prop := gHas h a0 5 ∧ gCall 3 18 3 18 (fun c3 s4 => w_X5_apply (fun E9 h9 => (E9 = "java/lang/IndexOutOfBoundsException" ∧ Q 1 h9) ∨ (E9 = "java/lang/IllegalArgumentException" ∧ Q 2 h9)) a0 a1 a2 a3 h (fun r2 hp1 => gPF hp1 a4 6 0 (.long (gI2l r2)) (fun hp5 => Q 0 hp5)))
abbrev rm_L_apply : Room := { frames := 11, cells := 3, slots := 18, locals := 266 }
theorem hd_L_apply : (yL_apply.cls ≠ "java/lang/invoke/MethodHandle" ∧ yL_apply.cls ≠ "java/lang/invoke/VarHandle" ∧ (parseMethodDescriptor yL_apply.desc).map (fun d => d.parameters.length) = some 5) := by decide +kernel
theorem k_L_apply {l : Launch} (hst : l.stackTraces = false) {G : gaG} {X : String → gaH → Prop} {a0 : Nat} {a1 : Int} {a2 : Int} {a3 : Int} {a4 : Nat} {h : gaH} {Q : Int → gaH → Prop} (hw : w_L_apply a0 a1 a2 a3 a4 h Q) : gaC l G yL_apply (gaMW yL_apply cL_apply 6 ((some .int)) [(0, 13, 16, 19), (0, 13, 20, 21)]) rm_L_apply [.ref a0, gi a1, gi a2, gi a3, .ref a4] h (gQi Q) X := by
  refine g_startW (lv := [some (.ref a0), some (gi a1), some (gi a2), some (gi a3), some (.ref a4), none]) hpl_RL hst (Nat.le_of_ble_eq_true rfl) (gaArgs_pad (z := 1) rfl) ww_3_95 ?_
  intro p e s m args below meth c V hT
  show gaP p l e rm_L_apply s m args below meth c G 6 (gaZ below G (gQi Q) X args s rm_L_apply) 0 [some (.ref a0), some (gi a1), some (gi a2), some (gi a3), some (.ref a4), none] [] h 3 18
  unfold w_L_apply at hw
  refine g_aload V dL_apply_0 rfl rfl ?_
  refine g_aload_n V dL_apply_2 rfl rfl ?_
  refine g_iload_n V dL_apply_3 rfl rfl ?_
  refine g_iload_n V dL_apply_4 rfl rfl ?_
  refine g_iload_n V dL_apply_5 rfl rfl ?_
  obtain ⟨hb, hw⟩ := hw
  obtain ⟨fb, hb⟩ := hb
  obtain ⟨hk, hj, c3, s4, ec, es, hw⟩ := hw
  refine g_callV (C := RX5) (T := TX5) (N := 9) (st := [.ref a4]) V (k_X5_apply hst hw) ww_3_96 ww_3_97 ww_3_98 ww_1_1 ww_3_99 hd_X5_apply ⟨by decide, by decide⟩ rfl (by decide) hb rfl rfl (ga_cat rfl) dL_apply_6 hk hj rfl ?_ (ga_ki (fun r2 hp1 hw => ?_))
  · rintro E9 h9 (⟨rfl, hw⟩ | ⟨rfl, hw⟩)
    · refine gaO_re ec es ?_
      refine gaO_catch V hT [] ⟨0, 13, 16, 19⟩ [⟨0, 13, 20, 21⟩] rfl (by intro z hz; simp at hz) rfl (by decide) ww_2_208 gn_12 rfl (fun q => ?_)
      refine g_astore (lv2 := [some (.ref a0), some (gi a1), some (gi a2), some (gi a3), some (.ref a4), some (.ref q)]) V dL_apply_16 (by decide) rfl rfl rfl ?_
      refine g_iconst V (Int32.ofInt 1) dL_apply_18 rfl rfl ?_
      exact g_iret V rfl rfl dL_apply_19 ⟨_, rfl, hw⟩
    · refine gaO_re ec es ?_
      refine gaO_catch V hT [⟨0, 13, 16, 19⟩] ⟨0, 13, 20, 21⟩ [] rfl (by intro z hz; simp only [List.mem_cons, List.not_mem_nil, or_false] at hz; rcases hz with rfl <;> first | exact ⟨by decide, "java/lang/IndexOutOfBoundsException", ww_2_208, List.mem_of_getElem? (i := 0) rfl⟩) rfl (by decide) ww_2_209 gn_20 rfl (fun q => ?_)
      refine g_astore (lv2 := [some (.ref a0), some (gi a1), some (gi a2), some (gi a3), some (.ref a4), some (.ref q)]) V dL_apply_20 (by decide) rfl rfl rfl ?_
      refine g_iconst V (Int32.ofInt 2) dL_apply_22 rfl rfl ?_
      exact g_iret V rfl rfl dL_apply_23 ⟨_, rfl, hw⟩
  · refine ga_re ec es ?_
    refine gi_i2l V dL_apply_9 rfl ?_
    obtain ⟨fs, ha, hl, hw⟩ := hw
    refine g_putN (host := "WordgardenLaw") (C := RX6) (T := TX6) (N := 2) V 0 tyX6 tyX6_ok nmX6 rfl hin_RX6 (by decide) (by decide) gn_22 rfl rfl rfl rfl ha hl dL_apply_10 rfl ?_
    generalize gaUp hp1 a4 _ = hp5 at hw ⊢
    refine g_goto V dL_apply_13 rfl ?_
    refine g_iconst V (Int32.ofInt 0) dL_apply_24 rfl rfl ?_
    exact g_iret V rfl rfl dL_apply_25 ⟨_, rfl, hw⟩
def w_L_undo (a0 : Nat) (a1 : Int) (a2 : Int) (a3 : Int) (a4 : Nat) (h : gaH) (Q : Int → gaH → Prop) : Prop := gHas h a0 5 ∧ gCall 4 24 4 24 (fun c3 s4 => w_X5_undo (fun E9 h9 => (E9 = "java/lang/IndexOutOfBoundsException" ∧ Q 1 h9) ∨ (E9 = "java/lang/IllegalArgumentException" ∧ Q 2 h9) ∨ (E9 = "java/lang/IllegalStateException" ∧ Q 3 h9)) a0 a1 a2 a3 h (fun r2 hp1 => gPF hp1 a4 6 0 (.long (gI2l r2)) (fun hp5 => Q 0 hp5)))
abbrev rm_L_undo : Room := { frames := 11, cells := 4, slots := 24, locals := 266 }
theorem hd_L_undo : (yL_undo.cls ≠ "java/lang/invoke/MethodHandle" ∧ yL_undo.cls ≠ "java/lang/invoke/VarHandle" ∧ (parseMethodDescriptor yL_undo.desc).map (fun d => d.parameters.length) = some 5) := by decide +kernel
theorem k_L_undo {l : Launch} (hst : l.stackTraces = false) {G : gaG} {X : String → gaH → Prop} {a0 : Nat} {a1 : Int} {a2 : Int} {a3 : Int} {a4 : Nat} {h : gaH} {Q : Int → gaH → Prop} (hw : w_L_undo a0 a1 a2 a3 a4 h Q) : gaC l G yL_undo (gaMW yL_undo cL_undo 6 ((some .int)) [(0, 13, 16, 19), (0, 13, 20, 21), (0, 13, 24, 69)]) rm_L_undo [.ref a0, gi a1, gi a2, gi a3, .ref a4] h (gQi Q) X := by
  refine g_startW (lv := [some (.ref a0), some (gi a1), some (gi a2), some (gi a3), some (.ref a4), none]) hpl_RL hst (Nat.le_of_ble_eq_true rfl) (gaArgs_pad (z := 1) rfl) ww_3_113 ?_
  intro p e s m args below meth c V hT
  show gaP p l e rm_L_undo s m args below meth c G 6 (gaZ below G (gQi Q) X args s rm_L_undo) 0 [some (.ref a0), some (gi a1), some (gi a2), some (gi a3), some (.ref a4), none] [] h 4 24
  unfold w_L_undo at hw
  refine g_aload V dL_undo_0 rfl rfl ?_
  refine g_aload_n V dL_undo_2 rfl rfl ?_
  refine g_iload_n V dL_undo_3 rfl rfl ?_
  refine g_iload_n V dL_undo_4 rfl rfl ?_
  refine g_iload_n V dL_undo_5 rfl rfl ?_
  obtain ⟨hb, hw⟩ := hw
  obtain ⟨fb, hb⟩ := hb
  obtain ⟨hk, hj, c3, s4, ec, es, hw⟩ := hw
  refine g_callV (C := RX5) (T := TX5) (N := 9) (st := [.ref a4]) V (k_X5_undo hst hw) ww_3_115 ww_3_116 ww_3_117 ww_1_1 ww_3_118 hd_X5_undo ⟨by decide, by decide⟩ rfl (by decide) hb rfl rfl (ga_cat rfl) dL_undo_6 hk hj rfl ?_ (ga_ki (fun r2 hp1 hw => ?_))
  · rintro E9 h9 (⟨rfl, hw⟩ | ⟨rfl, hw⟩ | ⟨rfl, hw⟩)
    · refine gaO_re ec es ?_
      refine gaO_catch V hT [] ⟨0, 13, 16, 19⟩ [⟨0, 13, 20, 21⟩, ⟨0, 13, 24, 69⟩] rfl (by intro z hz; simp at hz) rfl (by decide) ww_2_208 gn_12 rfl (fun q => ?_)
      refine g_astore (lv2 := [some (.ref a0), some (gi a1), some (gi a2), some (gi a3), some (.ref a4), some (.ref q)]) V dL_undo_16 (by decide) rfl rfl rfl ?_
      refine g_iconst V (Int32.ofInt 1) dL_undo_18 rfl rfl ?_
      exact g_iret V rfl rfl dL_undo_19 ⟨_, rfl, hw⟩
    · refine gaO_re ec es ?_
      refine gaO_catch V hT [⟨0, 13, 16, 19⟩] ⟨0, 13, 20, 21⟩ [⟨0, 13, 24, 69⟩] rfl (by intro z hz; simp only [List.mem_cons, List.not_mem_nil, or_false] at hz; rcases hz with rfl <;> first | exact ⟨by decide, "java/lang/IndexOutOfBoundsException", ww_2_208, List.mem_of_getElem? (i := 0) rfl⟩) rfl (by decide) ww_2_209 gn_20 rfl (fun q => ?_)
      refine g_astore (lv2 := [some (.ref a0), some (gi a1), some (gi a2), some (gi a3), some (.ref a4), some (.ref q)]) V dL_undo_20 (by decide) rfl rfl rfl ?_
      refine g_iconst V (Int32.ofInt 2) dL_undo_22 rfl rfl ?_
      exact g_iret V rfl rfl dL_undo_23 ⟨_, rfl, hw⟩
    · refine gaO_re ec es ?_
      refine gaO_catch V hT [⟨0, 13, 16, 19⟩, ⟨0, 13, 20, 21⟩] ⟨0, 13, 24, 69⟩ [] rfl (by intro z hz; simp only [List.mem_cons, List.not_mem_nil, or_false] at hz; rcases hz with rfl | rfl <;> first | exact ⟨by decide, "java/lang/IndexOutOfBoundsException", ww_2_208, List.mem_of_getElem? (i := 1) rfl⟩ | exact ⟨by decide, "java/lang/IllegalArgumentException", ww_2_209, List.mem_of_getElem? (i := 2) rfl⟩) rfl (by decide) ww_3_114 gn_24 rfl (fun q => ?_)
      refine g_astore (lv2 := [some (.ref a0), some (gi a1), some (gi a2), some (gi a3), some (.ref a4), some (.ref q)]) V dL_undo_24 (by decide) rfl rfl rfl ?_
      refine g_iconst V (Int32.ofInt 3) dL_undo_26 rfl rfl ?_
      exact g_iret V rfl rfl dL_undo_27 ⟨_, rfl, hw⟩
  · refine ga_re ec es ?_
    refine gi_i2l V dL_undo_9 rfl ?_
    obtain ⟨fs, ha, hl, hw⟩ := hw
    refine g_putN (host := "WordgardenLaw") (C := RX6) (T := TX6) (N := 2) V 0 tyX6 tyX6_ok nmX6 rfl hin_RX6 (by decide) (by decide) gn_22 rfl rfl rfl rfl ha hl dL_undo_10 rfl ?_
    generalize gaUp hp1 a4 _ = hp5 at hw ⊢
    refine g_goto V dL_undo_13 rfl ?_
    refine g_iconst V (Int32.ofInt 0) dL_undo_28 rfl rfl ?_
    exact g_iret V rfl rfl dL_undo_29 ⟨_, rfl, hw⟩
def w_L_lay (G : gaG) (a0 : Nat) (a1 : Int) (a2 : Int) (a3 : Int) (a4 : Nat) (h : gaH) (Q : Int → gaH → Prop) : Prop := gHas h a0 5 ∧ gCall 3 18 3 18 (fun c3 s4 => w_X5_lay G (fun E9 h9 => (E9 = "java/lang/IndexOutOfBoundsException" ∧ Q 1 h9) ∨ (E9 = "java/lang/IllegalArgumentException" ∧ Q 2 h9)) a0 a1 a2 a3 h (fun r2 hp1 => gPF hp1 a4 6 0 (.long (gI2l r2)) (fun hp5 => Q 0 hp5)))
abbrev rm_L_lay : Room := { frames := 10, cells := 3, slots := 18, locals := 246 }
theorem hd_L_lay : (yL_lay.cls ≠ "java/lang/invoke/MethodHandle" ∧ yL_lay.cls ≠ "java/lang/invoke/VarHandle" ∧ (parseMethodDescriptor yL_lay.desc).map (fun d => d.parameters.length) = some 5) := by decide +kernel
theorem k_L_lay {l : Launch} (hst : l.stackTraces = false) {G : gaG} {X : String → gaH → Prop} {a0 : Nat} {a1 : Int} {a2 : Int} {a3 : Int} {a4 : Nat} {h : gaH} {Q : Int → gaH → Prop} (hw : w_L_lay G a0 a1 a2 a3 a4 h Q) : gaC l G yL_lay (gaMW yL_lay cL_lay 6 ((some .int)) [(0, 13, 16, 19), (0, 13, 20, 21)]) rm_L_lay [.ref a0, gi a1, gi a2, gi a3, .ref a4] h (gQi Q) X := by
  refine g_startW (lv := [some (.ref a0), some (gi a1), some (gi a2), some (gi a3), some (.ref a4), none]) hpl_RL hst (Nat.le_of_ble_eq_true rfl) (gaArgs_pad (z := 1) rfl) ww_3_165 ?_
  intro p e s m args below meth c V hT
  show gaP p l e rm_L_lay s m args below meth c G 6 (gaZ below G (gQi Q) X args s rm_L_lay) 0 [some (.ref a0), some (gi a1), some (gi a2), some (gi a3), some (.ref a4), none] [] h 3 18
  unfold w_L_lay at hw
  refine g_aload V dL_lay_0 rfl rfl ?_
  refine g_aload_n V dL_lay_2 rfl rfl ?_
  refine g_iload_n V dL_lay_3 rfl rfl ?_
  refine g_iload_n V dL_lay_4 rfl rfl ?_
  refine g_iload_n V dL_lay_5 rfl rfl ?_
  obtain ⟨hb, hw⟩ := hw
  obtain ⟨fb, hb⟩ := hb
  obtain ⟨hk, hj, c3, s4, ec, es, hw⟩ := hw
  refine g_callV (C := RX5) (T := TX5) (N := 9) (st := [.ref a4]) V (k_X5_lay hst hw) ww_3_166 ww_3_167 ww_3_168 ww_1_1 ww_3_169 hd_X5_lay ⟨by decide, by decide⟩ rfl (by decide) hb rfl rfl (ga_cat rfl) dL_lay_6 hk hj rfl ?_ (ga_ki (fun r2 hp1 hw => ?_))
  · rintro E9 h9 (⟨rfl, hw⟩ | ⟨rfl, hw⟩)
    · refine gaO_re ec es ?_
      refine gaO_catch V hT [] ⟨0, 13, 16, 19⟩ [⟨0, 13, 20, 21⟩] rfl (by intro z hz; simp at hz) rfl (by decide) ww_2_208 gn_12 rfl (fun q => ?_)
      refine g_astore (lv2 := [some (.ref a0), some (gi a1), some (gi a2), some (gi a3), some (.ref a4), some (.ref q)]) V dL_lay_16 (by decide) rfl rfl rfl ?_
      refine g_iconst V (Int32.ofInt 1) dL_lay_18 rfl rfl ?_
      exact g_iret V rfl rfl dL_lay_19 ⟨_, rfl, hw⟩
    · refine gaO_re ec es ?_
      refine gaO_catch V hT [⟨0, 13, 16, 19⟩] ⟨0, 13, 20, 21⟩ [] rfl (by intro z hz; simp only [List.mem_cons, List.not_mem_nil, or_false] at hz; rcases hz with rfl <;> first | exact ⟨by decide, "java/lang/IndexOutOfBoundsException", ww_2_208, List.mem_of_getElem? (i := 0) rfl⟩) rfl (by decide) ww_2_209 gn_20 rfl (fun q => ?_)
      refine g_astore (lv2 := [some (.ref a0), some (gi a1), some (gi a2), some (gi a3), some (.ref a4), some (.ref q)]) V dL_lay_20 (by decide) rfl rfl rfl ?_
      refine g_iconst V (Int32.ofInt 2) dL_lay_22 rfl rfl ?_
      exact g_iret V rfl rfl dL_lay_23 ⟨_, rfl, hw⟩
  · refine ga_re ec es ?_
    refine gi_i2l V dL_lay_9 rfl ?_
    obtain ⟨fs, ha, hl, hw⟩ := hw
    refine g_putN (host := "WordgardenLaw") (C := RX6) (T := TX6) (N := 2) V 0 tyX6 tyX6_ok nmX6 rfl hin_RX6 (by decide) (by decide) gn_22 rfl rfl rfl rfl ha hl dL_lay_10 rfl ?_
    generalize gaUp hp1 a4 _ = hp5 at hw ⊢
    refine g_goto V dL_lay_13 rfl ?_
    refine g_iconst V (Int32.ofInt 0) dL_lay_24 rfl rfl ?_
    exact g_iret V rfl rfl dL_lay_25 ⟨_, rfl, hw⟩
def w_L_twos (a0 : Nat) (a1 : Int) (a2 : Int) (a3 : Int) (a4 : Nat) (h : gaH) (Q : Int → gaH → Prop) : Prop := gHas h a0 5 ∧ gCall 3 18 3 18 (fun c3 s4 => w_X5_twos (fun E9 h9 => (E9 = "java/lang/IndexOutOfBoundsException" ∧ Q 1 h9) ∨ (E9 = "java/lang/IllegalArgumentException" ∧ Q 2 h9)) a0 a1 a2 a3 h (fun r2 hp1 => gPF hp1 a4 6 0 (.long (gI2l r2)) (fun hp5 => Q 0 hp5)))
abbrev rm_L_twos : Room := { frames := 10, cells := 3, slots := 18, locals := 245 }
theorem hd_L_twos : (yL_twos.cls ≠ "java/lang/invoke/MethodHandle" ∧ yL_twos.cls ≠ "java/lang/invoke/VarHandle" ∧ (parseMethodDescriptor yL_twos.desc).map (fun d => d.parameters.length) = some 5) := by decide +kernel
theorem k_L_twos {l : Launch} (hst : l.stackTraces = false) {G : gaG} {X : String → gaH → Prop} {a0 : Nat} {a1 : Int} {a2 : Int} {a3 : Int} {a4 : Nat} {h : gaH} {Q : Int → gaH → Prop} (hw : w_L_twos a0 a1 a2 a3 a4 h Q) : gaC l G yL_twos (gaMW yL_twos cL_twos 6 ((some .int)) [(0, 13, 16, 19), (0, 13, 20, 21)]) rm_L_twos [.ref a0, gi a1, gi a2, gi a3, .ref a4] h (gQi Q) X := by
  refine g_startW (lv := [some (.ref a0), some (gi a1), some (gi a2), some (gi a3), some (.ref a4), none]) hpl_RL hst (Nat.le_of_ble_eq_true rfl) (gaArgs_pad (z := 1) rfl) ww_3_172 ?_
  intro p e s m args below meth c V hT
  show gaP p l e rm_L_twos s m args below meth c G 6 (gaZ below G (gQi Q) X args s rm_L_twos) 0 [some (.ref a0), some (gi a1), some (gi a2), some (gi a3), some (.ref a4), none] [] h 3 18
  unfold w_L_twos at hw
  refine g_aload V dL_twos_0 rfl rfl ?_
  refine g_aload_n V dL_twos_2 rfl rfl ?_
  refine g_iload_n V dL_twos_3 rfl rfl ?_
  refine g_iload_n V dL_twos_4 rfl rfl ?_
  refine g_iload_n V dL_twos_5 rfl rfl ?_
  obtain ⟨hb, hw⟩ := hw
  obtain ⟨fb, hb⟩ := hb
  obtain ⟨hk, hj, c3, s4, ec, es, hw⟩ := hw
  refine g_callV (C := RX5) (T := TX5) (N := 9) (st := [.ref a4]) V (k_X5_twos hst hw) ww_3_173 ww_3_174 ww_3_175 ww_1_1 ww_3_176 hd_X5_twos ⟨by decide, by decide⟩ rfl (by decide) hb rfl rfl (ga_cat rfl) dL_twos_6 hk hj rfl ?_ (ga_ki (fun r2 hp1 hw => ?_))
  · rintro E9 h9 (⟨rfl, hw⟩ | ⟨rfl, hw⟩)
    · refine gaO_re ec es ?_
      refine gaO_catch V hT [] ⟨0, 13, 16, 19⟩ [⟨0, 13, 20, 21⟩] rfl (by intro z hz; simp at hz) rfl (by decide) ww_2_208 gn_12 rfl (fun q => ?_)
      refine g_astore (lv2 := [some (.ref a0), some (gi a1), some (gi a2), some (gi a3), some (.ref a4), some (.ref q)]) V dL_twos_16 (by decide) rfl rfl rfl ?_
      refine g_iconst V (Int32.ofInt 1) dL_twos_18 rfl rfl ?_
      exact g_iret V rfl rfl dL_twos_19 ⟨_, rfl, hw⟩
    · refine gaO_re ec es ?_
      refine gaO_catch V hT [⟨0, 13, 16, 19⟩] ⟨0, 13, 20, 21⟩ [] rfl (by intro z hz; simp only [List.mem_cons, List.not_mem_nil, or_false] at hz; rcases hz with rfl <;> first | exact ⟨by decide, "java/lang/IndexOutOfBoundsException", ww_2_208, List.mem_of_getElem? (i := 0) rfl⟩) rfl (by decide) ww_2_209 gn_20 rfl (fun q => ?_)
      refine g_astore (lv2 := [some (.ref a0), some (gi a1), some (gi a2), some (gi a3), some (.ref a4), some (.ref q)]) V dL_twos_20 (by decide) rfl rfl rfl ?_
      refine g_iconst V (Int32.ofInt 2) dL_twos_22 rfl rfl ?_
      exact g_iret V rfl rfl dL_twos_23 ⟨_, rfl, hw⟩
  · refine ga_re ec es ?_
    refine gi_i2l V dL_twos_9 rfl ?_
    obtain ⟨fs, ha, hl, hw⟩ := hw
    refine g_putN (host := "WordgardenLaw") (C := RX6) (T := TX6) (N := 2) V 0 tyX6 tyX6_ok nmX6 rfl hin_RX6 (by decide) (by decide) gn_22 rfl rfl rfl rfl ha hl dL_twos_10 rfl ?_
    generalize gaUp hp1 a4 _ = hp5 at hw ⊢
    refine g_goto V dL_twos_13 rfl ?_
    refine g_iconst V (Int32.ofInt 0) dL_twos_24 rfl rfl ?_
    exact g_iret V rfl rfl dL_twos_25 ⟨_, rfl, hw⟩
def w_L_line (a0 : Nat) (a1 : Int) (a2 : Int) (a3 : Int) (a4 : Int) (a5 : Nat) (h : gaH) (Q : Int → gaH → Prop) : Prop := gHas h a0 5 ∧ gCall 4 24 4 24 (fun c3 s4 => w_X5_line (fun E9 h9 => (E9 = "java/lang/IndexOutOfBoundsException" ∧ Q 1 h9) ∨ (E9 = "java/lang/IllegalArgumentException" ∧ Q 2 h9)) a0 a1 a2 a3 a4 h (fun r2 hp1 => gPF hp1 a5 6 0 (.long (gI2l r2)) (fun hp5 => Q 0 hp5)))
abbrev rm_L_line : Room := { frames := 10, cells := 4, slots := 24, locals := 247 }
theorem hd_L_line : (yL_line.cls ≠ "java/lang/invoke/MethodHandle" ∧ yL_line.cls ≠ "java/lang/invoke/VarHandle" ∧ (parseMethodDescriptor yL_line.desc).map (fun d => d.parameters.length) = some 6) := by decide +kernel
theorem k_L_line {l : Launch} (hst : l.stackTraces = false) {G : gaG} {X : String → gaH → Prop} {a0 : Nat} {a1 : Int} {a2 : Int} {a3 : Int} {a4 : Int} {a5 : Nat} {h : gaH} {Q : Int → gaH → Prop} (hw : w_L_line a0 a1 a2 a3 a4 a5 h Q) : gaC l G yL_line (gaMW yL_line cL_line 7 ((some .int)) [(0, 15, 18, 19), (0, 15, 22, 21)]) rm_L_line [.ref a0, gi a1, gi a2, gi a3, gi a4, .ref a5] h (gQi Q) X := by
  refine g_startW (lv := [some (.ref a0), some (gi a1), some (gi a2), some (gi a3), some (gi a4), some (.ref a5), none]) hpl_RL hst (Nat.le_of_ble_eq_true rfl) (gaArgs_pad (z := 1) rfl) ww_3_200 ?_
  intro p e s m args below meth c V hT
  show gaP p l e rm_L_line s m args below meth c G 7 (gaZ below G (gQi Q) X args s rm_L_line) 0 [some (.ref a0), some (gi a1), some (gi a2), some (gi a3), some (gi a4), some (.ref a5), none] [] h 4 24
  unfold w_L_line at hw
  refine g_aload V dL_line_0 rfl rfl ?_
  refine g_aload_n V dL_line_2 rfl rfl ?_
  refine g_iload_n V dL_line_3 rfl rfl ?_
  refine g_iload_n V dL_line_4 rfl rfl ?_
  refine g_iload_n V dL_line_5 rfl rfl ?_
  refine g_iload V dL_line_6 rfl rfl ?_
  obtain ⟨hb, hw⟩ := hw
  obtain ⟨fb, hb⟩ := hb
  obtain ⟨hk, hj, c3, s4, ec, es, hw⟩ := hw
  refine g_callV (C := RX5) (T := TX5) (N := 9) (st := [.ref a5]) V (k_X5_line hst hw) ww_3_201 ww_3_202 ww_3_203 ww_1_1 ww_3_204 hd_X5_line ⟨by decide, by decide⟩ rfl (by decide) hb rfl rfl (ga_cat rfl) dL_line_8 hk hj rfl ?_ (ga_ki (fun r2 hp1 hw => ?_))
  · rintro E9 h9 (⟨rfl, hw⟩ | ⟨rfl, hw⟩)
    · refine gaO_re ec es ?_
      refine gaO_catch V hT [] ⟨0, 15, 18, 19⟩ [⟨0, 15, 22, 21⟩] rfl (by intro z hz; simp at hz) rfl (by decide) ww_2_208 gn_12 rfl (fun q => ?_)
      refine g_astore (lv2 := [some (.ref a0), some (gi a1), some (gi a2), some (gi a3), some (gi a4), some (.ref a5), some (.ref q)]) V dL_line_18 (by decide) rfl rfl rfl ?_
      refine g_iconst V (Int32.ofInt 1) dL_line_20 rfl rfl ?_
      exact g_iret V rfl rfl dL_line_21 ⟨_, rfl, hw⟩
    · refine gaO_re ec es ?_
      refine gaO_catch V hT [⟨0, 15, 18, 19⟩] ⟨0, 15, 22, 21⟩ [] rfl (by intro z hz; simp only [List.mem_cons, List.not_mem_nil, or_false] at hz; rcases hz with rfl <;> first | exact ⟨by decide, "java/lang/IndexOutOfBoundsException", ww_2_208, List.mem_of_getElem? (i := 0) rfl⟩) rfl (by decide) ww_2_209 gn_20 rfl (fun q => ?_)
      refine g_astore (lv2 := [some (.ref a0), some (gi a1), some (gi a2), some (gi a3), some (gi a4), some (.ref a5), some (.ref q)]) V dL_line_22 (by decide) rfl rfl rfl ?_
      refine g_iconst V (Int32.ofInt 2) dL_line_24 rfl rfl ?_
      exact g_iret V rfl rfl dL_line_25 ⟨_, rfl, hw⟩
  · refine ga_re ec es ?_
    refine gi_i2l V dL_line_11 rfl ?_
    obtain ⟨fs, ha, hl, hw⟩ := hw
    refine g_putN (host := "WordgardenLaw") (C := RX6) (T := TX6) (N := 2) V 0 tyX6 tyX6_ok nmX6 rfl hin_RX6 (by decide) (by decide) gn_22 rfl rfl rfl rfl ha hl dL_line_12 rfl ?_
    generalize gaUp hp1 a5 _ = hp5 at hw ⊢
    refine g_goto V dL_line_15 rfl ?_
    refine g_iconst V (Int32.ofInt 0) dL_line_26 rfl rfl ?_
    exact g_iret V rfl rfl dL_line_27 ⟨_, rfl, hw⟩
def w_L_grow (a0 : Nat) (a1 : Int) (a2 : Int) (a3 : Nat) (h : gaH) (Q : Int → gaH → Prop) : Prop := gHas h a0 5 ∧ gCall 2 12 2 12 (fun c3 s4 => w_X5_grow (fun E9 h9 => (E9 = "java/lang/IndexOutOfBoundsException" ∧ Q 1 h9) ∨ (E9 = "java/lang/IllegalArgumentException" ∧ Q 2 h9)) a0 a1 a2 h (fun r2 hp1 => gPF hp1 a3 6 0 (.long (gI2l r2)) (fun hp5 => Q 0 hp5)))
abbrev rm_L_grow : Room := { frames := 10, cells := 2, slots := 12, locals := 244 }
theorem hd_L_grow : (yL_grow.cls ≠ "java/lang/invoke/MethodHandle" ∧ yL_grow.cls ≠ "java/lang/invoke/VarHandle" ∧ (parseMethodDescriptor yL_grow.desc).map (fun d => d.parameters.length) = some 4) := by decide +kernel
theorem k_L_grow {l : Launch} (hst : l.stackTraces = false) {G : gaG} {X : String → gaH → Prop} {a0 : Nat} {a1 : Int} {a2 : Int} {a3 : Nat} {h : gaH} {Q : Int → gaH → Prop} (hw : w_L_grow a0 a1 a2 a3 h Q) : gaC l G yL_grow (gaMW yL_grow cL_grow 5 ((some .int)) [(0, 11, 14, 19), (0, 11, 18, 21)]) rm_L_grow [.ref a0, gi a1, gi a2, .ref a3] h (gQi Q) X := by
  refine g_startW (lv := [some (.ref a0), some (gi a1), some (gi a2), some (.ref a3), none]) hpl_RL hst (Nat.le_of_ble_eq_true rfl) (gaArgs_pad (z := 1) rfl) ww_3_208 ?_
  intro p e s m args below meth c V hT
  show gaP p l e rm_L_grow s m args below meth c G 5 (gaZ below G (gQi Q) X args s rm_L_grow) 0 [some (.ref a0), some (gi a1), some (gi a2), some (.ref a3), none] [] h 2 12
  unfold w_L_grow at hw
  refine g_aload_n V dL_grow_0 rfl rfl ?_
  refine g_aload_n V dL_grow_1 rfl rfl ?_
  refine g_iload_n V dL_grow_2 rfl rfl ?_
  refine g_iload_n V dL_grow_3 rfl rfl ?_
  obtain ⟨hb, hw⟩ := hw
  obtain ⟨fb, hb⟩ := hb
  obtain ⟨hk, hj, c3, s4, ec, es, hw⟩ := hw
  refine g_callV (C := RX5) (T := TX5) (N := 9) (st := [.ref a3]) V (k_X5_grow hst hw) ww_3_209 ww_3_210 ww_3_211 ww_1_1 ww_3_212 hd_X5_grow ⟨by decide, by decide⟩ rfl (by decide) hb rfl rfl (ga_cat rfl) dL_grow_4 hk hj rfl ?_ (ga_ki (fun r2 hp1 hw => ?_))
  · rintro E9 h9 (⟨rfl, hw⟩ | ⟨rfl, hw⟩)
    · refine gaO_re ec es ?_
      refine gaO_catch V hT [] ⟨0, 11, 14, 19⟩ [⟨0, 11, 18, 21⟩] rfl (by intro z hz; simp at hz) rfl (by decide) ww_2_208 gn_12 rfl (fun q => ?_)
      refine g_astore (lv2 := [some (.ref a0), some (gi a1), some (gi a2), some (.ref a3), some (.ref q)]) V dL_grow_14 (by decide) rfl rfl rfl ?_
      refine g_iconst V (Int32.ofInt 1) dL_grow_16 rfl rfl ?_
      exact g_iret V rfl rfl dL_grow_17 ⟨_, rfl, hw⟩
    · refine gaO_re ec es ?_
      refine gaO_catch V hT [⟨0, 11, 14, 19⟩] ⟨0, 11, 18, 21⟩ [] rfl (by intro z hz; simp only [List.mem_cons, List.not_mem_nil, or_false] at hz; rcases hz with rfl <;> first | exact ⟨by decide, "java/lang/IndexOutOfBoundsException", ww_2_208, List.mem_of_getElem? (i := 0) rfl⟩) rfl (by decide) ww_2_209 gn_20 rfl (fun q => ?_)
      refine g_astore (lv2 := [some (.ref a0), some (gi a1), some (gi a2), some (.ref a3), some (.ref q)]) V dL_grow_18 (by decide) rfl rfl rfl ?_
      refine g_iconst V (Int32.ofInt 2) dL_grow_20 rfl rfl ?_
      exact g_iret V rfl rfl dL_grow_21 ⟨_, rfl, hw⟩
  · refine ga_re ec es ?_
    refine gi_i2l V dL_grow_7 rfl ?_
    obtain ⟨fs, ha, hl, hw⟩ := hw
    refine g_putN (host := "WordgardenLaw") (C := RX6) (T := TX6) (N := 2) V 0 tyX6 tyX6_ok nmX6 rfl hin_RX6 (by decide) (by decide) gn_22 rfl rfl rfl rfl ha hl dL_grow_8 rfl ?_
    generalize gaUp hp1 a3 _ = hp5 at hw ⊢
    refine g_goto V dL_grow_11 rfl ?_
    refine g_iconst V (Int32.ofInt 0) dL_grow_22 rfl rfl ?_
    exact g_iret V rfl rfl dL_grow_23 ⟨_, rfl, hw⟩
def w_L_shrink (a0 : Nat) (a1 : Int) (a2 : Nat) (h : gaH) (Q : Int → gaH → Prop) : Prop := gHas h a0 5 ∧ gCall 2 12 2 12 (fun c3 s4 => w_X5_shrink (fun E9 h9 => (E9 = "java/lang/IndexOutOfBoundsException" ∧ Q 1 h9) ∨ (E9 = "java/lang/IllegalStateException" ∧ Q 2 h9)) a0 a1 h (fun r2 hp1 => gPF hp1 a2 6 0 (.long (gI2l r2)) (fun hp5 => Q 0 hp5)))
abbrev rm_L_shrink : Room := { frames := 10, cells := 2, slots := 12, locals := 243 }
theorem hd_L_shrink : (yL_shrink.cls ≠ "java/lang/invoke/MethodHandle" ∧ yL_shrink.cls ≠ "java/lang/invoke/VarHandle" ∧ (parseMethodDescriptor yL_shrink.desc).map (fun d => d.parameters.length) = some 3) := by decide +kernel
theorem k_L_shrink {l : Launch} (hst : l.stackTraces = false) {G : gaG} {X : String → gaH → Prop} {a0 : Nat} {a1 : Int} {a2 : Nat} {h : gaH} {Q : Int → gaH → Prop} (hw : w_L_shrink a0 a1 a2 h Q) : gaC l G yL_shrink (gaMW yL_shrink cL_shrink 4 ((some .int)) [(0, 10, 13, 19), (0, 10, 16, 69)]) rm_L_shrink [.ref a0, gi a1, .ref a2] h (gQi Q) X := by
  refine g_startW (lv := [some (.ref a0), some (gi a1), some (.ref a2), none]) hpl_RL hst (Nat.le_of_ble_eq_true rfl) (gaArgs_pad (z := 1) rfl) ww_3_224 ?_
  intro p e s m args below meth c V hT
  show gaP p l e rm_L_shrink s m args below meth c G 4 (gaZ below G (gQi Q) X args s rm_L_shrink) 0 [some (.ref a0), some (gi a1), some (.ref a2), none] [] h 2 12
  unfold w_L_shrink at hw
  refine g_aload_n V dL_shrink_0 rfl rfl ?_
  refine g_aload_n V dL_shrink_1 rfl rfl ?_
  refine g_iload_n V dL_shrink_2 rfl rfl ?_
  obtain ⟨hb, hw⟩ := hw
  obtain ⟨fb, hb⟩ := hb
  obtain ⟨hk, hj, c3, s4, ec, es, hw⟩ := hw
  refine g_callV (C := RX5) (T := TX5) (N := 9) (st := [.ref a2]) V (k_X5_shrink hst hw) ww_3_225 ww_3_226 ww_3_227 ww_1_1 ww_3_228 hd_X5_shrink ⟨by decide, by decide⟩ rfl (by decide) hb rfl rfl (ga_cat rfl) dL_shrink_3 hk hj rfl ?_ (ga_ki (fun r2 hp1 hw => ?_))
  · rintro E9 h9 (⟨rfl, hw⟩ | ⟨rfl, hw⟩)
    · refine gaO_re ec es ?_
      refine gaO_catch V hT [] ⟨0, 10, 13, 19⟩ [⟨0, 10, 16, 69⟩] rfl (by intro z hz; simp at hz) rfl (by decide) ww_2_208 gn_12 rfl (fun q => ?_)
      refine g_astore_n (lv2 := [some (.ref a0), some (gi a1), some (.ref a2), some (.ref q)]) V dL_shrink_13 (by decide) rfl rfl rfl ?_
      refine g_iconst V (Int32.ofInt 1) dL_shrink_14 rfl rfl ?_
      exact g_iret V rfl rfl dL_shrink_15 ⟨_, rfl, hw⟩
    · refine gaO_re ec es ?_
      refine gaO_catch V hT [⟨0, 10, 13, 19⟩] ⟨0, 10, 16, 69⟩ [] rfl (by intro z hz; simp only [List.mem_cons, List.not_mem_nil, or_false] at hz; rcases hz with rfl <;> first | exact ⟨by decide, "java/lang/IndexOutOfBoundsException", ww_2_208, List.mem_of_getElem? (i := 1) rfl⟩) rfl (by decide) ww_3_114 gn_24 rfl (fun q => ?_)
      refine g_astore_n (lv2 := [some (.ref a0), some (gi a1), some (.ref a2), some (.ref q)]) V dL_shrink_16 (by decide) rfl rfl rfl ?_
      refine g_iconst V (Int32.ofInt 2) dL_shrink_17 rfl rfl ?_
      exact g_iret V rfl rfl dL_shrink_18 ⟨_, rfl, hw⟩
  · refine ga_re ec es ?_
    refine gi_i2l V dL_shrink_6 rfl ?_
    obtain ⟨fs, ha, hl, hw⟩ := hw
    refine g_putN (host := "WordgardenLaw") (C := RX6) (T := TX6) (N := 2) V 0 tyX6 tyX6_ok nmX6 rfl hin_RX6 (by decide) (by decide) gn_22 rfl rfl rfl rfl ha hl dL_shrink_7 rfl ?_
    generalize gaUp hp1 a2 _ = hp5 at hw ⊢
    refine g_goto V dL_shrink_10 rfl ?_
    refine g_iconst V (Int32.ofInt 0) dL_shrink_19 rfl rfl ?_
    exact g_iret V rfl rfl dL_shrink_20 ⟨_, rfl, hw⟩
def w_L_fresh (a0 : Nat) (a1 : Int) (a2 : Nat) (h : gaH) (Q : Int → gaH → Prop) : Prop := gHas h a0 5 ∧ gCall 1 6 1 6 (fun c3 s4 => w_X5_fresh (fun E9 h9 => (E9 = "java/lang/IndexOutOfBoundsException" ∧ Q 1 h9)) a0 a1 h (fun r2 hp1 => gPF hp1 a2 6 0 (.long (gI2l r2)) (fun hp5 => Q 0 hp5)))
abbrev rm_L_fresh : Room := { frames := 10, cells := 1, slots := 6, locals := 244 }
theorem hd_L_fresh : (yL_fresh.cls ≠ "java/lang/invoke/MethodHandle" ∧ yL_fresh.cls ≠ "java/lang/invoke/VarHandle" ∧ (parseMethodDescriptor yL_fresh.desc).map (fun d => d.parameters.length) = some 3) := by decide +kernel
theorem k_L_fresh {l : Launch} (hst : l.stackTraces = false) {G : gaG} {X : String → gaH → Prop} {a0 : Nat} {a1 : Int} {a2 : Nat} {h : gaH} {Q : Int → gaH → Prop} (hw : w_L_fresh a0 a1 a2 h Q) : gaC l G yL_fresh (gaMW yL_fresh cL_fresh 4 ((some .int)) [(0, 10, 13, 19)]) rm_L_fresh [.ref a0, gi a1, .ref a2] h (gQi Q) X := by
  refine g_startW (lv := [some (.ref a0), some (gi a1), some (.ref a2), none]) hpl_RL hst (Nat.le_of_ble_eq_true rfl) (gaArgs_pad (z := 1) rfl) ww_3_235 ?_
  intro p e s m args below meth c V hT
  show gaP p l e rm_L_fresh s m args below meth c G 4 (gaZ below G (gQi Q) X args s rm_L_fresh) 0 [some (.ref a0), some (gi a1), some (.ref a2), none] [] h 1 6
  unfold w_L_fresh at hw
  refine g_aload_n V dL_fresh_0 rfl rfl ?_
  refine g_aload_n V dL_fresh_1 rfl rfl ?_
  refine g_iload_n V dL_fresh_2 rfl rfl ?_
  obtain ⟨hb, hw⟩ := hw
  obtain ⟨fb, hb⟩ := hb
  obtain ⟨hk, hj, c3, s4, ec, es, hw⟩ := hw
  refine g_callV (C := RX5) (T := TX5) (N := 9) (st := [.ref a2]) V (k_X5_fresh hst hw) ww_3_236 ww_3_237 ww_3_238 ww_1_1 ww_3_239 hd_X5_fresh ⟨by decide, by decide⟩ rfl (by decide) hb rfl rfl (ga_cat rfl) dL_fresh_3 hk hj rfl ?_ (ga_ki (fun r2 hp1 hw => ?_))
  · rintro E9 h9 ⟨rfl, hw⟩
    refine gaO_re ec es ?_
    refine gaO_catch V hT [] ⟨0, 10, 13, 19⟩ [] rfl (by intro z hz; simp at hz) rfl (by decide) ww_2_208 gn_12 rfl (fun q => ?_)
    refine g_astore_n (lv2 := [some (.ref a0), some (gi a1), some (.ref a2), some (.ref q)]) V dL_fresh_13 (by decide) rfl rfl rfl ?_
    refine g_iconst V (Int32.ofInt 1) dL_fresh_14 rfl rfl ?_
    exact g_iret V rfl rfl dL_fresh_15 ⟨_, rfl, hw⟩
  · refine ga_re ec es ?_
    refine gi_i2l V dL_fresh_6 rfl ?_
    obtain ⟨fs, ha, hl, hw⟩ := hw
    refine g_putN (host := "WordgardenLaw") (C := RX6) (T := TX6) (N := 2) V 0 tyX6 tyX6_ok nmX6 rfl hin_RX6 (by decide) (by decide) gn_22 rfl rfl rfl rfl ha hl dL_fresh_7 rfl ?_
    generalize gaUp hp1 a2 _ = hp5 at hw ⊢
    refine g_goto V dL_fresh_10 rfl ?_
    refine g_iconst V (Int32.ofInt 0) dL_fresh_16 rfl rfl ?_
    exact g_iret V rfl rfl dL_fresh_17 ⟨_, rfl, hw⟩
def w_L_length (a0 : Nat) (a1 : Int) (a2 : Nat) (h : gaH) (Q : Int → gaH → Prop) : Prop := gHas h a0 5 ∧ gCall 1 6 1 6 (fun c3 s4 => w_X5_length (fun E9 h9 => (E9 = "java/lang/IndexOutOfBoundsException" ∧ Q 1 h9)) a0 a1 h (fun r2 hp1 => gPF hp1 a2 6 0 (.long (gI2l r2)) (fun hp5 => Q 0 hp5)))
abbrev rm_L_length : Room := { frames := 10, cells := 1, slots := 6, locals := 242 }
theorem hd_L_length : (yL_length.cls ≠ "java/lang/invoke/MethodHandle" ∧ yL_length.cls ≠ "java/lang/invoke/VarHandle" ∧ (parseMethodDescriptor yL_length.desc).map (fun d => d.parameters.length) = some 3) := by decide +kernel
theorem k_L_length {l : Launch} (hst : l.stackTraces = false) {G : gaG} {X : String → gaH → Prop} {a0 : Nat} {a1 : Int} {a2 : Nat} {h : gaH} {Q : Int → gaH → Prop} (hw : w_L_length a0 a1 a2 h Q) : gaC l G yL_length (gaMW yL_length cL_length 4 ((some .int)) [(0, 10, 13, 19)]) rm_L_length [.ref a0, gi a1, .ref a2] h (gQi Q) X := by
  refine g_startW (lv := [some (.ref a0), some (gi a1), some (.ref a2), none]) hpl_RL hst (Nat.le_of_ble_eq_true rfl) (gaArgs_pad (z := 1) rfl) ww_4_3 ?_
  intro p e s m args below meth c V hT
  show gaP p l e rm_L_length s m args below meth c G 4 (gaZ below G (gQi Q) X args s rm_L_length) 0 [some (.ref a0), some (gi a1), some (.ref a2), none] [] h 1 6
  unfold w_L_length at hw
  refine g_aload_n V dL_length_0 rfl rfl ?_
  refine g_aload_n V dL_length_1 rfl rfl ?_
  refine g_iload_n V dL_length_2 rfl rfl ?_
  obtain ⟨hb, hw⟩ := hw
  obtain ⟨fb, hb⟩ := hb
  obtain ⟨hk, hj, c3, s4, ec, es, hw⟩ := hw
  refine g_callV (C := RX5) (T := TX5) (N := 9) (st := [.ref a2]) V (k_X5_length hst hw) ww_4_4 ww_4_5 ww_4_6 ww_1_1 ww_4_7 hd_X5_length ⟨by decide, by decide⟩ rfl (by decide) hb rfl rfl (ga_cat rfl) dL_length_3 hk hj rfl ?_ (ga_ki (fun r2 hp1 hw => ?_))
  · rintro E9 h9 ⟨rfl, hw⟩
    refine gaO_re ec es ?_
    refine gaO_catch V hT [] ⟨0, 10, 13, 19⟩ [] rfl (by intro z hz; simp at hz) rfl (by decide) ww_2_208 gn_12 rfl (fun q => ?_)
    refine g_astore_n (lv2 := [some (.ref a0), some (gi a1), some (.ref a2), some (.ref q)]) V dL_length_13 (by decide) rfl rfl rfl ?_
    refine g_iconst V (Int32.ofInt 1) dL_length_14 rfl rfl ?_
    exact g_iret V rfl rfl dL_length_15 ⟨_, rfl, hw⟩
  · refine ga_re ec es ?_
    refine gi_i2l V dL_length_6 rfl ?_
    obtain ⟨fs, ha, hl, hw⟩ := hw
    refine g_putN (host := "WordgardenLaw") (C := RX6) (T := TX6) (N := 2) V 0 tyX6 tyX6_ok nmX6 rfl hin_RX6 (by decide) (by decide) gn_22 rfl rfl rfl rfl ha hl dL_length_7 rfl ?_
    generalize gaUp hp1 a2 _ = hp5 at hw ⊢
    refine g_goto V dL_length_10 rfl ?_
    refine g_iconst V (Int32.ofInt 0) dL_length_16 rfl rfl ?_
    exact g_iret V rfl rfl dL_length_17 ⟨_, rfl, hw⟩
def w_L_isB_J15 (Q : Int → gaH → Prop) (t0 : Nat) (t1 : Int64) (h : gaH) (kc ks : Nat) : Prop := gPF h t0 6 0 (.long t1) (fun hp1 => Q 0 hp1)
def w_L_isB (a0 : Nat) (a1 : Int) (a2 : Int) (a3 : Nat) (h : gaH) (Q : Int → gaH → Prop) : Prop := gHas h a0 5 ∧ gCall 2 12 2 12 (fun c3 s4 => w_X5_isB (fun E9 h9 => (E9 = "java/lang/IndexOutOfBoundsException" ∧ Q 1 h9)) a0 a1 a2 h (fun r2 hp1 => gR r2 ∧ (if r2 = 0 then w_L_isB_J15 Q a3 (0 : Int64) hp1 c3 s4 else w_L_isB_J15 Q a3 (1 : Int64) hp1 c3 s4)))
abbrev rm_L_isB : Room := { frames := 10, cells := 2, slots := 12, locals := 244 }
theorem hd_L_isB : (yL_isB.cls ≠ "java/lang/invoke/MethodHandle" ∧ yL_isB.cls ≠ "java/lang/invoke/VarHandle" ∧ (parseMethodDescriptor yL_isB.desc).map (fun d => d.parameters.length) = some 4) := by decide +kernel
theorem k_L_isB {l : Launch} (hst : l.stackTraces = false) {G : gaG} {X : String → gaH → Prop} {a0 : Nat} {a1 : Int} {a2 : Int} {a3 : Nat} {h : gaH} {Q : Int → gaH → Prop} (hw : w_L_isB a0 a1 a2 a3 h Q) : gaC l G yL_isB (gaMW yL_isB cL_isB 5 ((some .int)) [(0, 18, 21, 19)]) rm_L_isB [.ref a0, gi a1, gi a2, .ref a3] h (gQi Q) X := by
  refine g_startW (lv := [some (.ref a0), some (gi a1), some (gi a2), some (.ref a3), none]) hpl_RL hst (Nat.le_of_ble_eq_true rfl) (gaArgs_pad (z := 1) rfl) ww_4_10 ?_
  intro p e s m args below meth c V hT
  have h_L_isB_J15 : ∀ (t0 : Nat) (t1 : Int64) (h : gaH) (kc ks : Nat), w_L_isB_J15 Q t0 t1 h kc ks → gaP p l e rm_L_isB s m args below meth c G 5 (gaZ below G (gQi Q) X args s rm_L_isB) 15 [none, none, none, none, none] [.long t1, .ref t0] h kc ks := by
    intro t0 t1 h kc ks hw
    unfold w_L_isB_J15 at hw
    obtain ⟨fs, ha, hl, hw⟩ := hw
    refine g_putN (host := "WordgardenLaw") (C := RX6) (T := TX6) (N := 2) V 0 tyX6 tyX6_ok nmX6 rfl hin_RX6 (by decide) (by decide) gn_22 rfl rfl rfl rfl ha hl dL_isB_15 rfl ?_
    generalize gaUp h t0 _ = hp1 at hw ⊢
    refine g_goto V dL_isB_18 rfl ?_
    refine g_iconst V (Int32.ofInt 0) dL_isB_25 rfl rfl ?_
    exact g_iret V rfl rfl dL_isB_26 ⟨_, rfl, hw⟩
  show gaP p l e rm_L_isB s m args below meth c G 5 (gaZ below G (gQi Q) X args s rm_L_isB) 0 [some (.ref a0), some (gi a1), some (gi a2), some (.ref a3), none] [] h 2 12
  unfold w_L_isB at hw
  refine g_aload_n V dL_isB_0 rfl rfl ?_
  refine g_aload_n V dL_isB_1 rfl rfl ?_
  refine g_iload_n V dL_isB_2 rfl rfl ?_
  refine g_iload_n V dL_isB_3 rfl rfl ?_
  obtain ⟨hb, hw⟩ := hw
  obtain ⟨fb, hb⟩ := hb
  obtain ⟨hk, hj, c3, s4, ec, es, hw⟩ := hw
  refine g_callV (C := RX5) (T := TX5) (N := 9) (st := [.ref a3]) V (k_X5_isB hst hw) ww_4_11 ww_4_12 ww_4_13 ww_1_1 ww_4_14 hd_X5_isB ⟨by decide, by decide⟩ rfl (by decide) hb rfl rfl (ga_cat rfl) dL_isB_4 hk hj rfl ?_ (ga_ki (fun r2 hp1 hw => ?_))
  · rintro E9 h9 ⟨rfl, hw⟩
    refine gaO_re ec es ?_
    refine gaO_catch V hT [] ⟨0, 18, 21, 19⟩ [] rfl (by intro z hz; simp at hz) rfl (by decide) ww_2_208 gn_12 rfl (fun q => ?_)
    refine g_astore (lv2 := [some (.ref a0), some (gi a1), some (gi a2), some (.ref a3), some (.ref q)]) V dL_isB_21 (by decide) rfl rfl rfl ?_
    refine g_iconst V (Int32.ofInt 1) dL_isB_23 rfl rfl ?_
    exact g_iret V rfl rfl dL_isB_24 ⟨_, rfl, hw⟩
  · refine ga_re ec es ?_
    obtain ⟨hx0, hw⟩ := hw
    refine gi_if_eq V dL_isB_7 rfl rfl hx0 (fun q => ?_) (fun q => ?_)
    · have hw := ga_t q hw
      refine g_lconst V (0 : Int64) dL_isB_14 rfl rfl ?_
      refine g_less (bs := [false, false, false, false, true]) (lv2 := [none, none, none, none, none]) rfl ?_
      exact h_L_isB_J15 a3 (0 : Int64) hp1 c3 s4 hw
    · have hw := ga_f q hw
      refine g_lconst V (1 : Int64) dL_isB_10 rfl rfl ?_
      refine g_goto V dL_isB_11 rfl ?_
      refine g_less (bs := [false, false, false, false, true]) (lv2 := [none, none, none, none, none]) rfl ?_
      exact h_L_isB_J15 a3 (1 : Int64) hp1 c3 s4 hw
def w_L_text (G : gaG) (a0 : Nat) (a1 : Int) (a2 : Nat) (h : gaH) (Q : Int → gaH → Prop) : Prop := gHas h a0 5 ∧ gCall 136 8922 136 8922 (fun c3 s4 => w_X5_text G (fun E9 h9 => (E9 = "java/lang/IndexOutOfBoundsException" ∧ Q 1 h9)) a0 a1 h (fun r2 hp1 => gPF hp1 a2 6 1 (.ref r2) (fun hp5 => Q 0 hp5)))
abbrev rm_L_text : Room := { frames := 10, cells := 136, slots := 8922, locals := 242 }
theorem hd_L_text : (yL_text.cls ≠ "java/lang/invoke/MethodHandle" ∧ yL_text.cls ≠ "java/lang/invoke/VarHandle" ∧ (parseMethodDescriptor yL_text.desc).map (fun d => d.parameters.length) = some 3) := by decide +kernel
theorem k_L_text {l : Launch} (hst : l.stackTraces = false) {G : gaG} {X : String → gaH → Prop} {a0 : Nat} {a1 : Int} {a2 : Nat} {h : gaH} {Q : Int → gaH → Prop} (hw : w_L_text G a0 a1 a2 h Q) : gaC l G yL_text (gaMW yL_text cL_text 4 ((some .int)) [(0, 9, 12, 19)]) rm_L_text [.ref a0, gi a1, .ref a2] h (gQi Q) X := by
  refine g_startW (lv := [some (.ref a0), some (gi a1), some (.ref a2), none]) hpl_RL hst (Nat.le_of_ble_eq_true rfl) (gaArgs_pad (z := 1) rfl) ww_4_17 ?_
  intro p e s m args below meth c V hT
  show gaP p l e rm_L_text s m args below meth c G 4 (gaZ below G (gQi Q) X args s rm_L_text) 0 [some (.ref a0), some (gi a1), some (.ref a2), none] [] h 136 8922
  unfold w_L_text at hw
  refine g_aload_n V dL_text_0 rfl rfl ?_
  refine g_aload_n V dL_text_1 rfl rfl ?_
  refine g_iload_n V dL_text_2 rfl rfl ?_
  obtain ⟨hb, hw⟩ := hw
  obtain ⟨fb, hb⟩ := hb
  obtain ⟨hk, hj, c3, s4, ec, es, hw⟩ := hw
  refine g_callV (C := RX5) (T := TX5) (N := 9) (st := [.ref a2]) V (k_X5_text hst hw) ww_4_18 ww_4_19 ww_4_20 ww_1_1 ww_4_21 hd_X5_text ⟨by decide, by decide⟩ rfl (by decide) hb rfl rfl (ga_cat rfl) dL_text_3 hk hj rfl ?_ (ga_ka (fun r2 hp1 hw => ?_))
  · rintro E9 h9 ⟨rfl, hw⟩
    refine gaO_re ec es ?_
    refine gaO_catch V hT [] ⟨0, 9, 12, 19⟩ [] rfl (by intro z hz; simp at hz) rfl (by decide) ww_2_208 gn_12 rfl (fun q => ?_)
    refine g_astore_n (lv2 := [some (.ref a0), some (gi a1), some (.ref a2), some (.ref q)]) V dL_text_12 (by decide) rfl rfl rfl ?_
    refine g_iconst V (Int32.ofInt 1) dL_text_13 rfl rfl ?_
    exact g_iret V rfl rfl dL_text_14 ⟨_, rfl, hw⟩
  · refine ga_re ec es ?_
    obtain ⟨fs, ha, hl, hw⟩ := hw
    refine g_putN (host := "WordgardenLaw") (C := RX6) (T := TX6) (N := 2) V 1 tyX6 tyX6_ok nmX6 rfl hin_RX6 (by decide) (by decide) gn_23 rfl rfl rfl rfl ha hl dL_text_6 rfl ?_
    generalize gaUp hp1 a2 _ = hp5 at hw ⊢
    refine g_goto V dL_text_9 rfl ?_
    refine g_iconst V (Int32.ofInt 0) dL_text_15 rfl rfl ?_
    exact g_iret V rfl rfl dL_text_16 ⟨_, rfl, hw⟩
def w_L_count (a0 : Nat) (a1 : Int) (a2 : Int) (a3 : Nat) (h : gaH) (Q : Int → gaH → Prop) : Prop := gHas h a0 5 ∧ gCall 1 6 1 6 (fun c3 s4 => w_X5_count (fun E9 h9 => (E9 = "java/lang/IndexOutOfBoundsException" ∧ Q 1 h9)) a0 a1 a2 h (fun r2 hp1 => gPF hp1 a3 6 0 (.long (gI2l r2)) (fun hp5 => Q 0 hp5)))
abbrev rm_L_count : Room := { frames := 10, cells := 1, slots := 6, locals := 245 }
theorem hd_L_count : (yL_count.cls ≠ "java/lang/invoke/MethodHandle" ∧ yL_count.cls ≠ "java/lang/invoke/VarHandle" ∧ (parseMethodDescriptor yL_count.desc).map (fun d => d.parameters.length) = some 4) := by decide +kernel
theorem k_L_count {l : Launch} (hst : l.stackTraces = false) {G : gaG} {X : String → gaH → Prop} {a0 : Nat} {a1 : Int} {a2 : Int} {a3 : Nat} {h : gaH} {Q : Int → gaH → Prop} (hw : w_L_count a0 a1 a2 a3 h Q) : gaC l G yL_count (gaMW yL_count cL_count 5 ((some .int)) [(0, 11, 14, 19)]) rm_L_count [.ref a0, gi a1, gi a2, .ref a3] h (gQi Q) X := by
  refine g_startW (lv := [some (.ref a0), some (gi a1), some (gi a2), some (.ref a3), none]) hpl_RL hst (Nat.le_of_ble_eq_true rfl) (gaArgs_pad (z := 1) rfl) ww_5_47 ?_
  intro p e s m args below meth c V hT
  show gaP p l e rm_L_count s m args below meth c G 5 (gaZ below G (gQi Q) X args s rm_L_count) 0 [some (.ref a0), some (gi a1), some (gi a2), some (.ref a3), none] [] h 1 6
  unfold w_L_count at hw
  refine g_aload_n V dL_count_0 rfl rfl ?_
  refine g_aload_n V dL_count_1 rfl rfl ?_
  refine g_iload_n V dL_count_2 rfl rfl ?_
  refine g_iload_n V dL_count_3 rfl rfl ?_
  obtain ⟨hb, hw⟩ := hw
  obtain ⟨fb, hb⟩ := hb
  obtain ⟨hk, hj, c3, s4, ec, es, hw⟩ := hw
  refine g_callV (C := RX5) (T := TX5) (N := 9) (st := [.ref a3]) V (k_X5_count hst hw) ww_5_48 ww_1_233 ww_1_234 ww_1_1 ww_1_235 hd_X5_count ⟨by decide, by decide⟩ rfl (by decide) hb rfl rfl (ga_cat rfl) dL_count_4 hk hj rfl ?_ (ga_ki (fun r2 hp1 hw => ?_))
  · rintro E9 h9 ⟨rfl, hw⟩
    refine gaO_re ec es ?_
    refine gaO_catch V hT [] ⟨0, 11, 14, 19⟩ [] rfl (by intro z hz; simp at hz) rfl (by decide) ww_2_208 gn_12 rfl (fun q => ?_)
    refine g_astore (lv2 := [some (.ref a0), some (gi a1), some (gi a2), some (.ref a3), some (.ref q)]) V dL_count_14 (by decide) rfl rfl rfl ?_
    refine g_iconst V (Int32.ofInt 1) dL_count_16 rfl rfl ?_
    exact g_iret V rfl rfl dL_count_17 ⟨_, rfl, hw⟩
  · refine ga_re ec es ?_
    refine gi_i2l V dL_count_7 rfl ?_
    obtain ⟨fs, ha, hl, hw⟩ := hw
    refine g_putN (host := "WordgardenLaw") (C := RX6) (T := TX6) (N := 2) V 0 tyX6 tyX6_ok nmX6 rfl hin_RX6 (by decide) (by decide) gn_22 rfl rfl rfl rfl ha hl dL_count_8 rfl ?_
    generalize gaUp hp1 a3 _ = hp5 at hw ⊢
    refine g_goto V dL_count_11 rfl ?_
    refine g_iconst V (Int32.ofInt 0) dL_count_18 rfl rfl ?_
    exact g_iret V rfl rfl dL_count_19 ⟨_, rfl, hw⟩
def w_L_find (a0 : Nat) (a1 : Int) (a2 : Int) (a3 : Int) (a4 : Nat) (h : gaH) (Q : Int → gaH → Prop) : Prop := gHas h a0 5 ∧ gCall 3 18 3 18 (fun c3 s4 => w_X5_find (fun E9 h9 => (E9 = "java/lang/IndexOutOfBoundsException" ∧ Q 1 h9)) a0 a1 a2 a3 h (fun r2 hp1 => gPF hp1 a4 6 0 (.long (gI2l r2)) (fun hp5 => Q 0 hp5)))
abbrev rm_L_find : Room := { frames := 10, cells := 3, slots := 18, locals := 247 }
theorem hd_L_find : (yL_find.cls ≠ "java/lang/invoke/MethodHandle" ∧ yL_find.cls ≠ "java/lang/invoke/VarHandle" ∧ (parseMethodDescriptor yL_find.desc).map (fun d => d.parameters.length) = some 5) := by decide +kernel
theorem k_L_find {l : Launch} (hst : l.stackTraces = false) {G : gaG} {X : String → gaH → Prop} {a0 : Nat} {a1 : Int} {a2 : Int} {a3 : Int} {a4 : Nat} {h : gaH} {Q : Int → gaH → Prop} (hw : w_L_find a0 a1 a2 a3 a4 h Q) : gaC l G yL_find (gaMW yL_find cL_find 6 ((some .int)) [(0, 13, 16, 19)]) rm_L_find [.ref a0, gi a1, gi a2, gi a3, .ref a4] h (gQi Q) X := by
  refine g_startW (lv := [some (.ref a0), some (gi a1), some (gi a2), some (gi a3), some (.ref a4), none]) hpl_RL hst (Nat.le_of_ble_eq_true rfl) (gaArgs_pad (z := 1) rfl) ww_5_51 ?_
  intro p e s m args below meth c V hT
  show gaP p l e rm_L_find s m args below meth c G 6 (gaZ below G (gQi Q) X args s rm_L_find) 0 [some (.ref a0), some (gi a1), some (gi a2), some (gi a3), some (.ref a4), none] [] h 3 18
  unfold w_L_find at hw
  refine g_aload V dL_find_0 rfl rfl ?_
  refine g_aload_n V dL_find_2 rfl rfl ?_
  refine g_iload_n V dL_find_3 rfl rfl ?_
  refine g_iload_n V dL_find_4 rfl rfl ?_
  refine g_iload_n V dL_find_5 rfl rfl ?_
  obtain ⟨hb, hw⟩ := hw
  obtain ⟨fb, hb⟩ := hb
  obtain ⟨hk, hj, c3, s4, ec, es, hw⟩ := hw
  refine g_callV (C := RX5) (T := TX5) (N := 9) (st := [.ref a4]) V (k_X5_find hst hw) ww_5_52 ww_5_53 ww_5_54 ww_1_1 ww_5_55 hd_X5_find ⟨by decide, by decide⟩ rfl (by decide) hb rfl rfl (ga_cat rfl) dL_find_6 hk hj rfl ?_ (ga_ki (fun r2 hp1 hw => ?_))
  · rintro E9 h9 ⟨rfl, hw⟩
    refine gaO_re ec es ?_
    refine gaO_catch V hT [] ⟨0, 13, 16, 19⟩ [] rfl (by intro z hz; simp at hz) rfl (by decide) ww_2_208 gn_12 rfl (fun q => ?_)
    refine g_astore (lv2 := [some (.ref a0), some (gi a1), some (gi a2), some (gi a3), some (.ref a4), some (.ref q)]) V dL_find_16 (by decide) rfl rfl rfl ?_
    refine g_iconst V (Int32.ofInt 1) dL_find_18 rfl rfl ?_
    exact g_iret V rfl rfl dL_find_19 ⟨_, rfl, hw⟩
  · refine ga_re ec es ?_
    refine gi_i2l V dL_find_9 rfl ?_
    obtain ⟨fs, ha, hl, hw⟩ := hw
    refine g_putN (host := "WordgardenLaw") (C := RX6) (T := TX6) (N := 2) V 0 tyX6 tyX6_ok nmX6 rfl hin_RX6 (by decide) (by decide) gn_22 rfl rfl rfl rfl ha hl dL_find_10 rfl ?_
    generalize gaUp hp1 a4 _ = hp5 at hw ⊢
    refine g_goto V dL_find_13 rfl ?_
    refine g_iconst V (Int32.ofInt 0) dL_find_20 rfl rfl ?_
    exact g_iret V rfl rfl dL_find_21 ⟨_, rfl, hw⟩
def w_L_findLast (a0 : Nat) (a1 : Int) (a2 : Int) (a3 : Int) (a4 : Nat) (h : gaH) (Q : Int → gaH → Prop) : Prop := gHas h a0 5 ∧ gCall 3 18 3 18 (fun c3 s4 => w_X5_findLast (fun E9 h9 => (E9 = "java/lang/IndexOutOfBoundsException" ∧ Q 1 h9)) a0 a1 a2 a3 h (fun r2 hp1 => gPF hp1 a4 6 0 (.long (gI2l r2)) (fun hp5 => Q 0 hp5)))
abbrev rm_L_findLast : Room := { frames := 10, cells := 3, slots := 18, locals := 247 }
theorem hd_L_findLast : (yL_findLast.cls ≠ "java/lang/invoke/MethodHandle" ∧ yL_findLast.cls ≠ "java/lang/invoke/VarHandle" ∧ (parseMethodDescriptor yL_findLast.desc).map (fun d => d.parameters.length) = some 5) := by decide +kernel
theorem k_L_findLast {l : Launch} (hst : l.stackTraces = false) {G : gaG} {X : String → gaH → Prop} {a0 : Nat} {a1 : Int} {a2 : Int} {a3 : Int} {a4 : Nat} {h : gaH} {Q : Int → gaH → Prop} (hw : w_L_findLast a0 a1 a2 a3 a4 h Q) : gaC l G yL_findLast (gaMW yL_findLast cL_findLast 6 ((some .int)) [(0, 13, 16, 19)]) rm_L_findLast [.ref a0, gi a1, gi a2, gi a3, .ref a4] h (gQi Q) X := by
  refine g_startW (lv := [some (.ref a0), some (gi a1), some (gi a2), some (gi a3), some (.ref a4), none]) hpl_RL hst (Nat.le_of_ble_eq_true rfl) (gaArgs_pad (z := 1) rfl) ww_5_59 ?_
  intro p e s m args below meth c V hT
  show gaP p l e rm_L_findLast s m args below meth c G 6 (gaZ below G (gQi Q) X args s rm_L_findLast) 0 [some (.ref a0), some (gi a1), some (gi a2), some (gi a3), some (.ref a4), none] [] h 3 18
  unfold w_L_findLast at hw
  refine g_aload V dL_findLast_0 rfl rfl ?_
  refine g_aload_n V dL_findLast_2 rfl rfl ?_
  refine g_iload_n V dL_findLast_3 rfl rfl ?_
  refine g_iload_n V dL_findLast_4 rfl rfl ?_
  refine g_iload_n V dL_findLast_5 rfl rfl ?_
  obtain ⟨hb, hw⟩ := hw
  obtain ⟨fb, hb⟩ := hb
  obtain ⟨hk, hj, c3, s4, ec, es, hw⟩ := hw
  refine g_callV (C := RX5) (T := TX5) (N := 9) (st := [.ref a4]) V (k_X5_findLast hst hw) ww_5_60 ww_5_61 ww_5_62 ww_1_1 ww_5_63 hd_X5_findLast ⟨by decide, by decide⟩ rfl (by decide) hb rfl rfl (ga_cat rfl) dL_findLast_6 hk hj rfl ?_ (ga_ki (fun r2 hp1 hw => ?_))
  · rintro E9 h9 ⟨rfl, hw⟩
    refine gaO_re ec es ?_
    refine gaO_catch V hT [] ⟨0, 13, 16, 19⟩ [] rfl (by intro z hz; simp at hz) rfl (by decide) ww_2_208 gn_12 rfl (fun q => ?_)
    refine g_astore (lv2 := [some (.ref a0), some (gi a1), some (gi a2), some (gi a3), some (.ref a4), some (.ref q)]) V dL_findLast_16 (by decide) rfl rfl rfl ?_
    refine g_iconst V (Int32.ofInt 1) dL_findLast_18 rfl rfl ?_
    exact g_iret V rfl rfl dL_findLast_19 ⟨_, rfl, hw⟩
  · refine ga_re ec es ?_
    refine gi_i2l V dL_findLast_9 rfl ?_
    obtain ⟨fs, ha, hl, hw⟩ := hw
    refine g_putN (host := "WordgardenLaw") (C := RX6) (T := TX6) (N := 2) V 0 tyX6 tyX6_ok nmX6 rfl hin_RX6 (by decide) (by decide) gn_22 rfl rfl rfl rfl ha hl dL_findLast_10 rfl ?_
    generalize gaUp hp1 a4 _ = hp5 at hw ⊢
    refine g_goto V dL_findLast_13 rfl ?_
    refine g_iconst V (Int32.ofInt 0) dL_findLast_20 rfl rfl ?_
    exact g_iret V rfl rfl dL_findLast_21 ⟨_, rfl, hw⟩
def w_L_order (a0 : Nat) (a1 : Int) (a2 : Int) (a3 : Nat) (h : gaH) (Q : Int → gaH → Prop) : Prop := gHas h a0 5 ∧ gCall 2 12 2 12 (fun c3 s4 => w_X5_order (fun E9 h9 => (E9 = "java/lang/IndexOutOfBoundsException" ∧ Q 1 h9)) a0 a1 a2 h (fun r2 hp1 => gPF hp1 a3 6 0 (.long (gI2l r2)) (fun hp5 => Q 0 hp5)))
abbrev rm_L_order : Room := { frames := 10, cells := 2, slots := 12, locals := 243 }
theorem hd_L_order : (yL_order.cls ≠ "java/lang/invoke/MethodHandle" ∧ yL_order.cls ≠ "java/lang/invoke/VarHandle" ∧ (parseMethodDescriptor yL_order.desc).map (fun d => d.parameters.length) = some 4) := by decide +kernel
theorem k_L_order {l : Launch} (hst : l.stackTraces = false) {G : gaG} {X : String → gaH → Prop} {a0 : Nat} {a1 : Int} {a2 : Int} {a3 : Nat} {h : gaH} {Q : Int → gaH → Prop} (hw : w_L_order a0 a1 a2 a3 h Q) : gaC l G yL_order (gaMW yL_order cL_order 5 ((some .int)) [(0, 11, 14, 19)]) rm_L_order [.ref a0, gi a1, gi a2, .ref a3] h (gQi Q) X := by
  refine g_startW (lv := [some (.ref a0), some (gi a1), some (gi a2), some (.ref a3), none]) hpl_RL hst (Nat.le_of_ble_eq_true rfl) (gaArgs_pad (z := 1) rfl) ww_5_66 ?_
  intro p e s m args below meth c V hT
  show gaP p l e rm_L_order s m args below meth c G 5 (gaZ below G (gQi Q) X args s rm_L_order) 0 [some (.ref a0), some (gi a1), some (gi a2), some (.ref a3), none] [] h 2 12
  unfold w_L_order at hw
  refine g_aload_n V dL_order_0 rfl rfl ?_
  refine g_aload_n V dL_order_1 rfl rfl ?_
  refine g_iload_n V dL_order_2 rfl rfl ?_
  refine g_iload_n V dL_order_3 rfl rfl ?_
  obtain ⟨hb, hw⟩ := hw
  obtain ⟨fb, hb⟩ := hb
  obtain ⟨hk, hj, c3, s4, ec, es, hw⟩ := hw
  refine g_callV (C := RX5) (T := TX5) (N := 9) (st := [.ref a3]) V (k_X5_order hst hw) ww_5_67 ww_5_68 ww_5_69 ww_1_1 ww_5_70 hd_X5_order ⟨by decide, by decide⟩ rfl (by decide) hb rfl rfl (ga_cat rfl) dL_order_4 hk hj rfl ?_ (ga_ki (fun r2 hp1 hw => ?_))
  · rintro E9 h9 ⟨rfl, hw⟩
    refine gaO_re ec es ?_
    refine gaO_catch V hT [] ⟨0, 11, 14, 19⟩ [] rfl (by intro z hz; simp at hz) rfl (by decide) ww_2_208 gn_12 rfl (fun q => ?_)
    refine g_astore (lv2 := [some (.ref a0), some (gi a1), some (gi a2), some (.ref a3), some (.ref q)]) V dL_order_14 (by decide) rfl rfl rfl ?_
    refine g_iconst V (Int32.ofInt 1) dL_order_16 rfl rfl ?_
    exact g_iret V rfl rfl dL_order_17 ⟨_, rfl, hw⟩
  · refine ga_re ec es ?_
    refine gi_i2l V dL_order_7 rfl ?_
    obtain ⟨fs, ha, hl, hw⟩ := hw
    refine g_putN (host := "WordgardenLaw") (C := RX6) (T := TX6) (N := 2) V 0 tyX6 tyX6_ok nmX6 rfl hin_RX6 (by decide) (by decide) gn_22 rfl rfl rfl rfl ha hl dL_order_8 rfl ?_
    generalize gaUp hp1 a3 _ = hp5 at hw ⊢
    refine g_goto V dL_order_11 rfl ?_
    refine g_iconst V (Int32.ofInt 0) dL_order_18 rfl rfl ?_
    exact g_iret V rfl rfl dL_order_19 ⟨_, rfl, hw⟩
def w_L_isMirrored_J14 (Q : Int → gaH → Prop) (t0 : Nat) (t1 : Int64) (h : gaH) (kc ks : Nat) : Prop := gPF h t0 6 0 (.long t1) (fun hp1 => Q 0 hp1)
def w_L_isMirrored (a0 : Nat) (a1 : Int) (a2 : Nat) (h : gaH) (Q : Int → gaH → Prop) : Prop := gHas h a0 5 ∧ gCall 1 6 1 6 (fun c3 s4 => w_X5_isMirrored (fun E9 h9 => (E9 = "java/lang/IndexOutOfBoundsException" ∧ Q 1 h9)) a0 a1 h (fun r2 hp1 => gR r2 ∧ (if r2 = 0 then w_L_isMirrored_J14 Q a2 (0 : Int64) hp1 c3 s4 else w_L_isMirrored_J14 Q a2 (1 : Int64) hp1 c3 s4)))
abbrev rm_L_isMirrored : Room := { frames := 10, cells := 1, slots := 6, locals := 243 }
theorem hd_L_isMirrored : (yL_isMirrored.cls ≠ "java/lang/invoke/MethodHandle" ∧ yL_isMirrored.cls ≠ "java/lang/invoke/VarHandle" ∧ (parseMethodDescriptor yL_isMirrored.desc).map (fun d => d.parameters.length) = some 3) := by decide +kernel
theorem k_L_isMirrored {l : Launch} (hst : l.stackTraces = false) {G : gaG} {X : String → gaH → Prop} {a0 : Nat} {a1 : Int} {a2 : Nat} {h : gaH} {Q : Int → gaH → Prop} (hw : w_L_isMirrored a0 a1 a2 h Q) : gaC l G yL_isMirrored (gaMW yL_isMirrored cL_isMirrored 4 ((some .int)) [(0, 17, 20, 19)]) rm_L_isMirrored [.ref a0, gi a1, .ref a2] h (gQi Q) X := by
  refine g_startW (lv := [some (.ref a0), some (gi a1), some (.ref a2), none]) hpl_RL hst (Nat.le_of_ble_eq_true rfl) (gaArgs_pad (z := 1) rfl) ww_5_73 ?_
  intro p e s m args below meth c V hT
  have h_L_isMirrored_J14 : ∀ (t0 : Nat) (t1 : Int64) (h : gaH) (kc ks : Nat), w_L_isMirrored_J14 Q t0 t1 h kc ks → gaP p l e rm_L_isMirrored s m args below meth c G 4 (gaZ below G (gQi Q) X args s rm_L_isMirrored) 14 [none, none, none, none] [.long t1, .ref t0] h kc ks := by
    intro t0 t1 h kc ks hw
    unfold w_L_isMirrored_J14 at hw
    obtain ⟨fs, ha, hl, hw⟩ := hw
    refine g_putN (host := "WordgardenLaw") (C := RX6) (T := TX6) (N := 2) V 0 tyX6 tyX6_ok nmX6 rfl hin_RX6 (by decide) (by decide) gn_22 rfl rfl rfl rfl ha hl dL_isMirrored_14 rfl ?_
    generalize gaUp h t0 _ = hp1 at hw ⊢
    refine g_goto V dL_isMirrored_17 rfl ?_
    refine g_iconst V (Int32.ofInt 0) dL_isMirrored_23 rfl rfl ?_
    exact g_iret V rfl rfl dL_isMirrored_24 ⟨_, rfl, hw⟩
  show gaP p l e rm_L_isMirrored s m args below meth c G 4 (gaZ below G (gQi Q) X args s rm_L_isMirrored) 0 [some (.ref a0), some (gi a1), some (.ref a2), none] [] h 1 6
  unfold w_L_isMirrored at hw
  refine g_aload_n V dL_isMirrored_0 rfl rfl ?_
  refine g_aload_n V dL_isMirrored_1 rfl rfl ?_
  refine g_iload_n V dL_isMirrored_2 rfl rfl ?_
  obtain ⟨hb, hw⟩ := hw
  obtain ⟨fb, hb⟩ := hb
  obtain ⟨hk, hj, c3, s4, ec, es, hw⟩ := hw
  refine g_callV (C := RX5) (T := TX5) (N := 9) (st := [.ref a2]) V (k_X5_isMirrored hst hw) ww_5_74 ww_2_98 ww_2_99 ww_1_1 ww_2_100 hd_X5_isMirrored ⟨by decide, by decide⟩ rfl (by decide) hb rfl rfl (ga_cat rfl) dL_isMirrored_3 hk hj rfl ?_ (ga_ki (fun r2 hp1 hw => ?_))
  · rintro E9 h9 ⟨rfl, hw⟩
    refine gaO_re ec es ?_
    refine gaO_catch V hT [] ⟨0, 17, 20, 19⟩ [] rfl (by intro z hz; simp at hz) rfl (by decide) ww_2_208 gn_12 rfl (fun q => ?_)
    refine g_astore_n (lv2 := [some (.ref a0), some (gi a1), some (.ref a2), some (.ref q)]) V dL_isMirrored_20 (by decide) rfl rfl rfl ?_
    refine g_iconst V (Int32.ofInt 1) dL_isMirrored_21 rfl rfl ?_
    exact g_iret V rfl rfl dL_isMirrored_22 ⟨_, rfl, hw⟩
  · refine ga_re ec es ?_
    obtain ⟨hx0, hw⟩ := hw
    refine gi_if_eq V dL_isMirrored_6 rfl rfl hx0 (fun q => ?_) (fun q => ?_)
    · have hw := ga_t q hw
      refine g_lconst V (0 : Int64) dL_isMirrored_13 rfl rfl ?_
      refine g_less (bs := [false, false, false, true]) (lv2 := [none, none, none, none]) rfl ?_
      exact h_L_isMirrored_J14 a2 (0 : Int64) hp1 c3 s4 hw
    · have hw := ga_f q hw
      refine g_lconst V (1 : Int64) dL_isMirrored_9 rfl rfl ?_
      refine g_goto V dL_isMirrored_10 rfl ?_
      refine g_less (bs := [false, false, false, true]) (lv2 := [none, none, none, none]) rfl ?_
      exact h_L_isMirrored_J14 a2 (1 : Int64) hp1 c3 s4 hw
def w_L_spread (a0 : Nat) (a1 : Int) (a2 : Int) (a3 : Int) (a4 : Nat) (h : gaH) (Q : Int → gaH → Prop) : Prop := gHas h a0 5 ∧ gCall 2 12 2 12 (fun c3 s4 => w_X5_spread (fun E9 h9 => (E9 = "java/lang/IndexOutOfBoundsException" ∧ Q 1 h9) ∨ (E9 = "java/lang/IllegalArgumentException" ∧ Q 2 h9)) a0 a1 a2 a3 h (fun r2 hp1 => gPF hp1 a4 6 0 (.long (gI2l r2)) (fun hp5 => Q 0 hp5)))
abbrev rm_L_spread : Room := { frames := 10, cells := 2, slots := 12, locals := 245 }
theorem hd_L_spread : (yL_spread.cls ≠ "java/lang/invoke/MethodHandle" ∧ yL_spread.cls ≠ "java/lang/invoke/VarHandle" ∧ (parseMethodDescriptor yL_spread.desc).map (fun d => d.parameters.length) = some 5) := by decide +kernel
theorem k_L_spread {l : Launch} (hst : l.stackTraces = false) {G : gaG} {X : String → gaH → Prop} {a0 : Nat} {a1 : Int} {a2 : Int} {a3 : Int} {a4 : Nat} {h : gaH} {Q : Int → gaH → Prop} (hw : w_L_spread a0 a1 a2 a3 a4 h Q) : gaC l G yL_spread (gaMW yL_spread cL_spread 6 ((some .int)) [(0, 13, 16, 19), (0, 13, 20, 21)]) rm_L_spread [.ref a0, gi a1, gi a2, gi a3, .ref a4] h (gQi Q) X := by
  refine g_startW (lv := [some (.ref a0), some (gi a1), some (gi a2), some (gi a3), some (.ref a4), none]) hpl_RL hst (Nat.le_of_ble_eq_true rfl) (gaArgs_pad (z := 1) rfl) ww_5_77 ?_
  intro p e s m args below meth c V hT
  show gaP p l e rm_L_spread s m args below meth c G 6 (gaZ below G (gQi Q) X args s rm_L_spread) 0 [some (.ref a0), some (gi a1), some (gi a2), some (gi a3), some (.ref a4), none] [] h 2 12
  unfold w_L_spread at hw
  refine g_aload V dL_spread_0 rfl rfl ?_
  refine g_aload_n V dL_spread_2 rfl rfl ?_
  refine g_iload_n V dL_spread_3 rfl rfl ?_
  refine g_iload_n V dL_spread_4 rfl rfl ?_
  refine g_iload_n V dL_spread_5 rfl rfl ?_
  obtain ⟨hb, hw⟩ := hw
  obtain ⟨fb, hb⟩ := hb
  obtain ⟨hk, hj, c3, s4, ec, es, hw⟩ := hw
  refine g_callV (C := RX5) (T := TX5) (N := 9) (st := [.ref a4]) V (k_X5_spread hst hw) ww_5_78 ww_5_79 ww_5_80 ww_1_1 ww_5_81 hd_X5_spread ⟨by decide, by decide⟩ rfl (by decide) hb rfl rfl (ga_cat rfl) dL_spread_6 hk hj rfl ?_ (ga_ki (fun r2 hp1 hw => ?_))
  · rintro E9 h9 (⟨rfl, hw⟩ | ⟨rfl, hw⟩)
    · refine gaO_re ec es ?_
      refine gaO_catch V hT [] ⟨0, 13, 16, 19⟩ [⟨0, 13, 20, 21⟩] rfl (by intro z hz; simp at hz) rfl (by decide) ww_2_208 gn_12 rfl (fun q => ?_)
      refine g_astore (lv2 := [some (.ref a0), some (gi a1), some (gi a2), some (gi a3), some (.ref a4), some (.ref q)]) V dL_spread_16 (by decide) rfl rfl rfl ?_
      refine g_iconst V (Int32.ofInt 1) dL_spread_18 rfl rfl ?_
      exact g_iret V rfl rfl dL_spread_19 ⟨_, rfl, hw⟩
    · refine gaO_re ec es ?_
      refine gaO_catch V hT [⟨0, 13, 16, 19⟩] ⟨0, 13, 20, 21⟩ [] rfl (by intro z hz; simp only [List.mem_cons, List.not_mem_nil, or_false] at hz; rcases hz with rfl <;> first | exact ⟨by decide, "java/lang/IndexOutOfBoundsException", ww_2_208, List.mem_of_getElem? (i := 0) rfl⟩) rfl (by decide) ww_2_209 gn_20 rfl (fun q => ?_)
      refine g_astore (lv2 := [some (.ref a0), some (gi a1), some (gi a2), some (gi a3), some (.ref a4), some (.ref q)]) V dL_spread_20 (by decide) rfl rfl rfl ?_
      refine g_iconst V (Int32.ofInt 2) dL_spread_22 rfl rfl ?_
      exact g_iret V rfl rfl dL_spread_23 ⟨_, rfl, hw⟩
  · refine ga_re ec es ?_
    refine gi_i2l V dL_spread_9 rfl ?_
    obtain ⟨fs, ha, hl, hw⟩ := hw
    refine g_putN (host := "WordgardenLaw") (C := RX6) (T := TX6) (N := 2) V 0 tyX6 tyX6_ok nmX6 rfl hin_RX6 (by decide) (by decide) gn_22 rfl rfl rfl rfl ha hl dL_spread_10 rfl ?_
    generalize gaUp hp1 a4 _ = hp5 at hw ⊢
    refine g_goto V dL_spread_13 rfl ?_
    refine g_iconst V (Int32.ofInt 0) dL_spread_24 rfl rfl ?_
    exact g_iret V rfl rfl dL_spread_25 ⟨_, rfl, hw⟩
def w_L_kinds (a0 : Nat) (a1 : Int) (a2 : Int) (a3 : Int) (a4 : Nat) (h : gaH) (Q : Int → gaH → Prop) : Prop := gHas h a0 5 ∧ gCall 2 12 2 12 (fun c3 s4 => w_X5_kinds (fun E9 h9 => (E9 = "java/lang/IndexOutOfBoundsException" ∧ Q 1 h9) ∨ (E9 = "java/lang/IllegalArgumentException" ∧ Q 2 h9)) a0 a1 a2 a3 h (fun r2 hp1 => gPF hp1 a4 6 0 (.long (gI2l r2)) (fun hp5 => Q 0 hp5)))
abbrev rm_L_kinds : Room := { frames := 10, cells := 2, slots := 12, locals := 245 }
theorem hd_L_kinds : (yL_kinds.cls ≠ "java/lang/invoke/MethodHandle" ∧ yL_kinds.cls ≠ "java/lang/invoke/VarHandle" ∧ (parseMethodDescriptor yL_kinds.desc).map (fun d => d.parameters.length) = some 5) := by decide +kernel
theorem k_L_kinds {l : Launch} (hst : l.stackTraces = false) {G : gaG} {X : String → gaH → Prop} {a0 : Nat} {a1 : Int} {a2 : Int} {a3 : Int} {a4 : Nat} {h : gaH} {Q : Int → gaH → Prop} (hw : w_L_kinds a0 a1 a2 a3 a4 h Q) : gaC l G yL_kinds (gaMW yL_kinds cL_kinds 6 ((some .int)) [(0, 13, 16, 19), (0, 13, 20, 21)]) rm_L_kinds [.ref a0, gi a1, gi a2, gi a3, .ref a4] h (gQi Q) X := by
  refine g_startW (lv := [some (.ref a0), some (gi a1), some (gi a2), some (gi a3), some (.ref a4), none]) hpl_RL hst (Nat.le_of_ble_eq_true rfl) (gaArgs_pad (z := 1) rfl) ww_5_91 ?_
  intro p e s m args below meth c V hT
  show gaP p l e rm_L_kinds s m args below meth c G 6 (gaZ below G (gQi Q) X args s rm_L_kinds) 0 [some (.ref a0), some (gi a1), some (gi a2), some (gi a3), some (.ref a4), none] [] h 2 12
  unfold w_L_kinds at hw
  refine g_aload V dL_kinds_0 rfl rfl ?_
  refine g_aload_n V dL_kinds_2 rfl rfl ?_
  refine g_iload_n V dL_kinds_3 rfl rfl ?_
  refine g_iload_n V dL_kinds_4 rfl rfl ?_
  refine g_iload_n V dL_kinds_5 rfl rfl ?_
  obtain ⟨hb, hw⟩ := hw
  obtain ⟨fb, hb⟩ := hb
  obtain ⟨hk, hj, c3, s4, ec, es, hw⟩ := hw
  refine g_callV (C := RX5) (T := TX5) (N := 9) (st := [.ref a4]) V (k_X5_kinds hst hw) ww_5_92 ww_5_93 ww_5_94 ww_1_1 ww_5_95 hd_X5_kinds ⟨by decide, by decide⟩ rfl (by decide) hb rfl rfl (ga_cat rfl) dL_kinds_6 hk hj rfl ?_ (ga_ki (fun r2 hp1 hw => ?_))
  · rintro E9 h9 (⟨rfl, hw⟩ | ⟨rfl, hw⟩)
    · refine gaO_re ec es ?_
      refine gaO_catch V hT [] ⟨0, 13, 16, 19⟩ [⟨0, 13, 20, 21⟩] rfl (by intro z hz; simp at hz) rfl (by decide) ww_2_208 gn_12 rfl (fun q => ?_)
      refine g_astore (lv2 := [some (.ref a0), some (gi a1), some (gi a2), some (gi a3), some (.ref a4), some (.ref q)]) V dL_kinds_16 (by decide) rfl rfl rfl ?_
      refine g_iconst V (Int32.ofInt 1) dL_kinds_18 rfl rfl ?_
      exact g_iret V rfl rfl dL_kinds_19 ⟨_, rfl, hw⟩
    · refine gaO_re ec es ?_
      refine gaO_catch V hT [⟨0, 13, 16, 19⟩] ⟨0, 13, 20, 21⟩ [] rfl (by intro z hz; simp only [List.mem_cons, List.not_mem_nil, or_false] at hz; rcases hz with rfl <;> first | exact ⟨by decide, "java/lang/IndexOutOfBoundsException", ww_2_208, List.mem_of_getElem? (i := 0) rfl⟩) rfl (by decide) ww_2_209 gn_20 rfl (fun q => ?_)
      refine g_astore (lv2 := [some (.ref a0), some (gi a1), some (gi a2), some (gi a3), some (.ref a4), some (.ref q)]) V dL_kinds_20 (by decide) rfl rfl rfl ?_
      refine g_iconst V (Int32.ofInt 2) dL_kinds_22 rfl rfl ?_
      exact g_iret V rfl rfl dL_kinds_23 ⟨_, rfl, hw⟩
  · refine ga_re ec es ?_
    refine gi_i2l V dL_kinds_9 rfl ?_
    obtain ⟨fs, ha, hl, hw⟩ := hw
    refine g_putN (host := "WordgardenLaw") (C := RX6) (T := TX6) (N := 2) V 0 tyX6 tyX6_ok nmX6 rfl hin_RX6 (by decide) (by decide) gn_22 rfl rfl rfl rfl ha hl dL_kinds_10 rfl ?_
    generalize gaUp hp1 a4 _ = hp5 at hw ⊢
    refine g_goto V dL_kinds_13 rfl ?_
    refine g_iconst V (Int32.ofInt 0) dL_kinds_24 rfl rfl ?_
    exact g_iret V rfl rfl dL_kinds_25 ⟨_, rfl, hw⟩
def w_L_times (a0 : Nat) (a1 : Int) (a2 : Nat) (h : gaH) (Q : Int → gaH → Prop) : Prop := gHas h a0 5 ∧ gCall 1 6 1 6 (fun c3 s4 => w_X5_times (fun E9 h9 => (E9 = "java/lang/IndexOutOfBoundsException" ∧ Q 1 h9)) a0 a1 h (fun r2 hp1 => gPF hp1 a2 6 0 (.long (gI2l r2)) (fun hp5 => Q 0 hp5)))
abbrev rm_L_times : Room := { frames := 10, cells := 1, slots := 6, locals := 242 }
theorem hd_L_times : (yL_times.cls ≠ "java/lang/invoke/MethodHandle" ∧ yL_times.cls ≠ "java/lang/invoke/VarHandle" ∧ (parseMethodDescriptor yL_times.desc).map (fun d => d.parameters.length) = some 3) := by decide +kernel
theorem k_L_times {l : Launch} (hst : l.stackTraces = false) {G : gaG} {X : String → gaH → Prop} {a0 : Nat} {a1 : Int} {a2 : Nat} {h : gaH} {Q : Int → gaH → Prop} (hw : w_L_times a0 a1 a2 h Q) : gaC l G yL_times (gaMW yL_times cL_times 4 ((some .int)) [(0, 10, 13, 19)]) rm_L_times [.ref a0, gi a1, .ref a2] h (gQi Q) X := by
  refine g_startW (lv := [some (.ref a0), some (gi a1), some (.ref a2), none]) hpl_RL hst (Nat.le_of_ble_eq_true rfl) (gaArgs_pad (z := 1) rfl) ww_5_104 ?_
  intro p e s m args below meth c V hT
  show gaP p l e rm_L_times s m args below meth c G 4 (gaZ below G (gQi Q) X args s rm_L_times) 0 [some (.ref a0), some (gi a1), some (.ref a2), none] [] h 1 6
  unfold w_L_times at hw
  refine g_aload_n V dL_times_0 rfl rfl ?_
  refine g_aload_n V dL_times_1 rfl rfl ?_
  refine g_iload_n V dL_times_2 rfl rfl ?_
  obtain ⟨hb, hw⟩ := hw
  obtain ⟨fb, hb⟩ := hb
  obtain ⟨hk, hj, c3, s4, ec, es, hw⟩ := hw
  refine g_callV (C := RX5) (T := TX5) (N := 9) (st := [.ref a2]) V (k_X5_times hst hw) ww_5_105 ww_2_108 ww_2_109 ww_1_1 ww_2_110 hd_X5_times ⟨by decide, by decide⟩ rfl (by decide) hb rfl rfl (ga_cat rfl) dL_times_3 hk hj rfl ?_ (ga_ki (fun r2 hp1 hw => ?_))
  · rintro E9 h9 ⟨rfl, hw⟩
    refine gaO_re ec es ?_
    refine gaO_catch V hT [] ⟨0, 10, 13, 19⟩ [] rfl (by intro z hz; simp at hz) rfl (by decide) ww_2_208 gn_12 rfl (fun q => ?_)
    refine g_astore_n (lv2 := [some (.ref a0), some (gi a1), some (.ref a2), some (.ref q)]) V dL_times_13 (by decide) rfl rfl rfl ?_
    refine g_iconst V (Int32.ofInt 1) dL_times_14 rfl rfl ?_
    exact g_iret V rfl rfl dL_times_15 ⟨_, rfl, hw⟩
  · refine ga_re ec es ?_
    refine gi_i2l V dL_times_6 rfl ?_
    obtain ⟨fs, ha, hl, hw⟩ := hw
    refine g_putN (host := "WordgardenLaw") (C := RX6) (T := TX6) (N := 2) V 0 tyX6 tyX6_ok nmX6 rfl hin_RX6 (by decide) (by decide) gn_22 rfl rfl rfl rfl ha hl dL_times_7 rfl ?_
    generalize gaUp hp1 a2 _ = hp5 at hw ⊢
    refine g_goto V dL_times_10 rfl ?_
    refine g_iconst V (Int32.ofInt 0) dL_times_16 rfl rfl ?_
    exact g_iret V rfl rfl dL_times_17 ⟨_, rfl, hw⟩
def w_L_overlaps (a0 : Nat) (a1 : Int) (a2 : Nat) (h : gaH) (Q : Int → gaH → Prop) : Prop := gHas h a0 5 ∧ gCall 1 6 1 6 (fun c3 s4 => w_X5_overlaps (fun E9 h9 => (E9 = "java/lang/IndexOutOfBoundsException" ∧ Q 1 h9)) a0 a1 h (fun r2 hp1 => gPF hp1 a2 6 0 (.long (gI2l r2)) (fun hp5 => Q 0 hp5)))
abbrev rm_L_overlaps : Room := { frames := 10, cells := 1, slots := 6, locals := 242 }
theorem hd_L_overlaps : (yL_overlaps.cls ≠ "java/lang/invoke/MethodHandle" ∧ yL_overlaps.cls ≠ "java/lang/invoke/VarHandle" ∧ (parseMethodDescriptor yL_overlaps.desc).map (fun d => d.parameters.length) = some 3) := by decide +kernel
theorem k_L_overlaps {l : Launch} (hst : l.stackTraces = false) {G : gaG} {X : String → gaH → Prop} {a0 : Nat} {a1 : Int} {a2 : Nat} {h : gaH} {Q : Int → gaH → Prop} (hw : w_L_overlaps a0 a1 a2 h Q) : gaC l G yL_overlaps (gaMW yL_overlaps cL_overlaps 4 ((some .int)) [(0, 10, 13, 19)]) rm_L_overlaps [.ref a0, gi a1, .ref a2] h (gQi Q) X := by
  refine g_startW (lv := [some (.ref a0), some (gi a1), some (.ref a2), none]) hpl_RL hst (Nat.le_of_ble_eq_true rfl) (gaArgs_pad (z := 1) rfl) ww_5_108 ?_
  intro p e s m args below meth c V hT
  show gaP p l e rm_L_overlaps s m args below meth c G 4 (gaZ below G (gQi Q) X args s rm_L_overlaps) 0 [some (.ref a0), some (gi a1), some (.ref a2), none] [] h 1 6
  unfold w_L_overlaps at hw
  refine g_aload_n V dL_overlaps_0 rfl rfl ?_
  refine g_aload_n V dL_overlaps_1 rfl rfl ?_
  refine g_iload_n V dL_overlaps_2 rfl rfl ?_
  obtain ⟨hb, hw⟩ := hw
  obtain ⟨fb, hb⟩ := hb
  obtain ⟨hk, hj, c3, s4, ec, es, hw⟩ := hw
  refine g_callV (C := RX5) (T := TX5) (N := 9) (st := [.ref a2]) V (k_X5_overlaps hst hw) ww_5_109 ww_2_121 ww_2_122 ww_1_1 ww_2_123 hd_X5_overlaps ⟨by decide, by decide⟩ rfl (by decide) hb rfl rfl (ga_cat rfl) dL_overlaps_3 hk hj rfl ?_ (ga_ki (fun r2 hp1 hw => ?_))
  · rintro E9 h9 ⟨rfl, hw⟩
    refine gaO_re ec es ?_
    refine gaO_catch V hT [] ⟨0, 10, 13, 19⟩ [] rfl (by intro z hz; simp at hz) rfl (by decide) ww_2_208 gn_12 rfl (fun q => ?_)
    refine g_astore_n (lv2 := [some (.ref a0), some (gi a1), some (.ref a2), some (.ref q)]) V dL_overlaps_13 (by decide) rfl rfl rfl ?_
    refine g_iconst V (Int32.ofInt 1) dL_overlaps_14 rfl rfl ?_
    exact g_iret V rfl rfl dL_overlaps_15 ⟨_, rfl, hw⟩
  · refine ga_re ec es ?_
    refine gi_i2l V dL_overlaps_6 rfl ?_
    obtain ⟨fs, ha, hl, hw⟩ := hw
    refine g_putN (host := "WordgardenLaw") (C := RX6) (T := TX6) (N := 2) V 0 tyX6 tyX6_ok nmX6 rfl hin_RX6 (by decide) (by decide) gn_22 rfl rfl rfl rfl ha hl dL_overlaps_7 rfl ?_
    generalize gaUp hp1 a2 _ = hp5 at hw ⊢
    refine g_goto V dL_overlaps_10 rfl ?_
    refine g_iconst V (Int32.ofInt 0) dL_overlaps_16 rfl rfl ?_
    exact g_iret V rfl rfl dL_overlaps_17 ⟨_, rfl, hw⟩
def w_L_mirrors (a0 : Nat) (a1 : Int) (a2 : Nat) (h : gaH) (Q : Int → gaH → Prop) : Prop := gHas h a0 5 ∧ gCall 1 6 1 6 (fun c3 s4 => w_X5_mirrors (fun E9 h9 => (E9 = "java/lang/IndexOutOfBoundsException" ∧ Q 1 h9)) a0 a1 h (fun r2 hp1 => gPF hp1 a2 6 0 (.long (gI2l r2)) (fun hp5 => Q 0 hp5)))
abbrev rm_L_mirrors : Room := { frames := 10, cells := 1, slots := 6, locals := 242 }
theorem hd_L_mirrors : (yL_mirrors.cls ≠ "java/lang/invoke/MethodHandle" ∧ yL_mirrors.cls ≠ "java/lang/invoke/VarHandle" ∧ (parseMethodDescriptor yL_mirrors.desc).map (fun d => d.parameters.length) = some 3) := by decide +kernel
theorem k_L_mirrors {l : Launch} (hst : l.stackTraces = false) {G : gaG} {X : String → gaH → Prop} {a0 : Nat} {a1 : Int} {a2 : Nat} {h : gaH} {Q : Int → gaH → Prop} (hw : w_L_mirrors a0 a1 a2 h Q) : gaC l G yL_mirrors (gaMW yL_mirrors cL_mirrors 4 ((some .int)) [(0, 10, 13, 19)]) rm_L_mirrors [.ref a0, gi a1, .ref a2] h (gQi Q) X := by
  refine g_startW (lv := [some (.ref a0), some (gi a1), some (.ref a2), none]) hpl_RL hst (Nat.le_of_ble_eq_true rfl) (gaArgs_pad (z := 1) rfl) ww_5_112 ?_
  intro p e s m args below meth c V hT
  show gaP p l e rm_L_mirrors s m args below meth c G 4 (gaZ below G (gQi Q) X args s rm_L_mirrors) 0 [some (.ref a0), some (gi a1), some (.ref a2), none] [] h 1 6
  unfold w_L_mirrors at hw
  refine g_aload_n V dL_mirrors_0 rfl rfl ?_
  refine g_aload_n V dL_mirrors_1 rfl rfl ?_
  refine g_iload_n V dL_mirrors_2 rfl rfl ?_
  obtain ⟨hb, hw⟩ := hw
  obtain ⟨fb, hb⟩ := hb
  obtain ⟨hk, hj, c3, s4, ec, es, hw⟩ := hw
  refine g_callV (C := RX5) (T := TX5) (N := 9) (st := [.ref a2]) V (k_X5_mirrors hst hw) ww_5_113 ww_5_114 ww_5_115 ww_1_1 ww_5_116 hd_X5_mirrors ⟨by decide, by decide⟩ rfl (by decide) hb rfl rfl (ga_cat rfl) dL_mirrors_3 hk hj rfl ?_ (ga_ki (fun r2 hp1 hw => ?_))
  · rintro E9 h9 ⟨rfl, hw⟩
    refine gaO_re ec es ?_
    refine gaO_catch V hT [] ⟨0, 10, 13, 19⟩ [] rfl (by intro z hz; simp at hz) rfl (by decide) ww_2_208 gn_12 rfl (fun q => ?_)
    refine g_astore_n (lv2 := [some (.ref a0), some (gi a1), some (.ref a2), some (.ref q)]) V dL_mirrors_13 (by decide) rfl rfl rfl ?_
    refine g_iconst V (Int32.ofInt 1) dL_mirrors_14 rfl rfl ?_
    exact g_iret V rfl rfl dL_mirrors_15 ⟨_, rfl, hw⟩
  · refine ga_re ec es ?_
    refine gi_i2l V dL_mirrors_6 rfl ?_
    obtain ⟨fs, ha, hl, hw⟩ := hw
    refine g_putN (host := "WordgardenLaw") (C := RX6) (T := TX6) (N := 2) V 0 tyX6 tyX6_ok nmX6 rfl hin_RX6 (by decide) (by decide) gn_22 rfl rfl rfl rfl ha hl dL_mirrors_7 rfl ?_
    generalize gaUp hp1 a2 _ = hp5 at hw ⊢
    refine g_goto V dL_mirrors_10 rfl ?_
    refine g_iconst V (Int32.ofInt 0) dL_mirrors_16 rfl rfl ?_
    exact g_iret V rfl rfl dL_mirrors_17 ⟨_, rfl, hw⟩
def w_L_folds (a0 : Nat) (a1 : Int) (a2 : Nat) (h : gaH) (Q : Int → gaH → Prop) : Prop := gHas h a0 5 ∧ gCall 1 6 1 6 (fun c3 s4 => w_X5_folds (fun E9 h9 => (E9 = "java/lang/IndexOutOfBoundsException" ∧ Q 1 h9)) a0 a1 h (fun r2 hp1 => gPF hp1 a2 6 0 (.long (gI2l r2)) (fun hp5 => Q 0 hp5)))
abbrev rm_L_folds : Room := { frames := 10, cells := 1, slots := 6, locals := 242 }
theorem hd_L_folds : (yL_folds.cls ≠ "java/lang/invoke/MethodHandle" ∧ yL_folds.cls ≠ "java/lang/invoke/VarHandle" ∧ (parseMethodDescriptor yL_folds.desc).map (fun d => d.parameters.length) = some 3) := by decide +kernel
theorem k_L_folds {l : Launch} (hst : l.stackTraces = false) {G : gaG} {X : String → gaH → Prop} {a0 : Nat} {a1 : Int} {a2 : Nat} {h : gaH} {Q : Int → gaH → Prop} (hw : w_L_folds a0 a1 a2 h Q) : gaC l G yL_folds (gaMW yL_folds cL_folds 4 ((some .int)) [(0, 10, 13, 19)]) rm_L_folds [.ref a0, gi a1, .ref a2] h (gQi Q) X := by
  refine g_startW (lv := [some (.ref a0), some (gi a1), some (.ref a2), none]) hpl_RL hst (Nat.le_of_ble_eq_true rfl) (gaArgs_pad (z := 1) rfl) ww_5_122 ?_
  intro p e s m args below meth c V hT
  show gaP p l e rm_L_folds s m args below meth c G 4 (gaZ below G (gQi Q) X args s rm_L_folds) 0 [some (.ref a0), some (gi a1), some (.ref a2), none] [] h 1 6
  unfold w_L_folds at hw
  refine g_aload_n V dL_folds_0 rfl rfl ?_
  refine g_aload_n V dL_folds_1 rfl rfl ?_
  refine g_iload_n V dL_folds_2 rfl rfl ?_
  obtain ⟨hb, hw⟩ := hw
  obtain ⟨fb, hb⟩ := hb
  obtain ⟨hk, hj, c3, s4, ec, es, hw⟩ := hw
  refine g_callV (C := RX5) (T := TX5) (N := 9) (st := [.ref a2]) V (k_X5_folds hst hw) ww_5_123 ww_2_131 ww_2_132 ww_1_1 ww_2_133 hd_X5_folds ⟨by decide, by decide⟩ rfl (by decide) hb rfl rfl (ga_cat rfl) dL_folds_3 hk hj rfl ?_ (ga_ki (fun r2 hp1 hw => ?_))
  · rintro E9 h9 ⟨rfl, hw⟩
    refine gaO_re ec es ?_
    refine gaO_catch V hT [] ⟨0, 10, 13, 19⟩ [] rfl (by intro z hz; simp at hz) rfl (by decide) ww_2_208 gn_12 rfl (fun q => ?_)
    refine g_astore_n (lv2 := [some (.ref a0), some (gi a1), some (.ref a2), some (.ref q)]) V dL_folds_13 (by decide) rfl rfl rfl ?_
    refine g_iconst V (Int32.ofInt 1) dL_folds_14 rfl rfl ?_
    exact g_iret V rfl rfl dL_folds_15 ⟨_, rfl, hw⟩
  · refine ga_re ec es ?_
    refine gi_i2l V dL_folds_6 rfl ?_
    obtain ⟨fs, ha, hl, hw⟩ := hw
    refine g_putN (host := "WordgardenLaw") (C := RX6) (T := TX6) (N := 2) V 0 tyX6 tyX6_ok nmX6 rfl hin_RX6 (by decide) (by decide) gn_22 rfl rfl rfl rfl ha hl dL_folds_7 rfl ?_
    generalize gaUp hp1 a2 _ = hp5 at hw ⊢
    refine g_goto V dL_folds_10 rfl ?_
    refine g_iconst V (Int32.ofInt 0) dL_folds_16 rfl rfl ?_
    exact g_iret V rfl rfl dL_folds_17 ⟨_, rfl, hw⟩
def w_L_least (a0 : Nat) (a1 : Int) (a2 : Nat) (h : gaH) (Q : Int → gaH → Prop) : Prop := gHas h a0 5 ∧ gCall 1 6 1 6 (fun c3 s4 => w_X5_least (fun E9 h9 => (E9 = "java/lang/IndexOutOfBoundsException" ∧ Q 1 h9)) a0 a1 h (fun r2 hp1 => gPF hp1 a2 6 0 (.long (gI2l r2)) (fun hp5 => Q 0 hp5)))
abbrev rm_L_least : Room := { frames := 10, cells := 1, slots := 6, locals := 242 }
theorem hd_L_least : (yL_least.cls ≠ "java/lang/invoke/MethodHandle" ∧ yL_least.cls ≠ "java/lang/invoke/VarHandle" ∧ (parseMethodDescriptor yL_least.desc).map (fun d => d.parameters.length) = some 3) := by decide +kernel
theorem k_L_least {l : Launch} (hst : l.stackTraces = false) {G : gaG} {X : String → gaH → Prop} {a0 : Nat} {a1 : Int} {a2 : Nat} {h : gaH} {Q : Int → gaH → Prop} (hw : w_L_least a0 a1 a2 h Q) : gaC l G yL_least (gaMW yL_least cL_least 4 ((some .int)) [(0, 10, 13, 19)]) rm_L_least [.ref a0, gi a1, .ref a2] h (gQi Q) X := by
  refine g_startW (lv := [some (.ref a0), some (gi a1), some (.ref a2), none]) hpl_RL hst (Nat.le_of_ble_eq_true rfl) (gaArgs_pad (z := 1) rfl) ww_5_126 ?_
  intro p e s m args below meth c V hT
  show gaP p l e rm_L_least s m args below meth c G 4 (gaZ below G (gQi Q) X args s rm_L_least) 0 [some (.ref a0), some (gi a1), some (.ref a2), none] [] h 1 6
  unfold w_L_least at hw
  refine g_aload_n V dL_least_0 rfl rfl ?_
  refine g_aload_n V dL_least_1 rfl rfl ?_
  refine g_iload_n V dL_least_2 rfl rfl ?_
  obtain ⟨hb, hw⟩ := hw
  obtain ⟨fb, hb⟩ := hb
  obtain ⟨hk, hj, c3, s4, ec, es, hw⟩ := hw
  refine g_callV (C := RX5) (T := TX5) (N := 9) (st := [.ref a2]) V (k_X5_least hst hw) ww_5_127 ww_2_139 ww_2_140 ww_1_1 ww_2_141 hd_X5_least ⟨by decide, by decide⟩ rfl (by decide) hb rfl rfl (ga_cat rfl) dL_least_3 hk hj rfl ?_ (ga_ki (fun r2 hp1 hw => ?_))
  · rintro E9 h9 ⟨rfl, hw⟩
    refine gaO_re ec es ?_
    refine gaO_catch V hT [] ⟨0, 10, 13, 19⟩ [] rfl (by intro z hz; simp at hz) rfl (by decide) ww_2_208 gn_12 rfl (fun q => ?_)
    refine g_astore_n (lv2 := [some (.ref a0), some (gi a1), some (.ref a2), some (.ref q)]) V dL_least_13 (by decide) rfl rfl rfl ?_
    refine g_iconst V (Int32.ofInt 1) dL_least_14 rfl rfl ?_
    exact g_iret V rfl rfl dL_least_15 ⟨_, rfl, hw⟩
  · refine ga_re ec es ?_
    refine gi_i2l V dL_least_6 rfl ?_
    obtain ⟨fs, ha, hl, hw⟩ := hw
    refine g_putN (host := "WordgardenLaw") (C := RX6) (T := TX6) (N := 2) V 0 tyX6 tyX6_ok nmX6 rfl hin_RX6 (by decide) (by decide) gn_22 rfl rfl rfl rfl ha hl dL_least_7 rfl ?_
    generalize gaUp hp1 a2 _ = hp5 at hw ⊢
    refine g_goto V dL_least_10 rfl ?_
    refine g_iconst V (Int32.ofInt 0) dL_least_16 rfl rfl ?_
    exact g_iret V rfl rfl dL_least_17 ⟨_, rfl, hw⟩
def w_L_isApart_J15 (Q : Int → gaH → Prop) (t0 : Nat) (t1 : Int64) (h : gaH) (kc ks : Nat) : Prop := gPF h t0 6 0 (.long t1) (fun hp1 => Q 0 hp1)
def w_L_isApart (a0 : Nat) (a1 : Int) (a2 : Int) (a3 : Nat) (h : gaH) (Q : Int → gaH → Prop) : Prop := gHas h a0 5 ∧ gCall 2 12 2 12 (fun c3 s4 => w_X5_isApart (fun E9 h9 => (E9 = "java/lang/IllegalArgumentException" ∧ Q 1 h9)) a0 a1 a2 h (fun r2 hp1 => gR r2 ∧ (if r2 = 0 then w_L_isApart_J15 Q a3 (0 : Int64) hp1 c3 s4 else w_L_isApart_J15 Q a3 (1 : Int64) hp1 c3 s4)))
abbrev rm_L_isApart : Room := { frames := 11, cells := 2, slots := 12, locals := 264 }
theorem hd_L_isApart : (yL_isApart.cls ≠ "java/lang/invoke/MethodHandle" ∧ yL_isApart.cls ≠ "java/lang/invoke/VarHandle" ∧ (parseMethodDescriptor yL_isApart.desc).map (fun d => d.parameters.length) = some 4) := by decide +kernel
theorem k_L_isApart {l : Launch} (hst : l.stackTraces = false) {G : gaG} {X : String → gaH → Prop} {a0 : Nat} {a1 : Int} {a2 : Int} {a3 : Nat} {h : gaH} {Q : Int → gaH → Prop} (hw : w_L_isApart a0 a1 a2 a3 h Q) : gaC l G yL_isApart (gaMW yL_isApart cL_isApart 5 ((some .int)) [(0, 18, 21, 21)]) rm_L_isApart [.ref a0, gi a1, gi a2, .ref a3] h (gQi Q) X := by
  refine g_startW (lv := [some (.ref a0), some (gi a1), some (gi a2), some (.ref a3), none]) hpl_RL hst (Nat.le_of_ble_eq_true rfl) (gaArgs_pad (z := 1) rfl) ww_5_130 ?_
  intro p e s m args below meth c V hT
  have h_L_isApart_J15 : ∀ (t0 : Nat) (t1 : Int64) (h : gaH) (kc ks : Nat), w_L_isApart_J15 Q t0 t1 h kc ks → gaP p l e rm_L_isApart s m args below meth c G 5 (gaZ below G (gQi Q) X args s rm_L_isApart) 15 [none, none, none, none, none] [.long t1, .ref t0] h kc ks := by
    intro t0 t1 h kc ks hw
    unfold w_L_isApart_J15 at hw
    obtain ⟨fs, ha, hl, hw⟩ := hw
    refine g_putN (host := "WordgardenLaw") (C := RX6) (T := TX6) (N := 2) V 0 tyX6 tyX6_ok nmX6 rfl hin_RX6 (by decide) (by decide) gn_22 rfl rfl rfl rfl ha hl dL_isApart_15 rfl ?_
    generalize gaUp h t0 _ = hp1 at hw ⊢
    refine g_goto V dL_isApart_18 rfl ?_
    refine g_iconst V (Int32.ofInt 0) dL_isApart_25 rfl rfl ?_
    exact g_iret V rfl rfl dL_isApart_26 ⟨_, rfl, hw⟩
  show gaP p l e rm_L_isApart s m args below meth c G 5 (gaZ below G (gQi Q) X args s rm_L_isApart) 0 [some (.ref a0), some (gi a1), some (gi a2), some (.ref a3), none] [] h 2 12
  unfold w_L_isApart at hw
  refine g_aload_n V dL_isApart_0 rfl rfl ?_
  refine g_aload_n V dL_isApart_1 rfl rfl ?_
  refine g_iload_n V dL_isApart_2 rfl rfl ?_
  refine g_iload_n V dL_isApart_3 rfl rfl ?_
  obtain ⟨hb, hw⟩ := hw
  obtain ⟨fb, hb⟩ := hb
  obtain ⟨hk, hj, c3, s4, ec, es, hw⟩ := hw
  refine g_callV (C := RX5) (T := TX5) (N := 9) (st := [.ref a3]) V (k_X5_isApart hst hw) ww_5_131 ww_5_132 ww_5_133 ww_1_1 ww_5_134 hd_X5_isApart ⟨by decide, by decide⟩ rfl (by decide) hb rfl rfl (ga_cat rfl) dL_isApart_4 hk hj rfl ?_ (ga_ki (fun r2 hp1 hw => ?_))
  · rintro E9 h9 ⟨rfl, hw⟩
    refine gaO_re ec es ?_
    refine gaO_catch V hT [] ⟨0, 18, 21, 21⟩ [] rfl (by intro z hz; simp at hz) rfl (by decide) ww_2_209 gn_20 rfl (fun q => ?_)
    refine g_astore (lv2 := [some (.ref a0), some (gi a1), some (gi a2), some (.ref a3), some (.ref q)]) V dL_isApart_21 (by decide) rfl rfl rfl ?_
    refine g_iconst V (Int32.ofInt 1) dL_isApart_23 rfl rfl ?_
    exact g_iret V rfl rfl dL_isApart_24 ⟨_, rfl, hw⟩
  · refine ga_re ec es ?_
    obtain ⟨hx0, hw⟩ := hw
    refine gi_if_eq V dL_isApart_7 rfl rfl hx0 (fun q => ?_) (fun q => ?_)
    · have hw := ga_t q hw
      refine g_lconst V (0 : Int64) dL_isApart_14 rfl rfl ?_
      refine g_less (bs := [false, false, false, false, true]) (lv2 := [none, none, none, none, none]) rfl ?_
      exact h_L_isApart_J15 a3 (0 : Int64) hp1 c3 s4 hw
    · have hw := ga_f q hw
      refine g_lconst V (1 : Int64) dL_isApart_10 rfl rfl ?_
      refine g_goto V dL_isApart_11 rfl ?_
      refine g_less (bs := [false, false, false, false, true]) (lv2 := [none, none, none, none, none]) rfl ?_
      exact h_L_isApart_J15 a3 (1 : Int64) hp1 c3 s4 hw
def w_L_turns (G : gaG) (a0 : Nat) (a1 : Int) (a2 : Nat) (h : gaH) (Q : Int → gaH → Prop) : Prop := gHas h a0 5 ∧ gCall 136 8922 136 8922 (fun c3 s4 => w_X5_turns G (fun E9 h9 => (E9 = "java/lang/IndexOutOfBoundsException" ∧ Q 1 h9)) a0 a1 h (fun r2 hp1 => gPF hp1 a2 6 1 (.ref r2) (fun hp5 => Q 0 hp5)))
abbrev rm_L_turns : Room := { frames := 10, cells := 136, slots := 8922, locals := 245 }
theorem hd_L_turns : (yL_turns.cls ≠ "java/lang/invoke/MethodHandle" ∧ yL_turns.cls ≠ "java/lang/invoke/VarHandle" ∧ (parseMethodDescriptor yL_turns.desc).map (fun d => d.parameters.length) = some 3) := by decide +kernel
theorem k_L_turns {l : Launch} (hst : l.stackTraces = false) {G : gaG} {X : String → gaH → Prop} {a0 : Nat} {a1 : Int} {a2 : Nat} {h : gaH} {Q : Int → gaH → Prop} (hw : w_L_turns G a0 a1 a2 h Q) : gaC l G yL_turns (gaMW yL_turns cL_turns 4 ((some .int)) [(0, 9, 12, 19)]) rm_L_turns [.ref a0, gi a1, .ref a2] h (gQi Q) X := by
  refine g_startW (lv := [some (.ref a0), some (gi a1), some (.ref a2), none]) hpl_RL hst (Nat.le_of_ble_eq_true rfl) (gaArgs_pad (z := 1) rfl) ww_5_137 ?_
  intro p e s m args below meth c V hT
  show gaP p l e rm_L_turns s m args below meth c G 4 (gaZ below G (gQi Q) X args s rm_L_turns) 0 [some (.ref a0), some (gi a1), some (.ref a2), none] [] h 136 8922
  unfold w_L_turns at hw
  refine g_aload_n V dL_turns_0 rfl rfl ?_
  refine g_aload_n V dL_turns_1 rfl rfl ?_
  refine g_iload_n V dL_turns_2 rfl rfl ?_
  obtain ⟨hb, hw⟩ := hw
  obtain ⟨fb, hb⟩ := hb
  obtain ⟨hk, hj, c3, s4, ec, es, hw⟩ := hw
  refine g_callV (C := RX5) (T := TX5) (N := 9) (st := [.ref a2]) V (k_X5_turns hst hw) ww_5_138 ww_5_139 ww_5_140 ww_1_1 ww_5_141 hd_X5_turns ⟨by decide, by decide⟩ rfl (by decide) hb rfl rfl (ga_cat rfl) dL_turns_3 hk hj rfl ?_ (ga_ka (fun r2 hp1 hw => ?_))
  · rintro E9 h9 ⟨rfl, hw⟩
    refine gaO_re ec es ?_
    refine gaO_catch V hT [] ⟨0, 9, 12, 19⟩ [] rfl (by intro z hz; simp at hz) rfl (by decide) ww_2_208 gn_12 rfl (fun q => ?_)
    refine g_astore_n (lv2 := [some (.ref a0), some (gi a1), some (.ref a2), some (.ref q)]) V dL_turns_12 (by decide) rfl rfl rfl ?_
    refine g_iconst V (Int32.ofInt 1) dL_turns_13 rfl rfl ?_
    exact g_iret V rfl rfl dL_turns_14 ⟨_, rfl, hw⟩
  · refine ga_re ec es ?_
    obtain ⟨fs, ha, hl, hw⟩ := hw
    refine g_putN (host := "WordgardenLaw") (C := RX6) (T := TX6) (N := 2) V 1 tyX6 tyX6_ok nmX6 rfl hin_RX6 (by decide) (by decide) gn_23 rfl rfl rfl rfl ha hl dL_turns_6 rfl ?_
    generalize gaUp hp1 a2 _ = hp5 at hw ⊢
    refine g_goto V dL_turns_9 rfl ?_
    refine g_iconst V (Int32.ofInt 0) dL_turns_15 rfl rfl ?_
    exact g_iret V rfl rfl dL_turns_16 ⟨_, rfl, hw⟩
def w_L_grown (G : gaG) (a0 : Nat) (a1 : Int) (a2 : Int) (a3 : Nat) (h : gaH) (Q : Int → gaH → Prop) : Prop := gHas h a0 5 ∧ gCall 136 8922 136 8922 (fun c3 s4 => w_X5_grown G (fun E9 h9 => (E9 = "java/lang/IndexOutOfBoundsException" ∧ Q 1 h9)) a0 a1 a2 h (fun r2 hp1 => gPF hp1 a3 6 1 (.ref r2) (fun hp5 => Q 0 hp5)))
abbrev rm_L_grown : Room := { frames := 10, cells := 136, slots := 8922, locals := 243 }
theorem hd_L_grown : (yL_grown.cls ≠ "java/lang/invoke/MethodHandle" ∧ yL_grown.cls ≠ "java/lang/invoke/VarHandle" ∧ (parseMethodDescriptor yL_grown.desc).map (fun d => d.parameters.length) = some 4) := by decide +kernel
theorem k_L_grown {l : Launch} (hst : l.stackTraces = false) {G : gaG} {X : String → gaH → Prop} {a0 : Nat} {a1 : Int} {a2 : Int} {a3 : Nat} {h : gaH} {Q : Int → gaH → Prop} (hw : w_L_grown G a0 a1 a2 a3 h Q) : gaC l G yL_grown (gaMW yL_grown cL_grown 5 ((some .int)) [(0, 10, 13, 19)]) rm_L_grown [.ref a0, gi a1, gi a2, .ref a3] h (gQi Q) X := by
  refine g_startW (lv := [some (.ref a0), some (gi a1), some (gi a2), some (.ref a3), none]) hpl_RL hst (Nat.le_of_ble_eq_true rfl) (gaArgs_pad (z := 1) rfl) ww_5_148 ?_
  intro p e s m args below meth c V hT
  show gaP p l e rm_L_grown s m args below meth c G 5 (gaZ below G (gQi Q) X args s rm_L_grown) 0 [some (.ref a0), some (gi a1), some (gi a2), some (.ref a3), none] [] h 136 8922
  unfold w_L_grown at hw
  refine g_aload_n V dL_grown_0 rfl rfl ?_
  refine g_aload_n V dL_grown_1 rfl rfl ?_
  refine g_iload_n V dL_grown_2 rfl rfl ?_
  refine g_iload_n V dL_grown_3 rfl rfl ?_
  obtain ⟨hb, hw⟩ := hw
  obtain ⟨fb, hb⟩ := hb
  obtain ⟨hk, hj, c3, s4, ec, es, hw⟩ := hw
  refine g_callV (C := RX5) (T := TX5) (N := 9) (st := [.ref a3]) V (k_X5_grown hst hw) ww_5_149 ww_5_150 ww_5_151 ww_1_1 ww_5_152 hd_X5_grown ⟨by decide, by decide⟩ rfl (by decide) hb rfl rfl (ga_cat rfl) dL_grown_4 hk hj rfl ?_ (ga_ka (fun r2 hp1 hw => ?_))
  · rintro E9 h9 ⟨rfl, hw⟩
    refine gaO_re ec es ?_
    refine gaO_catch V hT [] ⟨0, 10, 13, 19⟩ [] rfl (by intro z hz; simp at hz) rfl (by decide) ww_2_208 gn_12 rfl (fun q => ?_)
    refine g_astore (lv2 := [some (.ref a0), some (gi a1), some (gi a2), some (.ref a3), some (.ref q)]) V dL_grown_13 (by decide) rfl rfl rfl ?_
    refine g_iconst V (Int32.ofInt 1) dL_grown_15 rfl rfl ?_
    exact g_iret V rfl rfl dL_grown_16 ⟨_, rfl, hw⟩
  · refine ga_re ec es ?_
    obtain ⟨fs, ha, hl, hw⟩ := hw
    refine g_putN (host := "WordgardenLaw") (C := RX6) (T := TX6) (N := 2) V 1 tyX6 tyX6_ok nmX6 rfl hin_RX6 (by decide) (by decide) gn_23 rfl rfl rfl rfl ha hl dL_grown_7 rfl ?_
    generalize gaUp hp1 a3 _ = hp5 at hw ⊢
    refine g_goto V dL_grown_10 rfl ?_
    refine g_iconst V (Int32.ofInt 0) dL_grown_17 rfl rfl ?_
    exact g_iret V rfl rfl dL_grown_18 ⟨_, rfl, hw⟩
def w_L_size (a0 : Nat) (a1 : Int) (a2 : Int) (a3 : Nat) (h : gaH) (Q : Int → gaH → Prop) : Prop := gHas h a0 5 ∧ gCall 1 6 1 6 (fun c3 s4 => w_X5_size (fun E9 h9 => (E9 = "java/lang/IndexOutOfBoundsException" ∧ Q 1 h9)) a0 a1 a2 h (fun r2 hp1 => gPF hp1 a3 6 0 (.long (gI2l r2)) (fun hp5 => Q 0 hp5)))
abbrev rm_L_size : Room := { frames := 10, cells := 1, slots := 6, locals := 243 }
theorem hd_L_size : (yL_size.cls ≠ "java/lang/invoke/MethodHandle" ∧ yL_size.cls ≠ "java/lang/invoke/VarHandle" ∧ (parseMethodDescriptor yL_size.desc).map (fun d => d.parameters.length) = some 4) := by decide +kernel
theorem k_L_size {l : Launch} (hst : l.stackTraces = false) {G : gaG} {X : String → gaH → Prop} {a0 : Nat} {a1 : Int} {a2 : Int} {a3 : Nat} {h : gaH} {Q : Int → gaH → Prop} (hw : w_L_size a0 a1 a2 a3 h Q) : gaC l G yL_size (gaMW yL_size cL_size 5 ((some .int)) [(0, 11, 14, 19)]) rm_L_size [.ref a0, gi a1, gi a2, .ref a3] h (gQi Q) X := by
  refine g_startW (lv := [some (.ref a0), some (gi a1), some (gi a2), some (.ref a3), none]) hpl_RL hst (Nat.le_of_ble_eq_true rfl) (gaArgs_pad (z := 1) rfl) ww_5_155 ?_
  intro p e s m args below meth c V hT
  show gaP p l e rm_L_size s m args below meth c G 5 (gaZ below G (gQi Q) X args s rm_L_size) 0 [some (.ref a0), some (gi a1), some (gi a2), some (.ref a3), none] [] h 1 6
  unfold w_L_size at hw
  refine g_aload_n V dL_size_0 rfl rfl ?_
  refine g_aload_n V dL_size_1 rfl rfl ?_
  refine g_iload_n V dL_size_2 rfl rfl ?_
  refine g_iload_n V dL_size_3 rfl rfl ?_
  obtain ⟨hb, hw⟩ := hw
  obtain ⟨fb, hb⟩ := hb
  obtain ⟨hk, hj, c3, s4, ec, es, hw⟩ := hw
  refine g_callV (C := RX5) (T := TX5) (N := 9) (st := [.ref a3]) V (k_X5_size hst hw) ww_5_156 ww_2_157 ww_2_158 ww_1_1 ww_2_159 hd_X5_size ⟨by decide, by decide⟩ rfl (by decide) hb rfl rfl (ga_cat rfl) dL_size_4 hk hj rfl ?_ (ga_ki (fun r2 hp1 hw => ?_))
  · rintro E9 h9 ⟨rfl, hw⟩
    refine gaO_re ec es ?_
    refine gaO_catch V hT [] ⟨0, 11, 14, 19⟩ [] rfl (by intro z hz; simp at hz) rfl (by decide) ww_2_208 gn_12 rfl (fun q => ?_)
    refine g_astore (lv2 := [some (.ref a0), some (gi a1), some (gi a2), some (.ref a3), some (.ref q)]) V dL_size_14 (by decide) rfl rfl rfl ?_
    refine g_iconst V (Int32.ofInt 1) dL_size_16 rfl rfl ?_
    exact g_iret V rfl rfl dL_size_17 ⟨_, rfl, hw⟩
  · refine ga_re ec es ?_
    refine gi_i2l V dL_size_7 rfl ?_
    obtain ⟨fs, ha, hl, hw⟩ := hw
    refine g_putN (host := "WordgardenLaw") (C := RX6) (T := TX6) (N := 2) V 0 tyX6 tyX6_ok nmX6 rfl hin_RX6 (by decide) (by decide) gn_22 rfl rfl rfl rfl ha hl dL_size_8 rfl ?_
    generalize gaUp hp1 a3 _ = hp5 at hw ⊢
    refine g_goto V dL_size_11 rfl ?_
    refine g_iconst V (Int32.ofInt 0) dL_size_18 rfl rfl ?_
    exact g_iret V rfl rfl dL_size_19 ⟨_, rfl, hw⟩
def w_L_ups (a0 : Nat) (a1 : Int) (a2 : Int) (a3 : Nat) (h : gaH) (Q : Int → gaH → Prop) : Prop := gHas h a0 5 ∧ gCall 1 6 1 6 (fun c3 s4 => w_X5_ups (fun E9 h9 => (E9 = "java/lang/IndexOutOfBoundsException" ∧ Q 1 h9)) a0 a1 a2 h (fun r2 hp1 => gPF hp1 a3 6 0 (.long (gI2l r2)) (fun hp5 => Q 0 hp5)))
abbrev rm_L_ups : Room := { frames := 10, cells := 1, slots := 6, locals := 243 }
theorem hd_L_ups : (yL_ups.cls ≠ "java/lang/invoke/MethodHandle" ∧ yL_ups.cls ≠ "java/lang/invoke/VarHandle" ∧ (parseMethodDescriptor yL_ups.desc).map (fun d => d.parameters.length) = some 4) := by decide +kernel
theorem k_L_ups {l : Launch} (hst : l.stackTraces = false) {G : gaG} {X : String → gaH → Prop} {a0 : Nat} {a1 : Int} {a2 : Int} {a3 : Nat} {h : gaH} {Q : Int → gaH → Prop} (hw : w_L_ups a0 a1 a2 a3 h Q) : gaC l G yL_ups (gaMW yL_ups cL_ups 5 ((some .int)) [(0, 11, 14, 19)]) rm_L_ups [.ref a0, gi a1, gi a2, .ref a3] h (gQi Q) X := by
  refine g_startW (lv := [some (.ref a0), some (gi a1), some (gi a2), some (.ref a3), none]) hpl_RL hst (Nat.le_of_ble_eq_true rfl) (gaArgs_pad (z := 1) rfl) ww_5_159 ?_
  intro p e s m args below meth c V hT
  show gaP p l e rm_L_ups s m args below meth c G 5 (gaZ below G (gQi Q) X args s rm_L_ups) 0 [some (.ref a0), some (gi a1), some (gi a2), some (.ref a3), none] [] h 1 6
  unfold w_L_ups at hw
  refine g_aload_n V dL_ups_0 rfl rfl ?_
  refine g_aload_n V dL_ups_1 rfl rfl ?_
  refine g_iload_n V dL_ups_2 rfl rfl ?_
  refine g_iload_n V dL_ups_3 rfl rfl ?_
  obtain ⟨hb, hw⟩ := hw
  obtain ⟨fb, hb⟩ := hb
  obtain ⟨hk, hj, c3, s4, ec, es, hw⟩ := hw
  refine g_callV (C := RX5) (T := TX5) (N := 9) (st := [.ref a3]) V (k_X5_ups hst hw) ww_5_160 ww_2_165 ww_2_166 ww_1_1 ww_2_167 hd_X5_ups ⟨by decide, by decide⟩ rfl (by decide) hb rfl rfl (ga_cat rfl) dL_ups_4 hk hj rfl ?_ (ga_ki (fun r2 hp1 hw => ?_))
  · rintro E9 h9 ⟨rfl, hw⟩
    refine gaO_re ec es ?_
    refine gaO_catch V hT [] ⟨0, 11, 14, 19⟩ [] rfl (by intro z hz; simp at hz) rfl (by decide) ww_2_208 gn_12 rfl (fun q => ?_)
    refine g_astore (lv2 := [some (.ref a0), some (gi a1), some (gi a2), some (.ref a3), some (.ref q)]) V dL_ups_14 (by decide) rfl rfl rfl ?_
    refine g_iconst V (Int32.ofInt 1) dL_ups_16 rfl rfl ?_
    exact g_iret V rfl rfl dL_ups_17 ⟨_, rfl, hw⟩
  · refine ga_re ec es ?_
    refine gi_i2l V dL_ups_7 rfl ?_
    obtain ⟨fs, ha, hl, hw⟩ := hw
    refine g_putN (host := "WordgardenLaw") (C := RX6) (T := TX6) (N := 2) V 0 tyX6 tyX6_ok nmX6 rfl hin_RX6 (by decide) (by decide) gn_22 rfl rfl rfl rfl ha hl dL_ups_8 rfl ?_
    generalize gaUp hp1 a3 _ = hp5 at hw ⊢
    refine g_goto V dL_ups_11 rfl ?_
    refine g_iconst V (Int32.ofInt 0) dL_ups_18 rfl rfl ?_
    exact g_iret V rfl rfl dL_ups_19 ⟨_, rfl, hw⟩
def w_L_cross (a0 : Nat) (a1 : Int) (a2 : Nat) (h : gaH) (Q : Int → gaH → Prop) : Prop := gHas h a0 5 ∧ gCall 1 6 1 6 (fun c3 s4 => w_X5_cross (fun E9 h9 => (E9 = "java/lang/IndexOutOfBoundsException" ∧ Q 1 h9)) a0 a1 h (fun r2 hp1 => gPF hp1 a2 6 0 (.long (gI2l r2)) (fun hp5 => Q 0 hp5)))
abbrev rm_L_cross : Room := { frames := 10, cells := 1, slots := 6, locals := 243 }
theorem hd_L_cross : (yL_cross.cls ≠ "java/lang/invoke/MethodHandle" ∧ yL_cross.cls ≠ "java/lang/invoke/VarHandle" ∧ (parseMethodDescriptor yL_cross.desc).map (fun d => d.parameters.length) = some 3) := by decide +kernel
theorem k_L_cross {l : Launch} (hst : l.stackTraces = false) {G : gaG} {X : String → gaH → Prop} {a0 : Nat} {a1 : Int} {a2 : Nat} {h : gaH} {Q : Int → gaH → Prop} (hw : w_L_cross a0 a1 a2 h Q) : gaC l G yL_cross (gaMW yL_cross cL_cross 4 ((some .int)) [(0, 10, 13, 19)]) rm_L_cross [.ref a0, gi a1, .ref a2] h (gQi Q) X := by
  refine g_startW (lv := [some (.ref a0), some (gi a1), some (.ref a2), none]) hpl_RL hst (Nat.le_of_ble_eq_true rfl) (gaArgs_pad (z := 1) rfl) ww_5_163 ?_
  intro p e s m args below meth c V hT
  show gaP p l e rm_L_cross s m args below meth c G 4 (gaZ below G (gQi Q) X args s rm_L_cross) 0 [some (.ref a0), some (gi a1), some (.ref a2), none] [] h 1 6
  unfold w_L_cross at hw
  refine g_aload_n V dL_cross_0 rfl rfl ?_
  refine g_aload_n V dL_cross_1 rfl rfl ?_
  refine g_iload_n V dL_cross_2 rfl rfl ?_
  obtain ⟨hb, hw⟩ := hw
  obtain ⟨fb, hb⟩ := hb
  obtain ⟨hk, hj, c3, s4, ec, es, hw⟩ := hw
  refine g_callV (C := RX5) (T := TX5) (N := 9) (st := [.ref a2]) V (k_X5_cross hst hw) ww_5_164 ww_2_69 ww_2_70 ww_1_1 ww_2_71 hd_X5_cross ⟨by decide, by decide⟩ rfl (by decide) hb rfl rfl (ga_cat rfl) dL_cross_3 hk hj rfl ?_ (ga_ki (fun r2 hp1 hw => ?_))
  · rintro E9 h9 ⟨rfl, hw⟩
    refine gaO_re ec es ?_
    refine gaO_catch V hT [] ⟨0, 10, 13, 19⟩ [] rfl (by intro z hz; simp at hz) rfl (by decide) ww_2_208 gn_12 rfl (fun q => ?_)
    refine g_astore_n (lv2 := [some (.ref a0), some (gi a1), some (.ref a2), some (.ref q)]) V dL_cross_13 (by decide) rfl rfl rfl ?_
    refine g_iconst V (Int32.ofInt 1) dL_cross_14 rfl rfl ?_
    exact g_iret V rfl rfl dL_cross_15 ⟨_, rfl, hw⟩
  · refine ga_re ec es ?_
    refine gi_i2l V dL_cross_6 rfl ?_
    obtain ⟨fs, ha, hl, hw⟩ := hw
    refine g_putN (host := "WordgardenLaw") (C := RX6) (T := TX6) (N := 2) V 0 tyX6 tyX6_ok nmX6 rfl hin_RX6 (by decide) (by decide) gn_22 rfl rfl rfl rfl ha hl dL_cross_7 rfl ?_
    generalize gaUp hp1 a2 _ = hp5 at hw ⊢
    refine g_goto V dL_cross_10 rfl ?_
    refine g_iconst V (Int32.ofInt 0) dL_cross_16 rfl rfl ?_
    exact g_iret V rfl rfl dL_cross_17 ⟨_, rfl, hw⟩
def w_L_alike (a0 : Nat) (a1 : Int) (a2 : Nat) (h : gaH) (Q : Int → gaH → Prop) : Prop := gHas h a0 5 ∧ gCall 1 6 1 6 (fun c3 s4 => w_X5_alike (fun E9 h9 => (E9 = "java/lang/IndexOutOfBoundsException" ∧ Q 1 h9)) a0 a1 h (fun r2 hp1 => gPF hp1 a2 6 0 (.long (gI2l r2)) (fun hp5 => Q 0 hp5)))
abbrev rm_L_alike : Room := { frames := 10, cells := 1, slots := 6, locals := 243 }
theorem hd_L_alike : (yL_alike.cls ≠ "java/lang/invoke/MethodHandle" ∧ yL_alike.cls ≠ "java/lang/invoke/VarHandle" ∧ (parseMethodDescriptor yL_alike.desc).map (fun d => d.parameters.length) = some 3) := by decide +kernel
theorem k_L_alike {l : Launch} (hst : l.stackTraces = false) {G : gaG} {X : String → gaH → Prop} {a0 : Nat} {a1 : Int} {a2 : Nat} {h : gaH} {Q : Int → gaH → Prop} (hw : w_L_alike a0 a1 a2 h Q) : gaC l G yL_alike (gaMW yL_alike cL_alike 4 ((some .int)) [(0, 10, 13, 19)]) rm_L_alike [.ref a0, gi a1, .ref a2] h (gQi Q) X := by
  refine g_startW (lv := [some (.ref a0), some (gi a1), some (.ref a2), none]) hpl_RL hst (Nat.le_of_ble_eq_true rfl) (gaArgs_pad (z := 1) rfl) ww_5_167 ?_
  intro p e s m args below meth c V hT
  show gaP p l e rm_L_alike s m args below meth c G 4 (gaZ below G (gQi Q) X args s rm_L_alike) 0 [some (.ref a0), some (gi a1), some (.ref a2), none] [] h 1 6
  unfold w_L_alike at hw
  refine g_aload_n V dL_alike_0 rfl rfl ?_
  refine g_aload_n V dL_alike_1 rfl rfl ?_
  refine g_iload_n V dL_alike_2 rfl rfl ?_
  obtain ⟨hb, hw⟩ := hw
  obtain ⟨fb, hb⟩ := hb
  obtain ⟨hk, hj, c3, s4, ec, es, hw⟩ := hw
  refine g_callV (C := RX5) (T := TX5) (N := 9) (st := [.ref a2]) V (k_X5_alike hst hw) ww_5_168 ww_2_73 ww_2_74 ww_1_1 ww_2_75 hd_X5_alike ⟨by decide, by decide⟩ rfl (by decide) hb rfl rfl (ga_cat rfl) dL_alike_3 hk hj rfl ?_ (ga_ki (fun r2 hp1 hw => ?_))
  · rintro E9 h9 ⟨rfl, hw⟩
    refine gaO_re ec es ?_
    refine gaO_catch V hT [] ⟨0, 10, 13, 19⟩ [] rfl (by intro z hz; simp at hz) rfl (by decide) ww_2_208 gn_12 rfl (fun q => ?_)
    refine g_astore_n (lv2 := [some (.ref a0), some (gi a1), some (.ref a2), some (.ref q)]) V dL_alike_13 (by decide) rfl rfl rfl ?_
    refine g_iconst V (Int32.ofInt 1) dL_alike_14 rfl rfl ?_
    exact g_iret V rfl rfl dL_alike_15 ⟨_, rfl, hw⟩
  · refine ga_re ec es ?_
    refine gi_i2l V dL_alike_6 rfl ?_
    obtain ⟨fs, ha, hl, hw⟩ := hw
    refine g_putN (host := "WordgardenLaw") (C := RX6) (T := TX6) (N := 2) V 0 tyX6 tyX6_ok nmX6 rfl hin_RX6 (by decide) (by decide) gn_22 rfl rfl rfl rfl ha hl dL_alike_7 rfl ?_
    generalize gaUp hp1 a2 _ = hp5 at hw ⊢
    refine g_goto V dL_alike_10 rfl ?_
    refine g_iconst V (Int32.ofInt 0) dL_alike_16 rfl rfl ?_
    exact g_iret V rfl rfl dL_alike_17 ⟨_, rfl, hw⟩
def w_L_house (a0 : Nat) (a1 : Int) (a2 : Nat) (h : gaH) (Q : Int → gaH → Prop) : Prop := gHas h a0 5 ∧ gCall 1 6 1 6 (fun c3 s4 => w_X5_house (fun E9 h9 => (E9 = "java/lang/IllegalArgumentException" ∧ Q 1 h9)) a0 a1 h (fun r2 hp1 => gPF hp1 a2 6 0 (.long (gI2l r2)) (fun hp5 => Q 0 hp5)))
abbrev rm_L_house : Room := { frames := 10, cells := 1, slots := 6, locals := 241 }
theorem hd_L_house : (yL_house.cls ≠ "java/lang/invoke/MethodHandle" ∧ yL_house.cls ≠ "java/lang/invoke/VarHandle" ∧ (parseMethodDescriptor yL_house.desc).map (fun d => d.parameters.length) = some 3) := by decide +kernel
theorem k_L_house {l : Launch} (hst : l.stackTraces = false) {G : gaG} {X : String → gaH → Prop} {a0 : Nat} {a1 : Int} {a2 : Nat} {h : gaH} {Q : Int → gaH → Prop} (hw : w_L_house a0 a1 a2 h Q) : gaC l G yL_house (gaMW yL_house cL_house 4 ((some .int)) [(0, 10, 13, 21)]) rm_L_house [.ref a0, gi a1, .ref a2] h (gQi Q) X := by
  refine g_startW (lv := [some (.ref a0), some (gi a1), some (.ref a2), none]) hpl_RL hst (Nat.le_of_ble_eq_true rfl) (gaArgs_pad (z := 1) rfl) ww_5_171 ?_
  intro p e s m args below meth c V hT
  show gaP p l e rm_L_house s m args below meth c G 4 (gaZ below G (gQi Q) X args s rm_L_house) 0 [some (.ref a0), some (gi a1), some (.ref a2), none] [] h 1 6
  unfold w_L_house at hw
  refine g_aload_n V dL_house_0 rfl rfl ?_
  refine g_aload_n V dL_house_1 rfl rfl ?_
  refine g_iload_n V dL_house_2 rfl rfl ?_
  obtain ⟨hb, hw⟩ := hw
  obtain ⟨fb, hb⟩ := hb
  obtain ⟨hk, hj, c3, s4, ec, es, hw⟩ := hw
  refine g_callV (C := RX5) (T := TX5) (N := 9) (st := [.ref a2]) V (k_X5_house hst hw) ww_5_172 ww_2_169 ww_2_170 ww_1_1 ww_2_171 hd_X5_house ⟨by decide, by decide⟩ rfl (by decide) hb rfl rfl (ga_cat rfl) dL_house_3 hk hj rfl ?_ (ga_ki (fun r2 hp1 hw => ?_))
  · rintro E9 h9 ⟨rfl, hw⟩
    refine gaO_re ec es ?_
    refine gaO_catch V hT [] ⟨0, 10, 13, 21⟩ [] rfl (by intro z hz; simp at hz) rfl (by decide) ww_2_209 gn_20 rfl (fun q => ?_)
    refine g_astore_n (lv2 := [some (.ref a0), some (gi a1), some (.ref a2), some (.ref q)]) V dL_house_13 (by decide) rfl rfl rfl ?_
    refine g_iconst V (Int32.ofInt 1) dL_house_14 rfl rfl ?_
    exact g_iret V rfl rfl dL_house_15 ⟨_, rfl, hw⟩
  · refine ga_re ec es ?_
    refine gi_i2l V dL_house_6 rfl ?_
    obtain ⟨fs, ha, hl, hw⟩ := hw
    refine g_putN (host := "WordgardenLaw") (C := RX6) (T := TX6) (N := 2) V 0 tyX6 tyX6_ok nmX6 rfl hin_RX6 (by decide) (by decide) gn_22 rfl rfl rfl rfl ha hl dL_house_7 rfl ?_
    generalize gaUp hp1 a2 _ = hp5 at hw ⊢
    refine g_goto V dL_house_10 rfl ?_
    refine g_iconst V (Int32.ofInt 0) dL_house_16 rfl rfl ?_
    exact g_iret V rfl rfl dL_house_17 ⟨_, rfl, hw⟩
