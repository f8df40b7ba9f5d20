def w_L_below (a0 : Int) (a1 : Int) (h : gaH) (Q : Int → gaH → Prop) : Prop := gR a1 ∧ ¬ a1 = 0 ∧ (Q (gRem (gAnd a0 2147483647) a1) h)
abbrev rm_L_below : Room := { frames := 0, cells := 0, slots := 0, locals := 0 }
theorem hd_L_below : (yL_below.cls ≠ "java/lang/invoke/MethodHandle" ∧ yL_below.cls ≠ "java/lang/invoke/VarHandle" ∧ (parseMethodDescriptor yL_below.desc).map (fun d => d.parameters.length) = some 2) := by decide +kernel
theorem k_L_below {l : Launch} (hst : l.stackTraces = false) {G : gaG} {X : String → gaH → Prop} {a0 : Int} {a1 : Int} {h : gaH} {Q : Int → gaH → Prop} (hw : w_L_below a0 a1 h Q) : gaC l G yL_below (gaM yL_below cL_below 2 ((some .int))) rm_L_below [gi a0, gi a1] h (gQi Q) X := by
  refine g_start (lv := [some (gi a0), some (gi a1)]) hpl_RL hst (Nat.le_of_ble_eq_true rfl) (gaArgs_pad (z := 0) rfl) ww_2_208 ?_
  intro p e s m args below meth c V hT
  unfold w_L_below at hw
  refine g_iload_n V dL_below_0 rfl rfl ?_
  refine g_ldc V (Int32.ofInt 2147483647) dL_below_1 ww_2_209 rfl ?_
  refine gi_iand V dL_below_3 rfl ?_
  refine g_iload_n V dL_below_4 rfl rfl ?_
  obtain ⟨hx, h0, hw⟩ := hw
  refine gi_irem V dL_below_5 hx h0 rfl ?_
  exact g_iret V rfl rfl dL_below_6 ⟨_, rfl, hw⟩
def w_L_cell (a0 : Nat) (a1 : Int) (h : gaH) (Q : Int → gaH → Prop) : Prop := gAL h a0 102 (fun r1 => gR a1 ∧ gR r1 ∧ (if r1 ≤ a1 then Q (790386105 * (a1 + 3)) h else gLI h a0 102 a1 (fun r2 => Q r2 h)))
abbrev rm_L_cell : Room := { frames := 0, cells := 0, slots := 0, locals := 0 }
theorem hd_L_cell : (yL_cell.cls ≠ "java/lang/invoke/MethodHandle" ∧ yL_cell.cls ≠ "java/lang/invoke/VarHandle" ∧ (parseMethodDescriptor yL_cell.desc).map (fun d => d.parameters.length) = some 2) := by decide +kernel
theorem k_L_cell {l : Launch} (hst : l.stackTraces = false) {G : gaG} {X : String → gaH → Prop} {a0 : Nat} {a1 : Int} {h : gaH} {Q : Int → gaH → Prop} (hw : w_L_cell a0 a1 h Q) : gaC l G yL_cell (gaM yL_cell cL_cell 2 ((some .int))) rm_L_cell [.ref a0, gi a1] h (gQi Q) X := by
  refine g_start (lv := [some (.ref a0), some (gi a1)]) hpl_RL hst (Nat.le_of_ble_eq_true rfl) (gaArgs_pad (z := 0) rfl) ww_2_192 ?_
  intro p e s m args below meth c V hT
  unfold w_L_cell at hw
  refine g_iload_n V dL_cell_0 rfl rfl ?_
  refine g_aload_n V dL_cell_1 rfl rfl ?_
  obtain ⟨t9, vs, ha, ht, hw⟩ := hw
  refine gi_arraylength (t0 := 102) V (by simp [gaT]) ha ht dL_cell_2 rfl ?_
  generalize (vs.length : Int) = r1 at hw ⊢
  obtain ⟨hx0, hx1, hw⟩ := hw
  refine gi_icmp_ge V dL_cell_3 rfl rfl hx0 hx1 (fun q => ?_) (fun q => ?_)
  · have hw := ga_t q hw
    refine g_ldc V (Int32.ofInt 790386105) dL_cell_12 ww_2_193 rfl ?_
    refine g_iload_n V dL_cell_14 rfl rfl ?_
    refine g_iconst V (Int32.ofInt 3) dL_cell_15 rfl rfl ?_
    refine gi_iadd V dL_cell_16 rfl ?_
    refine gi_imul V dL_cell_17 rfl ?_
    exact g_iret V rfl rfl dL_cell_18 ⟨_, rfl, hw⟩
  · have hw := ga_f q hw
    refine g_aload_n V dL_cell_6 rfl rfl ?_
    refine g_iload_n V dL_cell_7 rfl rfl ?_
    obtain ⟨t9, vs, r2, ha, ht, h0, h9, hv, hw⟩ := hw
    refine gi_iaload V ha ht h0 h9 hv dL_cell_8 rfl ?_
    refine g_goto V dL_cell_9 rfl ?_
    exact g_iret V rfl rfl dL_cell_18 ⟨_, rfl, hw⟩
def w_L_isGrown_J87 (G : gaG) (X : String → gaH → Prop) (Q : Int → gaH → Prop) (K30 : Nat → Int → Int → Int → Int → Int → Int → gaH → Nat → Nat → Prop) (v0 : Nat) (v1 : Int) (v2 : Int) (v3 : Int) (v4 : Int) (v5 : Int) (v6 : Int) (v7 : Int) (h : gaH) (kc ks : Nat) : Prop := gR v7 ∧ gR v4 ∧ (if v7 ≤ v4 then K30 v0 v1 v2 v3 v4 v5 (v6 + (-1)) h kc ks else K30 v0 v1 v2 v3 v7 v5 (v6 + (-1)) h kc ks)
def w_L_isGrown_J419 (G : gaG) (X : String → gaH → Prop) (Q : Int → gaH → Prop) (v0 : Nat) (v3 : Int) (h : gaH) (kc ks : Nat) : Prop := gR v3 ∧ (if v3 = 0 then Q 1 h else gHas h v0 5 ∧ gCall 3 18 kc ks (fun c3 s4 => w_X5_lay G X v0 1 1 0 h (fun r2 hp1 => gHas hp1 v0 5 ∧ gCall 4 24 c3 s4 (fun c7 s8 => w_X5_undo X v0 0 ((gShl 2 v3) + 1) 2 hp1 (fun r6 hp5 => gHas hp5 v0 5 ∧ gCall 1 6 c7 s8 (fun c11 s12 => w_X5_size X v0 1 0 hp5 (fun r10 hp9 => gR r6 ∧ gR r10 ∧ (if r6 = r10 then gHas hp9 v0 5 ∧ gCall 2 12 c11 s12 (fun c15 s16 => w_X5_order X v0 0 1 hp9 (fun r14 hp13 => gR r14 ∧ (if r14 = 0 then Q 1 hp13 else Q 0 hp13))) else Q 0 hp9))))))))
def w_L_isGrown_J307 (G : gaG) (X : String → gaH → Prop) (Q : Int → gaH → Prop) (v0 : Nat) (v3 : Int) (v6 : Int) (t0 : Int) (t1 : Int) (h : gaH) (kc ks : Nat) : Prop := gR t0 ∧ gR t1 ∧ (if t0 = t1 then gHas h v0 5 ∧ gCall 2 12 kc ks (fun c3 s4 => w_X5_kinds X v0 0 v6 1 h (fun r2 hp1 => gR r2 ∧ gR v6 ∧ (if r2 = v6 then gHas hp1 v0 5 ∧ gCall 1 6 c3 s4 (fun c7 s8 => w_X5_least X v0 1 hp1 (fun r6 hp5 => gHas hp5 v0 5 ∧ gCall 2 12 c7 s8 (fun c11 s12 => w_X5_rotate X v0 1 r6 hp5 (fun r10 hp9 => gHas hp9 v0 5 ∧ gCall 1 6 c11 s12 (fun c15 s16 => w_X5_ups X v0 0 0 hp9 (fun r14 hp13 => gHas hp13 v0 5 ∧ gCall 4 24 c15 s16 (fun c19 s20 => w_X5_line X v0 2 v6 r14 0 hp13 (fun r18 hp17 => gHas hp17 v0 5 ∧ gCall 2 12 c19 s20 (fun c23 s24 => w_X5_order X v0 1 2 hp17 (fun r22 hp21 => gR r22 ∧ (if r22 = 0 then gR v6 ∧ (if v6 ≤ 1 then w_L_isGrown_J419 G X Q v0 v3 hp21 c23 s24 else gHas hp21 v0 5 ∧ gCall 3 18 c23 s24 (fun c27 s28 => w_X5_lay G X v0 0 1 0 hp21 (fun r26 hp25 => gHas hp25 v0 5 ∧ gCall 2 12 c27 s28 (fun c31 s32 => w_X5_isB X v0 1 (v6 - 1) hp25 (fun r30 hp29 => gHas hp29 v0 5 ∧ gCall 2 12 c31 s32 (fun c35 s36 => w_X5_isB X v0 1 (v6 - 2) hp29 (fun r34 hp33 => gR r30 ∧ gR r34 ∧ (if r30 = r34 then Q 0 hp33 else gHas hp33 v0 5 ∧ gCall 2 12 c35 s36 (fun c39 s40 => w_X5_cutTo X v0 1 (v6 - 2) hp33 (fun r38 hp37 => gHas hp37 v0 5 ∧ gCall 1 6 c39 s40 (fun c43 s44 => w_X5_isMirrored X v0 1 hp37 (fun r42 hp41 => gR r42 ∧ (if r42 = 0 then Q 0 hp41 else w_L_isGrown_J419 G X Q v0 v3 hp41 c43 s44))))))))))))) else Q 0 hp21))))))))))) else Q 0 hp1))) else Q 0 h)
def w_L_isGrown_J190 (G : gaG) (X : String → gaH → Prop) (Q : Int → gaH → Prop) (v0 : Nat) (v2 : Int) (v3 : Int) (v4 : Int) (v6 : Int) (t0 : Int) (t1 : Int) (h : gaH) (kc ks : Nat) : Prop := gR t0 ∧ gR t1 ∧ (if t0 = t1 then gHas h v0 5 ∧ gCall 1 6 kc ks (fun c3 s4 => w_X5_alike X v0 0 h (fun r2 hp1 => gHas hp1 v0 5 ∧ gCall 1 6 c3 s4 (fun c7 s8 => w_X5_size X v0 0 1 hp1 (fun r6 hp5 => gR r2 ∧ gR ((v6 + r6) - 2) ∧ (if r2 = ((v6 + r6) - 2) then gHas hp5 v0 5 ∧ gCall 1 6 c7 s8 (fun c11 s12 => w_X5_folds X v0 0 hp5 (fun r10 hp9 => gR r10 ∧ (if r10 = 1 then gHas hp9 v0 5 ∧ gCall 1 6 c11 s12 (fun c15 s16 => w_X5_mirrors X v0 0 hp9 (fun r14 hp13 => gR r14 ∧ gR v6 ∧ (if r14 = v6 then gHas hp13 v0 5 ∧ gCall 1 6 c15 s16 (fun c19 s20 => w_X5_times X v0 0 hp13 (fun r18 hp17 => gR r18 ∧ gR (v4 + 2) ∧ (if r18 ≤ (v4 + 2) then w_L_below (gShr v2 3) (v6 + 1) hp17 (fun r22 hp21 => gHas hp21 v0 5 ∧ gCall 2 12 c19 s20 (fun c25 s26 => w_X5_spread X v0 0 r22 0 hp21 (fun r24 hp23 => gR r24 ∧ (if 1 < r24 then Q 0 hp23 else gHas hp23 v0 5 ∧ gCall 2 12 c25 s26 (fun c29 s30 => w_X5_spread X v0 0 r22 1 hp23 (fun r28 hp27 => gR r28 ∧ (if 1 < r28 then Q 0 hp27 else gHas hp27 v0 5 ∧ gCall 2 12 c29 s30 (fun c33 s34 => w_X5_kinds X v0 0 r22 1 hp27 (fun r32 hp31 => gR r22 ∧ gR v6 ∧ (if v6 ≤ r22 then w_L_isGrown_J307 G X Q v0 v3 v6 r32 v6 hp31 c33 s34 else w_L_isGrown_J307 G X Q v0 v3 v6 r32 (r22 + 1) hp31 c33 s34)))))))))) else Q 0 hp17))) else Q 0 hp13))) else Q 0 hp9))) else Q 0 hp5))))) else Q 0 h)
def w_L_isGrown_L30 (G : gaG) (X : String → gaH → Prop) (Q : Int → gaH → Prop) : Nat → (Nat → Int → Int → Int → Int → Int → Int → gaH → Nat → Nat → Prop)
  | 0 => fun _ _ _ _ _ _ _ _ _ _ => False
  | n + 1 => fun v0 v1 v2 v3 v4 v5 v6 h kc ks => gR v6 ∧ (if v6 ≤ 0 then gHas h v0 5 ∧ gCall 1 6 kc ks (fun c3 s4 => w_X5_size X v0 0 0 h (fun r2 hp1 => gHas hp1 v0 5 ∧ gCall 3 18 c3 s4 (fun c7 s8 => w_X5_lay G X v0 0 0 0 hp1 (fun r6 hp5 => gR r6 ∧ gR r2 ∧ (if r6 = r2 then gHas hp5 v0 5 ∧ gCall 3 18 c7 s8 (fun c11 s12 => w_X5_lay G X v0 0 1 1 hp5 (fun r10 hp9 => gR r10 ∧ gR r2 ∧ (if r10 = r2 then gHas hp9 v0 5 ∧ gCall 3 18 c11 s12 (fun c15 s16 => w_X5_lay G X v0 0 2 2 hp9 (fun r14 hp13 => gR r14 ∧ gR r2 ∧ (if r14 = r2 then gHas hp13 v0 5 ∧ gCall 2 12 c15 s16 (fun c19 s20 => w_X5_order X v0 0 1 hp13 (fun r18 hp17 => gR r18 ∧ (if r18 = 0 then gHas hp17 v0 5 ∧ gCall 2 12 c19 s20 (fun c23 s24 => w_X5_order X v0 1 2 hp17 (fun r22 hp21 => gR r22 ∧ (if r22 = 0 then gHas hp21 v0 5 ∧ gCall 1 6 c23 s24 (fun c27 s28 => w_X5_cross X v0 0 hp21 (fun r26 hp25 => gR (gRem v5 2) ∧ (if (gRem v5 2) = 0 then w_L_isGrown_J190 G X Q v0 v2 v3 v4 r2 r26 1 hp25 c27 s28 else w_L_isGrown_J190 G X Q v0 v2 v3 v4 r2 r26 (-1) hp25 c27 s28))) else Q 0 hp21))) else Q 0 hp17))) else Q 0 hp13))) else Q 0 hp9))) else Q 0 hp5))))) else w_L_below (gShr v1 ((2 * v6) + 3)) 3 h (fun r30 hp29 => gHas hp29 v0 5 ∧ gCall 2 12 kc ks (fun c33 s34 => w_X5_grow X v0 0 (1 + r30) hp29 (fun r32 hp31 => gR r32 ∧ (if r32 = (-9) then w_L_isGrown_L30 G X Q n v0 v1 v2 v3 v4 v5 (v6 + (-1)) hp31 c33 s34 else gR v3 ∧ (if v3 = 0 then w_L_isGrown_J87 G X Q (w_L_isGrown_L30 G X Q n) v0 v1 v2 (1 + r30) v4 (v5 + 1) v6 (1 + r30) hp31 c33 s34 else gHas hp31 v0 5 ∧ gCall 2 12 c33 s34 (fun c37 s38 => w_X5_grow X v0 1 (1 + r30) hp31 (fun r36 hp35 => w_L_isGrown_J87 G X Q (w_L_isGrown_L30 G X Q n) v0 v1 v2 v3 v4 (v5 + 1) v6 (1 + r30) hp35 c37 s38))))))))
def w_L_isGrown (G : gaG) (X : String → gaH → Prop) (a0 : Nat) (a1 : Int) (a2 : Int) (h : gaH) (Q : Int → gaH → Prop) : Prop := gHas h a0 5 ∧ gCall 1 6 316 1896 (fun c3 s4 => w_X5_fresh X a0 0 h (fun r2 hp1 => gHas hp1 a0 5 ∧ gCall 1 6 c3 s4 (fun c7 s8 => w_X5_fresh X a0 1 hp1 (fun r6 hp5 => w_L_below (gShr a1 2) 6 hp5 (fun r10 hp9 => ∃ z, w_L_isGrown_L30 G X Q z a0 a1 a2 0 0 0 r10 hp9 c7 s8)))))
abbrev rm_L_isGrown : Room := { frames := 11, cells := 316, slots := 1896, locals := 266 }
theorem hd_L_isGrown : (yL_isGrown.cls ≠ "java/lang/invoke/MethodHandle" ∧ yL_isGrown.cls ≠ "java/lang/invoke/VarHandle" ∧ (parseMethodDescriptor yL_isGrown.desc).map (fun d => d.parameters.length) = some 3) := by decide +kernel
theorem k_L_isGrown {l : Launch} (hst : l.stackTraces = false) {G : gaG} {X : String → gaH → Prop} {a0 : Nat} {a1 : Int} {a2 : Int} {h : gaH} {Q : Int → gaH → Prop} (hw : w_L_isGrown G X a0 a1 a2 h Q) : gaC l G yL_isGrown (gaM yL_isGrown cL_isGrown 8 ((some .boolean))) rm_L_isGrown [.ref a0, gi a1, gi a2] h (gQi Q) X := by
  refine g_start (lv := [some (.ref a0), some (gi a1), some (gi a2), none, none, none, none, none]) hpl_RL hst (Nat.le_of_ble_eq_true rfl) (gaArgs_pad (z := 5) rfl) ww_2_196 ?_
  intro p e s m args below meth c V hT
  have h_L_isGrown_J87 : ∀ (K30 : Nat → Int → Int → Int → Int → Int → Int → gaH → Nat → Nat → Prop), ∀ (hK30 : ∀ (v0 : Nat) (v1 : Int) (v2 : Int) (v3 : Int) (v4 : Int) (v5 : Int) (v6 : Int) (h : gaH) (kc ks : Nat), K30 v0 v1 v2 v3 v4 v5 v6 h kc ks → gaP p l e rm_L_isGrown s m args below meth c G 8 (gaZ below G (gQi Q) X args s rm_L_isGrown) 30 [some (.ref v0), some (gi v1), some (gi v2), some (gi v3), some (gi v4), some (gi v5), some (gi v6), none] [] h kc ks), ∀ (v0 : Nat) (v1 : Int) (v2 : Int) (v3 : Int) (v4 : Int) (v5 : Int) (v6 : Int) (v7 : Int) (h : gaH) (kc ks : Nat), w_L_isGrown_J87 G X Q K30 v0 v1 v2 v3 v4 v5 v6 v7 h kc ks → gaP p l e rm_L_isGrown s m args below meth c G 8 (gaZ below G (gQi Q) X args s rm_L_isGrown) 87 [some (.ref v0), some (gi v1), some (gi v2), some (gi v3), some (gi v4), some (gi v5), some (gi v6), some (gi v7)] [] h kc ks := by
    intro K30 hK30
    intro v0 v1 v2 v3 v4 v5 v6 v7 h kc ks hw
    unfold w_L_isGrown_J87 at hw
    refine g_iload V dL_isGrown_87 rfl rfl ?_
    refine g_iload V dL_isGrown_89 rfl rfl ?_
    obtain ⟨hx0, hx1, hw⟩ := hw
    refine gi_icmp_le V dL_isGrown_91 rfl rfl hx0 hx1 (fun q => ?_) (fun q => ?_)
    · have hw := ga_t q hw
      refine g_iload V dL_isGrown_99 rfl rfl ?_
      refine g_istore (lv2 := [some (.ref v0), some (gi v1), some (gi v2), some (gi v3), some (gi v4), some (gi v5), some (gi v6), some (gi v7)]) V dL_isGrown_101 (by decide) rfl rfl rfl ?_
      refine gi_iinc (lv2 := [some (.ref v0), some (gi v1), some (gi v2), some (gi v3), some (gi v4), some (gi v5), some (gi (v6 + (-1))), some (gi v7)]) V dL_isGrown_103 (by decide) rfl rfl rfl rfl ?_
      refine g_goto V dL_isGrown_106 rfl ?_
      refine g_less (bs := [true, true, true, true, true, true, true, false]) (lv2 := [some (.ref v0), some (gi v1), some (gi v2), some (gi v3), some (gi v4), some (gi v5), some (gi (v6 + (-1))), none]) rfl ?_
      exact hK30 v0 v1 v2 v3 v4 v5 (v6 + (-1)) h kc ks hw
    · have hw := ga_f q hw
      refine g_iload V dL_isGrown_94 rfl rfl ?_
      refine g_goto V dL_isGrown_96 rfl ?_
      refine g_istore (lv2 := [some (.ref v0), some (gi v1), some (gi v2), some (gi v3), some (gi v7), some (gi v5), some (gi v6), some (gi v7)]) V dL_isGrown_101 (by decide) rfl rfl rfl ?_
      refine gi_iinc (lv2 := [some (.ref v0), some (gi v1), some (gi v2), some (gi v3), some (gi v7), some (gi v5), some (gi (v6 + (-1))), some (gi v7)]) V dL_isGrown_103 (by decide) rfl rfl rfl rfl ?_
      refine g_goto V dL_isGrown_106 rfl ?_
      refine g_less (bs := [true, true, true, true, true, true, true, false]) (lv2 := [some (.ref v0), some (gi v1), some (gi v2), some (gi v3), some (gi v7), some (gi v5), some (gi (v6 + (-1))), none]) rfl ?_
      exact hK30 v0 v1 v2 v3 v7 v5 (v6 + (-1)) h kc ks hw
  have h_L_isGrown_J419 : ∀ (v0 : Nat) (v3 : Int) (h : gaH) (kc ks : Nat), w_L_isGrown_J419 G X Q v0 v3 h kc ks → gaP p l e rm_L_isGrown s m args below meth c G 8 (gaZ below G (gQi Q) X args s rm_L_isGrown) 419 [some (.ref v0), none, none, some (gi v3), none, none, none, none] [] h kc ks := by
    intro v0 v3 h kc ks hw
    unfold w_L_isGrown_J419 at hw
    refine g_iload_n V dL_isGrown_419 rfl rfl ?_
    obtain ⟨hx0, hw⟩ := hw
    refine gi_if_ne V dL_isGrown_420 rfl rfl hx0 (fun q => ?_) (fun q => ?_)
    · have hw := ga_f q hw
      refine g_aload_n V dL_isGrown_425 rfl rfl ?_
      refine g_iconst V (Int32.ofInt 1) dL_isGrown_426 rfl rfl ?_
      refine g_iconst V (Int32.ofInt 1) dL_isGrown_427 rfl rfl ?_
      refine g_iconst V (Int32.ofInt 0) dL_isGrown_428 rfl rfl ?_
      obtain ⟨hb, hw⟩ := hw
      obtain ⟨fb, hb⟩ := hb
      obtain ⟨hk, hj, c3, s4, ec, es, hw⟩ := hw
      refine g_callV (C := RX5) (T := TX5) (N := 9) (st := []) V (k_X5_lay hst hw) ww_2_224 ww_2_225 ww_2_226 ww_1_1 ww_2_227 hd_X5_lay ⟨by decide, by decide⟩ rfl (by decide) hb rfl rfl (ga_cat rfl) dL_isGrown_429 hk hj rfl (gaX_all hT V) (ga_ki (fun r2 hp1 hw => ?_))
      refine ga_re ec es ?_
      refine g_pop V dL_isGrown_432 rfl rfl ?_
      refine g_aload_n V dL_isGrown_433 rfl rfl ?_
      refine g_iconst V (Int32.ofInt 0) dL_isGrown_434 rfl rfl ?_
      refine g_iconst V (Int32.ofInt 2) dL_isGrown_435 rfl rfl ?_
      refine g_iload_n V dL_isGrown_436 rfl rfl ?_
      refine gi_ishl V dL_isGrown_437 rfl ?_
      refine g_iconst V (Int32.ofInt 1) dL_isGrown_438 rfl rfl ?_
      refine gi_iadd V dL_isGrown_439 rfl ?_
      refine g_iconst V (Int32.ofInt 2) dL_isGrown_440 rfl rfl ?_
      obtain ⟨hb, hw⟩ := hw
      obtain ⟨fb, hb⟩ := hb
      obtain ⟨hk, hj, c7, s8, ec, es, hw⟩ := hw
      refine g_callV (C := RX5) (T := TX5) (N := 9) (st := []) V (k_X5_undo hst hw) ww_3_52 ww_3_53 ww_3_54 ww_1_1 ww_3_55 hd_X5_undo ⟨by decide, by decide⟩ rfl (by decide) hb rfl rfl (ga_cat rfl) dL_isGrown_441 hk hj rfl (gaX_all hT V) (ga_ki (fun r6 hp5 hw => ?_))
      refine ga_re ec es ?_
      refine g_aload_n V dL_isGrown_444 rfl rfl ?_
      refine g_iconst V (Int32.ofInt 1) dL_isGrown_445 rfl rfl ?_
      refine g_iconst V (Int32.ofInt 0) dL_isGrown_446 rfl rfl ?_
      obtain ⟨hb, hw⟩ := hw
      obtain ⟨fb, hb⟩ := hb
      obtain ⟨hk, hj, c11, s12, ec, es, hw⟩ := hw
      refine g_callV (C := RX5) (T := TX5) (N := 9) (st := [gi r6]) V (k_X5_size hst hw) ww_2_223 ww_2_155 ww_2_156 ww_1_1 ww_2_157 hd_X5_size ⟨by decide, by decide⟩ rfl (by decide) hb rfl rfl (ga_cat rfl) dL_isGrown_447 hk hj rfl (gaX_all hT V) (ga_ki (fun r10 hp9 hw => ?_))
      refine ga_re ec es ?_
      obtain ⟨hx0, hx1, hw⟩ := hw
      refine gi_icmp_ne V dL_isGrown_450 rfl rfl hx0 hx1 (fun q => ?_) (fun q => ?_)
      · have hw := ga_f q hw
        refine g_iconst V (Int32.ofInt 0) dL_isGrown_466 rfl rfl ?_
        exact g_iret V rfl rfl dL_isGrown_467 ⟨_, rfl, hw⟩
      · have hw := ga_t q hw
        refine g_aload_n V dL_isGrown_453 rfl rfl ?_
        refine g_iconst V (Int32.ofInt 0) dL_isGrown_454 rfl rfl ?_
        refine g_iconst V (Int32.ofInt 1) dL_isGrown_455 rfl rfl ?_
        obtain ⟨hb, hw⟩ := hw
        obtain ⟨fb, hb⟩ := hb
        obtain ⟨hk, hj, c15, s16, ec, es, hw⟩ := hw
        refine g_callV (C := RX5) (T := TX5) (N := 9) (st := []) V (k_X5_order hst hw) ww_2_233 ww_2_234 ww_2_235 ww_1_1 ww_2_236 hd_X5_order ⟨by decide, by decide⟩ rfl (by decide) hb rfl rfl (ga_cat rfl) dL_isGrown_456 hk hj rfl (gaX_all hT V) (ga_ki (fun r14 hp13 hw => ?_))
        refine ga_re ec es ?_
        obtain ⟨hx0, hw⟩ := hw
        refine gi_if_ne V dL_isGrown_459 rfl rfl hx0 (fun q => ?_) (fun q => ?_)
        · have hw := ga_f q hw
          refine g_iconst V (Int32.ofInt 0) dL_isGrown_466 rfl rfl ?_
          exact g_iret V rfl rfl dL_isGrown_467 ⟨_, rfl, hw⟩
        · have hw := ga_t q hw
          refine g_iconst V (Int32.ofInt 1) dL_isGrown_462 rfl rfl ?_
          refine g_goto V dL_isGrown_463 rfl ?_
          exact g_iret V rfl rfl dL_isGrown_467 ⟨_, rfl, hw⟩
    · have hw := ga_t q hw
      refine g_iconst V (Int32.ofInt 1) dL_isGrown_423 rfl rfl ?_
      exact g_iret V rfl rfl dL_isGrown_424 ⟨_, rfl, hw⟩
  have h_L_isGrown_J307 : ∀ (v0 : Nat) (v3 : Int) (v6 : Int) (t0 : Int) (t1 : Int) (h : gaH) (kc ks : Nat), w_L_isGrown_J307 G X Q v0 v3 v6 t0 t1 h kc ks → gaP p l e rm_L_isGrown s m args below meth c G 8 (gaZ below G (gQi Q) X args s rm_L_isGrown) 307 [some (.ref v0), none, none, some (gi v3), none, none, some (gi v6), none] [gi t1, gi t0] h kc ks := by
    intro v0 v3 v6 t0 t1 h kc ks hw
    unfold w_L_isGrown_J307 at hw
    obtain ⟨hx0, hx1, hw⟩ := hw
    refine gi_icmp_ne V dL_isGrown_307 rfl rfl hx0 hx1 (fun q => ?_) (fun q => ?_)
    · have hw := ga_f q hw
      refine g_iconst V (Int32.ofInt 0) dL_isGrown_323 rfl rfl ?_
      exact g_iret V rfl rfl dL_isGrown_324 ⟨_, rfl, hw⟩
    · have hw := ga_t q hw
      refine g_aload_n V dL_isGrown_310 rfl rfl ?_
      refine g_iconst V (Int32.ofInt 0) dL_isGrown_311 rfl rfl ?_
      refine g_iload V dL_isGrown_312 rfl rfl ?_
      refine g_iconst V (Int32.ofInt 1) dL_isGrown_314 rfl rfl ?_
      obtain ⟨hb, hw⟩ := hw
      obtain ⟨fb, hb⟩ := hb
      obtain ⟨hk, hj, c3, s4, ec, es, hw⟩ := hw
      refine g_callV (C := RX5) (T := TX5) (N := 9) (st := []) V (k_X5_kinds hst hw) ww_3_13 ww_3_14 ww_3_15 ww_1_1 ww_3_16 hd_X5_kinds ⟨by decide, by decide⟩ rfl (by decide) hb rfl rfl (ga_cat rfl) dL_isGrown_315 hk hj rfl (gaX_all hT V) (ga_ki (fun r2 hp1 hw => ?_))
      refine ga_re ec es ?_
      refine g_iload V dL_isGrown_318 rfl rfl ?_
      obtain ⟨hx0, hx1, hw⟩ := hw
      refine gi_icmp_eq V dL_isGrown_320 rfl rfl hx0 hx1 (fun q => ?_) (fun q => ?_)
      · have hw := ga_t q hw
        refine g_aload_n V dL_isGrown_325 rfl rfl ?_
        refine g_iconst V (Int32.ofInt 1) dL_isGrown_326 rfl rfl ?_
        refine g_aload_n V dL_isGrown_327 rfl rfl ?_
        refine g_iconst V (Int32.ofInt 1) dL_isGrown_328 rfl rfl ?_
        obtain ⟨hb, hw⟩ := hw
        obtain ⟨fb, hb⟩ := hb
        obtain ⟨hk, hj, c7, s8, ec, es, hw⟩ := hw
        refine g_callV (C := RX5) (T := TX5) (N := 9) (st := [gi 1, .ref v0]) V (k_X5_least hst hw) ww_3_20 ww_2_143 ww_2_144 ww_1_1 ww_2_145 hd_X5_least ⟨by decide, by decide⟩ rfl (by decide) hb rfl rfl (ga_cat rfl) dL_isGrown_329 hk hj rfl (gaX_all hT V) (ga_ki (fun r6 hp5 hw => ?_))
        refine ga_re ec es ?_
        obtain ⟨hb, hw⟩ := hw
        obtain ⟨fb, hb⟩ := hb
        obtain ⟨hk, hj, c11, s12, ec, es, hw⟩ := hw
        refine g_callV (C := RX5) (T := TX5) (N := 9) (st := []) V (k_X5_rotate hst hw) ww_3_21 ww_3_22 ww_3_23 ww_1_1 ww_3_24 hd_X5_rotate ⟨by decide, by decide⟩ rfl (by decide) hb rfl rfl (ga_cat rfl) dL_isGrown_332 hk hj rfl (gaX_all hT V) (ga_ki (fun r10 hp9 hw => ?_))
        refine ga_re ec es ?_
        refine g_pop V dL_isGrown_335 rfl rfl ?_
        refine g_aload_n V dL_isGrown_336 rfl rfl ?_
        refine g_iconst V (Int32.ofInt 2) dL_isGrown_337 rfl rfl ?_
        refine g_iload V dL_isGrown_338 rfl rfl ?_
        refine g_aload_n V dL_isGrown_340 rfl rfl ?_
        refine g_iconst V (Int32.ofInt 0) dL_isGrown_341 rfl rfl ?_
        refine g_iconst V (Int32.ofInt 0) dL_isGrown_342 rfl rfl ?_
        obtain ⟨hb, hw⟩ := hw
        obtain ⟨fb, hb⟩ := hb
        obtain ⟨hk, hj, c15, s16, ec, es, hw⟩ := hw
        refine g_callV (C := RX5) (T := TX5) (N := 9) (st := [gi v6, gi 2, .ref v0]) V (k_X5_ups hst hw) ww_3_31 ww_2_163 ww_2_164 ww_1_1 ww_2_165 hd_X5_ups ⟨by decide, by decide⟩ rfl (by decide) hb rfl rfl (ga_cat rfl) dL_isGrown_343 hk hj rfl (gaX_all hT V) (ga_ki (fun r14 hp13 hw => ?_))
        refine ga_re ec es ?_
        refine g_iconst V (Int32.ofInt 0) dL_isGrown_346 rfl rfl ?_
        obtain ⟨hb, hw⟩ := hw
        obtain ⟨fb, hb⟩ := hb
        obtain ⟨hk, hj, c19, s20, ec, es, hw⟩ := hw
        refine g_callV (C := RX5) (T := TX5) (N := 9) (st := []) V (k_X5_line hst hw) ww_3_32 ww_3_33 ww_3_34 ww_1_1 ww_3_35 hd_X5_line ⟨by decide, by decide⟩ rfl (by decide) hb rfl rfl (ga_cat rfl) dL_isGrown_347 hk hj rfl (gaX_all hT V) (ga_ki (fun r18 hp17 hw => ?_))
        refine ga_re ec es ?_
        refine g_pop V dL_isGrown_350 rfl rfl ?_
        refine g_aload_n V dL_isGrown_351 rfl rfl ?_
        refine g_iconst V (Int32.ofInt 1) dL_isGrown_352 rfl rfl ?_
        refine g_iconst V (Int32.ofInt 2) dL_isGrown_353 rfl rfl ?_
        obtain ⟨hb, hw⟩ := hw
        obtain ⟨fb, hb⟩ := hb
        obtain ⟨hk, hj, c23, s24, ec, es, hw⟩ := hw
        refine g_callV (C := RX5) (T := TX5) (N := 9) (st := []) V (k_X5_order hst hw) ww_2_233 ww_2_234 ww_2_235 ww_1_1 ww_2_236 hd_X5_order ⟨by decide, by decide⟩ rfl (by decide) hb rfl rfl (ga_cat rfl) dL_isGrown_354 hk hj rfl (gaX_all hT V) (ga_ki (fun r22 hp21 hw => ?_))
        refine ga_re ec es ?_
        obtain ⟨hx0, hw⟩ := hw
        refine gi_if_eq V dL_isGrown_357 rfl rfl hx0 (fun q => ?_) (fun q => ?_)
        · have hw := ga_t q hw
          refine g_iload V dL_isGrown_362 rfl rfl ?_
          refine g_iconst V (Int32.ofInt 1) dL_isGrown_364 rfl rfl ?_
          obtain ⟨hx0, hw⟩ := hw
          refine gi_icmp_le V dL_isGrown_365 rfl rfl hx0 (by decide) (fun q => ?_) (fun q => ?_)
          · have hw := ga_t q hw
            refine g_less (bs := [true, true, true, true, true, true, false, true]) (lv2 := [some (.ref v0), none, none, some (gi v3), none, none, none, none]) rfl ?_
            exact h_L_isGrown_J419 v0 v3 hp21 c23 s24 hw
          · have hw := ga_f q hw
            refine g_aload_n V dL_isGrown_368 rfl rfl ?_
            refine g_iconst V (Int32.ofInt 0) dL_isGrown_369 rfl rfl ?_
            refine g_iconst V (Int32.ofInt 1) dL_isGrown_370 rfl rfl ?_
            refine g_iconst V (Int32.ofInt 0) dL_isGrown_371 rfl rfl ?_
            obtain ⟨hb, hw⟩ := hw
            obtain ⟨fb, hb⟩ := hb
            obtain ⟨hk, hj, c27, s28, ec, es, hw⟩ := hw
            refine g_callV (C := RX5) (T := TX5) (N := 9) (st := []) V (k_X5_lay hst hw) ww_2_224 ww_2_225 ww_2_226 ww_1_1 ww_2_227 hd_X5_lay ⟨by decide, by decide⟩ rfl (by decide) hb rfl rfl (ga_cat rfl) dL_isGrown_372 hk hj rfl (gaX_all hT V) (ga_ki (fun r26 hp25 hw => ?_))
            refine ga_re ec es ?_
            refine g_pop V dL_isGrown_375 rfl rfl ?_
            refine g_aload_n V dL_isGrown_376 rfl rfl ?_
            refine g_iconst V (Int32.ofInt 1) dL_isGrown_377 rfl rfl ?_
            refine g_iload V dL_isGrown_378 rfl rfl ?_
            refine g_iconst V (Int32.ofInt 1) dL_isGrown_380 rfl rfl ?_
            refine gi_isub V dL_isGrown_381 rfl ?_
            obtain ⟨hb, hw⟩ := hw
            obtain ⟨fb, hb⟩ := hb
            obtain ⟨hk, hj, c31, s32, ec, es, hw⟩ := hw
            refine g_callV (C := RX5) (T := TX5) (N := 9) (st := []) V (k_X5_isB hst hw) ww_3_38 ww_3_39 ww_3_40 ww_1_1 ww_3_41 hd_X5_isB ⟨by decide, by decide⟩ rfl (by decide) hb rfl rfl (ga_cat rfl) dL_isGrown_382 hk hj rfl (gaX_all hT V) (ga_ki (fun r30 hp29 hw => ?_))
            refine ga_re ec es ?_
            refine g_aload_n V dL_isGrown_385 rfl rfl ?_
            refine g_iconst V (Int32.ofInt 1) dL_isGrown_386 rfl rfl ?_
            refine g_iload V dL_isGrown_387 rfl rfl ?_
            refine g_iconst V (Int32.ofInt 2) dL_isGrown_389 rfl rfl ?_
            refine gi_isub V dL_isGrown_390 rfl ?_
            obtain ⟨hb, hw⟩ := hw
            obtain ⟨fb, hb⟩ := hb
            obtain ⟨hk, hj, c35, s36, ec, es, hw⟩ := hw
            refine g_callV (C := RX5) (T := TX5) (N := 9) (st := [gi r30]) V (k_X5_isB hst hw) ww_3_38 ww_3_39 ww_3_40 ww_1_1 ww_3_41 hd_X5_isB ⟨by decide, by decide⟩ rfl (by decide) hb rfl rfl (ga_cat rfl) dL_isGrown_391 hk hj rfl (gaX_all hT V) (ga_ki (fun r34 hp33 hw => ?_))
            refine ga_re ec es ?_
            obtain ⟨hx0, hx1, hw⟩ := hw
            refine gi_icmp_ne V dL_isGrown_394 rfl rfl hx0 hx1 (fun q => ?_) (fun q => ?_)
            · have hw := ga_f q hw
              refine g_aload_n V dL_isGrown_399 rfl rfl ?_
              refine g_iconst V (Int32.ofInt 1) dL_isGrown_400 rfl rfl ?_
              refine g_iload V dL_isGrown_401 rfl rfl ?_
              refine g_iconst V (Int32.ofInt 2) dL_isGrown_403 rfl rfl ?_
              refine gi_isub V dL_isGrown_404 rfl ?_
              obtain ⟨hb, hw⟩ := hw
              obtain ⟨fb, hb⟩ := hb
              obtain ⟨hk, hj, c39, s40, ec, es, hw⟩ := hw
              refine g_callV (C := RX5) (T := TX5) (N := 9) (st := []) V (k_X5_cutTo hst hw) ww_3_46 ww_3_47 ww_3_48 ww_1_1 ww_3_49 hd_X5_cutTo ⟨by decide, by decide⟩ rfl (by decide) hb rfl rfl (ga_cat rfl) dL_isGrown_405 hk hj rfl (gaX_all hT V) (ga_ki (fun r38 hp37 hw => ?_))
              refine ga_re ec es ?_
              refine g_pop V dL_isGrown_408 rfl rfl ?_
              refine g_aload_n V dL_isGrown_409 rfl rfl ?_
              refine g_iconst V (Int32.ofInt 1) dL_isGrown_410 rfl rfl ?_
              obtain ⟨hb, hw⟩ := hw
              obtain ⟨fb, hb⟩ := hb
              obtain ⟨hk, hj, c43, s44, ec, es, hw⟩ := hw
              refine g_callV (C := RX5) (T := TX5) (N := 9) (st := []) V (k_X5_isMirrored hst hw) ww_3_51 ww_2_111 ww_2_112 ww_1_1 ww_2_113 hd_X5_isMirrored ⟨by decide, by decide⟩ rfl (by decide) hb rfl rfl (ga_cat rfl) dL_isGrown_411 hk hj rfl (gaX_all hT V) (ga_ki (fun r42 hp41 hw => ?_))
              refine ga_re ec es ?_
              obtain ⟨hx0, hw⟩ := hw
              refine gi_if_ne V dL_isGrown_414 rfl rfl hx0 (fun q => ?_) (fun q => ?_)
              · have hw := ga_f q hw
                refine g_less (bs := [true, true, true, true, true, true, false, true]) (lv2 := [some (.ref v0), none, none, some (gi v3), none, none, none, none]) rfl ?_
                exact h_L_isGrown_J419 v0 v3 hp41 c43 s44 hw
              · have hw := ga_t q hw
                refine g_iconst V (Int32.ofInt 0) dL_isGrown_417 rfl rfl ?_
                exact g_iret V rfl rfl dL_isGrown_418 ⟨_, rfl, hw⟩
            · have hw := ga_t q hw
              refine g_iconst V (Int32.ofInt 0) dL_isGrown_397 rfl rfl ?_
              exact g_iret V rfl rfl dL_isGrown_398 ⟨_, rfl, hw⟩
        · have hw := ga_f q hw
          refine g_iconst V (Int32.ofInt 0) dL_isGrown_360 rfl rfl ?_
          exact g_iret V rfl rfl dL_isGrown_361 ⟨_, rfl, hw⟩
      · have hw := ga_f q hw
        refine g_iconst V (Int32.ofInt 0) dL_isGrown_323 rfl rfl ?_
        exact g_iret V rfl rfl dL_isGrown_324 ⟨_, rfl, hw⟩
  have h_L_isGrown_J190 : ∀ (v0 : Nat) (v2 : Int) (v3 : Int) (v4 : Int) (v6 : Int) (t0 : Int) (t1 : Int) (h : gaH) (kc ks : Nat), w_L_isGrown_J190 G X Q v0 v2 v3 v4 v6 t0 t1 h kc ks → gaP p l e rm_L_isGrown s m args below meth c G 8 (gaZ below G (gQi Q) X args s rm_L_isGrown) 190 [some (.ref v0), none, some (gi v2), some (gi v3), some (gi v4), none, some (gi v6), none] [gi t1, gi t0] h kc ks := by
    intro v0 v2 v3 v4 v6 t0 t1 h kc ks hw
    unfold w_L_isGrown_J190 at hw
    obtain ⟨hx0, hx1, hw⟩ := hw
    refine gi_icmp_ne V dL_isGrown_190 rfl rfl hx0 hx1 (fun q => ?_) (fun q => ?_)
    · have hw := ga_f q hw
      refine g_iconst V (Int32.ofInt 0) dL_isGrown_212 rfl rfl ?_
      exact g_iret V rfl rfl dL_isGrown_213 ⟨_, rfl, hw⟩
    · have hw := ga_t q hw
      refine g_aload_n V dL_isGrown_193 rfl rfl ?_
      refine g_iconst V (Int32.ofInt 0) dL_isGrown_194 rfl rfl ?_
      obtain ⟨hb, hw⟩ := hw
      obtain ⟨fb, hb⟩ := hb
      obtain ⟨hk, hj, c3, s4, ec, es, hw⟩ := hw
      refine g_callV (C := RX5) (T := TX5) (N := 9) (st := []) V (k_X5_alike hst hw) ww_2_238 ww_2_86 ww_2_87 ww_1_1 ww_2_88 hd_X5_alike ⟨by decide, by decide⟩ rfl (by decide) hb rfl rfl (ga_cat rfl) dL_isGrown_195 hk hj rfl (gaX_all hT V) (ga_ki (fun r2 hp1 hw => ?_))
      refine ga_re ec es ?_
      refine g_iload V dL_isGrown_198 rfl rfl ?_
      refine g_aload_n V dL_isGrown_200 rfl rfl ?_
      refine g_iconst V (Int32.ofInt 0) dL_isGrown_201 rfl rfl ?_
      refine g_iconst V (Int32.ofInt 1) dL_isGrown_202 rfl rfl ?_
      obtain ⟨hb, hw⟩ := hw
      obtain ⟨fb, hb⟩ := hb
      obtain ⟨hk, hj, c7, s8, ec, es, hw⟩ := hw
      refine g_callV (C := RX5) (T := TX5) (N := 9) (st := [gi v6, gi r2]) V (k_X5_size hst hw) ww_2_223 ww_2_155 ww_2_156 ww_1_1 ww_2_157 hd_X5_size ⟨by decide, by decide⟩ rfl (by decide) hb rfl rfl (ga_cat rfl) dL_isGrown_203 hk hj rfl (gaX_all hT V) (ga_ki (fun r6 hp5 hw => ?_))
      refine ga_re ec es ?_
      refine gi_iadd V dL_isGrown_206 rfl ?_
      refine g_iconst V (Int32.ofInt 2) dL_isGrown_207 rfl rfl ?_
      refine gi_isub V dL_isGrown_208 rfl ?_
      obtain ⟨hx0, hx1, hw⟩ := hw
      refine gi_icmp_eq V dL_isGrown_209 rfl rfl hx0 hx1 (fun q => ?_) (fun q => ?_)
      · have hw := ga_t q hw
        refine g_aload_n V dL_isGrown_214 rfl rfl ?_
        refine g_iconst V (Int32.ofInt 0) dL_isGrown_215 rfl rfl ?_
        obtain ⟨hb, hw⟩ := hw
        obtain ⟨fb, hb⟩ := hb
        obtain ⟨hk, hj, c11, s12, ec, es, hw⟩ := hw
        refine g_callV (C := RX5) (T := TX5) (N := 9) (st := []) V (k_X5_folds hst hw) ww_1_224 ww_1_225 ww_1_226 ww_1_1 ww_1_227 hd_X5_folds ⟨by decide, by decide⟩ rfl (by decide) hb rfl rfl (ga_cat rfl) dL_isGrown_216 hk hj rfl (gaX_all hT V) (ga_ki (fun r10 hp9 hw => ?_))
        refine ga_re ec es ?_
        refine g_iconst V (Int32.ofInt 1) dL_isGrown_219 rfl rfl ?_
        obtain ⟨hx0, hw⟩ := hw
        refine gi_icmp_ne V dL_isGrown_220 rfl rfl hx0 (by decide) (fun q => ?_) (fun q => ?_)
        · have hw := ga_f q hw
          refine g_iconst V (Int32.ofInt 0) dL_isGrown_245 rfl rfl ?_
          exact g_iret V rfl rfl dL_isGrown_246 ⟨_, rfl, hw⟩
        · have hw := ga_t q hw
          refine g_aload_n V dL_isGrown_223 rfl rfl ?_
          refine g_iconst V (Int32.ofInt 0) dL_isGrown_224 rfl rfl ?_
          obtain ⟨hb, hw⟩ := hw
          obtain ⟨fb, hb⟩ := hb
          obtain ⟨hk, hj, c15, s16, ec, es, hw⟩ := hw
          refine g_callV (C := RX5) (T := TX5) (N := 9) (st := []) V (k_X5_mirrors hst hw) ww_1_201 ww_1_202 ww_1_203 ww_1_1 ww_1_204 hd_X5_mirrors ⟨by decide, by decide⟩ rfl (by decide) hb rfl rfl (ga_cat rfl) dL_isGrown_225 hk hj rfl (gaX_all hT V) (ga_ki (fun r14 hp13 hw => ?_))
          refine ga_re ec es ?_
          refine g_iload V dL_isGrown_228 rfl rfl ?_
          obtain ⟨hx0, hx1, hw⟩ := hw
          refine gi_icmp_ne V dL_isGrown_230 rfl rfl hx0 hx1 (fun q => ?_) (fun q => ?_)
          · have hw := ga_f q hw
            refine g_iconst V (Int32.ofInt 0) dL_isGrown_245 rfl rfl ?_
            exact g_iret V rfl rfl dL_isGrown_246 ⟨_, rfl, hw⟩
          · have hw := ga_t q hw
            refine g_aload_n V dL_isGrown_233 rfl rfl ?_
            refine g_iconst V (Int32.ofInt 0) dL_isGrown_234 rfl rfl ?_
            obtain ⟨hb, hw⟩ := hw
            obtain ⟨fb, hb⟩ := hb
            obtain ⟨hk, hj, c19, s20, ec, es, hw⟩ := hw
            refine g_callV (C := RX5) (T := TX5) (N := 9) (st := []) V (k_X5_times hst hw) ww_2_239 ww_2_119 ww_2_120 ww_1_1 ww_2_121 hd_X5_times ⟨by decide, by decide⟩ rfl (by decide) hb rfl rfl (ga_cat rfl) dL_isGrown_235 hk hj rfl (gaX_all hT V) (ga_ki (fun r18 hp17 hw => ?_))
            refine ga_re ec es ?_
            refine g_iload V dL_isGrown_238 rfl rfl ?_
            refine g_iconst V (Int32.ofInt 2) dL_isGrown_240 rfl rfl ?_
            refine gi_iadd V dL_isGrown_241 rfl ?_
            obtain ⟨hx0, hx1, hw⟩ := hw
            refine gi_icmp_le V dL_isGrown_242 rfl rfl hx0 hx1 (fun q => ?_) (fun q => ?_)
            · have hw := ga_t q hw
              refine g_iload_n V dL_isGrown_247 rfl rfl ?_
              refine g_iconst V (Int32.ofInt 3) dL_isGrown_248 rfl rfl ?_
              refine gi_ishr V dL_isGrown_249 rfl ?_
              refine g_iload V dL_isGrown_250 rfl rfl ?_
              refine g_iconst V (Int32.ofInt 1) dL_isGrown_252 rfl rfl ?_
              refine gi_iadd V dL_isGrown_253 rfl ?_
              refine g_callS (st := []) V (k_L_below hst hw) ww_2_206 ww_2_207 ww_1_0 ww_2_208 hd_L_below ⟨by decide, by decide⟩ rfl rfl (ga_cat rfl) dL_isGrown_254 (Nat.zero_le _) (Nat.zero_le _) rfl (gaX_all hT V) (ga_ki (fun r22 hp21 hw => ?_))
              refine g_istore (lv2 := [some (.ref v0), none, some (gi v2), some (gi v3), some (gi v4), none, some (gi v6), some (gi r22)]) V dL_isGrown_257 (by decide) rfl rfl rfl ?_
              refine g_aload_n V dL_isGrown_259 rfl rfl ?_
              refine g_iconst V (Int32.ofInt 0) dL_isGrown_260 rfl rfl ?_
              refine g_iload V dL_isGrown_261 rfl rfl ?_
              refine g_iconst V (Int32.ofInt 0) dL_isGrown_263 rfl rfl ?_
              obtain ⟨hb, hw⟩ := hw
              obtain ⟨fb, hb⟩ := hb
              obtain ⟨hk, hj, c25, s26, ec, es, hw⟩ := hw
              refine g_callV (C := RX5) (T := TX5) (N := 9) (st := []) V (k_X5_spread hst hw) ww_3_0 ww_3_1 ww_3_2 ww_1_1 ww_3_3 hd_X5_spread ⟨by decide, by decide⟩ rfl (by decide) hb rfl rfl (ga_cat rfl) dL_isGrown_264 hk hj rfl (gaX_all hT V) (ga_ki (fun r24 hp23 hw => ?_))
              refine ga_re ec es ?_
              refine g_iconst V (Int32.ofInt 1) dL_isGrown_267 rfl rfl ?_
              obtain ⟨hx0, hw⟩ := hw
              refine gi_icmp_gt V dL_isGrown_268 rfl rfl hx0 (by decide) (fun q => ?_) (fun q => ?_)
              · have hw := ga_t q hw
                refine g_iconst V (Int32.ofInt 0) dL_isGrown_323 rfl rfl ?_
                exact g_iret V rfl rfl dL_isGrown_324 ⟨_, rfl, hw⟩
              · have hw := ga_f q hw
                refine g_aload_n V dL_isGrown_271 rfl rfl ?_
                refine g_iconst V (Int32.ofInt 0) dL_isGrown_272 rfl rfl ?_
                refine g_iload V dL_isGrown_273 rfl rfl ?_
                refine g_iconst V (Int32.ofInt 1) dL_isGrown_275 rfl rfl ?_
                obtain ⟨hb, hw⟩ := hw
                obtain ⟨fb, hb⟩ := hb
                obtain ⟨hk, hj, c29, s30, ec, es, hw⟩ := hw
                refine g_callV (C := RX5) (T := TX5) (N := 9) (st := []) V (k_X5_spread hst hw) ww_3_0 ww_3_1 ww_3_2 ww_1_1 ww_3_3 hd_X5_spread ⟨by decide, by decide⟩ rfl (by decide) hb rfl rfl (ga_cat rfl) dL_isGrown_276 hk hj rfl (gaX_all hT V) (ga_ki (fun r28 hp27 hw => ?_))
                refine ga_re ec es ?_
                refine g_iconst V (Int32.ofInt 1) dL_isGrown_279 rfl rfl ?_
                obtain ⟨hx0, hw⟩ := hw
                refine gi_icmp_gt V dL_isGrown_280 rfl rfl hx0 (by decide) (fun q => ?_) (fun q => ?_)
                · have hw := ga_t q hw
                  refine g_iconst V (Int32.ofInt 0) dL_isGrown_323 rfl rfl ?_
                  exact g_iret V rfl rfl dL_isGrown_324 ⟨_, rfl, hw⟩
                · have hw := ga_f q hw
                  refine g_aload_n V dL_isGrown_283 rfl rfl ?_
                  refine g_iconst V (Int32.ofInt 0) dL_isGrown_284 rfl rfl ?_
                  refine g_iload V dL_isGrown_285 rfl rfl ?_
                  refine g_iconst V (Int32.ofInt 1) dL_isGrown_287 rfl rfl ?_
                  obtain ⟨hb, hw⟩ := hw
                  obtain ⟨fb, hb⟩ := hb
                  obtain ⟨hk, hj, c33, s34, ec, es, hw⟩ := hw
                  refine g_callV (C := RX5) (T := TX5) (N := 9) (st := []) V (k_X5_kinds hst hw) ww_3_13 ww_3_14 ww_3_15 ww_1_1 ww_3_16 hd_X5_kinds ⟨by decide, by decide⟩ rfl (by decide) hb rfl rfl (ga_cat rfl) dL_isGrown_288 hk hj rfl (gaX_all hT V) (ga_ki (fun r32 hp31 hw => ?_))
                  refine ga_re ec es ?_
                  refine g_iload V dL_isGrown_291 rfl rfl ?_
                  refine g_iload V dL_isGrown_293 rfl rfl ?_
                  obtain ⟨hx0, hx1, hw⟩ := hw
                  refine gi_icmp_ge V dL_isGrown_295 rfl rfl hx0 hx1 (fun q => ?_) (fun q => ?_)
                  · have hw := ga_t q hw
                    refine g_iload V dL_isGrown_305 rfl rfl ?_
                    refine g_less (bs := [true, true, false, true, false, true, true, false]) (lv2 := [some (.ref v0), none, none, some (gi v3), none, none, some (gi v6), none]) rfl ?_
                    exact h_L_isGrown_J307 v0 v3 v6 r32 v6 hp31 c33 s34 hw
                  · have hw := ga_f q hw
                    refine g_iload V dL_isGrown_298 rfl rfl ?_
                    refine g_iconst V (Int32.ofInt 1) dL_isGrown_300 rfl rfl ?_
                    refine gi_iadd V dL_isGrown_301 rfl ?_
                    refine g_goto V dL_isGrown_302 rfl ?_
                    refine g_less (bs := [true, true, false, true, false, true, true, false]) (lv2 := [some (.ref v0), none, none, some (gi v3), none, none, some (gi v6), none]) rfl ?_
                    exact h_L_isGrown_J307 v0 v3 v6 r32 (r22 + 1) hp31 c33 s34 hw
            · have hw := ga_f q hw
              refine g_iconst V (Int32.ofInt 0) dL_isGrown_245 rfl rfl ?_
              exact g_iret V rfl rfl dL_isGrown_246 ⟨_, rfl, hw⟩
      · have hw := ga_f q hw
        refine g_iconst V (Int32.ofInt 0) dL_isGrown_212 rfl rfl ?_
        exact g_iret V rfl rfl dL_isGrown_213 ⟨_, rfl, hw⟩
  have h_L_isGrown_L30 : ∀ (n : Nat), ∀ (v0 : Nat) (v1 : Int) (v2 : Int) (v3 : Int) (v4 : Int) (v5 : Int) (v6 : Int) (h : gaH) (kc ks : Nat), w_L_isGrown_L30 G X Q n v0 v1 v2 v3 v4 v5 v6 h kc ks → gaP p l e rm_L_isGrown s m args below meth c G 8 (gaZ below G (gQi Q) X args s rm_L_isGrown) 30 [some (.ref v0), some (gi v1), some (gi v2), some (gi v3), some (gi v4), some (gi v5), some (gi v6), none] [] h kc ks := by
    intro n
    induction n with
    | zero =>
      intro v0 v1 v2 v3 v4 v5 v6 h kc ks hw
      exact hw.elim
    | succ n ih =>
      intro v0 v1 v2 v3 v4 v5 v6 h kc ks hw
      unfold w_L_isGrown_L30 at hw
      refine g_iload V dL_isGrown_30 rfl rfl ?_
      obtain ⟨hx0, hw⟩ := hw
      refine gi_if_le V dL_isGrown_32 rfl rfl hx0 (fun q => ?_) (fun q => ?_)
      · have hw := ga_t q hw
        refine g_aload_n V dL_isGrown_109 rfl rfl ?_
        refine g_iconst V (Int32.ofInt 0) dL_isGrown_110 rfl rfl ?_
        refine g_iconst V (Int32.ofInt 0) dL_isGrown_111 rfl rfl ?_
        obtain ⟨hb, hw⟩ := hw
        obtain ⟨fb, hb⟩ := hb
        obtain ⟨hk, hj, c3, s4, ec, es, hw⟩ := hw
        refine g_callV (C := RX5) (T := TX5) (N := 9) (st := []) V (k_X5_size hst hw) ww_2_223 ww_2_155 ww_2_156 ww_1_1 ww_2_157 hd_X5_size ⟨by decide, by decide⟩ rfl (by decide) hb rfl rfl (ga_cat rfl) dL_isGrown_112 hk hj rfl (gaX_all hT V) (ga_ki (fun r2 hp1 hw => ?_))
        refine ga_re ec es ?_
        refine g_istore (lv2 := [some (.ref v0), some (gi v1), some (gi v2), some (gi v3), some (gi v4), some (gi v5), some (gi r2), none]) V dL_isGrown_115 (by decide) rfl rfl rfl ?_
        refine g_aload_n V dL_isGrown_117 rfl rfl ?_
        refine g_iconst V (Int32.ofInt 0) dL_isGrown_118 rfl rfl ?_
        refine g_iconst V (Int32.ofInt 0) dL_isGrown_119 rfl rfl ?_
        refine g_iconst V (Int32.ofInt 0) dL_isGrown_120 rfl rfl ?_
        obtain ⟨hb, hw⟩ := hw
        obtain ⟨fb, hb⟩ := hb
        obtain ⟨hk, hj, c7, s8, ec, es, hw⟩ := hw
        refine g_callV (C := RX5) (T := TX5) (N := 9) (st := []) V (k_X5_lay hst hw) ww_2_224 ww_2_225 ww_2_226 ww_1_1 ww_2_227 hd_X5_lay ⟨by decide, by decide⟩ rfl (by decide) hb rfl rfl (ga_cat rfl) dL_isGrown_121 hk hj rfl (gaX_all hT V) (ga_ki (fun r6 hp5 hw => ?_))
        refine ga_re ec es ?_
        refine g_iload V dL_isGrown_124 rfl rfl ?_
        obtain ⟨hx0, hx1, hw⟩ := hw
        refine gi_icmp_ne V dL_isGrown_126 rfl rfl hx0 hx1 (fun q => ?_) (fun q => ?_)
        · have hw := ga_f q hw
          refine g_iconst V (Int32.ofInt 0) dL_isGrown_171 rfl rfl ?_
          exact g_iret V rfl rfl dL_isGrown_172 ⟨_, rfl, hw⟩
        · have hw := ga_t q hw
          refine g_aload_n V dL_isGrown_129 rfl rfl ?_
          refine g_iconst V (Int32.ofInt 0) dL_isGrown_130 rfl rfl ?_
          refine g_iconst V (Int32.ofInt 1) dL_isGrown_131 rfl rfl ?_
          refine g_iconst V (Int32.ofInt 1) dL_isGrown_132 rfl rfl ?_
          obtain ⟨hb, hw⟩ := hw
          obtain ⟨fb, hb⟩ := hb
          obtain ⟨hk, hj, c11, s12, ec, es, hw⟩ := hw
          refine g_callV (C := RX5) (T := TX5) (N := 9) (st := []) V (k_X5_lay hst hw) ww_2_224 ww_2_225 ww_2_226 ww_1_1 ww_2_227 hd_X5_lay ⟨by decide, by decide⟩ rfl (by decide) hb rfl rfl (ga_cat rfl) dL_isGrown_133 hk hj rfl (gaX_all hT V) (ga_ki (fun r10 hp9 hw => ?_))
          refine ga_re ec es ?_
          refine g_iload V dL_isGrown_136 rfl rfl ?_
          obtain ⟨hx0, hx1, hw⟩ := hw
          refine gi_icmp_ne V dL_isGrown_138 rfl rfl hx0 hx1 (fun q => ?_) (fun q => ?_)
          · have hw := ga_f q hw
            refine g_iconst V (Int32.ofInt 0) dL_isGrown_171 rfl rfl ?_
            exact g_iret V rfl rfl dL_isGrown_172 ⟨_, rfl, hw⟩
          · have hw := ga_t q hw
            refine g_aload_n V dL_isGrown_141 rfl rfl ?_
            refine g_iconst V (Int32.ofInt 0) dL_isGrown_142 rfl rfl ?_
            refine g_iconst V (Int32.ofInt 2) dL_isGrown_143 rfl rfl ?_
            refine g_iconst V (Int32.ofInt 2) dL_isGrown_144 rfl rfl ?_
            obtain ⟨hb, hw⟩ := hw
            obtain ⟨fb, hb⟩ := hb
            obtain ⟨hk, hj, c15, s16, ec, es, hw⟩ := hw
            refine g_callV (C := RX5) (T := TX5) (N := 9) (st := []) V (k_X5_lay hst hw) ww_2_224 ww_2_225 ww_2_226 ww_1_1 ww_2_227 hd_X5_lay ⟨by decide, by decide⟩ rfl (by decide) hb rfl rfl (ga_cat rfl) dL_isGrown_145 hk hj rfl (gaX_all hT V) (ga_ki (fun r14 hp13 hw => ?_))
            refine ga_re ec es ?_
            refine g_iload V dL_isGrown_148 rfl rfl ?_
            obtain ⟨hx0, hx1, hw⟩ := hw
            refine gi_icmp_ne V dL_isGrown_150 rfl rfl hx0 hx1 (fun q => ?_) (fun q => ?_)
            · have hw := ga_f q hw
              refine g_iconst V (Int32.ofInt 0) dL_isGrown_171 rfl rfl ?_
              exact g_iret V rfl rfl dL_isGrown_172 ⟨_, rfl, hw⟩
            · have hw := ga_t q hw
              refine g_aload_n V dL_isGrown_153 rfl rfl ?_
              refine g_iconst V (Int32.ofInt 0) dL_isGrown_154 rfl rfl ?_
              refine g_iconst V (Int32.ofInt 1) dL_isGrown_155 rfl rfl ?_
              obtain ⟨hb, hw⟩ := hw
              obtain ⟨fb, hb⟩ := hb
              obtain ⟨hk, hj, c19, s20, ec, es, hw⟩ := hw
              refine g_callV (C := RX5) (T := TX5) (N := 9) (st := []) V (k_X5_order hst hw) ww_2_233 ww_2_234 ww_2_235 ww_1_1 ww_2_236 hd_X5_order ⟨by decide, by decide⟩ rfl (by decide) hb rfl rfl (ga_cat rfl) dL_isGrown_156 hk hj rfl (gaX_all hT V) (ga_ki (fun r18 hp17 hw => ?_))
              refine ga_re ec es ?_
              obtain ⟨hx0, hw⟩ := hw
              refine gi_if_ne V dL_isGrown_159 rfl rfl hx0 (fun q => ?_) (fun q => ?_)
              · have hw := ga_f q hw
                refine g_iconst V (Int32.ofInt 0) dL_isGrown_171 rfl rfl ?_
                exact g_iret V rfl rfl dL_isGrown_172 ⟨_, rfl, hw⟩
              · have hw := ga_t q hw
                refine g_aload_n V dL_isGrown_162 rfl rfl ?_
                refine g_iconst V (Int32.ofInt 1) dL_isGrown_163 rfl rfl ?_
                refine g_iconst V (Int32.ofInt 2) dL_isGrown_164 rfl rfl ?_
                obtain ⟨hb, hw⟩ := hw
                obtain ⟨fb, hb⟩ := hb
                obtain ⟨hk, hj, c23, s24, ec, es, hw⟩ := hw
                refine g_callV (C := RX5) (T := TX5) (N := 9) (st := []) V (k_X5_order hst hw) ww_2_233 ww_2_234 ww_2_235 ww_1_1 ww_2_236 hd_X5_order ⟨by decide, by decide⟩ rfl (by decide) hb rfl rfl (ga_cat rfl) dL_isGrown_165 hk hj rfl (gaX_all hT V) (ga_ki (fun r22 hp21 hw => ?_))
                refine ga_re ec es ?_
                obtain ⟨hx0, hw⟩ := hw
                refine gi_if_eq V dL_isGrown_168 rfl rfl hx0 (fun q => ?_) (fun q => ?_)
                · have hw := ga_t q hw
                  refine g_aload_n V dL_isGrown_173 rfl rfl ?_
                  refine g_iconst V (Int32.ofInt 0) dL_isGrown_174 rfl rfl ?_
                  obtain ⟨hb, hw⟩ := hw
                  obtain ⟨fb, hb⟩ := hb
                  obtain ⟨hk, hj, c27, s28, ec, es, hw⟩ := hw
                  refine g_callV (C := RX5) (T := TX5) (N := 9) (st := []) V (k_X5_cross hst hw) ww_2_237 ww_2_82 ww_2_83 ww_1_1 ww_2_84 hd_X5_cross ⟨by decide, by decide⟩ rfl (by decide) hb rfl rfl (ga_cat rfl) dL_isGrown_175 hk hj rfl (gaX_all hT V) (ga_ki (fun r26 hp25 hw => ?_))
                  refine ga_re ec es ?_
                  refine g_iload V dL_isGrown_178 rfl rfl ?_
                  refine g_iconst V (Int32.ofInt 2) dL_isGrown_180 rfl rfl ?_
                  refine gi_irem V dL_isGrown_181 (by decide) (by decide) rfl ?_
                  obtain ⟨hx0, hw⟩ := hw
                  refine gi_if_ne V dL_isGrown_182 rfl rfl hx0 (fun q => ?_) (fun q => ?_)
                  · have hw := ga_f q hw
                    refine g_iconst V (Int32.ofInt (-1)) dL_isGrown_189 rfl rfl ?_
                    refine g_less (bs := [true, false, true, true, true, false, true, true]) (lv2 := [some (.ref v0), none, some (gi v2), some (gi v3), some (gi v4), none, some (gi r2), none]) rfl ?_
                    exact h_L_isGrown_J190 v0 v2 v3 v4 r2 r26 (-1) hp25 c27 s28 hw
                  · have hw := ga_t q hw
                    refine g_iconst V (Int32.ofInt 1) dL_isGrown_185 rfl rfl ?_
                    refine g_goto V dL_isGrown_186 rfl ?_
                    refine g_less (bs := [true, false, true, true, true, false, true, true]) (lv2 := [some (.ref v0), none, some (gi v2), some (gi v3), some (gi v4), none, some (gi r2), none]) rfl ?_
                    exact h_L_isGrown_J190 v0 v2 v3 v4 r2 r26 1 hp25 c27 s28 hw
                · have hw := ga_f q hw
                  refine g_iconst V (Int32.ofInt 0) dL_isGrown_171 rfl rfl ?_
                  exact g_iret V rfl rfl dL_isGrown_172 ⟨_, rfl, hw⟩
      · have hw := ga_f q hw
        refine g_iconst V (Int32.ofInt 1) dL_isGrown_35 rfl rfl ?_
        refine g_iload_n V dL_isGrown_36 rfl rfl ?_
        refine g_iconst V (Int32.ofInt 2) dL_isGrown_37 rfl rfl ?_
        refine g_iload V dL_isGrown_38 rfl rfl ?_
        refine gi_imul V dL_isGrown_40 rfl ?_
        refine g_iconst V (Int32.ofInt 3) dL_isGrown_41 rfl rfl ?_
        refine gi_iadd V dL_isGrown_42 rfl ?_
        refine gi_ishr V dL_isGrown_43 rfl ?_
        refine g_iconst V (Int32.ofInt 3) dL_isGrown_44 rfl rfl ?_
        refine g_callS (st := [gi 1]) V (k_L_below hst hw) ww_2_206 ww_2_207 ww_1_0 ww_2_208 hd_L_below ⟨by decide, by decide⟩ rfl rfl (ga_cat rfl) dL_isGrown_45 (Nat.zero_le _) (Nat.zero_le _) rfl (gaX_all hT V) (ga_ki (fun r30 hp29 hw => ?_))
        refine gi_iadd V dL_isGrown_48 rfl ?_
        refine g_istore (lv2 := [some (.ref v0), some (gi v1), some (gi v2), some (gi v3), some (gi v4), some (gi v5), some (gi v6), some (gi (1 + r30))]) V dL_isGrown_49 (by decide) rfl rfl rfl ?_
        refine g_aload_n V dL_isGrown_51 rfl rfl ?_
        refine g_iconst V (Int32.ofInt 0) dL_isGrown_52 rfl rfl ?_
        refine g_iload V dL_isGrown_53 rfl rfl ?_
        obtain ⟨hb, hw⟩ := hw
        obtain ⟨fb, hb⟩ := hb
        obtain ⟨hk, hj, c33, s34, ec, es, hw⟩ := hw
        refine g_callV (C := RX5) (T := TX5) (N := 9) (st := []) V (k_X5_grow hst hw) ww_2_210 ww_2_211 ww_2_212 ww_1_1 ww_2_213 hd_X5_grow ⟨by decide, by decide⟩ rfl (by decide) hb rfl rfl (ga_cat rfl) dL_isGrown_55 hk hj rfl (gaX_all hT V) (ga_ki (fun r32 hp31 hw => ?_))
        refine ga_re ec es ?_
        refine g_bipush V (Int32.ofInt (-9)) dL_isGrown_58 rfl rfl ?_
        obtain ⟨hx0, hw⟩ := hw
        refine gi_icmp_ne V dL_isGrown_60 rfl rfl hx0 (by decide) (fun q => ?_) (fun q => ?_)
        · have hw := ga_f q hw
          refine gi_iinc (lv2 := [some (.ref v0), some (gi v1), some (gi v2), some (gi v3), some (gi v4), some (gi (v5 + 1)), some (gi v6), some (gi (1 + r30))]) V dL_isGrown_66 (by decide) rfl rfl rfl rfl ?_
          refine g_iload_n V dL_isGrown_69 rfl rfl ?_
          obtain ⟨hx0, hw⟩ := hw
          refine gi_if_ne V dL_isGrown_70 rfl rfl hx0 (fun q => ?_) (fun q => ?_)
          · have hw := ga_f q hw
            refine g_aload_n V dL_isGrown_79 rfl rfl ?_
            refine g_iconst V (Int32.ofInt 1) dL_isGrown_80 rfl rfl ?_
            refine g_iload V dL_isGrown_81 rfl rfl ?_
            obtain ⟨hb, hw⟩ := hw
            obtain ⟨fb, hb⟩ := hb
            obtain ⟨hk, hj, c37, s38, ec, es, hw⟩ := hw
            refine g_callV (C := RX5) (T := TX5) (N := 9) (st := []) V (k_X5_grow hst hw) ww_2_210 ww_2_211 ww_2_212 ww_1_1 ww_2_213 hd_X5_grow ⟨by decide, by decide⟩ rfl (by decide) hb rfl rfl (ga_cat rfl) dL_isGrown_83 hk hj rfl (gaX_all hT V) (ga_ki (fun r36 hp35 hw => ?_))
            refine ga_re ec es ?_
            refine g_pop V dL_isGrown_86 rfl rfl ?_
            exact h_L_isGrown_J87 (w_L_isGrown_L30 G X Q n) ih v0 v1 v2 v3 v4 (v5 + 1) v6 (1 + r30) hp35 c37 s38 hw
          · have hw := ga_t q hw
            refine g_iload V dL_isGrown_73 rfl rfl ?_
            refine g_istore_n (lv2 := [some (.ref v0), some (gi v1), some (gi v2), some (gi (1 + r30)), some (gi v4), some (gi (v5 + 1)), some (gi v6), some (gi (1 + r30))]) V dL_isGrown_75 (by decide) rfl rfl rfl ?_
            refine g_goto V dL_isGrown_76 rfl ?_
            exact h_L_isGrown_J87 (w_L_isGrown_L30 G X Q n) ih v0 v1 v2 (1 + r30) v4 (v5 + 1) v6 (1 + r30) hp31 c33 s34 hw
        · have hw := ga_t q hw
          refine g_goto V dL_isGrown_63 rfl ?_
          refine gi_iinc (lv2 := [some (.ref v0), some (gi v1), some (gi v2), some (gi v3), some (gi v4), some (gi v5), some (gi (v6 + (-1))), some (gi (1 + r30))]) V dL_isGrown_103 (by decide) rfl rfl rfl rfl ?_
          refine g_goto V dL_isGrown_106 rfl ?_
          refine g_less (bs := [true, true, true, true, true, true, true, false]) (lv2 := [some (.ref v0), some (gi v1), some (gi v2), some (gi v3), some (gi v4), some (gi v5), some (gi (v6 + (-1))), none]) rfl ?_
          exact ih v0 v1 v2 v3 v4 v5 (v6 + (-1)) hp31 c33 s34 hw
  show gaP p l e rm_L_isGrown s m args below meth c G 8 (gaZ below G (gQi Q) X args s rm_L_isGrown) 0 [some (.ref a0), some (gi a1), some (gi a2), none, none, none, none, none] [] h 316 1896
  unfold w_L_isGrown at hw
  refine g_aload_n V dL_isGrown_0 rfl rfl ?_
  refine g_iconst V (Int32.ofInt 0) dL_isGrown_1 rfl rfl ?_
  obtain ⟨hb, hw⟩ := hw
  obtain ⟨fb, hb⟩ := hb
  obtain ⟨hk, hj, c3, s4, ec, es, hw⟩ := hw
  refine g_callV (C := RX5) (T := TX5) (N := 9) (st := []) V (k_X5_fresh hst hw) ww_2_197 ww_2_198 ww_2_199 ww_1_1 ww_2_200 hd_X5_fresh ⟨by decide, by decide⟩ rfl (by decide) hb rfl rfl (ga_cat rfl) dL_isGrown_2 hk hj rfl (gaX_all hT V) (ga_ki (fun r2 hp1 hw => ?_))
  refine ga_re ec es ?_
  refine g_pop V dL_isGrown_5 rfl rfl ?_
  refine g_aload_n V dL_isGrown_6 rfl rfl ?_
  refine g_iconst V (Int32.ofInt 1) dL_isGrown_7 rfl rfl ?_
  obtain ⟨hb, hw⟩ := hw
  obtain ⟨fb, hb⟩ := hb
  obtain ⟨hk, hj, c7, s8, ec, es, hw⟩ := hw
  refine g_callV (C := RX5) (T := TX5) (N := 9) (st := []) V (k_X5_fresh hst hw) ww_2_197 ww_2_198 ww_2_199 ww_1_1 ww_2_200 hd_X5_fresh ⟨by decide, by decide⟩ rfl (by decide) hb rfl rfl (ga_cat rfl) dL_isGrown_8 hk hj rfl (gaX_all hT V) (ga_ki (fun r6 hp5 hw => ?_))
  refine ga_re ec es ?_
  refine g_pop V dL_isGrown_11 rfl rfl ?_
  refine g_iconst V (Int32.ofInt 0) dL_isGrown_12 rfl rfl ?_
  refine g_istore_n (lv2 := [some (.ref a0), some (gi a1), some (gi a2), some (gi 0), none, none, none, none]) V dL_isGrown_13 (by decide) rfl rfl rfl ?_
  refine g_iconst V (Int32.ofInt 0) dL_isGrown_14 rfl rfl ?_
  refine g_istore (lv2 := [some (.ref a0), some (gi a1), some (gi a2), some (gi 0), some (gi 0), none, none, none]) V dL_isGrown_15 (by decide) rfl rfl rfl ?_
  refine g_iconst V (Int32.ofInt 0) dL_isGrown_17 rfl rfl ?_
  refine g_istore (lv2 := [some (.ref a0), some (gi a1), some (gi a2), some (gi 0), some (gi 0), some (gi 0), none, none]) V dL_isGrown_18 (by decide) rfl rfl rfl ?_
  refine g_iload_n V dL_isGrown_20 rfl rfl ?_
  refine g_iconst V (Int32.ofInt 2) dL_isGrown_21 rfl rfl ?_
  refine gi_ishr V dL_isGrown_22 rfl ?_
  refine g_bipush V (Int32.ofInt 6) dL_isGrown_23 rfl rfl ?_
  refine g_callS (st := []) V (k_L_below hst hw) ww_2_206 ww_2_207 ww_1_0 ww_2_208 hd_L_below ⟨by decide, by decide⟩ rfl rfl (ga_cat rfl) dL_isGrown_25 (Nat.zero_le _) (Nat.zero_le _) rfl (gaX_all hT V) (ga_ki (fun r10 hp9 hw => ?_))
  refine g_istore (lv2 := [some (.ref a0), some (gi a1), some (gi a2), some (gi 0), some (gi 0), some (gi 0), some (gi r10), none]) V dL_isGrown_28 (by decide) rfl rfl rfl ?_
  obtain ⟨z, hw⟩ := hw
  exact h_L_isGrown_L30 z a0 a1 a2 0 0 0 r10 hp9 c7 s8 hw
def w_L_isEven_L2 (X : String → gaH → Prop) (Q : Int → gaH → Prop) : Nat → (Nat → Int → Int → gaH → Nat → Nat → Prop)
  | 0 => fun _ _ _ _ _ _ => False
  | n + 1 => fun v0 v1 v2 h kc ks => gHas h v0 5 ∧ gCall 1 6 kc ks (fun c3 s4 => w_X5_length X v0 v1 h (fun r2 hp1 => gR v2 ∧ gR r2 ∧ (if r2 < v2 then Q 1 hp1 else gHas hp1 v0 5 ∧ gCall 2 12 c3 s4 (fun c7 s8 => w_X5_spread X v0 v1 v2 1 hp1 (fun r6 hp5 => gR r6 ∧ (if r6 ≤ 1 then w_L_isEven_L2 X Q n v0 v1 (v2 + 1) hp5 c7 s8 else Q 0 hp5))))))
def w_L_isEven (X : String → gaH → Prop) (a0 : Nat) (a1 : Int) (h : gaH) (Q : Int → gaH → Prop) : Prop := ∃ z, w_L_isEven_L2 X Q z a0 a1 0 h 198 1188
abbrev rm_L_isEven : Room := { frames := 10, cells := 198, slots := 1188, locals := 245 }
theorem hd_L_isEven : (yL_isEven.cls ≠ "java/lang/invoke/MethodHandle" ∧ yL_isEven.cls ≠ "java/lang/invoke/VarHandle" ∧ (parseMethodDescriptor yL_isEven.desc).map (fun d => d.parameters.length) = some 2) := by decide +kernel
theorem k_L_isEven {l : Launch} (hst : l.stackTraces = false) {G : gaG} {X : String → gaH → Prop} {a0 : Nat} {a1 : Int} {h : gaH} {Q : Int → gaH → Prop} (hw : w_L_isEven X a0 a1 h Q) : gaC l G yL_isEven (gaM yL_isEven cL_isEven 3 ((some .boolean))) rm_L_isEven [.ref a0, gi a1] h (gQi Q) X := by
  refine g_start (lv := [some (.ref a0), some (gi a1), none]) hpl_RL hst (Nat.le_of_ble_eq_true rfl) (gaArgs_pad (z := 1) rfl) ww_3_118 ?_
  intro p e s m args below meth c V hT
  have h_L_isEven_L2 : ∀ (n : Nat), ∀ (v0 : Nat) (v1 : Int) (v2 : Int) (h : gaH) (kc ks : Nat), w_L_isEven_L2 X Q n v0 v1 v2 h kc ks → gaP p l e rm_L_isEven s m args below meth c G 3 (gaZ below G (gQi Q) X args s rm_L_isEven) 2 [some (.ref v0), some (gi v1), some (gi v2)] [] h kc ks := by
    intro n
    induction n with
    | zero =>
      intro v0 v1 v2 h kc ks hw
      exact hw.elim
    | succ n ih =>
      intro v0 v1 v2 h kc ks hw
      unfold w_L_isEven_L2 at hw
      refine g_iload_n V dL_isEven_2 rfl rfl ?_
      refine g_aload_n V dL_isEven_3 rfl rfl ?_
      refine g_iload_n V dL_isEven_4 rfl rfl ?_
      obtain ⟨hb, hw⟩ := hw
      obtain ⟨fb, hb⟩ := hb
      obtain ⟨hk, hj, c3, s4, ec, es, hw⟩ := hw
      refine g_callV (C := RX5) (T := TX5) (N := 9) (st := [gi v2]) V (k_X5_length hst hw) ww_1_125 ww_1_126 ww_1_127 ww_1_1 ww_1_128 hd_X5_length ⟨by decide, by decide⟩ rfl (by decide) hb rfl rfl (ga_cat rfl) dL_isEven_5 hk hj rfl (gaX_all hT V) (ga_ki (fun r2 hp1 hw => ?_))
      refine ga_re ec es ?_
      obtain ⟨hx0, hx1, hw⟩ := hw
      refine gi_icmp_gt V dL_isEven_8 rfl rfl hx0 hx1 (fun q => ?_) (fun q => ?_)
      · have hw := ga_t q hw
        refine g_iconst V (Int32.ofInt 1) dL_isEven_30 rfl rfl ?_
        exact g_iret V rfl rfl dL_isEven_31 ⟨_, rfl, hw⟩
      · have hw := ga_f q hw
        refine g_aload_n V dL_isEven_11 rfl rfl ?_
        refine g_iload_n V dL_isEven_12 rfl rfl ?_
        refine g_iload_n V dL_isEven_13 rfl rfl ?_
        refine g_iconst V (Int32.ofInt 1) dL_isEven_14 rfl rfl ?_
        obtain ⟨hb, hw⟩ := hw
        obtain ⟨fb, hb⟩ := hb
        obtain ⟨hk, hj, c7, s8, ec, es, hw⟩ := hw
        refine g_callV (C := RX5) (T := TX5) (N := 9) (st := []) V (k_X5_spread hst hw) ww_3_0 ww_3_1 ww_3_2 ww_1_1 ww_3_3 hd_X5_spread ⟨by decide, by decide⟩ rfl (by decide) hb rfl rfl (ga_cat rfl) dL_isEven_15 hk hj rfl (gaX_all hT V) (ga_ki (fun r6 hp5 hw => ?_))
        refine ga_re ec es ?_
        refine g_iconst V (Int32.ofInt 1) dL_isEven_18 rfl rfl ?_
        obtain ⟨hx0, hw⟩ := hw
        refine gi_icmp_le V dL_isEven_19 rfl rfl hx0 (by decide) (fun q => ?_) (fun q => ?_)
        · have hw := ga_t q hw
          refine gi_iinc (lv2 := [some (.ref v0), some (gi v1), some (gi (v2 + 1))]) V dL_isEven_24 (by decide) rfl rfl rfl rfl ?_
          refine g_goto V dL_isEven_27 rfl ?_
          exact ih v0 v1 (v2 + 1) hp5 c7 s8 hw
        · have hw := ga_f q hw
          refine g_iconst V (Int32.ofInt 0) dL_isEven_22 rfl rfl ?_
          exact g_iret V rfl rfl dL_isEven_23 ⟨_, rfl, hw⟩
  show gaP p l e rm_L_isEven s m args below meth c G 3 (gaZ below G (gQi Q) X args s rm_L_isEven) 0 [some (.ref a0), some (gi a1), none] [] h 198 1188
  unfold w_L_isEven at hw
  refine g_iconst V (Int32.ofInt 0) dL_isEven_0 rfl rfl ?_
  refine g_istore_n (lv2 := [some (.ref a0), some (gi a1), some (gi 0)]) V dL_isEven_1 (by decide) rfl rfl rfl ?_
  obtain ⟨z, hw⟩ := hw
  exact h_L_isEven_L2 z a0 a1 0 h 198 1188 hw
def w_L_made_J92 (X : String → gaH → Prop) (Q : Int → gaH → Prop) (K65 : Nat → Int → Int → Int → gaH → Nat → Nat → Prop) (v0 : Nat) (v2 : Int) (v3 : Int) (v4 : Int) (t0 : Nat) (t1 : Int) (t2 : Int) (t3 : Int) (h : gaH) (kc ks : Nat) : Prop := gHas h t0 5 ∧ gCall 2 12 kc ks (fun c3 s4 => w_X5_setSign X t0 t1 t2 t3 h (fun r2 hp1 => K65 v0 v2 v3 (v4 + 1) hp1 c3 s4))
def w_L_made_J141 (X : String → gaH → Prop) (Q : Int → gaH → Prop) (v3 : Int) (t0 : Nat) (t1 : Int) (t2 : Int) (t3 : Int) (h : gaH) (kc ks : Nat) : Prop := gHas h t0 5 ∧ gCall 2 12 kc ks (fun c3 s4 => w_X5_setSign X t0 t1 t2 t3 h (fun r2 hp1 => Q v3 hp1))
def w_L_made_J102 (X : String → gaH → Prop) (Q : Int → gaH → Prop) (v0 : Nat) (v2 : Int) (v3 : Int) (h : gaH) (kc ks : Nat) : Prop := w_L_below (gShr v2 9) 3 h (fun r2 hp1 => gR r2 ∧ (if r2 = 0 then w_L_below (gShr v2 4) v3 hp1 (fun r4 hp3 => gHas hp3 v0 5 ∧ gCall 2 12 kc ks (fun c7 s8 => w_X5_isB X v0 0 r4 hp3 (fun r6 hp5 => gR r6 ∧ (if r6 = 0 then w_L_made_J141 X Q v3 v0 0 r4 1 hp5 c7 s8 else w_L_made_J141 X Q v3 v0 0 r4 0 hp5 c7 s8)))) else Q v3 hp1))
def w_L_made_L65 (X : String → gaH → Prop) (Q : Int → gaH → Prop) : Nat → (Nat → Int → Int → Int → gaH → Nat → Nat → Prop)
  | 0 => fun _ _ _ _ _ _ _ => False
  | n + 1 => fun v0 v2 v3 v4 h kc ks => gR v4 ∧ gR v3 ∧ (if v3 ≤ v4 then w_L_made_J102 X Q v0 v2 v3 h kc ks else gR (gAnd (gShr v2 (v4 + 3)) 1) ∧ (if (gAnd (gShr v2 (v4 + 3)) 1) = 1 then w_L_made_J92 X Q (w_L_made_L65 X Q n) v0 v2 v3 v4 v0 0 v4 1 h kc ks else w_L_made_J92 X Q (w_L_made_L65 X Q n) v0 v2 v3 v4 v0 0 v4 0 h kc ks))
def w_L_made (X : String → gaH → Prop) (a0 : Nat) (a1 : Int) (a2 : Int) (h : gaH) (Q : Int → gaH → Prop) : Prop := w_L_below (gShr a1 4) 16 h (fun r2 hp1 => gHas hp1 a0 5 ∧ gCall 2 12 140 840 (fun c5 s6 => w_X5_cutTo X a0 0 0 hp1 (fun r4 hp3 => gHas hp3 a0 5 ∧ gCall 2 12 c5 s6 (fun c9 s10 => w_X5_cutTo X a0 0 (1 + r2) hp3 (fun r8 hp7 => w_L_below (gShr a2 2) 3 hp7 (fun r12 hp11 => gR r12 ∧ (if r12 ≤ 0 then ∃ z, w_L_made_L65 X Q z a0 a2 (1 + r2) 0 hp11 c9 s10 else w_L_below (gShr a1 8) ((1 + r2) + 1) hp11 (fun r14 hp13 => w_L_below (gShr a2 5) (1 + r2) hp13 (fun r16 hp15 => gHas hp15 a0 5 ∧ gCall 4 24 c9 s10 (fun c19 s20 => w_X5_line X a0 0 (1 + r2) r14 r16 hp15 (fun r18 hp17 => w_L_made_J102 X Q a0 a2 (1 + r2) hp17 c19 s20)))))))))))
abbrev rm_L_made : Room := { frames := 10, cells := 140, slots := 840, locals := 247 }
theorem hd_L_made : (yL_made.cls ≠ "java/lang/invoke/MethodHandle" ∧ yL_made.cls ≠ "java/lang/invoke/VarHandle" ∧ (parseMethodDescriptor yL_made.desc).map (fun d => d.parameters.length) = some 3) := by decide +kernel
theorem k_L_made {l : Launch} (hst : l.stackTraces = false) {G : gaG} {X : String → gaH → Prop} {a0 : Nat} {a1 : Int} {a2 : Int} {h : gaH} {Q : Int → gaH → Prop} (hw : w_L_made X a0 a1 a2 h Q) : gaC l G yL_made (gaM yL_made cL_made 5 ((some .int))) rm_L_made [.ref a0, gi a1, gi a2] h (gQi Q) X := by
  refine g_start (lv := [some (.ref a0), some (gi a1), some (gi a2), none, none]) hpl_RL hst (Nat.le_of_ble_eq_true rfl) (gaArgs_pad (z := 2) rfl) ww_3_110 ?_
  intro p e s m args below meth c V hT
  have h_L_made_J92 : ∀ (K65 : Nat → Int → Int → Int → gaH → Nat → Nat → Prop), ∀ (hK65 : ∀ (v0 : Nat) (v2 : Int) (v3 : Int) (v4 : Int) (h : gaH) (kc ks : Nat), K65 v0 v2 v3 v4 h kc ks → gaP p l e rm_L_made s m args below meth c G 5 (gaZ below G (gQi Q) X args s rm_L_made) 65 [some (.ref v0), none, some (gi v2), some (gi v3), some (gi v4)] [] h kc ks), ∀ (v0 : Nat) (v2 : Int) (v3 : Int) (v4 : Int) (t0 : Nat) (t1 : Int) (t2 : Int) (t3 : Int) (h : gaH) (kc ks : Nat), w_L_made_J92 X Q K65 v0 v2 v3 v4 t0 t1 t2 t3 h kc ks → gaP p l e rm_L_made s m args below meth c G 5 (gaZ below G (gQi Q) X args s rm_L_made) 92 [some (.ref v0), none, some (gi v2), some (gi v3), some (gi v4)] [gi t3, gi t2, gi t1, .ref t0] h kc ks := by
    intro K65 hK65
    intro v0 v2 v3 v4 t0 t1 t2 t3 h kc ks hw
    unfold w_L_made_J92 at hw
    obtain ⟨hb, hw⟩ := hw
    obtain ⟨fb, hb⟩ := hb
    obtain ⟨hk, hj, c3, s4, ec, es, hw⟩ := hw
    refine g_callV (C := RX5) (T := TX5) (N := 9) (st := []) V (k_X5_setSign hst hw) ww_3_111 ww_3_112 ww_3_113 ww_1_1 ww_3_114 hd_X5_setSign ⟨by decide, by decide⟩ rfl (by decide) hb rfl rfl (ga_cat rfl) dL_made_92 hk hj rfl (gaX_all hT V) (ga_ki (fun r2 hp1 hw => ?_))
    refine ga_re ec es ?_
    refine g_pop V dL_made_95 rfl rfl ?_
    refine gi_iinc (lv2 := [some (.ref v0), none, some (gi v2), some (gi v3), some (gi (v4 + 1))]) V dL_made_96 (by decide) rfl rfl rfl rfl ?_
    refine g_goto V dL_made_99 rfl ?_
    exact hK65 v0 v2 v3 (v4 + 1) hp1 c3 s4 hw
  have h_L_made_J141 : ∀ (v3 : Int) (t0 : Nat) (t1 : Int) (t2 : Int) (t3 : Int) (h : gaH) (kc ks : Nat), w_L_made_J141 X Q v3 t0 t1 t2 t3 h kc ks → gaP p l e rm_L_made s m args below meth c G 5 (gaZ below G (gQi Q) X args s rm_L_made) 141 [none, none, none, some (gi v3), none] [gi t3, gi t2, gi t1, .ref t0] h kc ks := by
    intro v3 t0 t1 t2 t3 h kc ks hw
    unfold w_L_made_J141 at hw
    obtain ⟨hb, hw⟩ := hw
    obtain ⟨fb, hb⟩ := hb
    obtain ⟨hk, hj, c3, s4, ec, es, hw⟩ := hw
    refine g_callV (C := RX5) (T := TX5) (N := 9) (st := []) V (k_X5_setSign hst hw) ww_3_111 ww_3_112 ww_3_113 ww_1_1 ww_3_114 hd_X5_setSign ⟨by decide, by decide⟩ rfl (by decide) hb rfl rfl (ga_cat rfl) dL_made_141 hk hj rfl (gaX_all hT V) (ga_ki (fun r2 hp1 hw => ?_))
    refine ga_re ec es ?_
    refine g_pop V dL_made_144 rfl rfl ?_
    refine g_iload_n V dL_made_145 rfl rfl ?_
    exact g_iret V rfl rfl dL_made_146 ⟨_, rfl, hw⟩
  have h_L_made_J102 : ∀ (v0 : Nat) (v2 : Int) (v3 : Int) (h : gaH) (kc ks : Nat), w_L_made_J102 X Q v0 v2 v3 h kc ks → gaP p l e rm_L_made s m args below meth c G 5 (gaZ below G (gQi Q) X args s rm_L_made) 102 [some (.ref v0), none, some (gi v2), some (gi v3), none] [] h kc ks := by
    intro v0 v2 v3 h kc ks hw
    unfold w_L_made_J102 at hw
    refine g_iload_n V dL_made_102 rfl rfl ?_
    refine g_bipush V (Int32.ofInt 9) dL_made_103 rfl rfl ?_
    refine gi_ishr V dL_made_105 rfl ?_
    refine g_iconst V (Int32.ofInt 3) dL_made_106 rfl rfl ?_
    refine g_callS (st := []) V (k_L_below hst hw) ww_2_206 ww_2_207 ww_1_0 ww_2_208 hd_L_below ⟨by decide, by decide⟩ rfl rfl (ga_cat rfl) dL_made_107 (Nat.zero_le _) (Nat.zero_le _) rfl (gaX_all hT V) (ga_ki (fun r2 hp1 hw => ?_))
    obtain ⟨hx0, hw⟩ := hw
    refine gi_if_ne V dL_made_110 rfl rfl hx0 (fun q => ?_) (fun q => ?_)
    · have hw := ga_f q hw
      refine g_iload_n V dL_made_145 rfl rfl ?_
      exact g_iret V rfl rfl dL_made_146 ⟨_, rfl, hw⟩
    · have hw := ga_t q hw
      refine g_iload_n V dL_made_113 rfl rfl ?_
      refine g_iconst V (Int32.ofInt 4) dL_made_114 rfl rfl ?_
      refine gi_ishr V dL_made_115 rfl ?_
      refine g_iload_n V dL_made_116 rfl rfl ?_
      refine g_callS (st := []) V (k_L_below hst hw) ww_2_206 ww_2_207 ww_1_0 ww_2_208 hd_L_below ⟨by decide, by decide⟩ rfl rfl (ga_cat rfl) dL_made_117 (Nat.zero_le _) (Nat.zero_le _) rfl (gaX_all hT V) (ga_ki (fun r4 hp3 hw => ?_))
      refine g_istore (lv2 := [some (.ref v0), none, some (gi v2), some (gi v3), some (gi r4)]) V dL_made_120 (by decide) rfl rfl rfl ?_
      refine g_aload_n V dL_made_122 rfl rfl ?_
      refine g_iconst V (Int32.ofInt 0) dL_made_123 rfl rfl ?_
      refine g_iload V dL_made_124 rfl rfl ?_
      refine g_aload_n V dL_made_126 rfl rfl ?_
      refine g_iconst V (Int32.ofInt 0) dL_made_127 rfl rfl ?_
      refine g_iload V dL_made_128 rfl rfl ?_
      obtain ⟨hb, hw⟩ := hw
      obtain ⟨fb, hb⟩ := hb
      obtain ⟨hk, hj, c7, s8, ec, es, hw⟩ := hw
      refine g_callV (C := RX5) (T := TX5) (N := 9) (st := [gi r4, gi 0, .ref v0]) V (k_X5_isB hst hw) ww_3_38 ww_3_39 ww_3_40 ww_1_1 ww_3_41 hd_X5_isB ⟨by decide, by decide⟩ rfl (by decide) hb rfl rfl (ga_cat rfl) dL_made_130 hk hj rfl (gaX_all hT V) (ga_ki (fun r6 hp5 hw => ?_))
      refine ga_re ec es ?_
      obtain ⟨hx0, hw⟩ := hw
      refine gi_if_ne V dL_made_133 rfl rfl hx0 (fun q => ?_) (fun q => ?_)
      · have hw := ga_f q hw
        refine g_iconst V (Int32.ofInt 0) dL_made_140 rfl rfl ?_
        refine g_less (bs := [false, true, false, true, false]) (lv2 := [none, none, none, some (gi v3), none]) rfl ?_
        exact h_L_made_J141 v3 v0 0 r4 0 hp5 c7 s8 hw
      · have hw := ga_t q hw
        refine g_iconst V (Int32.ofInt 1) dL_made_136 rfl rfl ?_
        refine g_goto V dL_made_137 rfl ?_
        refine g_less (bs := [false, true, false, true, false]) (lv2 := [none, none, none, some (gi v3), none]) rfl ?_
        exact h_L_made_J141 v3 v0 0 r4 1 hp5 c7 s8 hw
  have h_L_made_L65 : ∀ (n : Nat), ∀ (v0 : Nat) (v2 : Int) (v3 : Int) (v4 : Int) (h : gaH) (kc ks : Nat), w_L_made_L65 X Q n v0 v2 v3 v4 h kc ks → gaP p l e rm_L_made s m args below meth c G 5 (gaZ below G (gQi Q) X args s rm_L_made) 65 [some (.ref v0), none, some (gi v2), some (gi v3), some (gi v4)] [] h kc ks := by
    intro n
    induction n with
    | zero =>
      intro v0 v2 v3 v4 h kc ks hw
      exact hw.elim
    | succ n ih =>
      intro v0 v2 v3 v4 h kc ks hw
      unfold w_L_made_L65 at hw
      refine g_iload V dL_made_65 rfl rfl ?_
      refine g_iload_n V dL_made_67 rfl rfl ?_
      obtain ⟨hx0, hx1, hw⟩ := hw
      refine gi_icmp_ge V dL_made_68 rfl rfl hx0 hx1 (fun q => ?_) (fun q => ?_)
      · have hw := ga_t q hw
        refine g_less (bs := [true, true, true, true, false]) (lv2 := [some (.ref v0), none, some (gi v2), some (gi v3), none]) rfl ?_
        exact h_L_made_J102 v0 v2 v3 h kc ks hw
      · have hw := ga_f q hw
        refine g_aload_n V dL_made_71 rfl rfl ?_
        refine g_iconst V (Int32.ofInt 0) dL_made_72 rfl rfl ?_
        refine g_iload V dL_made_73 rfl rfl ?_
        refine g_iload_n V dL_made_75 rfl rfl ?_
        refine g_iload V dL_made_76 rfl rfl ?_
        refine g_iconst V (Int32.ofInt 3) dL_made_78 rfl rfl ?_
        refine gi_iadd V dL_made_79 rfl ?_
        refine gi_ishr V dL_made_80 rfl ?_
        refine g_iconst V (Int32.ofInt 1) dL_made_81 rfl rfl ?_
        refine gi_iand V dL_made_82 rfl ?_
        refine g_iconst V (Int32.ofInt 1) dL_made_83 rfl rfl ?_
        obtain ⟨hx0, hw⟩ := hw
        refine gi_icmp_ne V dL_made_84 rfl rfl hx0 (by decide) (fun q => ?_) (fun q => ?_)
        · have hw := ga_f q hw
          refine g_iconst V (Int32.ofInt 0) dL_made_91 rfl rfl ?_
          exact h_L_made_J92 (w_L_made_L65 X Q n) ih v0 v2 v3 v4 v0 0 v4 0 h kc ks hw
        · have hw := ga_t q hw
          refine g_iconst V (Int32.ofInt 1) dL_made_87 rfl rfl ?_
          refine g_goto V dL_made_88 rfl ?_
          exact h_L_made_J92 (w_L_made_L65 X Q n) ih v0 v2 v3 v4 v0 0 v4 1 h kc ks hw
  show gaP p l e rm_L_made s m args below meth c G 5 (gaZ below G (gQi Q) X args s rm_L_made) 0 [some (.ref a0), some (gi a1), some (gi a2), none, none] [] h 140 840
  unfold w_L_made at hw
  refine g_iconst V (Int32.ofInt 1) dL_made_0 rfl rfl ?_
  refine g_iload_n V dL_made_1 rfl rfl ?_
  refine g_iconst V (Int32.ofInt 4) dL_made_2 rfl rfl ?_
  refine gi_ishr V dL_made_3 rfl ?_
  refine g_bipush V (Int32.ofInt 16) dL_made_4 rfl rfl ?_
  refine g_callS (st := [gi 1]) V (k_L_below hst hw) ww_2_206 ww_2_207 ww_1_0 ww_2_208 hd_L_below ⟨by decide, by decide⟩ rfl rfl (ga_cat rfl) dL_made_6 (Nat.zero_le _) (Nat.zero_le _) rfl (gaX_all hT V) (ga_ki (fun r2 hp1 hw => ?_))
  refine gi_iadd V dL_made_9 rfl ?_
  refine g_istore_n (lv2 := [some (.ref a0), some (gi a1), some (gi a2), some (gi (1 + r2)), none]) V dL_made_10 (by decide) rfl rfl rfl ?_
  refine g_aload_n V dL_made_11 rfl rfl ?_
  refine g_iconst V (Int32.ofInt 0) dL_made_12 rfl rfl ?_
  refine g_iconst V (Int32.ofInt 0) dL_made_13 rfl rfl ?_
  obtain ⟨hb, hw⟩ := hw
  obtain ⟨fb, hb⟩ := hb
  obtain ⟨hk, hj, c5, s6, ec, es, hw⟩ := hw
  refine g_callV (C := RX5) (T := TX5) (N := 9) (st := []) V (k_X5_cutTo hst hw) ww_3_46 ww_3_47 ww_3_48 ww_1_1 ww_3_49 hd_X5_cutTo ⟨by decide, by decide⟩ rfl (by decide) hb rfl rfl (ga_cat rfl) dL_made_14 hk hj rfl (gaX_all hT V) (ga_ki (fun r4 hp3 hw => ?_))
  refine ga_re ec es ?_
  refine g_pop V dL_made_17 rfl rfl ?_
  refine g_aload_n V dL_made_18 rfl rfl ?_
  refine g_iconst V (Int32.ofInt 0) dL_made_19 rfl rfl ?_
  refine g_iload_n V dL_made_20 rfl rfl ?_
  obtain ⟨hb, hw⟩ := hw
  obtain ⟨fb, hb⟩ := hb
  obtain ⟨hk, hj, c9, s10, ec, es, hw⟩ := hw
  refine g_callV (C := RX5) (T := TX5) (N := 9) (st := []) V (k_X5_cutTo hst hw) ww_3_46 ww_3_47 ww_3_48 ww_1_1 ww_3_49 hd_X5_cutTo ⟨by decide, by decide⟩ rfl (by decide) hb rfl rfl (ga_cat rfl) dL_made_21 hk hj rfl (gaX_all hT V) (ga_ki (fun r8 hp7 hw => ?_))
  refine ga_re ec es ?_
  refine g_pop V dL_made_24 rfl rfl ?_
  refine g_iload_n V dL_made_25 rfl rfl ?_
  refine g_iconst V (Int32.ofInt 2) dL_made_26 rfl rfl ?_
  refine gi_ishr V dL_made_27 rfl ?_
  refine g_iconst V (Int32.ofInt 3) dL_made_28 rfl rfl ?_
  refine g_callS (st := []) V (k_L_below hst hw) ww_2_206 ww_2_207 ww_1_0 ww_2_208 hd_L_below ⟨by decide, by decide⟩ rfl rfl (ga_cat rfl) dL_made_29 (Nat.zero_le _) (Nat.zero_le _) rfl (gaX_all hT V) (ga_ki (fun r12 hp11 hw => ?_))
  obtain ⟨hx0, hw⟩ := hw
  refine gi_if_le V dL_made_32 rfl rfl hx0 (fun q => ?_) (fun q => ?_)
  · have hw := ga_t q hw
    refine g_iconst V (Int32.ofInt 0) dL_made_62 rfl rfl ?_
    refine g_istore (lv2 := [some (.ref a0), some (gi a1), some (gi a2), some (gi (1 + r2)), some (gi 0)]) V dL_made_63 (by decide) rfl rfl rfl ?_
    refine g_less (bs := [true, false, true, true, true]) (lv2 := [some (.ref a0), none, some (gi a2), some (gi (1 + r2)), some (gi 0)]) rfl ?_
    obtain ⟨z, hw⟩ := hw
    exact h_L_made_L65 z a0 a2 (1 + r2) 0 hp11 c9 s10 hw
  · have hw := ga_f q hw
    refine g_aload_n V dL_made_35 rfl rfl ?_
    refine g_iconst V (Int32.ofInt 0) dL_made_36 rfl rfl ?_
    refine g_iload_n V dL_made_37 rfl rfl ?_
    refine g_iload_n V dL_made_38 rfl rfl ?_
    refine g_bipush V (Int32.ofInt 8) dL_made_39 rfl rfl ?_
    refine gi_ishr V dL_made_41 rfl ?_
    refine g_iload_n V dL_made_42 rfl rfl ?_
    refine g_iconst V (Int32.ofInt 1) dL_made_43 rfl rfl ?_
    refine gi_iadd V dL_made_44 rfl ?_
    refine g_callS (st := [gi (1 + r2), gi 0, .ref a0]) V (k_L_below hst hw) ww_2_206 ww_2_207 ww_1_0 ww_2_208 hd_L_below ⟨by decide, by decide⟩ rfl rfl (ga_cat rfl) dL_made_45 (Nat.zero_le _) (Nat.zero_le _) rfl (gaX_all hT V) (ga_ki (fun r14 hp13 hw => ?_))
    refine g_iload_n V dL_made_48 rfl rfl ?_
    refine g_iconst V (Int32.ofInt 5) dL_made_49 rfl rfl ?_
    refine gi_ishr V dL_made_50 rfl ?_
    refine g_iload_n V dL_made_51 rfl rfl ?_
    refine g_callS (st := [gi r14, gi (1 + r2), gi 0, .ref a0]) V (k_L_below hst hw) ww_2_206 ww_2_207 ww_1_0 ww_2_208 hd_L_below ⟨by decide, by decide⟩ rfl rfl (ga_cat rfl) dL_made_52 (Nat.zero_le _) (Nat.zero_le _) rfl (gaX_all hT V) (ga_ki (fun r16 hp15 hw => ?_))
    obtain ⟨hb, hw⟩ := hw
    obtain ⟨fb, hb⟩ := hb
    obtain ⟨hk, hj, c19, s20, ec, es, hw⟩ := hw
    refine g_callV (C := RX5) (T := TX5) (N := 9) (st := []) V (k_X5_line hst hw) ww_3_32 ww_3_33 ww_3_34 ww_1_1 ww_3_35 hd_X5_line ⟨by decide, by decide⟩ rfl (by decide) hb rfl rfl (ga_cat rfl) dL_made_55 hk hj rfl (gaX_all hT V) (ga_ki (fun r18 hp17 hw => ?_))
    refine ga_re ec es ?_
    refine g_pop V dL_made_58 rfl rfl ?_
    refine g_goto V dL_made_59 rfl ?_
    refine g_less (bs := [true, false, true, true, true]) (lv2 := [some (.ref a0), none, some (gi a2), some (gi (1 + r2)), none]) rfl ?_
    exact h_L_made_J102 a0 a2 (1 + r2) hp17 c19 s20 hw
def w_L_isAny_J235 (X : String → gaH → Prop) (Q : Int → gaH → Prop) (v0 : Nat) (v3 : Int) (t0 : Int) (t1 : Int) (h : gaH) (kc ks : Nat) : Prop := gR t0 ∧ gR t1 ∧ (if t0 = t1 then gHas h v0 5 ∧ gCall 3 18 kc ks (fun c3 s4 => w_X5_find X v0 1 0 1 h (fun r2 hp1 => gR r2 ∧ gR v3 ∧ (if r2 < v3 then Q 1 hp1 else gHas hp1 v0 5 ∧ gCall 1 6 c3 s4 (fun c7 s8 => w_X5_folds X v0 0 hp1 (fun r6 hp5 => gR r6 ∧ (if 2 ≤ r6 then Q 0 hp5 else Q 1 hp5)))))) else Q 0 h)
def w_L_isAny_J222 (X : String → gaH → Prop) (Q : Int → gaH → Prop) (v0 : Nat) (v3 : Int) (t0 : Int) (h : gaH) (kc ks : Nat) : Prop := gHas h v0 5 ∧ gCall 1 6 kc ks (fun c3 s4 => w_X5_folds X v0 0 h (fun r2 hp1 => gR r2 ∧ (if r2 ≤ 0 then w_L_isAny_J235 X Q v0 v3 t0 0 hp1 c3 s4 else w_L_isAny_J235 X Q v0 v3 t0 1 hp1 c3 s4)))
def w_L_isAny_J180 (X : String → gaH → Prop) (Q : Int → gaH → Prop) (v0 : Nat) (v3 : Int) (h : gaH) (kc ks : Nat) : Prop := gHas h v0 5 ∧ gCall 2 12 kc ks (fun c3 s4 => w_X5_copy X v0 0 1 h (fun r2 hp1 => gHas hp1 v0 5 ∧ gCall 2 12 c3 s4 (fun c7 s8 => w_X5_append X v0 1 1 hp1 (fun r6 hp5 => gHas hp5 v0 5 ∧ gCall 2 12 c7 s8 (fun c11 s12 => w_X5_copy X v0 0 2 hp5 (fun r10 hp9 => gHas hp9 v0 5 ∧ gCall 1 6 c11 s12 (fun c15 s16 => w_X5_turn X v0 2 hp9 (fun r14 hp13 => gHas hp13 v0 5 ∧ gCall 3 18 c15 s16 (fun c19 s20 => w_X5_find X v0 1 2 0 hp13 (fun r18 hp17 => gR r18 ∧ (if r18 < 0 then w_L_isAny_J222 X Q v0 v3 0 hp17 c19 s20 else w_L_isAny_J222 X Q v0 v3 1 hp17 c19 s20)))))))))))
def w_L_isAny_J159 (X : String → gaH → Prop) (Q : Int → gaH → Prop) (v0 : Nat) (v3 : Int) (v5 : Int) (t0 : Int) (h : gaH) (kc ks : Nat) : Prop := gR t0 ∧ gR v5 ∧ (if t0 = v5 then gR v5 ∧ (if v5 = 0 then w_L_isAny_J180 X Q v0 v3 h kc ks else gHas h v0 5 ∧ gCall 1 6 kc ks (fun c3 s4 => w_X5_times X v0 0 h (fun r2 hp1 => gR r2 ∧ (if r2 ≤ 2 then w_L_isAny_J180 X Q v0 v3 hp1 c3 s4 else Q 0 hp1)))) else Q 0 h)
def w_L_isAny_J130 (X : String → gaH → Prop) (Q : Int → gaH → Prop) (v0 : Nat) (v3 : Int) (t0 : Int) (h : gaH) (kc ks : Nat) : Prop := gHas h v0 5 ∧ gCall 3 18 kc ks (fun c3 s4 => w_X5_apply X v0 1 5 6 h (fun r2 hp1 => gR r2 ∧ gR (2 * v3) ∧ (if r2 = (2 * v3) then gHas hp1 v0 5 ∧ gCall 1 6 c3 s4 (fun c7 s8 => w_X5_overlaps X v0 1 hp1 (fun r6 hp5 => gR r6 ∧ (if r6 = 0 then w_L_isAny_J159 X Q v0 v3 t0 1 hp5 c7 s8 else w_L_isAny_J159 X Q v0 v3 t0 0 hp5 c7 s8))) else Q 0 hp1)))
def w_L_isAny_J110 (X : String → gaH → Prop) (Q : Int → gaH → Prop) (v0 : Nat) (v3 : Int) (h : gaH) (kc ks : Nat) : Prop := gHas h v0 5 ∧ gCall 2 12 kc ks (fun c3 s4 => w_X5_copy X v0 0 1 h (fun r2 hp1 => gHas hp1 v0 5 ∧ gCall 1 6 c3 s4 (fun c7 s8 => w_X5_overlaps X v0 0 hp1 (fun r6 hp5 => gR r6 ∧ (if r6 = 0 then w_L_isAny_J130 X Q v0 v3 1 hp5 c7 s8 else w_L_isAny_J130 X Q v0 v3 0 hp5 c7 s8)))))
def w_L_isAny_J50 (X : String → gaH → Prop) (Q : Int → gaH → Prop) (v0 : Nat) (v2 : Int) (v3 : Int) (v4 : Int) (t0 : Int) (h : gaH) (kc ks : Nat) : Prop := gR t0 ∧ gR v4 ∧ (if t0 = v4 then gHas h v0 5 ∧ gCall 1 6 kc ks (fun c3 s4 => w_X5_mirrors X v0 0 h (fun r2 hp1 => gR r2 ∧ gR v3 ∧ (if r2 ≤ v3 then gHas hp1 v0 5 ∧ gCall 2 12 c3 s4 (fun c7 s8 => w_X5_copy X v0 0 1 hp1 (fun r6 hp5 => w_L_below (gShr v2 6) 3 hp5 (fun r10 hp9 => gHas hp9 v0 5 ∧ gCall 3 18 c7 s8 (fun c13 s14 => w_X5_apply X v0 1 ((gShl 2 (1 + r10)) + 1) 2 hp9 (fun r12 hp11 => gR r12 ∧ (if r12 = (-9) then w_L_isAny_J110 X Q v0 v3 hp11 c13 s14 else gCall 198 1188 c13 s14 (fun c17 s18 => w_L_isEven X v0 1 hp11 (fun r16 hp15 => gR r16 ∧ gR v4 ∧ (if r16 = v4 then w_L_isAny_J110 X Q v0 v3 hp15 c17 s18 else Q 0 hp15))))))))) else Q 0 hp1))) else Q 0 h)
def w_L_isAny (X : String → gaH → Prop) (a0 : Nat) (a1 : Int) (a2 : Int) (h : gaH) (Q : Int → gaH → Prop) : Prop := gCall 140 840 575 3450 (fun c3 s4 => w_L_made X a0 a1 a2 h (fun r2 hp1 => gCall 198 1188 c3 s4 (fun c7 s8 => w_L_isEven X a0 0 hp1 (fun r6 hp5 => gHas hp5 a0 5 ∧ gCall 1 6 c7 s8 (fun c11 s12 => w_X5_count X a0 0 1 hp5 (fun r10 hp9 => gHas hp9 a0 5 ∧ gCall 4 24 c11 s12 (fun c15 s16 => w_X5_line X a0 1 r2 r10 0 hp9 (fun r14 hp13 => gHas hp13 a0 5 ∧ gCall 2 12 c15 s16 (fun c19 s20 => w_X5_append X a0 1 1 hp13 (fun r18 hp17 => gHas hp17 a0 5 ∧ gCall 3 18 c19 s20 (fun c23 s24 => w_X5_find X a0 1 0 0 hp17 (fun r22 hp21 => gR r22 ∧ (if r22 < 0 then w_L_isAny_J50 X Q a0 a2 r2 r6 0 hp21 c23 s24 else w_L_isAny_J50 X Q a0 a2 r2 r6 1 hp21 c23 s24)))))))))))))
abbrev rm_L_isAny : Room := { frames := 11, cells := 575, slots := 3450, locals := 271 }
theorem hd_L_isAny : (yL_isAny.cls ≠ "java/lang/invoke/MethodHandle" ∧ yL_isAny.cls ≠ "java/lang/invoke/VarHandle" ∧ (parseMethodDescriptor yL_isAny.desc).map (fun d => d.parameters.length) = some 3) := by decide +kernel
theorem k_L_isAny {l : Launch} (hst : l.stackTraces = false) {G : gaG} {X : String → gaH → Prop} {a0 : Nat} {a1 : Int} {a2 : Int} {h : gaH} {Q : Int → gaH → Prop} (hw : w_L_isAny X a0 a1 a2 h Q) : gaC l G yL_isAny (gaM yL_isAny cL_isAny 6 ((some .boolean))) rm_L_isAny [.ref a0, gi a1, gi a2] h (gQi Q) X := by
  refine g_start (lv := [some (.ref a0), some (gi a1), some (gi a2), none, none, none]) hpl_RL hst (Nat.le_of_ble_eq_true rfl) (gaArgs_pad (z := 3) rfl) ww_3_107 ?_
  intro p e s m args below meth c V hT
  have h_L_isAny_J235 : ∀ (v0 : Nat) (v3 : Int) (t0 : Int) (t1 : Int) (h : gaH) (kc ks : Nat), w_L_isAny_J235 X Q v0 v3 t0 t1 h kc ks → gaP p l e rm_L_isAny s m args below meth c G 6 (gaZ below G (gQi Q) X args s rm_L_isAny) 235 [some (.ref v0), none, none, some (gi v3), none, none] [gi t1, gi t0] h kc ks := by
    intro v0 v3 t0 t1 h kc ks hw
    unfold w_L_isAny_J235 at hw
    obtain ⟨hx0, hx1, hw⟩ := hw
    refine gi_icmp_eq V dL_isAny_235 rfl rfl hx0 hx1 (fun q => ?_) (fun q => ?_)
    · have hw := ga_t q hw
      refine g_aload_n V dL_isAny_240 rfl rfl ?_
      refine g_iconst V (Int32.ofInt 1) dL_isAny_241 rfl rfl ?_
      refine g_iconst V (Int32.ofInt 0) dL_isAny_242 rfl rfl ?_
      refine g_iconst V (Int32.ofInt 1) dL_isAny_243 rfl rfl ?_
      obtain ⟨hb, hw⟩ := hw
      obtain ⟨fb, hb⟩ := hb
      obtain ⟨hk, hj, c3, s4, ec, es, hw⟩ := hw
      refine g_callV (C := RX5) (T := TX5) (N := 9) (st := []) V (k_X5_find hst hw) ww_3_128 ww_3_129 ww_3_130 ww_1_1 ww_3_131 hd_X5_find ⟨by decide, by decide⟩ rfl (by decide) hb rfl rfl (ga_cat rfl) dL_isAny_244 hk hj rfl (gaX_all hT V) (ga_ki (fun r2 hp1 hw => ?_))
      refine ga_re ec es ?_
      refine g_iload_n V dL_isAny_247 rfl rfl ?_
      obtain ⟨hx0, hx1, hw⟩ := hw
      refine gi_icmp_lt V dL_isAny_248 rfl rfl hx0 hx1 (fun q => ?_) (fun q => ?_)
      · have hw := ga_t q hw
        refine g_iconst V (Int32.ofInt 1) dL_isAny_260 rfl rfl ?_
        refine g_goto V dL_isAny_261 rfl ?_
        exact g_iret V rfl rfl dL_isAny_265 ⟨_, rfl, hw⟩
      · have hw := ga_f q hw
        refine g_aload_n V dL_isAny_251 rfl rfl ?_
        refine g_iconst V (Int32.ofInt 0) dL_isAny_252 rfl rfl ?_
        obtain ⟨hb, hw⟩ := hw
        obtain ⟨fb, hb⟩ := hb
        obtain ⟨hk, hj, c7, s8, ec, es, hw⟩ := hw
        refine g_callV (C := RX5) (T := TX5) (N := 9) (st := []) V (k_X5_folds hst hw) ww_1_224 ww_1_225 ww_1_226 ww_1_1 ww_1_227 hd_X5_folds ⟨by decide, by decide⟩ rfl (by decide) hb rfl rfl (ga_cat rfl) dL_isAny_253 hk hj rfl (gaX_all hT V) (ga_ki (fun r6 hp5 hw => ?_))
        refine ga_re ec es ?_
        refine g_iconst V (Int32.ofInt 2) dL_isAny_256 rfl rfl ?_
        obtain ⟨hx0, hw⟩ := hw
        refine gi_icmp_ge V dL_isAny_257 rfl rfl hx0 (by decide) (fun q => ?_) (fun q => ?_)
        · have hw := ga_t q hw
          refine g_iconst V (Int32.ofInt 0) dL_isAny_264 rfl rfl ?_
          exact g_iret V rfl rfl dL_isAny_265 ⟨_, rfl, hw⟩
        · have hw := ga_f q hw
          refine g_iconst V (Int32.ofInt 1) dL_isAny_260 rfl rfl ?_
          refine g_goto V dL_isAny_261 rfl ?_
          exact g_iret V rfl rfl dL_isAny_265 ⟨_, rfl, hw⟩
    · have hw := ga_f q hw
      refine g_iconst V (Int32.ofInt 0) dL_isAny_238 rfl rfl ?_
      exact g_iret V rfl rfl dL_isAny_239 ⟨_, rfl, hw⟩
  have h_L_isAny_J222 : ∀ (v0 : Nat) (v3 : Int) (t0 : Int) (h : gaH) (kc ks : Nat), w_L_isAny_J222 X Q v0 v3 t0 h kc ks → gaP p l e rm_L_isAny s m args below meth c G 6 (gaZ below G (gQi Q) X args s rm_L_isAny) 222 [some (.ref v0), none, none, some (gi v3), none, none] [gi t0] h kc ks := by
    intro v0 v3 t0 h kc ks hw
    unfold w_L_isAny_J222 at hw
    refine g_aload_n V dL_isAny_222 rfl rfl ?_
    refine g_iconst V (Int32.ofInt 0) dL_isAny_223 rfl rfl ?_
    obtain ⟨hb, hw⟩ := hw
    obtain ⟨fb, hb⟩ := hb
    obtain ⟨hk, hj, c3, s4, ec, es, hw⟩ := hw
    refine g_callV (C := RX5) (T := TX5) (N := 9) (st := [gi t0]) V (k_X5_folds hst hw) ww_1_224 ww_1_225 ww_1_226 ww_1_1 ww_1_227 hd_X5_folds ⟨by decide, by decide⟩ rfl (by decide) hb rfl rfl (ga_cat rfl) dL_isAny_224 hk hj rfl (gaX_all hT V) (ga_ki (fun r2 hp1 hw => ?_))
    refine ga_re ec es ?_
    obtain ⟨hx0, hw⟩ := hw
    refine gi_if_le V dL_isAny_227 rfl rfl hx0 (fun q => ?_) (fun q => ?_)
    · have hw := ga_t q hw
      refine g_iconst V (Int32.ofInt 0) dL_isAny_234 rfl rfl ?_
      exact h_L_isAny_J235 v0 v3 t0 0 hp1 c3 s4 hw
    · have hw := ga_f q hw
      refine g_iconst V (Int32.ofInt 1) dL_isAny_230 rfl rfl ?_
      refine g_goto V dL_isAny_231 rfl ?_
      exact h_L_isAny_J235 v0 v3 t0 1 hp1 c3 s4 hw
  have h_L_isAny_J180 : ∀ (v0 : Nat) (v3 : Int) (h : gaH) (kc ks : Nat), w_L_isAny_J180 X Q v0 v3 h kc ks → gaP p l e rm_L_isAny s m args below meth c G 6 (gaZ below G (gQi Q) X args s rm_L_isAny) 180 [some (.ref v0), none, none, some (gi v3), none, none] [] h kc ks := by
    intro v0 v3 h kc ks hw
    unfold w_L_isAny_J180 at hw
    refine g_aload_n V dL_isAny_180 rfl rfl ?_
    refine g_iconst V (Int32.ofInt 0) dL_isAny_181 rfl rfl ?_
    refine g_iconst V (Int32.ofInt 1) dL_isAny_182 rfl rfl ?_
    obtain ⟨hb, hw⟩ := hw
    obtain ⟨fb, hb⟩ := hb
    obtain ⟨hk, hj, c3, s4, ec, es, hw⟩ := hw
    refine g_callV (C := RX5) (T := TX5) (N := 9) (st := []) V (k_X5_copy hst hw) ww_3_133 ww_3_134 ww_3_135 ww_1_1 ww_3_136 hd_X5_copy ⟨by decide, by decide⟩ rfl (by decide) hb rfl rfl (ga_cat rfl) dL_isAny_183 hk hj rfl (gaX_all hT V) (ga_ki (fun r2 hp1 hw => ?_))
    refine ga_re ec es ?_
    refine g_pop V dL_isAny_186 rfl rfl ?_
    refine g_aload_n V dL_isAny_187 rfl rfl ?_
    refine g_iconst V (Int32.ofInt 1) dL_isAny_188 rfl rfl ?_
    refine g_iconst V (Int32.ofInt 1) dL_isAny_189 rfl rfl ?_
    obtain ⟨hb, hw⟩ := hw
    obtain ⟨fb, hb⟩ := hb
    obtain ⟨hk, hj, c7, s8, ec, es, hw⟩ := hw
    refine g_callV (C := RX5) (T := TX5) (N := 9) (st := []) V (k_X5_append hst hw) ww_3_120 ww_3_121 ww_3_122 ww_1_1 ww_3_123 hd_X5_append ⟨by decide, by decide⟩ rfl (by decide) hb rfl rfl (ga_cat rfl) dL_isAny_190 hk hj rfl (gaX_all hT V) (ga_ki (fun r6 hp5 hw => ?_))
    refine ga_re ec es ?_
    refine g_pop V dL_isAny_193 rfl rfl ?_
    refine g_aload_n V dL_isAny_194 rfl rfl ?_
    refine g_iconst V (Int32.ofInt 0) dL_isAny_195 rfl rfl ?_
    refine g_iconst V (Int32.ofInt 2) dL_isAny_196 rfl rfl ?_
    obtain ⟨hb, hw⟩ := hw
    obtain ⟨fb, hb⟩ := hb
    obtain ⟨hk, hj, c11, s12, ec, es, hw⟩ := hw
    refine g_callV (C := RX5) (T := TX5) (N := 9) (st := []) V (k_X5_copy hst hw) ww_3_133 ww_3_134 ww_3_135 ww_1_1 ww_3_136 hd_X5_copy ⟨by decide, by decide⟩ rfl (by decide) hb rfl rfl (ga_cat rfl) dL_isAny_197 hk hj rfl (gaX_all hT V) (ga_ki (fun r10 hp9 hw => ?_))
    refine ga_re ec es ?_
    refine g_pop V dL_isAny_200 rfl rfl ?_
    refine g_aload_n V dL_isAny_201 rfl rfl ?_
    refine g_iconst V (Int32.ofInt 2) dL_isAny_202 rfl rfl ?_
    obtain ⟨hb, hw⟩ := hw
    obtain ⟨fb, hb⟩ := hb
    obtain ⟨hk, hj, c15, s16, ec, es, hw⟩ := hw
    refine g_callV (C := RX5) (T := TX5) (N := 9) (st := []) V (k_X5_turn hst hw) ww_3_148 ww_3_149 ww_3_150 ww_1_1 ww_3_151 hd_X5_turn ⟨by decide, by decide⟩ rfl (by decide) hb rfl rfl (ga_cat rfl) dL_isAny_203 hk hj rfl (gaX_all hT V) (ga_ki (fun r14 hp13 hw => ?_))
    refine ga_re ec es ?_
    refine g_pop V dL_isAny_206 rfl rfl ?_
    refine g_aload_n V dL_isAny_207 rfl rfl ?_
    refine g_iconst V (Int32.ofInt 1) dL_isAny_208 rfl rfl ?_
    refine g_iconst V (Int32.ofInt 2) dL_isAny_209 rfl rfl ?_
    refine g_iconst V (Int32.ofInt 0) dL_isAny_210 rfl rfl ?_
    obtain ⟨hb, hw⟩ := hw
    obtain ⟨fb, hb⟩ := hb
    obtain ⟨hk, hj, c19, s20, ec, es, hw⟩ := hw
    refine g_callV (C := RX5) (T := TX5) (N := 9) (st := []) V (k_X5_find hst hw) ww_3_128 ww_3_129 ww_3_130 ww_1_1 ww_3_131 hd_X5_find ⟨by decide, by decide⟩ rfl (by decide) hb rfl rfl (ga_cat rfl) dL_isAny_211 hk hj rfl (gaX_all hT V) (ga_ki (fun r18 hp17 hw => ?_))
    refine ga_re ec es ?_
    obtain ⟨hx0, hw⟩ := hw
    refine gi_if_lt V dL_isAny_214 rfl rfl hx0 (fun q => ?_) (fun q => ?_)
    · have hw := ga_t q hw
      refine g_iconst V (Int32.ofInt 0) dL_isAny_221 rfl rfl ?_
      exact h_L_isAny_J222 v0 v3 0 hp17 c19 s20 hw
    · have hw := ga_f q hw
      refine g_iconst V (Int32.ofInt 1) dL_isAny_217 rfl rfl ?_
      refine g_goto V dL_isAny_218 rfl ?_
      exact h_L_isAny_J222 v0 v3 1 hp17 c19 s20 hw
  have h_L_isAny_J159 : ∀ (v0 : Nat) (v3 : Int) (v5 : Int) (t0 : Int) (h : gaH) (kc ks : Nat), w_L_isAny_J159 X Q v0 v3 v5 t0 h kc ks → gaP p l e rm_L_isAny s m args below meth c G 6 (gaZ below G (gQi Q) X args s rm_L_isAny) 159 [some (.ref v0), none, none, some (gi v3), none, some (gi v5)] [gi t0] h kc ks := by
    intro v0 v3 v5 t0 h kc ks hw
    unfold w_L_isAny_J159 at hw
    refine g_iload V dL_isAny_159 rfl rfl ?_
    obtain ⟨hx0, hx1, hw⟩ := hw
    refine gi_icmp_ne V dL_isAny_161 rfl rfl hx0 hx1 (fun q => ?_) (fun q => ?_)
    · have hw := ga_f q hw
      refine g_iconst V (Int32.ofInt 0) dL_isAny_178 rfl rfl ?_
      exact g_iret V rfl rfl dL_isAny_179 ⟨_, rfl, hw⟩
    · have hw := ga_t q hw
      refine g_iload V dL_isAny_164 rfl rfl ?_
      obtain ⟨hx0, hw⟩ := hw
      refine gi_if_eq V dL_isAny_166 rfl rfl hx0 (fun q => ?_) (fun q => ?_)
      · have hw := ga_t q hw
        refine g_less (bs := [true, true, true, true, true, false]) (lv2 := [some (.ref v0), none, none, some (gi v3), none, none]) rfl ?_
        exact h_L_isAny_J180 v0 v3 h kc ks hw
      · have hw := ga_f q hw
        refine g_aload_n V dL_isAny_169 rfl rfl ?_
        refine g_iconst V (Int32.ofInt 0) dL_isAny_170 rfl rfl ?_
        obtain ⟨hb, hw⟩ := hw
        obtain ⟨fb, hb⟩ := hb
        obtain ⟨hk, hj, c3, s4, ec, es, hw⟩ := hw
        refine g_callV (C := RX5) (T := TX5) (N := 9) (st := []) V (k_X5_times hst hw) ww_2_239 ww_2_119 ww_2_120 ww_1_1 ww_2_121 hd_X5_times ⟨by decide, by decide⟩ rfl (by decide) hb rfl rfl (ga_cat rfl) dL_isAny_171 hk hj rfl (gaX_all hT V) (ga_ki (fun r2 hp1 hw => ?_))
        refine ga_re ec es ?_
        refine g_iconst V (Int32.ofInt 2) dL_isAny_174 rfl rfl ?_
        obtain ⟨hx0, hw⟩ := hw
        refine gi_icmp_le V dL_isAny_175 rfl rfl hx0 (by decide) (fun q => ?_) (fun q => ?_)
        · have hw := ga_t q hw
          refine g_less (bs := [true, true, true, true, true, false]) (lv2 := [some (.ref v0), none, none, some (gi v3), none, none]) rfl ?_
          exact h_L_isAny_J180 v0 v3 hp1 c3 s4 hw
        · have hw := ga_f q hw
          refine g_iconst V (Int32.ofInt 0) dL_isAny_178 rfl rfl ?_
          exact g_iret V rfl rfl dL_isAny_179 ⟨_, rfl, hw⟩
  have h_L_isAny_J130 : ∀ (v0 : Nat) (v3 : Int) (t0 : Int) (h : gaH) (kc ks : Nat), w_L_isAny_J130 X Q v0 v3 t0 h kc ks → gaP p l e rm_L_isAny s m args below meth c G 6 (gaZ below G (gQi Q) X args s rm_L_isAny) 130 [some (.ref v0), none, none, some (gi v3), none, none] [gi t0] h kc ks := by
    intro v0 v3 t0 h kc ks hw
    unfold w_L_isAny_J130 at hw
    refine g_istore (lv2 := [some (.ref v0), none, none, some (gi v3), none, some (gi t0)]) V dL_isAny_130 (by decide) rfl rfl rfl ?_
    refine g_aload_n V dL_isAny_132 rfl rfl ?_
    refine g_iconst V (Int32.ofInt 1) dL_isAny_133 rfl rfl ?_
    refine g_iconst V (Int32.ofInt 5) dL_isAny_134 rfl rfl ?_
    refine g_bipush V (Int32.ofInt 6) dL_isAny_135 rfl rfl ?_
    obtain ⟨hb, hw⟩ := hw
    obtain ⟨fb, hb⟩ := hb
    obtain ⟨hk, hj, c3, s4, ec, es, hw⟩ := hw
    refine g_callV (C := RX5) (T := TX5) (N := 9) (st := []) V (k_X5_apply hst hw) ww_3_137 ww_3_138 ww_3_139 ww_1_1 ww_3_140 hd_X5_apply ⟨by decide, by decide⟩ rfl (by decide) hb rfl rfl (ga_cat rfl) dL_isAny_137 hk hj rfl (gaX_all hT V) (ga_ki (fun r2 hp1 hw => ?_))
    refine ga_re ec es ?_
    refine g_iconst V (Int32.ofInt 2) dL_isAny_140 rfl rfl ?_
    refine g_iload_n V dL_isAny_141 rfl rfl ?_
    refine gi_imul V dL_isAny_142 rfl ?_
    obtain ⟨hx0, hx1, hw⟩ := hw
    refine gi_icmp_ne V dL_isAny_143 rfl rfl hx0 hx1 (fun q => ?_) (fun q => ?_)
    · have hw := ga_f q hw
      refine g_iconst V (Int32.ofInt 0) dL_isAny_178 rfl rfl ?_
      exact g_iret V rfl rfl dL_isAny_179 ⟨_, rfl, hw⟩
    · have hw := ga_t q hw
      refine g_aload_n V dL_isAny_146 rfl rfl ?_
      refine g_iconst V (Int32.ofInt 1) dL_isAny_147 rfl rfl ?_
      obtain ⟨hb, hw⟩ := hw
      obtain ⟨fb, hb⟩ := hb
      obtain ⟨hk, hj, c7, s8, ec, es, hw⟩ := hw
      refine g_callV (C := RX5) (T := TX5) (N := 9) (st := []) V (k_X5_overlaps hst hw) ww_3_147 ww_2_132 ww_2_133 ww_1_1 ww_2_134 hd_X5_overlaps ⟨by decide, by decide⟩ rfl (by decide) hb rfl rfl (ga_cat rfl) dL_isAny_148 hk hj rfl (gaX_all hT V) (ga_ki (fun r6 hp5 hw => ?_))
      refine ga_re ec es ?_
      obtain ⟨hx0, hw⟩ := hw
      refine gi_if_ne V dL_isAny_151 rfl rfl hx0 (fun q => ?_) (fun q => ?_)
      · have hw := ga_f q hw
        refine g_iconst V (Int32.ofInt 0) dL_isAny_158 rfl rfl ?_
        exact h_L_isAny_J159 v0 v3 t0 0 hp5 c7 s8 hw
      · have hw := ga_t q hw
        refine g_iconst V (Int32.ofInt 1) dL_isAny_154 rfl rfl ?_
        refine g_goto V dL_isAny_155 rfl ?_
        exact h_L_isAny_J159 v0 v3 t0 1 hp5 c7 s8 hw
  have h_L_isAny_J110 : ∀ (v0 : Nat) (v3 : Int) (h : gaH) (kc ks : Nat), w_L_isAny_J110 X Q v0 v3 h kc ks → gaP p l e rm_L_isAny s m args below meth c G 6 (gaZ below G (gQi Q) X args s rm_L_isAny) 110 [some (.ref v0), none, none, some (gi v3), none, none] [] h kc ks := by
    intro v0 v3 h kc ks hw
    unfold w_L_isAny_J110 at hw
    refine g_aload_n V dL_isAny_110 rfl rfl ?_
    refine g_iconst V (Int32.ofInt 0) dL_isAny_111 rfl rfl ?_
    refine g_iconst V (Int32.ofInt 1) dL_isAny_112 rfl rfl ?_
    obtain ⟨hb, hw⟩ := hw
    obtain ⟨fb, hb⟩ := hb
    obtain ⟨hk, hj, c3, s4, ec, es, hw⟩ := hw
    refine g_callV (C := RX5) (T := TX5) (N := 9) (st := []) V (k_X5_copy hst hw) ww_3_133 ww_3_134 ww_3_135 ww_1_1 ww_3_136 hd_X5_copy ⟨by decide, by decide⟩ rfl (by decide) hb rfl rfl (ga_cat rfl) dL_isAny_113 hk hj rfl (gaX_all hT V) (ga_ki (fun r2 hp1 hw => ?_))
    refine ga_re ec es ?_
    refine g_pop V dL_isAny_116 rfl rfl ?_
    refine g_aload_n V dL_isAny_117 rfl rfl ?_
    refine g_iconst V (Int32.ofInt 0) dL_isAny_118 rfl rfl ?_
    obtain ⟨hb, hw⟩ := hw
    obtain ⟨fb, hb⟩ := hb
    obtain ⟨hk, hj, c7, s8, ec, es, hw⟩ := hw
    refine g_callV (C := RX5) (T := TX5) (N := 9) (st := []) V (k_X5_overlaps hst hw) ww_3_147 ww_2_132 ww_2_133 ww_1_1 ww_2_134 hd_X5_overlaps ⟨by decide, by decide⟩ rfl (by decide) hb rfl rfl (ga_cat rfl) dL_isAny_119 hk hj rfl (gaX_all hT V) (ga_ki (fun r6 hp5 hw => ?_))
    refine ga_re ec es ?_
    obtain ⟨hx0, hw⟩ := hw
    refine gi_if_ne V dL_isAny_122 rfl rfl hx0 (fun q => ?_) (fun q => ?_)
    · have hw := ga_f q hw
      refine g_iconst V (Int32.ofInt 0) dL_isAny_129 rfl rfl ?_
      exact h_L_isAny_J130 v0 v3 0 hp5 c7 s8 hw
    · have hw := ga_t q hw
      refine g_iconst V (Int32.ofInt 1) dL_isAny_125 rfl rfl ?_
      refine g_goto V dL_isAny_126 rfl ?_
      exact h_L_isAny_J130 v0 v3 1 hp5 c7 s8 hw
  have h_L_isAny_J50 : ∀ (v0 : Nat) (v2 : Int) (v3 : Int) (v4 : Int) (t0 : Int) (h : gaH) (kc ks : Nat), w_L_isAny_J50 X Q v0 v2 v3 v4 t0 h kc ks → gaP p l e rm_L_isAny s m args below meth c G 6 (gaZ below G (gQi Q) X args s rm_L_isAny) 50 [some (.ref v0), none, some (gi v2), some (gi v3), some (gi v4), none] [gi t0] h kc ks := by
    intro v0 v2 v3 v4 t0 h kc ks hw
    unfold w_L_isAny_J50 at hw
    refine g_iload V dL_isAny_50 rfl rfl ?_
    obtain ⟨hx0, hx1, hw⟩ := hw
    refine gi_icmp_ne V dL_isAny_52 rfl rfl hx0 hx1 (fun q => ?_) (fun q => ?_)
    · have hw := ga_f q hw
      refine g_iconst V (Int32.ofInt 0) dL_isAny_64 rfl rfl ?_
      exact g_iret V rfl rfl dL_isAny_65 ⟨_, rfl, hw⟩
    · have hw := ga_t q hw
      refine g_aload_n V dL_isAny_55 rfl rfl ?_
      refine g_iconst V (Int32.ofInt 0) dL_isAny_56 rfl rfl ?_
      obtain ⟨hb, hw⟩ := hw
      obtain ⟨fb, hb⟩ := hb
      obtain ⟨hk, hj, c3, s4, ec, es, hw⟩ := hw
      refine g_callV (C := RX5) (T := TX5) (N := 9) (st := []) V (k_X5_mirrors hst hw) ww_1_201 ww_1_202 ww_1_203 ww_1_1 ww_1_204 hd_X5_mirrors ⟨by decide, by decide⟩ rfl (by decide) hb rfl rfl (ga_cat rfl) dL_isAny_57 hk hj rfl (gaX_all hT V) (ga_ki (fun r2 hp1 hw => ?_))
      refine ga_re ec es ?_
      refine g_iload_n V dL_isAny_60 rfl rfl ?_
      obtain ⟨hx0, hx1, hw⟩ := hw
      refine gi_icmp_le V dL_isAny_61 rfl rfl hx0 hx1 (fun q => ?_) (fun q => ?_)
      · have hw := ga_t q hw
        refine g_aload_n V dL_isAny_66 rfl rfl ?_
        refine g_iconst V (Int32.ofInt 0) dL_isAny_67 rfl rfl ?_
        refine g_iconst V (Int32.ofInt 1) dL_isAny_68 rfl rfl ?_
        obtain ⟨hb, hw⟩ := hw
        obtain ⟨fb, hb⟩ := hb
        obtain ⟨hk, hj, c7, s8, ec, es, hw⟩ := hw
        refine g_callV (C := RX5) (T := TX5) (N := 9) (st := []) V (k_X5_copy hst hw) ww_3_133 ww_3_134 ww_3_135 ww_1_1 ww_3_136 hd_X5_copy ⟨by decide, by decide⟩ rfl (by decide) hb rfl rfl (ga_cat rfl) dL_isAny_69 hk hj rfl (gaX_all hT V) (ga_ki (fun r6 hp5 hw => ?_))
        refine ga_re ec es ?_
        refine g_pop V dL_isAny_72 rfl rfl ?_
        refine g_aload_n V dL_isAny_73 rfl rfl ?_
        refine g_iconst V (Int32.ofInt 1) dL_isAny_74 rfl rfl ?_
        refine g_iconst V (Int32.ofInt 2) dL_isAny_75 rfl rfl ?_
        refine g_iconst V (Int32.ofInt 1) dL_isAny_76 rfl rfl ?_
        refine g_iload_n V dL_isAny_77 rfl rfl ?_
        refine g_bipush V (Int32.ofInt 6) dL_isAny_78 rfl rfl ?_
        refine gi_ishr V dL_isAny_80 rfl ?_
        refine g_iconst V (Int32.ofInt 3) dL_isAny_81 rfl rfl ?_
        refine g_callS (st := [gi 1, gi 2, gi 1, .ref v0]) V (k_L_below hst hw) ww_2_206 ww_2_207 ww_1_0 ww_2_208 hd_L_below ⟨by decide, by decide⟩ rfl rfl (ga_cat rfl) dL_isAny_82 (Nat.zero_le _) (Nat.zero_le _) rfl (gaX_all hT V) (ga_ki (fun r10 hp9 hw => ?_))
        refine gi_iadd V dL_isAny_85 rfl ?_
        refine gi_ishl V dL_isAny_86 rfl ?_
        refine g_iconst V (Int32.ofInt 1) dL_isAny_87 rfl rfl ?_
        refine gi_iadd V dL_isAny_88 rfl ?_
        refine g_iconst V (Int32.ofInt 2) dL_isAny_89 rfl rfl ?_
        obtain ⟨hb, hw⟩ := hw
        obtain ⟨fb, hb⟩ := hb
        obtain ⟨hk, hj, c13, s14, ec, es, hw⟩ := hw
        refine g_callV (C := RX5) (T := TX5) (N := 9) (st := []) V (k_X5_apply hst hw) ww_3_137 ww_3_138 ww_3_139 ww_1_1 ww_3_140 hd_X5_apply ⟨by decide, by decide⟩ rfl (by decide) hb rfl rfl (ga_cat rfl) dL_isAny_90 hk hj rfl (gaX_all hT V) (ga_ki (fun r12 hp11 hw => ?_))
        refine ga_re ec es ?_
        refine g_bipush V (Int32.ofInt (-9)) dL_isAny_93 rfl rfl ?_
        obtain ⟨hx0, hw⟩ := hw
        refine gi_icmp_eq V dL_isAny_95 rfl rfl hx0 (by decide) (fun q => ?_) (fun q => ?_)
        · have hw := ga_t q hw
          refine g_less (bs := [true, true, false, true, false, true]) (lv2 := [some (.ref v0), none, none, some (gi v3), none, none]) rfl ?_
          exact h_L_isAny_J110 v0 v3 hp11 c13 s14 hw
        · have hw := ga_f q hw
          refine g_aload_n V dL_isAny_98 rfl rfl ?_
          refine g_iconst V (Int32.ofInt 1) dL_isAny_99 rfl rfl ?_
          obtain ⟨hk, hj, c17, s18, ec, es, hw⟩ := hw
          refine g_callS (st := []) V (k_L_isEven hst hw) ww_3_116 ww_3_117 ww_1_0 ww_3_118 hd_L_isEven ⟨by decide, by decide⟩ rfl rfl (ga_cat rfl) dL_isAny_100 hk hj rfl (gaX_all hT V) (ga_ki (fun r16 hp15 hw => ?_))
          refine ga_re ec es ?_
          refine g_iload V dL_isAny_103 rfl rfl ?_
          obtain ⟨hx0, hx1, hw⟩ := hw
          refine gi_icmp_eq V dL_isAny_105 rfl rfl hx0 hx1 (fun q => ?_) (fun q => ?_)
          · have hw := ga_t q hw
            refine g_less (bs := [true, true, false, true, false, true]) (lv2 := [some (.ref v0), none, none, some (gi v3), none, none]) rfl ?_
            exact h_L_isAny_J110 v0 v3 hp15 c17 s18 hw
          · have hw := ga_f q hw
            refine g_iconst V (Int32.ofInt 0) dL_isAny_108 rfl rfl ?_
            exact g_iret V rfl rfl dL_isAny_109 ⟨_, rfl, hw⟩
      · have hw := ga_f q hw
        refine g_iconst V (Int32.ofInt 0) dL_isAny_64 rfl rfl ?_
        exact g_iret V rfl rfl dL_isAny_65 ⟨_, rfl, hw⟩
  show gaP p l e rm_L_isAny s m args below meth c G 6 (gaZ below G (gQi Q) X args s rm_L_isAny) 0 [some (.ref a0), some (gi a1), some (gi a2), none, none, none] [] h 575 3450
  unfold w_L_isAny at hw
  refine g_aload_n V dL_isAny_0 rfl rfl ?_
  refine g_iload_n V dL_isAny_1 rfl rfl ?_
  refine g_iload_n V dL_isAny_2 rfl rfl ?_
  obtain ⟨hk, hj, c3, s4, ec, es, hw⟩ := hw
  refine g_callS (st := []) V (k_L_made hst hw) ww_3_108 ww_3_109 ww_1_0 ww_3_110 hd_L_made ⟨by decide, by decide⟩ rfl rfl (ga_cat rfl) dL_isAny_3 hk hj rfl (gaX_all hT V) (ga_ki (fun r2 hp1 hw => ?_))
  refine ga_re ec es ?_
  refine g_istore_n (lv2 := [some (.ref a0), some (gi a1), some (gi a2), some (gi r2), none, none]) V dL_isAny_6 (by decide) rfl rfl rfl ?_
  refine g_aload_n V dL_isAny_7 rfl rfl ?_
  refine g_iconst V (Int32.ofInt 0) dL_isAny_8 rfl rfl ?_
  obtain ⟨hk, hj, c7, s8, ec, es, hw⟩ := hw
  refine g_callS (st := []) V (k_L_isEven hst hw) ww_3_116 ww_3_117 ww_1_0 ww_3_118 hd_L_isEven ⟨by decide, by decide⟩ rfl rfl (ga_cat rfl) dL_isAny_9 hk hj rfl (gaX_all hT V) (ga_ki (fun r6 hp5 hw => ?_))
  refine ga_re ec es ?_
  refine g_istore (lv2 := [some (.ref a0), some (gi a1), some (gi a2), some (gi r2), some (gi r6), none]) V dL_isAny_12 (by decide) rfl rfl rfl ?_
  refine g_aload_n V dL_isAny_14 rfl rfl ?_
  refine g_iconst V (Int32.ofInt 1) dL_isAny_15 rfl rfl ?_
  refine g_iload_n V dL_isAny_16 rfl rfl ?_
  refine g_aload_n V dL_isAny_17 rfl rfl ?_
  refine g_iconst V (Int32.ofInt 0) dL_isAny_18 rfl rfl ?_
  refine g_iconst V (Int32.ofInt 1) dL_isAny_19 rfl rfl ?_
  obtain ⟨hb, hw⟩ := hw
  obtain ⟨fb, hb⟩ := hb
  obtain ⟨hk, hj, c11, s12, ec, es, hw⟩ := hw
  refine g_callV (C := RX5) (T := TX5) (N := 9) (st := [gi r2, gi 1, .ref a0]) V (k_X5_count hst hw) ww_3_119 ww_2_7 ww_2_8 ww_1_1 ww_2_9 hd_X5_count ⟨by decide, by decide⟩ rfl (by decide) hb rfl rfl (ga_cat rfl) dL_isAny_20 hk hj rfl (gaX_all hT V) (ga_ki (fun r10 hp9 hw => ?_))
  refine ga_re ec es ?_
  refine g_iconst V (Int32.ofInt 0) dL_isAny_23 rfl rfl ?_
  obtain ⟨hb, hw⟩ := hw
  obtain ⟨fb, hb⟩ := hb
  obtain ⟨hk, hj, c15, s16, ec, es, hw⟩ := hw
  refine g_callV (C := RX5) (T := TX5) (N := 9) (st := []) V (k_X5_line hst hw) ww_3_32 ww_3_33 ww_3_34 ww_1_1 ww_3_35 hd_X5_line ⟨by decide, by decide⟩ rfl (by decide) hb rfl rfl (ga_cat rfl) dL_isAny_24 hk hj rfl (gaX_all hT V) (ga_ki (fun r14 hp13 hw => ?_))
  refine ga_re ec es ?_
  refine g_pop V dL_isAny_27 rfl rfl ?_
  refine g_aload_n V dL_isAny_28 rfl rfl ?_
  refine g_iconst V (Int32.ofInt 1) dL_isAny_29 rfl rfl ?_
  refine g_iconst V (Int32.ofInt 1) dL_isAny_30 rfl rfl ?_
  obtain ⟨hb, hw⟩ := hw
  obtain ⟨fb, hb⟩ := hb
  obtain ⟨hk, hj, c19, s20, ec, es, hw⟩ := hw
  refine g_callV (C := RX5) (T := TX5) (N := 9) (st := []) V (k_X5_append hst hw) ww_3_120 ww_3_121 ww_3_122 ww_1_1 ww_3_123 hd_X5_append ⟨by decide, by decide⟩ rfl (by decide) hb rfl rfl (ga_cat rfl) dL_isAny_31 hk hj rfl (gaX_all hT V) (ga_ki (fun r18 hp17 hw => ?_))
  refine ga_re ec es ?_
  refine g_pop V dL_isAny_34 rfl rfl ?_
  refine g_aload_n V dL_isAny_35 rfl rfl ?_
  refine g_iconst V (Int32.ofInt 1) dL_isAny_36 rfl rfl ?_
  refine g_iconst V (Int32.ofInt 0) dL_isAny_37 rfl rfl ?_
  refine g_iconst V (Int32.ofInt 0) dL_isAny_38 rfl rfl ?_
  obtain ⟨hb, hw⟩ := hw
  obtain ⟨fb, hb⟩ := hb
  obtain ⟨hk, hj, c23, s24, ec, es, hw⟩ := hw
  refine g_callV (C := RX5) (T := TX5) (N := 9) (st := []) V (k_X5_find hst hw) ww_3_128 ww_3_129 ww_3_130 ww_1_1 ww_3_131 hd_X5_find ⟨by decide, by decide⟩ rfl (by decide) hb rfl rfl (ga_cat rfl) dL_isAny_39 hk hj rfl (gaX_all hT V) (ga_ki (fun r22 hp21 hw => ?_))
  refine ga_re ec es ?_
  obtain ⟨hx0, hw⟩ := hw
  refine gi_if_lt V dL_isAny_42 rfl rfl hx0 (fun q => ?_) (fun q => ?_)
  · have hw := ga_t q hw
    refine g_iconst V (Int32.ofInt 0) dL_isAny_49 rfl rfl ?_
    refine g_less (bs := [true, false, true, true, true, true]) (lv2 := [some (.ref a0), none, some (gi a2), some (gi r2), some (gi r6), none]) rfl ?_
    exact h_L_isAny_J50 a0 a2 r2 r6 0 hp21 c23 s24 hw
  · have hw := ga_f q hw
    refine g_iconst V (Int32.ofInt 1) dL_isAny_45 rfl rfl ?_
    refine g_goto V dL_isAny_46 rfl ?_
    refine g_less (bs := [true, false, true, true, true, true]) (lv2 := [some (.ref a0), none, some (gi a2), some (gi r2), some (gi r6), none]) rfl ?_
    exact h_L_isAny_J50 a0 a2 r2 r6 1 hp21 c23 s24 hw
def w_L_isLine (X : String → gaH → Prop) (a0 : Nat) (a1 : Int) (a2 : Int) (h : gaH) (Q : Int → gaH → Prop) : Prop := w_L_below (gShr a1 7) 32 h (fun r2 hp1 => w_L_below (gShr a2 6) ((1 + r2) + 1) hp1 (fun r4 hp3 => w_L_below (gShr a1 3) (1 + r2) hp3 (fun r6 hp5 => gHas hp5 a0 5 ∧ gCall 4 24 15 90 (fun c9 s10 => w_X5_line X a0 1 (1 + r2) r4 r6 hp5 (fun r8 hp7 => w_L_below (gShr a2 10) (1 + r2) hp7 (fun r12 hp11 => gHas hp11 a0 5 ∧ gCall 4 24 c9 s10 (fun c15 s16 => w_X5_line X a0 2 (1 + r2) r4 r12 hp11 (fun r14 hp13 => gHas hp13 a0 5 ∧ gCall 1 6 c15 s16 (fun c19 s20 => w_X5_count X a0 1 1 hp13 (fun r18 hp17 => gR r18 ∧ gR r4 ∧ (if r18 = r4 then gHas hp17 a0 5 ∧ gCall 1 6 c19 s20 (fun c23 s24 => w_X5_count X a0 2 1 hp17 (fun r22 hp21 => gR r22 ∧ gR r4 ∧ (if r22 = r4 then gHas hp21 a0 5 ∧ gCall 2 12 c23 s24 (fun c27 s28 => w_X5_append X a0 1 1 hp21 (fun r26 hp25 => gHas hp25 a0 5 ∧ gCall 3 18 c27 s28 (fun c31 s32 => w_X5_find X a0 1 2 0 hp25 (fun r30 hp29 => gR r30 ∧ (if r30 < 0 then Q 0 hp29 else Q 1 hp29))))) else Q 0 hp21))) else Q 0 hp17)))))))))))
abbrev rm_L_isLine : Room := { frames := 10, cells := 15, slots := 90, locals := 247 }
theorem hd_L_isLine : (yL_isLine.cls ≠ "java/lang/invoke/MethodHandle" ∧ yL_isLine.cls ≠ "java/lang/invoke/VarHandle" ∧ (parseMethodDescriptor yL_isLine.desc).map (fun d => d.parameters.length) = some 3) := by decide +kernel
theorem k_L_isLine {l : Launch} (hst : l.stackTraces = false) {G : gaG} {X : String → gaH → Prop} {a0 : Nat} {a1 : Int} {a2 : Int} {h : gaH} {Q : Int → gaH → Prop} (hw : w_L_isLine X a0 a1 a2 h Q) : gaC l G yL_isLine (gaM yL_isLine cL_isLine 5 ((some .boolean))) rm_L_isLine [.ref a0, gi a1, gi a2] h (gQi Q) X := by
  refine g_start (lv := [some (.ref a0), some (gi a1), some (gi a2), none, none]) hpl_RL hst (Nat.le_of_ble_eq_true rfl) (gaArgs_pad (z := 2) rfl) ww_3_154 ?_
  intro p e s m args below meth c V hT
  show gaP p l e rm_L_isLine s m args below meth c G 5 (gaZ below G (gQi Q) X args s rm_L_isLine) 0 [some (.ref a0), some (gi a1), some (gi a2), none, none] [] h 15 90
  unfold w_L_isLine at hw
  refine g_iconst V (Int32.ofInt 1) dL_isLine_0 rfl rfl ?_
  refine g_iload_n V dL_isLine_1 rfl rfl ?_
  refine g_bipush V (Int32.ofInt 7) dL_isLine_2 rfl rfl ?_
  refine gi_ishr V dL_isLine_4 rfl ?_
  refine g_bipush V (Int32.ofInt 32) dL_isLine_5 rfl rfl ?_
  refine g_callS (st := [gi 1]) V (k_L_below hst hw) ww_2_206 ww_2_207 ww_1_0 ww_2_208 hd_L_below ⟨by decide, by decide⟩ rfl rfl (ga_cat rfl) dL_isLine_7 (Nat.zero_le _) (Nat.zero_le _) rfl (gaX_all hT V) (ga_ki (fun r2 hp1 hw => ?_))
  refine gi_iadd V dL_isLine_10 rfl ?_
  refine g_istore_n (lv2 := [some (.ref a0), some (gi a1), some (gi a2), some (gi (1 + r2)), none]) V dL_isLine_11 (by decide) rfl rfl rfl ?_
  refine g_iload_n V dL_isLine_12 rfl rfl ?_
  refine g_bipush V (Int32.ofInt 6) dL_isLine_13 rfl rfl ?_
  refine gi_ishr V dL_isLine_15 rfl ?_
  refine g_iload_n V dL_isLine_16 rfl rfl ?_
  refine g_iconst V (Int32.ofInt 1) dL_isLine_17 rfl rfl ?_
  refine gi_iadd V dL_isLine_18 rfl ?_
  refine g_callS (st := []) V (k_L_below hst hw) ww_2_206 ww_2_207 ww_1_0 ww_2_208 hd_L_below ⟨by decide, by decide⟩ rfl rfl (ga_cat rfl) dL_isLine_19 (Nat.zero_le _) (Nat.zero_le _) rfl (gaX_all hT V) (ga_ki (fun r4 hp3 hw => ?_))
  refine g_istore (lv2 := [some (.ref a0), some (gi a1), some (gi a2), some (gi (1 + r2)), some (gi r4)]) V dL_isLine_22 (by decide) rfl rfl rfl ?_
  refine g_aload_n V dL_isLine_24 rfl rfl ?_
  refine g_iconst V (Int32.ofInt 1) dL_isLine_25 rfl rfl ?_
  refine g_iload_n V dL_isLine_26 rfl rfl ?_
  refine g_iload V dL_isLine_27 rfl rfl ?_
  refine g_iload_n V dL_isLine_29 rfl rfl ?_
  refine g_iconst V (Int32.ofInt 3) dL_isLine_30 rfl rfl ?_
  refine gi_ishr V dL_isLine_31 rfl ?_
  refine g_iload_n V dL_isLine_32 rfl rfl ?_
  refine g_callS (st := [gi r4, gi (1 + r2), gi 1, .ref a0]) V (k_L_below hst hw) ww_2_206 ww_2_207 ww_1_0 ww_2_208 hd_L_below ⟨by decide, by decide⟩ rfl rfl (ga_cat rfl) dL_isLine_33 (Nat.zero_le _) (Nat.zero_le _) rfl (gaX_all hT V) (ga_ki (fun r6 hp5 hw => ?_))
  obtain ⟨hb, hw⟩ := hw
  obtain ⟨fb, hb⟩ := hb
  obtain ⟨hk, hj, c9, s10, ec, es, hw⟩ := hw
  refine g_callV (C := RX5) (T := TX5) (N := 9) (st := []) V (k_X5_line hst hw) ww_3_32 ww_3_33 ww_3_34 ww_1_1 ww_3_35 hd_X5_line ⟨by decide, by decide⟩ rfl (by decide) hb rfl rfl (ga_cat rfl) dL_isLine_36 hk hj rfl (gaX_all hT V) (ga_ki (fun r8 hp7 hw => ?_))
  refine ga_re ec es ?_
  refine g_pop V dL_isLine_39 rfl rfl ?_
  refine g_aload_n V dL_isLine_40 rfl rfl ?_
  refine g_iconst V (Int32.ofInt 2) dL_isLine_41 rfl rfl ?_
  refine g_iload_n V dL_isLine_42 rfl rfl ?_
  refine g_iload V dL_isLine_43 rfl rfl ?_
  refine g_iload_n V dL_isLine_45 rfl rfl ?_
  refine g_bipush V (Int32.ofInt 10) dL_isLine_46 rfl rfl ?_
  refine gi_ishr V dL_isLine_48 rfl ?_
  refine g_iload_n V dL_isLine_49 rfl rfl ?_
  refine g_callS (st := [gi r4, gi (1 + r2), gi 2, .ref a0]) V (k_L_below hst hw) ww_2_206 ww_2_207 ww_1_0 ww_2_208 hd_L_below ⟨by decide, by decide⟩ rfl rfl (ga_cat rfl) dL_isLine_50 (Nat.zero_le _) (Nat.zero_le _) rfl (gaX_all hT V) (ga_ki (fun r12 hp11 hw => ?_))
  obtain ⟨hb, hw⟩ := hw
  obtain ⟨fb, hb⟩ := hb
  obtain ⟨hk, hj, c15, s16, ec, es, hw⟩ := hw
  refine g_callV (C := RX5) (T := TX5) (N := 9) (st := []) V (k_X5_line hst hw) ww_3_32 ww_3_33 ww_3_34 ww_1_1 ww_3_35 hd_X5_line ⟨by decide, by decide⟩ rfl (by decide) hb rfl rfl (ga_cat rfl) dL_isLine_53 hk hj rfl (gaX_all hT V) (ga_ki (fun r14 hp13 hw => ?_))
  refine ga_re ec es ?_
  refine g_pop V dL_isLine_56 rfl rfl ?_
  refine g_aload_n V dL_isLine_57 rfl rfl ?_
  refine g_iconst V (Int32.ofInt 1) dL_isLine_58 rfl rfl ?_
  refine g_iconst V (Int32.ofInt 1) dL_isLine_59 rfl rfl ?_
  obtain ⟨hb, hw⟩ := hw
  obtain ⟨fb, hb⟩ := hb
  obtain ⟨hk, hj, c19, s20, ec, es, hw⟩ := hw
  refine g_callV (C := RX5) (T := TX5) (N := 9) (st := []) V (k_X5_count hst hw) ww_3_119 ww_2_7 ww_2_8 ww_1_1 ww_2_9 hd_X5_count ⟨by decide, by decide⟩ rfl (by decide) hb rfl rfl (ga_cat rfl) dL_isLine_60 hk hj rfl (gaX_all hT V) (ga_ki (fun r18 hp17 hw => ?_))
  refine ga_re ec es ?_
  refine g_iload V dL_isLine_63 rfl rfl ?_
  obtain ⟨hx0, hx1, hw⟩ := hw
  refine gi_icmp_ne V dL_isLine_65 rfl rfl hx0 hx1 (fun q => ?_) (fun q => ?_)
  · have hw := ga_f q hw
    refine g_iconst V (Int32.ofInt 0) dL_isLine_79 rfl rfl ?_
    exact g_iret V rfl rfl dL_isLine_80 ⟨_, rfl, hw⟩
  · have hw := ga_t q hw
    refine g_aload_n V dL_isLine_68 rfl rfl ?_
    refine g_iconst V (Int32.ofInt 2) dL_isLine_69 rfl rfl ?_
    refine g_iconst V (Int32.ofInt 1) dL_isLine_70 rfl rfl ?_
    obtain ⟨hb, hw⟩ := hw
    obtain ⟨fb, hb⟩ := hb
    obtain ⟨hk, hj, c23, s24, ec, es, hw⟩ := hw
    refine g_callV (C := RX5) (T := TX5) (N := 9) (st := []) V (k_X5_count hst hw) ww_3_119 ww_2_7 ww_2_8 ww_1_1 ww_2_9 hd_X5_count ⟨by decide, by decide⟩ rfl (by decide) hb rfl rfl (ga_cat rfl) dL_isLine_71 hk hj rfl (gaX_all hT V) (ga_ki (fun r22 hp21 hw => ?_))
    refine ga_re ec es ?_
    refine g_iload V dL_isLine_74 rfl rfl ?_
    obtain ⟨hx0, hx1, hw⟩ := hw
    refine gi_icmp_eq V dL_isLine_76 rfl rfl hx0 hx1 (fun q => ?_) (fun q => ?_)
    · have hw := ga_t q hw
      refine g_aload_n V dL_isLine_81 rfl rfl ?_
      refine g_iconst V (Int32.ofInt 1) dL_isLine_82 rfl rfl ?_
      refine g_iconst V (Int32.ofInt 1) dL_isLine_83 rfl rfl ?_
      obtain ⟨hb, hw⟩ := hw
      obtain ⟨fb, hb⟩ := hb
      obtain ⟨hk, hj, c27, s28, ec, es, hw⟩ := hw
      refine g_callV (C := RX5) (T := TX5) (N := 9) (st := []) V (k_X5_append hst hw) ww_3_120 ww_3_121 ww_3_122 ww_1_1 ww_3_123 hd_X5_append ⟨by decide, by decide⟩ rfl (by decide) hb rfl rfl (ga_cat rfl) dL_isLine_84 hk hj rfl (gaX_all hT V) (ga_ki (fun r26 hp25 hw => ?_))
      refine ga_re ec es ?_
      refine g_pop V dL_isLine_87 rfl rfl ?_
      refine g_aload_n V dL_isLine_88 rfl rfl ?_
      refine g_iconst V (Int32.ofInt 1) dL_isLine_89 rfl rfl ?_
      refine g_iconst V (Int32.ofInt 2) dL_isLine_90 rfl rfl ?_
      refine g_iconst V (Int32.ofInt 0) dL_isLine_91 rfl rfl ?_
      obtain ⟨hb, hw⟩ := hw
      obtain ⟨fb, hb⟩ := hb
      obtain ⟨hk, hj, c31, s32, ec, es, hw⟩ := hw
      refine g_callV (C := RX5) (T := TX5) (N := 9) (st := []) V (k_X5_find hst hw) ww_3_128 ww_3_129 ww_3_130 ww_1_1 ww_3_131 hd_X5_find ⟨by decide, by decide⟩ rfl (by decide) hb rfl rfl (ga_cat rfl) dL_isLine_92 hk hj rfl (gaX_all hT V) (ga_ki (fun r30 hp29 hw => ?_))
      refine ga_re ec es ?_
      obtain ⟨hx0, hw⟩ := hw
      refine gi_if_lt V dL_isLine_95 rfl rfl hx0 (fun q => ?_) (fun q => ?_)
      · have hw := ga_t q hw
        refine g_iconst V (Int32.ofInt 0) dL_isLine_102 rfl rfl ?_
        exact g_iret V rfl rfl dL_isLine_103 ⟨_, rfl, hw⟩
      · have hw := ga_f q hw
        refine g_iconst V (Int32.ofInt 1) dL_isLine_98 rfl rfl ?_
        refine g_goto V dL_isLine_99 rfl ?_
        exact g_iret V rfl rfl dL_isLine_103 ⟨_, rfl, hw⟩
    · have hw := ga_f q hw
      refine g_iconst V (Int32.ofInt 0) dL_isLine_79 rfl rfl ?_
      exact g_iret V rfl rfl dL_isLine_80 ⟨_, rfl, hw⟩
