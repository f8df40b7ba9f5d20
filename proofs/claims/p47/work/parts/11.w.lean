def w_X4_isUp (a0 : Nat) (a1 : Int) (h : gaH) (Q : Int → gaH → Prop) : Prop := gR a1 ∧ (if a1 < 0 then Q 0 h else gA h a0 4 0 (fun r1 => gAL h r1 100 (fun r2 => gR a1 ∧ gR r2 ∧ (if r2 ≤ a1 then Q 0 h else gA h a0 4 0 (fun r3 => gLI h r3 100 a1 (fun r4 => gR r4 ∧ (if r4 = 0 then Q 0 h else Q 1 h)))))))
abbrev rm_X4_isUp : Room := { frames := 0, cells := 0, slots := 0, locals := 0 }
theorem hd_X4_isUp : yX4_isUp.cls = RX4 ∧ (yX4_isUp.cls ≠ "java/lang/invoke/MethodHandle" ∧ yX4_isUp.cls ≠ "java/lang/invoke/VarHandle" ∧ (parseMethodDescriptor yX4_isUp.desc).map (fun d => d.parameters.length) = some 1) := by decide +kernel
theorem k_X4_isUp {l : Launch} (hst : l.stackTraces = false) {G : gaG} {X : String → gaH → Prop} {a0 : Nat} {a1 : Int} {h : gaH} {Q : Int → gaH → Prop} (hw : w_X4_isUp a0 a1 h Q) : gaC l G yX4_isUp (gaM yX4_isUp cX4_isUp 2 ((some .boolean))) rm_X4_isUp [.ref a0, gi a1] h (gQi Q) X := by
  refine g_start (lv := [some (.ref a0), some (gi a1)]) hpl_RX4 hst (Nat.le_of_ble_eq_true rfl) (gaArgs_pad (z := 0) rfl) ww_1_230 ?_
  intro p e s m args below meth c V hT
  unfold w_X4_isUp at hw
  refine g_iload_n V dX4_isUp_0 rfl rfl ?_
  obtain ⟨hx0, hw⟩ := hw
  refine gi_if_lt V dX4_isUp_1 rfl rfl hx0 (fun q => ?_) (fun q => ?_)
  · have hw := ga_t q hw
    refine g_iconst V (Int32.ofInt 0) dX4_isUp_26 rfl rfl ?_
    exact g_iret V rfl rfl dX4_isUp_27 ⟨_, rfl, hw⟩
  · have hw := ga_f q hw
    refine g_iload_n V dX4_isUp_4 rfl rfl ?_
    refine g_aload_n V dX4_isUp_5 rfl rfl ?_
    obtain ⟨fs, r1, ha, hv, hw⟩ := hw
    refine g_get (C := RX4) (T := TX4) (N := 2) V 0 rfl hin_RX4 (by decide) (by decide) ww_1_50 rfl ha hv dX4_isUp_6 rfl ?_
    obtain ⟨t9, vs, ha, ht, hw⟩ := hw
    refine gi_arraylength (t0 := 100) V (by simp [gaT]) ha ht dX4_isUp_9 rfl ?_
    generalize (vs.length : Int) = r2 at hw ⊢
    obtain ⟨hx0, hx1, hw⟩ := hw
    refine gi_icmp_ge V dX4_isUp_10 rfl rfl hx0 hx1 (fun q => ?_) (fun q => ?_)
    · have hw := ga_t q hw
      refine g_iconst V (Int32.ofInt 0) dX4_isUp_26 rfl rfl ?_
      exact g_iret V rfl rfl dX4_isUp_27 ⟨_, rfl, hw⟩
    · have hw := ga_f q hw
      refine g_aload_n V dX4_isUp_13 rfl rfl ?_
      obtain ⟨fs, r3, ha, hv, hw⟩ := hw
      refine g_get (C := RX4) (T := TX4) (N := 2) V 0 rfl hin_RX4 (by decide) (by decide) ww_1_50 rfl ha hv dX4_isUp_14 rfl ?_
      refine g_iload_n V dX4_isUp_17 rfl rfl ?_
      obtain ⟨t9, vs, r4, ha, ht, h0, h9, hv, hw⟩ := hw
      refine gi_baloadZ V ha ht h0 h9 hv dX4_isUp_18 rfl ?_
      obtain ⟨hx0, hw⟩ := hw
      refine gi_if_eq V dX4_isUp_19 rfl rfl hx0 (fun q => ?_) (fun q => ?_)
      · have hw := ga_t q hw
        refine g_iconst V (Int32.ofInt 0) dX4_isUp_26 rfl rfl ?_
        exact g_iret V rfl rfl dX4_isUp_27 ⟨_, rfl, hw⟩
      · have hw := ga_f q hw
        refine g_iconst V (Int32.ofInt 1) dX4_isUp_22 rfl rfl ?_
        refine g_goto V dX4_isUp_23 rfl ?_
        exact g_iret V rfl rfl dX4_isUp_27 ⟨_, rfl, hw⟩
def w_X1_isUpJoined (a0 : Nat) (a1 : Nat) (a2 : Int) (h : gaH) (Q : Int → gaH → Prop) : Prop := gI h a0 4 1 (fun r1 => gR a2 ∧ gR r1 ∧ (if r1 ≤ a2 then gI h a0 4 1 (fun r2 => gHas h a1 4 ∧ w_X4_isUp a1 (a2 - r2) h (fun r4 h3 => narrow .boolean (gi r4) = gi r4 ∧ Q r4 h3)) else gHas h a0 4 ∧ w_X4_isUp a0 a2 h (fun r6 h5 => narrow .boolean (gi r6) = gi r6 ∧ Q r6 h5)))
abbrev rm_X1_isUpJoined : Room := { frames := 1, cells := 0, slots := 0, locals := 21 }
theorem hd_X1_isUpJoined : (yX1_isUpJoined.cls ≠ "java/lang/invoke/MethodHandle" ∧ yX1_isUpJoined.cls ≠ "java/lang/invoke/VarHandle" ∧ (parseMethodDescriptor yX1_isUpJoined.desc).map (fun d => d.parameters.length) = some 3) := by decide +kernel
theorem k_X1_isUpJoined {l : Launch} (hst : l.stackTraces = false) {G : gaG} {X : String → gaH → Prop} {a0 : Nat} {a1 : Nat} {a2 : Int} {h : gaH} {Q : Int → gaH → Prop} (hw : w_X1_isUpJoined a0 a1 a2 h Q) : gaC l G yX1_isUpJoined (gaM yX1_isUpJoined cX1_isUpJoined 3 ((some .boolean))) rm_X1_isUpJoined [.ref a0, .ref a1, gi a2] h (gQi Q) X := by
  refine g_start (lv := [some (.ref a0), some (.ref a1), some (gi a2)]) hpl_RX1 hst (Nat.le_of_ble_eq_true rfl) (gaArgs_pad (z := 0) rfl) ww_2_81 ?_
  intro p e s m args below meth c V hT
  unfold w_X1_isUpJoined at hw
  refine g_iload_n V dX1_isUpJoined_0 rfl rfl ?_
  refine g_aload_n V dX1_isUpJoined_1 rfl rfl ?_
  obtain ⟨fs, r1, ha, hv, hw⟩ := hw
  refine g_getN (C := RX4) (T := TX4) (N := 2) (host := "Wordgarden") V 1 rfl hin_RX4 (by decide) (by decide) gn_2 rfl ha hv dX1_isUpJoined_2 rfl ?_
  obtain ⟨hx0, hx1, hw⟩ := hw
  refine gi_icmp_ge V dX1_isUpJoined_5 rfl rfl hx0 hx1 (fun q => ?_) (fun q => ?_)
  · have hw := ga_t q hw
    refine g_aload_n V dX1_isUpJoined_16 rfl rfl ?_
    refine g_iload_n V dX1_isUpJoined_17 rfl rfl ?_
    refine g_aload_n V dX1_isUpJoined_18 rfl rfl ?_
    obtain ⟨fs, r2, ha, hv, hw⟩ := hw
    refine g_getN (C := RX4) (T := TX4) (N := 2) (host := "Wordgarden") V 1 rfl hin_RX4 (by decide) (by decide) gn_2 rfl ha hv dX1_isUpJoined_19 rfl ?_
    refine gi_isub V dX1_isUpJoined_22 rfl ?_
    obtain ⟨hb, hw⟩ := hw
    obtain ⟨fb, hb⟩ := hb
    refine g_callV (C := RX4) (T := TX4) (N := 2) (st := []) V (k_X4_isUp hst hw) ww_1_239 ww_1_228 ww_1_229 ww_1_3 ww_1_230 hd_X4_isUp ⟨by decide, by decide⟩ rfl (by decide) hb rfl rfl (ga_cat rfl) dX1_isUpJoined_23 (Nat.zero_le _) (Nat.zero_le _) rfl (gaX_all hT V) (ga_ki (fun r4 h3 hw => ?_))
    exact g_iret V rfl hw.1 dX1_isUpJoined_26 ⟨_, rfl, hw.2⟩
  · have hw := ga_f q hw
    refine g_aload_n V dX1_isUpJoined_8 rfl rfl ?_
    refine g_iload_n V dX1_isUpJoined_9 rfl rfl ?_
    obtain ⟨hb, hw⟩ := hw
    obtain ⟨fb, hb⟩ := hb
    refine g_callV (C := RX4) (T := TX4) (N := 2) (st := []) V (k_X4_isUp hst hw) ww_1_239 ww_1_228 ww_1_229 ww_1_3 ww_1_230 hd_X4_isUp ⟨by decide, by decide⟩ rfl (by decide) hb rfl rfl (ga_cat rfl) dX1_isUpJoined_10 (Nat.zero_le _) (Nat.zero_le _) rfl (gaX_all hT V) (ga_ki (fun r6 h5 hw => ?_))
    refine g_goto V dX1_isUpJoined_13 rfl ?_
    exact g_iret V rfl hw.1 dX1_isUpJoined_26 ⟨_, rfl, hw.2⟩
def w_X1_firstUnlikeJoined_L2 (Q : Int → gaH → Prop) : Nat → Nat → Nat → Int → gaH → Prop
  | 0, _, _, _, _ => False
  | n + 1, v0, v1, v2, h => gI h v0 4 1 (fun r1 => gI h v1 4 1 (fun r2 => gR v2 ∧ gR (r1 + r2) ∧ (if (r1 + r2) ≤ v2 then Q (-1) h else w_X1_isUpJoined v0 v1 v2 h (fun r4 h3 => w_X1_isUpJoined v1 v0 v2 h3 (fun r6 h5 => gR r4 ∧ gR r6 ∧ (if r4 = r6 then w_X1_firstUnlikeJoined_L2 Q n v0 v1 (v2 + 1) h5 else Q v2 h5))))))
def w_X1_firstUnlikeJoined (a0 : Nat) (a1 : Nat) (h : gaH) (Q : Int → gaH → Prop) : Prop := ∃ n, w_X1_firstUnlikeJoined_L2 Q n a0 a1 0 h
abbrev rm_X1_firstUnlikeJoined : Room := { frames := 2, cells := 0, slots := 0, locals := 43 }
theorem hd_X1_firstUnlikeJoined : (yX1_firstUnlikeJoined.cls ≠ "java/lang/invoke/MethodHandle" ∧ yX1_firstUnlikeJoined.cls ≠ "java/lang/invoke/VarHandle" ∧ (parseMethodDescriptor yX1_firstUnlikeJoined.desc).map (fun d => d.parameters.length) = some 2) := by decide +kernel
theorem k_X1_firstUnlikeJoined {l : Launch} (hst : l.stackTraces = false) {G : gaG} {X : String → gaH → Prop} {a0 : Nat} {a1 : Nat} {h : gaH} {Q : Int → gaH → Prop} (hw : w_X1_firstUnlikeJoined a0 a1 h Q) : gaC l G yX1_firstUnlikeJoined (gaM yX1_firstUnlikeJoined cX1_firstUnlikeJoined 3 ((some .int))) rm_X1_firstUnlikeJoined [.ref a0, .ref a1] h (gQi Q) X := by
  refine g_start (lv := [some (.ref a0), some (.ref a1), none]) hpl_RX1 hst (Nat.le_of_ble_eq_true rfl) (gaArgs_pad (z := 1) rfl) ww_2_78 ?_
  intro p e s m args below meth c V hT
  have h_X1_firstUnlikeJoined_L2 : ∀ (n : Nat), ∀ (v0 : Nat) (v1 : Nat) (v2 : Int) (h : gaH), w_X1_firstUnlikeJoined_L2 Q n v0 v1 v2 h → gaP p l e rm_X1_firstUnlikeJoined s m args below meth c G 3 (gaZ below G (gQi Q) X args s rm_X1_firstUnlikeJoined) 2 [some (.ref v0), some (.ref v1), some (gi v2)] [] h 0 0 := by
    intro n
    induction n with
    | zero =>
      intro v0 v1 v2 h hw
      exact hw.elim
    | succ n ih =>
      intro v0 v1 v2 h hw
      unfold w_X1_firstUnlikeJoined_L2 at hw
      refine g_iload_n V dX1_firstUnlikeJoined_2 rfl rfl ?_
      refine g_aload_n V dX1_firstUnlikeJoined_3 rfl rfl ?_
      obtain ⟨fs, r1, ha, hv, hw⟩ := hw
      refine g_getN (C := RX4) (T := TX4) (N := 2) (host := "Wordgarden") V 1 rfl hin_RX4 (by decide) (by decide) gn_2 rfl ha hv dX1_firstUnlikeJoined_4 rfl ?_
      refine g_aload_n V dX1_firstUnlikeJoined_7 rfl rfl ?_
      obtain ⟨fs, r2, ha, hv, hw⟩ := hw
      refine g_getN (C := RX4) (T := TX4) (N := 2) (host := "Wordgarden") V 1 rfl hin_RX4 (by decide) (by decide) gn_2 rfl ha hv dX1_firstUnlikeJoined_8 rfl ?_
      refine gi_iadd V dX1_firstUnlikeJoined_11 rfl ?_
      obtain ⟨hx0, hx1, hw⟩ := hw
      refine gi_icmp_ge V dX1_firstUnlikeJoined_12 rfl rfl hx0 hx1 (fun q => ?_) (fun q => ?_)
      · have hw := ga_t q hw
        refine g_iconst V (Int32.ofInt (-1)) dX1_firstUnlikeJoined_38 rfl rfl ?_
        exact g_iret V rfl rfl dX1_firstUnlikeJoined_39 ⟨_, rfl, hw⟩
      · have hw := ga_f q hw
        refine g_aload_n V dX1_firstUnlikeJoined_15 rfl rfl ?_
        refine g_aload_n V dX1_firstUnlikeJoined_16 rfl rfl ?_
        refine g_iload_n V dX1_firstUnlikeJoined_17 rfl rfl ?_
        refine g_callS (st := []) V (k_X1_isUpJoined hst hw) ww_2_79 ww_2_80 ww_1_12 ww_2_81 hd_X1_isUpJoined ⟨by decide, by decide⟩ rfl rfl (ga_cat rfl) dX1_firstUnlikeJoined_18 (Nat.zero_le _) (Nat.zero_le _) rfl (gaX_all hT V) (ga_ki (fun r4 h3 hw => ?_))
        refine g_aload_n V dX1_firstUnlikeJoined_21 rfl rfl ?_
        refine g_aload_n V dX1_firstUnlikeJoined_22 rfl rfl ?_
        refine g_iload_n V dX1_firstUnlikeJoined_23 rfl rfl ?_
        refine g_callS (st := [gi r4]) V (k_X1_isUpJoined hst hw) ww_2_79 ww_2_80 ww_1_12 ww_2_81 hd_X1_isUpJoined ⟨by decide, by decide⟩ rfl rfl (ga_cat rfl) dX1_firstUnlikeJoined_24 (Nat.zero_le _) (Nat.zero_le _) rfl (gaX_all hT V) (ga_ki (fun r6 h5 hw => ?_))
        obtain ⟨hx0, hx1, hw⟩ := hw
        refine gi_icmp_eq V dX1_firstUnlikeJoined_27 rfl rfl hx0 hx1 (fun q => ?_) (fun q => ?_)
        · have hw := ga_t q hw
          refine gi_iinc (lv2 := [some (.ref v0), some (.ref v1), some (gi (v2 + 1))]) V dX1_firstUnlikeJoined_32 (by decide) rfl rfl rfl rfl ?_
          refine g_goto V dX1_firstUnlikeJoined_35 rfl ?_
          exact ih v0 v1 (v2 + 1) h5 hw
        · have hw := ga_f q hw
          refine g_iload_n V dX1_firstUnlikeJoined_30 rfl rfl ?_
          exact g_iret V rfl rfl dX1_firstUnlikeJoined_31 ⟨_, rfl, hw⟩
  unfold w_X1_firstUnlikeJoined at hw
  refine g_iconst V (Int32.ofInt 0) dX1_firstUnlikeJoined_0 rfl rfl ?_
  refine g_istore_n (lv2 := [some (.ref a0), some (.ref a1), some (gi 0)]) V dX1_firstUnlikeJoined_1 (by decide) rfl rfl rfl ?_
  obtain ⟨n, hw⟩ := hw
  exact h_X1_firstUnlikeJoined_L2 n a0 a1 0 h hw
def w_X4_clear (a0 : Nat) (h : gaH) (Q : gaH → Prop) : Prop := gPF h a0 4 1 (gi 0) (fun h1 => Q h1)
abbrev rm_X4_clear : Room := { frames := 0, cells := 0, slots := 0, locals := 0 }
theorem hd_X4_clear : yX4_clear.cls = RX4 ∧ (yX4_clear.cls ≠ "java/lang/invoke/MethodHandle" ∧ yX4_clear.cls ≠ "java/lang/invoke/VarHandle" ∧ (parseMethodDescriptor yX4_clear.desc).map (fun d => d.parameters.length) = some 0) := by decide +kernel
theorem k_X4_clear {l : Launch} (hst : l.stackTraces = false) {G : gaG} {X : String → gaH → Prop} {a0 : Nat} {h : gaH} {Q : gaH → Prop} (hw : w_X4_clear a0 h Q) : gaC l G yX4_clear (gaM yX4_clear cX4_clear 1 ((none : Option Jvm.ClassFile.FieldType))) rm_X4_clear [.ref a0] h (gQv Q) X := by
  refine g_start (lv := [some (.ref a0)]) hpl_RX4 hst (Nat.le_of_ble_eq_true rfl) (gaArgs_pad (z := 0) rfl) ww_1_88 ?_
  intro p e s m args below meth c V hT
  unfold w_X4_clear at hw
  refine g_aload_n V dX4_clear_0 rfl rfl ?_
  refine g_iconst V (Int32.ofInt 0) dX4_clear_1 rfl rfl ?_
  obtain ⟨fs, ha, hl, hw⟩ := hw
  refine g_put (C := RX4) (T := TX4) (N := 2) V 1 tyX4 tyX4_ok nmX4 rfl hin_RX4 (by decide) (by decide) ww_1_54 rfl rfl rfl rfl ha hl dX4_clear_2 rfl ?_
  generalize gaUp h a0 _ = h1 at hw ⊢
  exact g_vret V rfl dX4_clear_5 ⟨rfl, hw⟩
def w_X4_add (a0 : Nat) (a1 : Int) (h : gaH) (Q : gaH → Prop) : Prop := gI h a0 4 1 (fun r1 => gR r1 ∧ (if r1 < 0 then Q h else gI h a0 4 1 (fun r2 => gA h a0 4 0 (fun r3 => gAL h r3 100 (fun r4 => gR r2 ∧ gR r4 ∧ (if r4 ≤ r2 then Q h else gA h a0 4 0 (fun r5 => gI h a0 4 1 (fun r6 => narrow .boolean (gi a1) = gi a1 ∧ gSI h r5 100 r6 (gi a1) (fun h7 => gI h7 a0 4 1 (fun r8 => gPF h7 a0 4 1 (gi (r8 + 1)) (fun h9 => Q h9)))))))))))
abbrev rm_X4_add : Room := { frames := 0, cells := 0, slots := 0, locals := 0 }
theorem hd_X4_add : yX4_add.cls = RX4 ∧ (yX4_add.cls ≠ "java/lang/invoke/MethodHandle" ∧ yX4_add.cls ≠ "java/lang/invoke/VarHandle" ∧ (parseMethodDescriptor yX4_add.desc).map (fun d => d.parameters.length) = some 1) := by decide +kernel
theorem k_X4_add {l : Launch} (hst : l.stackTraces = false) {G : gaG} {X : String → gaH → Prop} {a0 : Nat} {a1 : Int} {h : gaH} {Q : gaH → Prop} (hw : w_X4_add a0 a1 h Q) : gaC l G yX4_add (gaM yX4_add cX4_add 2 ((none : Option Jvm.ClassFile.FieldType))) rm_X4_add [.ref a0, gi a1] h (gQv Q) X := by
  refine g_start (lv := [some (.ref a0), some (gi a1)]) hpl_RX4 hst (Nat.le_of_ble_eq_true rfl) (gaArgs_pad (z := 0) rfl) ww_1_92 ?_
  intro p e s m args below meth c V hT
  unfold w_X4_add at hw
  refine g_aload_n V dX4_add_0 rfl rfl ?_
  obtain ⟨fs, r1, ha, hv, hw⟩ := hw
  refine g_get (C := RX4) (T := TX4) (N := 2) V 1 rfl hin_RX4 (by decide) (by decide) ww_1_54 rfl ha hv dX4_add_1 rfl ?_
  obtain ⟨hx0, hw⟩ := hw
  refine gi_if_lt V dX4_add_4 rfl rfl hx0 (fun q => ?_) (fun q => ?_)
  · have hw := ga_t q hw
    exact g_vret V rfl dX4_add_39 ⟨rfl, hw⟩
  · have hw := ga_f q hw
    refine g_aload_n V dX4_add_7 rfl rfl ?_
    obtain ⟨fs, r2, ha, hv, hw⟩ := hw
    refine g_get (C := RX4) (T := TX4) (N := 2) V 1 rfl hin_RX4 (by decide) (by decide) ww_1_54 rfl ha hv dX4_add_8 rfl ?_
    refine g_aload_n V dX4_add_11 rfl rfl ?_
    obtain ⟨fs, r3, ha, hv, hw⟩ := hw
    refine g_get (C := RX4) (T := TX4) (N := 2) V 0 rfl hin_RX4 (by decide) (by decide) ww_1_50 rfl ha hv dX4_add_12 rfl ?_
    obtain ⟨t9, vs, ha, ht, hw⟩ := hw
    refine gi_arraylength (t0 := 100) V (by simp [gaT]) ha ht dX4_add_15 rfl ?_
    generalize (vs.length : Int) = r4 at hw ⊢
    obtain ⟨hx0, hx1, hw⟩ := hw
    refine gi_icmp_ge V dX4_add_16 rfl rfl hx0 hx1 (fun q => ?_) (fun q => ?_)
    · have hw := ga_t q hw
      exact g_vret V rfl dX4_add_39 ⟨rfl, hw⟩
    · have hw := ga_f q hw
      refine g_aload_n V dX4_add_19 rfl rfl ?_
      obtain ⟨fs, r5, ha, hv, hw⟩ := hw
      refine g_get (C := RX4) (T := TX4) (N := 2) V 0 rfl hin_RX4 (by decide) (by decide) ww_1_50 rfl ha hv dX4_add_20 rfl ?_
      refine g_aload_n V dX4_add_23 rfl rfl ?_
      obtain ⟨fs, r6, ha, hv, hw⟩ := hw
      refine g_get (C := RX4) (T := TX4) (N := 2) V 1 rfl hin_RX4 (by decide) (by decide) ww_1_54 rfl ha hv dX4_add_24 rfl ?_
      refine g_iload_n V dX4_add_27 rfl rfl ?_
      obtain ⟨hb, hw⟩ := hw
      obtain ⟨vs, ha, h0, h9, hi, hw⟩ := hw
      refine gi_bastoreZ V hb ha h0 h9 hi dX4_add_28 rfl ?_
      generalize gaUp h r5 _ = h7 at hw ⊢
      refine g_aload_n V dX4_add_29 rfl rfl ?_
      refine g_dup V dX4_add_30 rfl rfl ?_
      obtain ⟨fs, r8, ha, hv, hw⟩ := hw
      refine g_get (C := RX4) (T := TX4) (N := 2) V 1 rfl hin_RX4 (by decide) (by decide) ww_1_54 rfl ha hv dX4_add_31 rfl ?_
      refine g_iconst V (Int32.ofInt 1) dX4_add_34 rfl rfl ?_
      refine gi_iadd V dX4_add_35 rfl ?_
      obtain ⟨fs, ha, hl, hw⟩ := hw
      refine g_put (C := RX4) (T := TX4) (N := 2) V 1 tyX4 tyX4_ok nmX4 rfl hin_RX4 (by decide) (by decide) ww_1_54 rfl rfl rfl rfl ha hl dX4_add_36 rfl ?_
      generalize gaUp h7 a0 _ = h9 at hw ⊢
      exact g_vret V rfl dX4_add_39 ⟨rfl, hw⟩
def w_X4_addPart_L3 (Q : gaH → Prop) : Nat → Nat → Nat → Int → Int → gaH → Prop
  | 0, _, _, _, _, _ => False
  | n + 1, v0, v1, v3, v4, h => gR v4 ∧ gR v3 ∧ (if v3 ≤ v4 then Q h else gHas h v1 4 ∧ w_X4_isUp v1 v4 h (fun r2 h1 => gHas h1 v0 4 ∧ w_X4_add v0 r2 h1 (fun h3 => w_X4_addPart_L3 Q n v0 v1 v3 (v4 + 1) h3)))
def w_X4_addPart (a0 : Nat) (a1 : Nat) (a2 : Int) (a3 : Int) (h : gaH) (Q : gaH → Prop) : Prop := ∃ n, w_X4_addPart_L3 Q n a0 a1 a3 a2 h
abbrev rm_X4_addPart : Room := { frames := 1, cells := 0, slots := 0, locals := 21 }
theorem hd_X4_addPart : yX4_addPart.cls = RX4 ∧ (yX4_addPart.cls ≠ "java/lang/invoke/MethodHandle" ∧ yX4_addPart.cls ≠ "java/lang/invoke/VarHandle" ∧ (parseMethodDescriptor yX4_addPart.desc).map (fun d => d.parameters.length) = some 3) := by decide +kernel
theorem k_X4_addPart {l : Launch} (hst : l.stackTraces = false) {G : gaG} {X : String → gaH → Prop} {a0 : Nat} {a1 : Nat} {a2 : Int} {a3 : Int} {h : gaH} {Q : gaH → Prop} (hw : w_X4_addPart a0 a1 a2 a3 h Q) : gaC l G yX4_addPart (gaM yX4_addPart cX4_addPart 5 ((none : Option Jvm.ClassFile.FieldType))) rm_X4_addPart [.ref a0, .ref a1, gi a2, gi a3] h (gQv Q) X := by
  refine g_start (lv := [some (.ref a0), some (.ref a1), some (gi a2), some (gi a3), none]) hpl_RX4 hst (Nat.le_of_ble_eq_true rfl) (gaArgs_pad (z := 1) rfl) ww_2_48 ?_
  intro p e s m args below meth c V hT
  have h_X4_addPart_L3 : ∀ (n : Nat), ∀ (v0 : Nat) (v1 : Nat) (v3 : Int) (v4 : Int) (h : gaH), w_X4_addPart_L3 Q n v0 v1 v3 v4 h → gaP p l e rm_X4_addPart s m args below meth c G 5 (gaZ below G (gQv Q) X args s rm_X4_addPart) 3 [some (.ref v0), some (.ref v1), none, some (gi v3), some (gi v4)] [] h 0 0 := by
    intro n
    induction n with
    | zero =>
      intro v0 v1 v3 v4 h hw
      exact hw.elim
    | succ n ih =>
      intro v0 v1 v3 v4 h hw
      unfold w_X4_addPart_L3 at hw
      refine g_iload V dX4_addPart_3 rfl rfl ?_
      refine g_iload_n V dX4_addPart_5 rfl rfl ?_
      obtain ⟨hx0, hx1, hw⟩ := hw
      refine gi_icmp_ge V dX4_addPart_6 rfl rfl hx0 hx1 (fun q => ?_) (fun q => ?_)
      · have hw := ga_t q hw
        exact g_vret V rfl dX4_addPart_25 ⟨rfl, hw⟩
      · have hw := ga_f q hw
        refine g_aload_n V dX4_addPart_9 rfl rfl ?_
        refine g_aload_n V dX4_addPart_10 rfl rfl ?_
        refine g_iload V dX4_addPart_11 rfl rfl ?_
        obtain ⟨hb, hw⟩ := hw
        obtain ⟨fb, hb⟩ := hb
        refine g_callV (C := RX4) (T := TX4) (N := 2) (st := [.ref v0]) V (k_X4_isUp hst hw) ww_1_227 ww_1_228 ww_1_229 ww_1_3 ww_1_230 hd_X4_isUp ⟨by decide, by decide⟩ rfl (by decide) hb rfl rfl (ga_cat rfl) dX4_addPart_13 (Nat.zero_le _) (Nat.zero_le _) rfl (gaX_all hT V) (ga_ki (fun r2 h1 hw => ?_))
        obtain ⟨hb, hw⟩ := hw
        obtain ⟨fb, hb⟩ := hb
        refine g_callV (C := RX4) (T := TX4) (N := 2) (st := []) V (k_X4_add hst hw) ww_1_231 ww_1_90 ww_1_91 ww_1_3 ww_1_92 hd_X4_add ⟨by decide, by decide⟩ rfl (by decide) hb rfl rfl (ga_cat rfl) dX4_addPart_16 (Nat.zero_le _) (Nat.zero_le _) rfl (gaX_all hT V) (ga_kv (fun h3 hw => ?_))
        refine gi_iinc (lv2 := [some (.ref v0), some (.ref v1), none, some (gi v3), some (gi (v4 + 1))]) V dX4_addPart_19 (by decide) rfl rfl rfl rfl ?_
        refine g_goto V dX4_addPart_22 rfl ?_
        exact ih v0 v1 v3 (v4 + 1) h3 hw
  unfold w_X4_addPart at hw
  refine g_iload_n V dX4_addPart_0 rfl rfl ?_
  refine g_istore (lv2 := [some (.ref a0), some (.ref a1), some (gi a2), some (gi a3), some (gi a2)]) V dX4_addPart_1 (by decide) rfl rfl rfl ?_
  refine g_less (bs := [true, true, false, true, true]) (lv2 := [some (.ref a0), some (.ref a1), none, some (gi a3), some (gi a2)]) rfl ?_
  obtain ⟨n, hw⟩ := hw
  exact h_X4_addPart_L3 n a0 a1 a3 a2 h hw
def w_X4_put (a0 : Nat) (a1 : Int) (a2 : Int) (h : gaH) (Q : gaH → Prop) : Prop := gR a1 ∧ (if a1 < 0 then Q h else gA h a0 4 0 (fun r1 => gAL h r1 100 (fun r2 => gR a1 ∧ gR r2 ∧ (if r2 ≤ a1 then Q h else gA h a0 4 0 (fun r3 => narrow .boolean (gi a2) = gi a2 ∧ gSI h r3 100 a1 (gi a2) (fun h4 => Q h4))))))
abbrev rm_X4_put : Room := { frames := 0, cells := 0, slots := 0, locals := 0 }
theorem hd_X4_put : yX4_put.cls = RX4 ∧ (yX4_put.cls ≠ "java/lang/invoke/MethodHandle" ∧ yX4_put.cls ≠ "java/lang/invoke/VarHandle" ∧ (parseMethodDescriptor yX4_put.desc).map (fun d => d.parameters.length) = some 2) := by decide +kernel
theorem k_X4_put {l : Launch} (hst : l.stackTraces = false) {G : gaG} {X : String → gaH → Prop} {a0 : Nat} {a1 : Int} {a2 : Int} {h : gaH} {Q : gaH → Prop} (hw : w_X4_put a0 a1 a2 h Q) : gaC l G yX4_put (gaM yX4_put cX4_put 3 ((none : Option Jvm.ClassFile.FieldType))) rm_X4_put [.ref a0, gi a1, gi a2] h (gQv Q) X := by
  refine g_start (lv := [some (.ref a0), some (gi a1), some (gi a2)]) hpl_RX4 hst (Nat.le_of_ble_eq_true rfl) (gaArgs_pad (z := 0) rfl) ww_2_56 ?_
  intro p e s m args below meth c V hT
  unfold w_X4_put at hw
  refine g_iload_n V dX4_put_0 rfl rfl ?_
  obtain ⟨hx0, hw⟩ := hw
  refine gi_if_lt V dX4_put_1 rfl rfl hx0 (fun q => ?_) (fun q => ?_)
  · have hw := ga_t q hw
    exact g_vret V rfl dX4_put_20 ⟨rfl, hw⟩
  · have hw := ga_f q hw
    refine g_iload_n V dX4_put_4 rfl rfl ?_
    refine g_aload_n V dX4_put_5 rfl rfl ?_
    obtain ⟨fs, r1, ha, hv, hw⟩ := hw
    refine g_get (C := RX4) (T := TX4) (N := 2) V 0 rfl hin_RX4 (by decide) (by decide) ww_1_50 rfl ha hv dX4_put_6 rfl ?_
    obtain ⟨t9, vs, ha, ht, hw⟩ := hw
    refine gi_arraylength (t0 := 100) V (by simp [gaT]) ha ht dX4_put_9 rfl ?_
    generalize (vs.length : Int) = r2 at hw ⊢
    obtain ⟨hx0, hx1, hw⟩ := hw
    refine gi_icmp_ge V dX4_put_10 rfl rfl hx0 hx1 (fun q => ?_) (fun q => ?_)
    · have hw := ga_t q hw
      exact g_vret V rfl dX4_put_20 ⟨rfl, hw⟩
    · have hw := ga_f q hw
      refine g_aload_n V dX4_put_13 rfl rfl ?_
      obtain ⟨fs, r3, ha, hv, hw⟩ := hw
      refine g_get (C := RX4) (T := TX4) (N := 2) V 0 rfl hin_RX4 (by decide) (by decide) ww_1_50 rfl ha hv dX4_put_14 rfl ?_
      refine g_iload_n V dX4_put_17 rfl rfl ?_
      refine g_iload_n V dX4_put_18 rfl rfl ?_
      obtain ⟨hb, hw⟩ := hw
      obtain ⟨vs, ha, h0, h9, hi, hw⟩ := hw
      refine gi_bastoreZ V hb ha h0 h9 hi dX4_put_19 rfl ?_
      generalize gaUp h r3 _ = h4 at hw ⊢
      exact g_vret V rfl dX4_put_20 ⟨rfl, hw⟩
def w_X4_take_L2 (Q : gaH → Prop) : Nat → Nat → Nat → Int → gaH → Prop
  | 0, _, _, _, _ => False
  | n + 1, v0, v1, v2, h => gI h v1 4 1 (fun r1 => gR v2 ∧ gR r1 ∧ (if r1 ≤ v2 then gI h v1 4 1 (fun r2 => gPF h v0 4 1 (gi r2) (fun h3 => Q h3)) else gHas h v1 4 ∧ w_X4_isUp v1 v2 h (fun r5 h4 => gHas h4 v0 4 ∧ w_X4_put v0 v2 r5 h4 (fun h6 => w_X4_take_L2 Q n v0 v1 (v2 + 1) h6))))
def w_X4_take (a0 : Nat) (a1 : Nat) (h : gaH) (Q : gaH → Prop) : Prop := ∃ n, w_X4_take_L2 Q n a0 a1 0 h
abbrev rm_X4_take : Room := { frames := 1, cells := 0, slots := 0, locals := 22 }
theorem hd_X4_take : yX4_take.cls = RX4 ∧ (yX4_take.cls ≠ "java/lang/invoke/MethodHandle" ∧ yX4_take.cls ≠ "java/lang/invoke/VarHandle" ∧ (parseMethodDescriptor yX4_take.desc).map (fun d => d.parameters.length) = some 1) := by decide +kernel
theorem k_X4_take {l : Launch} (hst : l.stackTraces = false) {G : gaG} {X : String → gaH → Prop} {a0 : Nat} {a1 : Nat} {h : gaH} {Q : gaH → Prop} (hw : w_X4_take a0 a1 h Q) : gaC l G yX4_take (gaM yX4_take cX4_take 3 ((none : Option Jvm.ClassFile.FieldType))) rm_X4_take [.ref a0, .ref a1] h (gQv Q) X := by
  refine g_start (lv := [some (.ref a0), some (.ref a1), none]) hpl_RX4 hst (Nat.le_of_ble_eq_true rfl) (gaArgs_pad (z := 1) rfl) ww_2_52 ?_
  intro p e s m args below meth c V hT
  have h_X4_take_L2 : ∀ (n : Nat), ∀ (v0 : Nat) (v1 : Nat) (v2 : Int) (h : gaH), w_X4_take_L2 Q n v0 v1 v2 h → gaP p l e rm_X4_take s m args below meth c G 3 (gaZ below G (gQv Q) X args s rm_X4_take) 2 [some (.ref v0), some (.ref v1), some (gi v2)] [] h 0 0 := by
    intro n
    induction n with
    | zero =>
      intro v0 v1 v2 h hw
      exact hw.elim
    | succ n ih =>
      intro v0 v1 v2 h hw
      unfold w_X4_take_L2 at hw
      refine g_iload_n V dX4_take_2 rfl rfl ?_
      refine g_aload_n V dX4_take_3 rfl rfl ?_
      obtain ⟨fs, r1, ha, hv, hw⟩ := hw
      refine g_get (C := RX4) (T := TX4) (N := 2) V 1 rfl hin_RX4 (by decide) (by decide) ww_1_54 rfl ha hv dX4_take_4 rfl ?_
      obtain ⟨hx0, hx1, hw⟩ := hw
      refine gi_icmp_ge V dX4_take_7 rfl rfl hx0 hx1 (fun q => ?_) (fun q => ?_)
      · have hw := ga_t q hw
        refine g_aload_n V dX4_take_26 rfl rfl ?_
        refine g_aload_n V dX4_take_27 rfl rfl ?_
        obtain ⟨fs, r2, ha, hv, hw⟩ := hw
        refine g_get (C := RX4) (T := TX4) (N := 2) V 1 rfl hin_RX4 (by decide) (by decide) ww_1_54 rfl ha hv dX4_take_28 rfl ?_
        obtain ⟨fs, ha, hl, hw⟩ := hw
        refine g_put (C := RX4) (T := TX4) (N := 2) V 1 tyX4 tyX4_ok nmX4 rfl hin_RX4 (by decide) (by decide) ww_1_54 rfl rfl rfl rfl ha hl dX4_take_31 rfl ?_
        generalize gaUp h v0 _ = h3 at hw ⊢
        exact g_vret V rfl dX4_take_34 ⟨rfl, hw⟩
      · have hw := ga_f q hw
        refine g_aload_n V dX4_take_10 rfl rfl ?_
        refine g_iload_n V dX4_take_11 rfl rfl ?_
        refine g_aload_n V dX4_take_12 rfl rfl ?_
        refine g_iload_n V dX4_take_13 rfl rfl ?_
        obtain ⟨hb, hw⟩ := hw
        obtain ⟨fb, hb⟩ := hb
        refine g_callV (C := RX4) (T := TX4) (N := 2) (st := [gi v2, .ref v0]) V (k_X4_isUp hst hw) ww_1_227 ww_1_228 ww_1_229 ww_1_3 ww_1_230 hd_X4_isUp ⟨by decide, by decide⟩ rfl (by decide) hb rfl rfl (ga_cat rfl) dX4_take_14 (Nat.zero_le _) (Nat.zero_le _) rfl (gaX_all hT V) (ga_ki (fun r5 h4 hw => ?_))
        obtain ⟨hb, hw⟩ := hw
        obtain ⟨fb, hb⟩ := hb
        refine g_callV (C := RX4) (T := TX4) (N := 2) (st := []) V (k_X4_put hst hw) ww_2_53 ww_2_54 ww_2_55 ww_1_3 ww_2_56 hd_X4_put ⟨by decide, by decide⟩ rfl (by decide) hb rfl rfl (ga_cat rfl) dX4_take_17 (Nat.zero_le _) (Nat.zero_le _) rfl (gaX_all hT V) (ga_kv (fun h6 hw => ?_))
        refine gi_iinc (lv2 := [some (.ref v0), some (.ref v1), some (gi (v2 + 1))]) V dX4_take_20 (by decide) rfl rfl rfl rfl ?_
        refine g_goto V dX4_take_23 rfl ?_
        exact ih v0 v1 (v2 + 1) h6 hw
  unfold w_X4_take at hw
  refine g_iconst V (Int32.ofInt 0) dX4_take_0 rfl rfl ?_
  refine g_istore_n (lv2 := [some (.ref a0), some (.ref a1), some (gi 0)]) V dX4_take_1 (by decide) rfl rfl rfl ?_
  obtain ⟨n, hw⟩ := hw
  exact h_X4_take_L2 n a0 a1 0 h hw
def w_X4_takeCode_J48 (Q : gaH → Prop) (K9 : Nat → Int → Int → Int → gaH → Prop) (v0 : Nat) (v1 : Int) (v3 : Int) (h : gaH) : Prop := K9 v0 v1 1 (v3 + (-1)) h
def w_X4_takeCode_J39 (Q : gaH → Prop) (K9 : Nat → Int → Int → Int → gaH → Prop) (v0 : Nat) (v1 : Int) (v2 : Int) (v3 : Int) (v4 : Int) (h : gaH) : Prop := gR v2 ∧ (if v2 = 0 then gR v4 ∧ (if v4 = 0 then K9 v0 v1 0 (v3 + (-1)) h else w_X4_takeCode_J48 Q K9 v0 v1 v3 h) else w_X4_takeCode_J48 Q K9 v0 v1 v3 h)
def w_X4_takeCode_J27 (Q : gaH → Prop) (K9 : Nat → Int → Int → Int → gaH → Prop) (v0 : Nat) (v1 : Int) (v2 : Int) (v3 : Int) (t0 : Int) (h : gaH) : Prop := gR v2 ∧ (if v2 = 0 then w_X4_takeCode_J39 Q K9 v0 v1 v2 v3 t0 h else gHas h v0 4 ∧ w_X4_add v0 t0 h (fun h1 => w_X4_takeCode_J39 Q K9 v0 v1 v2 v3 t0 h1))
def w_X4_takeCode_L9 (Q : gaH → Prop) : Nat → Nat → Int → Int → Int → gaH → Prop
  | 0, _, _, _, _, _ => False
  | n + 1, v0, v1, v2, v3, h => gR v3 ∧ (if v3 < 0 then Q h else gR (gAnd (gShr v1 v3) 1) ∧ (if (gAnd (gShr v1 v3) 1) = 1 then w_X4_takeCode_J27 Q (w_X4_takeCode_L9 Q n) v0 v1 v2 v3 1 h else w_X4_takeCode_J27 Q (w_X4_takeCode_L9 Q n) v0 v1 v2 v3 0 h))
def w_X4_takeCode (a0 : Nat) (a1 : Int) (h : gaH) (Q : gaH → Prop) : Prop := gHas h a0 4 ∧ w_X4_clear a0 h (fun h1 => ∃ n, w_X4_takeCode_L9 Q n a0 a1 0 15 h1)
abbrev rm_X4_takeCode : Room := { frames := 1, cells := 0, slots := 0, locals := 21 }
theorem hd_X4_takeCode : yX4_takeCode.cls = RX4 ∧ (yX4_takeCode.cls ≠ "java/lang/invoke/MethodHandle" ∧ yX4_takeCode.cls ≠ "java/lang/invoke/VarHandle" ∧ (parseMethodDescriptor yX4_takeCode.desc).map (fun d => d.parameters.length) = some 1) := by decide +kernel
theorem k_X4_takeCode {l : Launch} (hst : l.stackTraces = false) {G : gaG} {X : String → gaH → Prop} {a0 : Nat} {a1 : Int} {h : gaH} {Q : gaH → Prop} (hw : w_X4_takeCode a0 a1 h Q) : gaC l G yX4_takeCode (gaM yX4_takeCode cX4_takeCode 5 ((none : Option Jvm.ClassFile.FieldType))) rm_X4_takeCode [.ref a0, gi a1] h (gQv Q) X := by
  refine g_start (lv := [some (.ref a0), some (gi a1), none, none, none]) hpl_RX4 hst (Nat.le_of_ble_eq_true rfl) (gaArgs_pad (z := 3) rfl) ww_2_38 ?_
  intro p e s m args below meth c V hT
  have h_X4_takeCode_J48 : ∀ (K9 : Nat → Int → Int → Int → gaH → Prop), ∀ (hK9 : ∀ (v0 : Nat) (v1 : Int) (v2 : Int) (v3 : Int) (h : gaH), K9 v0 v1 v2 v3 h → gaP p l e rm_X4_takeCode s m args below meth c G 5 (gaZ below G (gQv Q) X args s rm_X4_takeCode) 9 [some (.ref v0), some (gi v1), some (gi v2), some (gi v3), none] [] h 0 0), ∀ (v0 : Nat) (v1 : Int) (v3 : Int) (h : gaH), w_X4_takeCode_J48 Q K9 v0 v1 v3 h → gaP p l e rm_X4_takeCode s m args below meth c G 5 (gaZ below G (gQv Q) X args s rm_X4_takeCode) 48 [some (.ref v0), some (gi v1), none, some (gi v3), none] [] h 0 0 := by
    intro K9 hK9
    intro v0 v1 v3 h hw
    unfold w_X4_takeCode_J48 at hw
    refine g_iconst V (Int32.ofInt 1) dX4_takeCode_48 rfl rfl ?_
    refine g_goto V dX4_takeCode_49 rfl ?_
    refine g_istore_n (lv2 := [some (.ref v0), some (gi v1), some (gi 1), some (gi v3), none]) V dX4_takeCode_53 (by decide) rfl rfl rfl ?_
    refine gi_iinc (lv2 := [some (.ref v0), some (gi v1), some (gi 1), some (gi (v3 + (-1))), none]) V dX4_takeCode_54 (by decide) rfl rfl rfl rfl ?_
    refine g_goto V dX4_takeCode_57 rfl ?_
    exact hK9 v0 v1 1 (v3 + (-1)) h hw
  have h_X4_takeCode_J39 : ∀ (K9 : Nat → Int → Int → Int → gaH → Prop), ∀ (hK9 : ∀ (v0 : Nat) (v1 : Int) (v2 : Int) (v3 : Int) (h : gaH), K9 v0 v1 v2 v3 h → gaP p l e rm_X4_takeCode s m args below meth c G 5 (gaZ below G (gQv Q) X args s rm_X4_takeCode) 9 [some (.ref v0), some (gi v1), some (gi v2), some (gi v3), none] [] h 0 0), ∀ (v0 : Nat) (v1 : Int) (v2 : Int) (v3 : Int) (v4 : Int) (h : gaH), w_X4_takeCode_J39 Q K9 v0 v1 v2 v3 v4 h → gaP p l e rm_X4_takeCode s m args below meth c G 5 (gaZ below G (gQv Q) X args s rm_X4_takeCode) 39 [some (.ref v0), some (gi v1), some (gi v2), some (gi v3), some (gi v4)] [] h 0 0 := by
    intro K9 hK9
    intro v0 v1 v2 v3 v4 h hw
    unfold w_X4_takeCode_J39 at hw
    refine g_iload_n V dX4_takeCode_39 rfl rfl ?_
    obtain ⟨hx0, hw⟩ := hw
    refine gi_if_ne V dX4_takeCode_40 rfl rfl hx0 (fun q => ?_) (fun q => ?_)
    · have hw := ga_f q hw
      refine g_less (bs := [true, true, false, true, false]) (lv2 := [some (.ref v0), some (gi v1), none, some (gi v3), none]) rfl ?_
      exact h_X4_takeCode_J48 K9 hK9 v0 v1 v3 h hw
    · have hw := ga_t q hw
      refine g_iload V dX4_takeCode_43 rfl rfl ?_
      obtain ⟨hx0, hw⟩ := hw
      refine gi_if_eq V dX4_takeCode_45 rfl rfl hx0 (fun q => ?_) (fun q => ?_)
      · have hw := ga_t q hw
        refine g_iconst V (Int32.ofInt 0) dX4_takeCode_52 rfl rfl ?_
        refine g_istore_n (lv2 := [some (.ref v0), some (gi v1), some (gi 0), some (gi v3), some (gi v4)]) V dX4_takeCode_53 (by decide) rfl rfl rfl ?_
        refine gi_iinc (lv2 := [some (.ref v0), some (gi v1), some (gi 0), some (gi (v3 + (-1))), some (gi v4)]) V dX4_takeCode_54 (by decide) rfl rfl rfl rfl ?_
        refine g_goto V dX4_takeCode_57 rfl ?_
        refine g_less (bs := [true, true, true, true, false]) (lv2 := [some (.ref v0), some (gi v1), some (gi 0), some (gi (v3 + (-1))), none]) rfl ?_
        exact hK9 v0 v1 0 (v3 + (-1)) h hw
      · have hw := ga_f q hw
        refine g_less (bs := [true, true, false, true, false]) (lv2 := [some (.ref v0), some (gi v1), none, some (gi v3), none]) rfl ?_
        exact h_X4_takeCode_J48 K9 hK9 v0 v1 v3 h hw
  have h_X4_takeCode_J27 : ∀ (K9 : Nat → Int → Int → Int → gaH → Prop), ∀ (hK9 : ∀ (v0 : Nat) (v1 : Int) (v2 : Int) (v3 : Int) (h : gaH), K9 v0 v1 v2 v3 h → gaP p l e rm_X4_takeCode s m args below meth c G 5 (gaZ below G (gQv Q) X args s rm_X4_takeCode) 9 [some (.ref v0), some (gi v1), some (gi v2), some (gi v3), none] [] h 0 0), ∀ (v0 : Nat) (v1 : Int) (v2 : Int) (v3 : Int) (t0 : Int) (h : gaH), w_X4_takeCode_J27 Q K9 v0 v1 v2 v3 t0 h → gaP p l e rm_X4_takeCode s m args below meth c G 5 (gaZ below G (gQv Q) X args s rm_X4_takeCode) 27 [some (.ref v0), some (gi v1), some (gi v2), some (gi v3), none] [gi t0] h 0 0 := by
    intro K9 hK9
    intro v0 v1 v2 v3 t0 h hw
    unfold w_X4_takeCode_J27 at hw
    refine g_istore (lv2 := [some (.ref v0), some (gi v1), some (gi v2), some (gi v3), some (gi t0)]) V dX4_takeCode_27 (by decide) rfl rfl rfl ?_
    refine g_iload_n V dX4_takeCode_29 rfl rfl ?_
    obtain ⟨hx0, hw⟩ := hw
    refine gi_if_eq V dX4_takeCode_30 rfl rfl hx0 (fun q => ?_) (fun q => ?_)
    · have hw := ga_t q hw
      exact h_X4_takeCode_J39 K9 hK9 v0 v1 v2 v3 t0 h hw
    · have hw := ga_f q hw
      refine g_aload_n V dX4_takeCode_33 rfl rfl ?_
      refine g_iload V dX4_takeCode_34 rfl rfl ?_
      obtain ⟨hb, hw⟩ := hw
      obtain ⟨fb, hb⟩ := hb
      refine g_callV (C := RX4) (T := TX4) (N := 2) (st := []) V (k_X4_add hst hw) ww_1_231 ww_1_90 ww_1_91 ww_1_3 ww_1_92 hd_X4_add ⟨by decide, by decide⟩ rfl (by decide) hb rfl rfl (ga_cat rfl) dX4_takeCode_36 (Nat.zero_le _) (Nat.zero_le _) rfl (gaX_all hT V) (ga_kv (fun h1 hw => ?_))
      exact h_X4_takeCode_J39 K9 hK9 v0 v1 v2 v3 t0 h1 hw
  have h_X4_takeCode_L9 : ∀ (n : Nat), ∀ (v0 : Nat) (v1 : Int) (v2 : Int) (v3 : Int) (h : gaH), w_X4_takeCode_L9 Q n v0 v1 v2 v3 h → gaP p l e rm_X4_takeCode s m args below meth c G 5 (gaZ below G (gQv Q) X args s rm_X4_takeCode) 9 [some (.ref v0), some (gi v1), some (gi v2), some (gi v3), none] [] h 0 0 := by
    intro n
    induction n with
    | zero =>
      intro v0 v1 v2 v3 h hw
      exact hw.elim
    | succ n ih =>
      intro v0 v1 v2 v3 h hw
      unfold w_X4_takeCode_L9 at hw
      refine g_iload_n V dX4_takeCode_9 rfl rfl ?_
      obtain ⟨hx0, hw⟩ := hw
      refine gi_if_lt V dX4_takeCode_10 rfl rfl hx0 (fun q => ?_) (fun q => ?_)
      · have hw := ga_t q hw
        exact g_vret V rfl dX4_takeCode_60 ⟨rfl, hw⟩
      · have hw := ga_f q hw
        refine g_iload_n V dX4_takeCode_13 rfl rfl ?_
        refine g_iload_n V dX4_takeCode_14 rfl rfl ?_
        refine gi_ishr V dX4_takeCode_15 rfl ?_
        refine g_iconst V (Int32.ofInt 1) dX4_takeCode_16 rfl rfl ?_
        refine gi_iand V dX4_takeCode_17 rfl ?_
        refine g_iconst V (Int32.ofInt 1) dX4_takeCode_18 rfl rfl ?_
        obtain ⟨hx0, hw⟩ := hw
        refine gi_icmp_ne V dX4_takeCode_19 rfl rfl hx0 (by decide) (fun q => ?_) (fun q => ?_)
        · have hw := ga_f q hw
          refine g_iconst V (Int32.ofInt 0) dX4_takeCode_26 rfl rfl ?_
          exact h_X4_takeCode_J27 (w_X4_takeCode_L9 Q n) ih v0 v1 v2 v3 0 h hw
        · have hw := ga_t q hw
          refine g_iconst V (Int32.ofInt 1) dX4_takeCode_22 rfl rfl ?_
          refine g_goto V dX4_takeCode_23 rfl ?_
          exact h_X4_takeCode_J27 (w_X4_takeCode_L9 Q n) ih v0 v1 v2 v3 1 h hw
  unfold w_X4_takeCode at hw
  refine g_aload_n V dX4_takeCode_0 rfl rfl ?_
  obtain ⟨hb, hw⟩ := hw
  obtain ⟨fb, hb⟩ := hb
  refine g_callV (C := RX4) (T := TX4) (N := 2) (st := []) V (k_X4_clear hst hw) ww_1_226 ww_1_86 ww_1_87 ww_1_3 ww_1_88 hd_X4_clear ⟨by decide, by decide⟩ rfl (by decide) hb rfl rfl (ga_cat rfl) dX4_takeCode_1 (Nat.zero_le _) (Nat.zero_le _) rfl (gaX_all hT V) (ga_kv (fun h1 hw => ?_))
  refine g_iconst V (Int32.ofInt 0) dX4_takeCode_4 rfl rfl ?_
  refine g_istore_n (lv2 := [some (.ref a0), some (gi a1), some (gi 0), none, none]) V dX4_takeCode_5 (by decide) rfl rfl rfl ?_
  refine g_bipush V (Int32.ofInt 15) dX4_takeCode_6 rfl rfl ?_
  refine g_istore_n (lv2 := [some (.ref a0), some (gi a1), some (gi 0), some (gi 15), none]) V dX4_takeCode_8 (by decide) rfl rfl rfl ?_
  obtain ⟨n, hw⟩ := hw
  exact h_X4_takeCode_L9 n a0 a1 0 15 h1 hw
def w_X2_take (a0 : Nat) (a1 : Int) (a2 : Int) (h : gaH) (Q : gaH → Prop) : Prop := gA h a0 3 0 (fun r1 => gHas h r1 4 ∧ w_X4_takeCode r1 a1 h (fun h2 => gA h2 a0 3 1 (fun r4 => gHas h2 r4 4 ∧ w_X4_takeCode r4 a2 h2 (fun h5 => Q h5))))
abbrev rm_X2_take : Room := { frames := 2, cells := 0, slots := 0, locals := 45 }
theorem hd_X2_take : yX2_take.cls = RX2 ∧ (yX2_take.cls ≠ "java/lang/invoke/MethodHandle" ∧ yX2_take.cls ≠ "java/lang/invoke/VarHandle" ∧ (parseMethodDescriptor yX2_take.desc).map (fun d => d.parameters.length) = some 2) := by decide +kernel
theorem k_X2_take {l : Launch} (hst : l.stackTraces = false) {G : gaG} {X : String → gaH → Prop} {a0 : Nat} {a1 : Int} {a2 : Int} {h : gaH} {Q : gaH → Prop} (hw : w_X2_take a0 a1 a2 h Q) : gaC l G yX2_take (gaM yX2_take cX2_take 3 ((none : Option Jvm.ClassFile.FieldType))) rm_X2_take [.ref a0, gi a1, gi a2] h (gQv Q) X := by
  refine g_start (lv := [some (.ref a0), some (gi a1), some (gi a2)]) hpl_RX2 hst (Nat.le_of_ble_eq_true rfl) (gaArgs_pad (z := 0) rfl) ww_2_34 ?_
  intro p e s m args below meth c V hT
  unfold w_X2_take at hw
  refine g_aload_n V dX2_take_0 rfl rfl ?_
  obtain ⟨fs, r1, ha, hv, hw⟩ := hw
  refine g_get (C := RX2) (T := TX2) (N := 3) V 0 rfl hin_RX2 (by decide) (by decide) ww_1_63 rfl ha hv dX2_take_1 rfl ?_
  refine g_iload_n V dX2_take_4 rfl rfl ?_
  obtain ⟨hb, hw⟩ := hw
  obtain ⟨fb, hb⟩ := hb
  refine g_callV (C := RX4) (T := TX4) (N := 2) (st := []) V (k_X4_takeCode hst hw) ww_2_35 ww_2_36 ww_2_37 ww_1_3 ww_2_38 hd_X4_takeCode ⟨by decide, by decide⟩ rfl (by decide) hb rfl rfl (ga_cat rfl) dX2_take_5 (Nat.zero_le _) (Nat.zero_le _) rfl (gaX_all hT V) (ga_kv (fun h2 hw => ?_))
  refine g_aload_n V dX2_take_8 rfl rfl ?_
  obtain ⟨fs, r4, ha, hv, hw⟩ := hw
  refine g_get (C := RX2) (T := TX2) (N := 3) V 1 rfl hin_RX2 (by decide) (by decide) ww_1_64 rfl ha hv dX2_take_9 rfl ?_
  refine g_iload_n V dX2_take_12 rfl rfl ?_
  obtain ⟨hb, hw⟩ := hw
  obtain ⟨fb, hb⟩ := hb
  refine g_callV (C := RX4) (T := TX4) (N := 2) (st := []) V (k_X4_takeCode hst hw) ww_2_35 ww_2_36 ww_2_37 ww_1_3 ww_2_38 hd_X4_takeCode ⟨by decide, by decide⟩ rfl (by decide) hb rfl rfl (ga_cat rfl) dX2_take_13 (Nat.zero_le _) (Nat.zero_le _) rfl (gaX_all hT V) (ga_kv (fun h5 hw => ?_))
  exact g_vret V rfl dX2_take_16 ⟨rfl, hw⟩
