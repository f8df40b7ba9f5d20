def w_X4_isUp (a0 : Nat) (a1 : Int) (h : gaH) (Q : Int → gaH → Prop) : Prop := gR a1 ∧ (if a1 < 0 then Q 0 h else gA h a0 4 0 (fun r1 => gAL h r1 100 (fun r2 => gR a1 ∧ gR r2 ∧ (if r2 ≤ a1 then Q 0 h else gA h a0 4 0 (fun r3 => gLI h r3 100 a1 (fun r4 => gR r4 ∧ (if r4 = 0 then Q 0 h else Q 1 h)))))))
abbrev rm_X4_isUp : Room := { frames := 0, cells := 0, slots := 0, locals := 0 }
theorem hd_X4_isUp : yX4_isUp.cls = RX4 ∧ (yX4_isUp.cls ≠ "java/lang/invoke/MethodHandle" ∧ yX4_isUp.cls ≠ "java/lang/invoke/VarHandle" ∧ (parseMethodDescriptor yX4_isUp.desc).map (fun d => d.parameters.length) = some 1) := by decide +kernel
theorem k_X4_isUp {l : Launch} (hst : l.stackTraces = false) {G : gaG} {X : String → gaH → Prop} {a0 : Nat} {a1 : Int} {h : gaH} {Q : Int → gaH → Prop} (hw : w_X4_isUp a0 a1 h Q) : gaC l G yX4_isUp (gaM yX4_isUp cX4_isUp 2 ((some .boolean))) rm_X4_isUp [.ref a0, gi a1] h (gQi Q) X := by
  refine g_start (lv := [some (.ref a0), some (gi a1)]) hpl_RX4 hst (Nat.le_of_ble_eq_true rfl) (gaArgs_pad (z := 0) rfl) ww_1_230 ?_
  intro p e s m args below meth c V hT
  unfold w_X4_isUp at hw
  refine g_iload_n V dX4_isUp_0 rfl rfl ?_
  obtain ⟨hx0, hw⟩ := hw
  refine gi_if_lt V dX4_isUp_1 rfl rfl hx0 (fun q => ?_) (fun q => ?_)
  · have hw := ga_t q hw
    refine g_iconst V (Int32.ofInt 0) dX4_isUp_26 rfl rfl ?_
    exact g_iret V rfl rfl dX4_isUp_27 ⟨_, rfl, hw⟩
  · have hw := ga_f q hw
    refine g_iload_n V dX4_isUp_4 rfl rfl ?_
    refine g_aload_n V dX4_isUp_5 rfl rfl ?_
    obtain ⟨fs, r1, ha, hv, hw⟩ := hw
    refine g_get (C := RX4) (T := TX4) (N := 2) V 0 rfl hin_RX4 (by decide) (by decide) ww_1_50 rfl ha hv dX4_isUp_6 rfl ?_
    obtain ⟨t9, vs, ha, ht, hw⟩ := hw
    refine gi_arraylength (t0 := 100) V (by simp [gaT]) ha ht dX4_isUp_9 rfl ?_
    generalize (vs.length : Int) = r2 at hw ⊢
    obtain ⟨hx0, hx1, hw⟩ := hw
    refine gi_icmp_ge V dX4_isUp_10 rfl rfl hx0 hx1 (fun q => ?_) (fun q => ?_)
    · have hw := ga_t q hw
      refine g_iconst V (Int32.ofInt 0) dX4_isUp_26 rfl rfl ?_
      exact g_iret V rfl rfl dX4_isUp_27 ⟨_, rfl, hw⟩
    · have hw := ga_f q hw
      refine g_aload_n V dX4_isUp_13 rfl rfl ?_
      obtain ⟨fs, r3, ha, hv, hw⟩ := hw
      refine g_get (C := RX4) (T := TX4) (N := 2) V 0 rfl hin_RX4 (by decide) (by decide) ww_1_50 rfl ha hv dX4_isUp_14 rfl ?_
      refine g_iload_n V dX4_isUp_17 rfl rfl ?_
      obtain ⟨t9, vs, r4, ha, ht, h0, h9, hv, hw⟩ := hw
      refine gi_baloadZ V ha ht h0 h9 hv dX4_isUp_18 rfl ?_
      obtain ⟨hx0, hw⟩ := hw
      refine gi_if_eq V dX4_isUp_19 rfl rfl hx0 (fun q => ?_) (fun q => ?_)
      · have hw := ga_t q hw
        refine g_iconst V (Int32.ofInt 0) dX4_isUp_26 rfl rfl ?_
        exact g_iret V rfl rfl dX4_isUp_27 ⟨_, rfl, hw⟩
      · have hw := ga_f q hw
        refine g_iconst V (Int32.ofInt 1) dX4_isUp_22 rfl rfl ?_
        refine g_goto V dX4_isUp_23 rfl ?_
        exact g_iret V rfl rfl dX4_isUp_27 ⟨_, rfl, hw⟩
def w_X1_isUpJoined (a0 : Nat) (a1 : Nat) (a2 : Int) (h : gaH) (Q : Int → gaH → Prop) : Prop := gI h a0 4 1 (fun r1 => gR a2 ∧ gR r1 ∧ (if r1 ≤ a2 then gI h a0 4 1 (fun r2 => gHas h a1 4 ∧ w_X4_isUp a1 (a2 - r2) h (fun r4 hp3 => narrow .boolean (gi r4) = gi r4 ∧ Q r4 hp3)) else gHas h a0 4 ∧ w_X4_isUp a0 a2 h (fun r6 hp5 => narrow .boolean (gi r6) = gi r6 ∧ Q r6 hp5)))
abbrev rm_X1_isUpJoined : Room := { frames := 1, cells := 0, slots := 0, locals := 21 }
theorem hd_X1_isUpJoined : (yX1_isUpJoined.cls ≠ "java/lang/invoke/MethodHandle" ∧ yX1_isUpJoined.cls ≠ "java/lang/invoke/VarHandle" ∧ (parseMethodDescriptor yX1_isUpJoined.desc).map (fun d => d.parameters.length) = some 3) := by decide +kernel
theorem k_X1_isUpJoined {l : Launch} (hst : l.stackTraces = false) {G : gaG} {X : String → gaH → Prop} {a0 : Nat} {a1 : Nat} {a2 : Int} {h : gaH} {Q : Int → gaH → Prop} (hw : w_X1_isUpJoined a0 a1 a2 h Q) : gaC l G yX1_isUpJoined (gaM yX1_isUpJoined cX1_isUpJoined 3 ((some .boolean))) rm_X1_isUpJoined [.ref a0, .ref a1, gi a2] h (gQi Q) X := by
  refine g_start (lv := [some (.ref a0), some (.ref a1), some (gi a2)]) hpl_RX1 hst (Nat.le_of_ble_eq_true rfl) (gaArgs_pad (z := 0) rfl) ww_2_81 ?_
  intro p e s m args below meth c V hT
  unfold w_X1_isUpJoined at hw
  refine g_iload_n V dX1_isUpJoined_0 rfl rfl ?_
  refine g_aload_n V dX1_isUpJoined_1 rfl rfl ?_
  obtain ⟨fs, r1, ha, hv, hw⟩ := hw
  refine g_getN (C := RX4) (T := TX4) (N := 2) (host := "Wordgarden") V 1 rfl hin_RX4 (by decide) (by decide) gn_2 rfl ha hv dX1_isUpJoined_2 rfl ?_
  obtain ⟨hx0, hx1, hw⟩ := hw
  refine gi_icmp_ge V dX1_isUpJoined_5 rfl rfl hx0 hx1 (fun q => ?_) (fun q => ?_)
  · have hw := ga_t q hw
    refine g_aload_n V dX1_isUpJoined_16 rfl rfl ?_
    refine g_iload_n V dX1_isUpJoined_17 rfl rfl ?_
    refine g_aload_n V dX1_isUpJoined_18 rfl rfl ?_
    obtain ⟨fs, r2, ha, hv, hw⟩ := hw
    refine g_getN (C := RX4) (T := TX4) (N := 2) (host := "Wordgarden") V 1 rfl hin_RX4 (by decide) (by decide) gn_2 rfl ha hv dX1_isUpJoined_19 rfl ?_
    refine gi_isub V dX1_isUpJoined_22 rfl ?_
    obtain ⟨hb, hw⟩ := hw
    obtain ⟨fb, hb⟩ := hb
    refine g_callV (C := RX4) (T := TX4) (N := 2) (st := []) V (k_X4_isUp hst hw) ww_1_239 ww_1_228 ww_1_229 ww_1_3 ww_1_230 hd_X4_isUp ⟨by decide, by decide⟩ rfl (by decide) hb rfl rfl (ga_cat rfl) dX1_isUpJoined_23 (Nat.zero_le _) (Nat.zero_le _) rfl (gaX_all hT V) (ga_ki (fun r4 hp3 hw => ?_))
    exact g_iret V rfl hw.1 dX1_isUpJoined_26 ⟨_, rfl, hw.2⟩
  · have hw := ga_f q hw
    refine g_aload_n V dX1_isUpJoined_8 rfl rfl ?_
    refine g_iload_n V dX1_isUpJoined_9 rfl rfl ?_
    obtain ⟨hb, hw⟩ := hw
    obtain ⟨fb, hb⟩ := hb
    refine g_callV (C := RX4) (T := TX4) (N := 2) (st := []) V (k_X4_isUp hst hw) ww_1_239 ww_1_228 ww_1_229 ww_1_3 ww_1_230 hd_X4_isUp ⟨by decide, by decide⟩ rfl (by decide) hb rfl rfl (ga_cat rfl) dX1_isUpJoined_10 (Nat.zero_le _) (Nat.zero_le _) rfl (gaX_all hT V) (ga_ki (fun r6 hp5 hw => ?_))
    refine g_goto V dX1_isUpJoined_13 rfl ?_
    exact g_iret V rfl hw.1 dX1_isUpJoined_26 ⟨_, rfl, hw.2⟩
def w_X1_firstUnlikeJoined_L2 (Q : Int → gaH → Prop) : Nat → (Nat → Nat → Int → gaH → Prop)
  | 0 => fun _ _ _ _ => False
  | n + 1 => fun v0 v1 v2 h => gI h v0 4 1 (fun r1 => gI h v1 4 1 (fun r2 => gR v2 ∧ gR (r1 + r2) ∧ (if (r1 + r2) ≤ v2 then Q (-1) h else w_X1_isUpJoined v0 v1 v2 h (fun r4 hp3 => w_X1_isUpJoined v1 v0 v2 hp3 (fun r6 hp5 => gR r4 ∧ gR r6 ∧ (if r4 = r6 then w_X1_firstUnlikeJoined_L2 Q n v0 v1 (v2 + 1) hp5 else Q v2 hp5))))))
def w_X1_firstUnlikeJoined (a0 : Nat) (a1 : Nat) (h : gaH) (Q : Int → gaH → Prop) : Prop := ∃ z, w_X1_firstUnlikeJoined_L2 Q z a0 a1 0 h
abbrev rm_X1_firstUnlikeJoined : Room := { frames := 2, cells := 0, slots := 0, locals := 43 }
theorem hd_X1_firstUnlikeJoined : (yX1_firstUnlikeJoined.cls ≠ "java/lang/invoke/MethodHandle" ∧ yX1_firstUnlikeJoined.cls ≠ "java/lang/invoke/VarHandle" ∧ (parseMethodDescriptor yX1_firstUnlikeJoined.desc).map (fun d => d.parameters.length) = some 2) := by decide +kernel
theorem k_X1_firstUnlikeJoined {l : Launch} (hst : l.stackTraces = false) {G : gaG} {X : String → gaH → Prop} {a0 : Nat} {a1 : Nat} {h : gaH} {Q : Int → gaH → Prop} (hw : w_X1_firstUnlikeJoined a0 a1 h Q) : gaC l G yX1_firstUnlikeJoined (gaM yX1_firstUnlikeJoined cX1_firstUnlikeJoined 3 ((some .int))) rm_X1_firstUnlikeJoined [.ref a0, .ref a1] h (gQi Q) X := by
  refine g_start (lv := [some (.ref a0), some (.ref a1), none]) hpl_RX1 hst (Nat.le_of_ble_eq_true rfl) (gaArgs_pad (z := 1) rfl) ww_2_78 ?_
  intro p e s m args below meth c V hT
  have h_X1_firstUnlikeJoined_L2 : ∀ (n : Nat), ∀ (v0 : Nat) (v1 : Nat) (v2 : Int) (h : gaH), w_X1_firstUnlikeJoined_L2 Q n v0 v1 v2 h → gaP p l e rm_X1_firstUnlikeJoined s m args below meth c G 3 (gaZ below G (gQi Q) X args s rm_X1_firstUnlikeJoined) 2 [some (.ref v0), some (.ref v1), some (gi v2)] [] h 0 0 := by
    intro n
    induction n with
    | zero =>
      intro v0 v1 v2 h hw
      exact hw.elim
    | succ n ih =>
      intro v0 v1 v2 h hw
      unfold w_X1_firstUnlikeJoined_L2 at hw
      refine g_iload_n V dX1_firstUnlikeJoined_2 rfl rfl ?_
      refine g_aload_n V dX1_firstUnlikeJoined_3 rfl rfl ?_
      obtain ⟨fs, r1, ha, hv, hw⟩ := hw
      refine g_getN (C := RX4) (T := TX4) (N := 2) (host := "Wordgarden") V 1 rfl hin_RX4 (by decide) (by decide) gn_2 rfl ha hv dX1_firstUnlikeJoined_4 rfl ?_
      refine g_aload_n V dX1_firstUnlikeJoined_7 rfl rfl ?_
      obtain ⟨fs, r2, ha, hv, hw⟩ := hw
      refine g_getN (C := RX4) (T := TX4) (N := 2) (host := "Wordgarden") V 1 rfl hin_RX4 (by decide) (by decide) gn_2 rfl ha hv dX1_firstUnlikeJoined_8 rfl ?_
      refine gi_iadd V dX1_firstUnlikeJoined_11 rfl ?_
      obtain ⟨hx0, hx1, hw⟩ := hw
      refine gi_icmp_ge V dX1_firstUnlikeJoined_12 rfl rfl hx0 hx1 (fun q => ?_) (fun q => ?_)
      · have hw := ga_t q hw
        refine g_iconst V (Int32.ofInt (-1)) dX1_firstUnlikeJoined_38 rfl rfl ?_
        exact g_iret V rfl rfl dX1_firstUnlikeJoined_39 ⟨_, rfl, hw⟩
      · have hw := ga_f q hw
        refine g_aload_n V dX1_firstUnlikeJoined_15 rfl rfl ?_
        refine g_aload_n V dX1_firstUnlikeJoined_16 rfl rfl ?_
        refine g_iload_n V dX1_firstUnlikeJoined_17 rfl rfl ?_
        refine g_callS (st := []) V (k_X1_isUpJoined hst hw) ww_2_79 ww_2_80 ww_1_12 ww_2_81 hd_X1_isUpJoined ⟨by decide, by decide⟩ rfl rfl (ga_cat rfl) dX1_firstUnlikeJoined_18 (Nat.zero_le _) (Nat.zero_le _) rfl (gaX_all hT V) (ga_ki (fun r4 hp3 hw => ?_))
        refine g_aload_n V dX1_firstUnlikeJoined_21 rfl rfl ?_
        refine g_aload_n V dX1_firstUnlikeJoined_22 rfl rfl ?_
        refine g_iload_n V dX1_firstUnlikeJoined_23 rfl rfl ?_
        refine g_callS (st := [gi r4]) V (k_X1_isUpJoined hst hw) ww_2_79 ww_2_80 ww_1_12 ww_2_81 hd_X1_isUpJoined ⟨by decide, by decide⟩ rfl rfl (ga_cat rfl) dX1_firstUnlikeJoined_24 (Nat.zero_le _) (Nat.zero_le _) rfl (gaX_all hT V) (ga_ki (fun r6 hp5 hw => ?_))
        obtain ⟨hx0, hx1, hw⟩ := hw
        refine gi_icmp_eq V dX1_firstUnlikeJoined_27 rfl rfl hx0 hx1 (fun q => ?_) (fun q => ?_)
        · have hw := ga_t q hw
          refine gi_iinc (lv2 := [some (.ref v0), some (.ref v1), some (gi (v2 + 1))]) V dX1_firstUnlikeJoined_32 (by decide) rfl rfl rfl rfl ?_
          refine g_goto V dX1_firstUnlikeJoined_35 rfl ?_
          exact ih v0 v1 (v2 + 1) hp5 hw
        · have hw := ga_f q hw
          refine g_iload_n V dX1_firstUnlikeJoined_30 rfl rfl ?_
          exact g_iret V rfl rfl dX1_firstUnlikeJoined_31 ⟨_, rfl, hw⟩
  unfold w_X1_firstUnlikeJoined at hw
  refine g_iconst V (Int32.ofInt 0) dX1_firstUnlikeJoined_0 rfl rfl ?_
  refine g_istore_n (lv2 := [some (.ref a0), some (.ref a1), some (gi 0)]) V dX1_firstUnlikeJoined_1 (by decide) rfl rfl rfl ?_
  obtain ⟨z, hw⟩ := hw
  exact h_X1_firstUnlikeJoined_L2 z a0 a1 0 h hw
def w_X4_clear (a0 : Nat) (h : gaH) (Q : gaH → Prop) : Prop := gPF h a0 4 1 (gi 0) (fun hp1 => Q hp1)
abbrev rm_X4_clear : Room := { frames := 0, cells := 0, slots := 0, locals := 0 }
theorem hd_X4_clear : yX4_clear.cls = RX4 ∧ (yX4_clear.cls ≠ "java/lang/invoke/MethodHandle" ∧ yX4_clear.cls ≠ "java/lang/invoke/VarHandle" ∧ (parseMethodDescriptor yX4_clear.desc).map (fun d => d.parameters.length) = some 0) := by decide +kernel
theorem k_X4_clear {l : Launch} (hst : l.stackTraces = false) {G : gaG} {X : String → gaH → Prop} {a0 : Nat} {h : gaH} {Q : gaH → Prop} (hw : w_X4_clear a0 h Q) : gaC l G yX4_clear (gaM yX4_clear cX4_clear 1 ((none : Option Jvm.ClassFile.FieldType))) rm_X4_clear [.ref a0] h (gQv Q) X := by
  refine g_start (lv := [some (.ref a0)]) hpl_RX4 hst (Nat.le_of_ble_eq_true rfl) (gaArgs_pad (z := 0) rfl) ww_1_88 ?_
  intro p e s m args below meth c V hT
  unfold w_X4_clear at hw
  refine g_aload_n V dX4_clear_0 rfl rfl ?_
  refine g_iconst V (Int32.ofInt 0) dX4_clear_1 rfl rfl ?_
  obtain ⟨fs, ha, hl, hw⟩ := hw
  refine g_put (C := RX4) (T := TX4) (N := 2) V 1 tyX4 tyX4_ok nmX4 rfl hin_RX4 (by decide) (by decide) ww_1_54 rfl rfl rfl rfl ha hl dX4_clear_2 rfl ?_
  generalize gaUp h a0 _ = hp1 at hw ⊢
  exact g_vret V rfl dX4_clear_5 ⟨rfl, hw⟩
def w_X4_add (a0 : Nat) (a1 : Int) (h : gaH) (Q : gaH → Prop) : Prop := gI h a0 4 1 (fun r1 => gR r1 ∧ (if r1 < 0 then Q h else gI h a0 4 1 (fun r2 => gA h a0 4 0 (fun r3 => gAL h r3 100 (fun r4 => gR r2 ∧ gR r4 ∧ (if r4 ≤ r2 then Q h else gA h a0 4 0 (fun r5 => gI h a0 4 1 (fun r6 => narrow .boolean (gi a1) = gi a1 ∧ gSI h r5 100 r6 (gi a1) (fun hp7 => gI hp7 a0 4 1 (fun r8 => gPF hp7 a0 4 1 (gi (r8 + 1)) (fun hp9 => Q hp9)))))))))))
abbrev rm_X4_add : Room := { frames := 0, cells := 0, slots := 0, locals := 0 }
theorem hd_X4_add : yX4_add.cls = RX4 ∧ (yX4_add.cls ≠ "java/lang/invoke/MethodHandle" ∧ yX4_add.cls ≠ "java/lang/invoke/VarHandle" ∧ (parseMethodDescriptor yX4_add.desc).map (fun d => d.parameters.length) = some 1) := by decide +kernel
theorem k_X4_add {l : Launch} (hst : l.stackTraces = false) {G : gaG} {X : String → gaH → Prop} {a0 : Nat} {a1 : Int} {h : gaH} {Q : gaH → Prop} (hw : w_X4_add a0 a1 h Q) : gaC l G yX4_add (gaM yX4_add cX4_add 2 ((none : Option Jvm.ClassFile.FieldType))) rm_X4_add [.ref a0, gi a1] h (gQv Q) X := by
  refine g_start (lv := [some (.ref a0), some (gi a1)]) hpl_RX4 hst (Nat.le_of_ble_eq_true rfl) (gaArgs_pad (z := 0) rfl) ww_1_92 ?_
  intro p e s m args below meth c V hT
  unfold w_X4_add at hw
  refine g_aload_n V dX4_add_0 rfl rfl ?_
  obtain ⟨fs, r1, ha, hv, hw⟩ := hw
  refine g_get (C := RX4) (T := TX4) (N := 2) V 1 rfl hin_RX4 (by decide) (by decide) ww_1_54 rfl ha hv dX4_add_1 rfl ?_
  obtain ⟨hx0, hw⟩ := hw
  refine gi_if_lt V dX4_add_4 rfl rfl hx0 (fun q => ?_) (fun q => ?_)
  · have hw := ga_t q hw
    exact g_vret V rfl dX4_add_39 ⟨rfl, hw⟩
  · have hw := ga_f q hw
    refine g_aload_n V dX4_add_7 rfl rfl ?_
    obtain ⟨fs, r2, ha, hv, hw⟩ := hw
    refine g_get (C := RX4) (T := TX4) (N := 2) V 1 rfl hin_RX4 (by decide) (by decide) ww_1_54 rfl ha hv dX4_add_8 rfl ?_
    refine g_aload_n V dX4_add_11 rfl rfl ?_
    obtain ⟨fs, r3, ha, hv, hw⟩ := hw
    refine g_get (C := RX4) (T := TX4) (N := 2) V 0 rfl hin_RX4 (by decide) (by decide) ww_1_50 rfl ha hv dX4_add_12 rfl ?_
    obtain ⟨t9, vs, ha, ht, hw⟩ := hw
    refine gi_arraylength (t0 := 100) V (by simp [gaT]) ha ht dX4_add_15 rfl ?_
    generalize (vs.length : Int) = r4 at hw ⊢
    obtain ⟨hx0, hx1, hw⟩ := hw
    refine gi_icmp_ge V dX4_add_16 rfl rfl hx0 hx1 (fun q => ?_) (fun q => ?_)
    · have hw := ga_t q hw
      exact g_vret V rfl dX4_add_39 ⟨rfl, hw⟩
    · have hw := ga_f q hw
      refine g_aload_n V dX4_add_19 rfl rfl ?_
      obtain ⟨fs, r5, ha, hv, hw⟩ := hw
      refine g_get (C := RX4) (T := TX4) (N := 2) V 0 rfl hin_RX4 (by decide) (by decide) ww_1_50 rfl ha hv dX4_add_20 rfl ?_
      refine g_aload_n V dX4_add_23 rfl rfl ?_
      obtain ⟨fs, r6, ha, hv, hw⟩ := hw
      refine g_get (C := RX4) (T := TX4) (N := 2) V 1 rfl hin_RX4 (by decide) (by decide) ww_1_54 rfl ha hv dX4_add_24 rfl ?_
      refine g_iload_n V dX4_add_27 rfl rfl ?_
      obtain ⟨hb, hw⟩ := hw
      obtain ⟨vs, ha, h0, h9, hi, hw⟩ := hw
      refine gi_bastoreZ V hb ha h0 h9 hi dX4_add_28 rfl ?_
      generalize gaUp h r5 _ = hp7 at hw ⊢
      refine g_aload_n V dX4_add_29 rfl rfl ?_
      refine g_dup V dX4_add_30 rfl rfl ?_
      obtain ⟨fs, r8, ha, hv, hw⟩ := hw
      refine g_get (C := RX4) (T := TX4) (N := 2) V 1 rfl hin_RX4 (by decide) (by decide) ww_1_54 rfl ha hv dX4_add_31 rfl ?_
      refine g_iconst V (Int32.ofInt 1) dX4_add_34 rfl rfl ?_
      refine gi_iadd V dX4_add_35 rfl ?_
      obtain ⟨fs, ha, hl, hw⟩ := hw
      refine g_put (C := RX4) (T := TX4) (N := 2) V 1 tyX4 tyX4_ok nmX4 rfl hin_RX4 (by decide) (by decide) ww_1_54 rfl rfl rfl rfl ha hl dX4_add_36 rfl ?_
      generalize gaUp hp7 a0 _ = hp9 at hw ⊢
      exact g_vret V rfl dX4_add_39 ⟨rfl, hw⟩
def w_X4_addPart_L3 (Q : gaH → Prop) : Nat → (Nat → Nat → Int → Int → gaH → Prop)
  | 0 => fun _ _ _ _ _ => False
  | n + 1 => fun v0 v1 v3 v4 h => gR v4 ∧ gR v3 ∧ (if v3 ≤ v4 then Q h else gHas h v1 4 ∧ w_X4_isUp v1 v4 h (fun r2 hp1 => gHas hp1 v0 4 ∧ w_X4_add v0 r2 hp1 (fun hp3 => w_X4_addPart_L3 Q n v0 v1 v3 (v4 + 1) hp3)))
def w_X4_addPart (a0 : Nat) (a1 : Nat) (a2 : Int) (a3 : Int) (h : gaH) (Q : gaH → Prop) : Prop := ∃ z, w_X4_addPart_L3 Q z a0 a1 a3 a2 h
abbrev rm_X4_addPart : Room := { frames := 1, cells := 0, slots := 0, locals := 21 }
theorem hd_X4_addPart : yX4_addPart.cls = RX4 ∧ (yX4_addPart.cls ≠ "java/lang/invoke/MethodHandle" ∧ yX4_addPart.cls ≠ "java/lang/invoke/VarHandle" ∧ (parseMethodDescriptor yX4_addPart.desc).map (fun d => d.parameters.length) = some 3) := by decide +kernel
theorem k_X4_addPart {l : Launch} (hst : l.stackTraces = false) {G : gaG} {X : String → gaH → Prop} {a0 : Nat} {a1 : Nat} {a2 : Int} {a3 : Int} {h : gaH} {Q : gaH → Prop} (hw : w_X4_addPart a0 a1 a2 a3 h Q) : gaC l G yX4_addPart (gaM yX4_addPart cX4_addPart 5 ((none : Option Jvm.ClassFile.FieldType))) rm_X4_addPart [.ref a0, .ref a1, gi a2, gi a3] h (gQv Q) X := by
  refine g_start (lv := [some (.ref a0), some (.ref a1), some (gi a2), some (gi a3), none]) hpl_RX4 hst (Nat.le_of_ble_eq_true rfl) (gaArgs_pad (z := 1) rfl) ww_2_48 ?_
  intro p e s m args below meth c V hT
  have h_X4_addPart_L3 : ∀ (n : Nat), ∀ (v0 : Nat) (v1 : Nat) (v3 : Int) (v4 : Int) (h : gaH), w_X4_addPart_L3 Q n v0 v1 v3 v4 h → gaP p l e rm_X4_addPart s m args below meth c G 5 (gaZ below G (gQv Q) X args s rm_X4_addPart) 3 [some (.ref v0), some (.ref v1), none, some (gi v3), some (gi v4)] [] h 0 0 := by
    intro n
    induction n with
    | zero =>
      intro v0 v1 v3 v4 h hw
      exact hw.elim
    | succ n ih =>
      intro v0 v1 v3 v4 h hw
      unfold w_X4_addPart_L3 at hw
      refine g_iload V dX4_addPart_3 rfl rfl ?_
      refine g_iload_n V dX4_addPart_5 rfl rfl ?_
      obtain ⟨hx0, hx1, hw⟩ := hw
      refine gi_icmp_ge V dX4_addPart_6 rfl rfl hx0 hx1 (fun q => ?_) (fun q => ?_)
      · have hw := ga_t q hw
        exact g_vret V rfl dX4_addPart_25 ⟨rfl, hw⟩
      · have hw := ga_f q hw
        refine g_aload_n V dX4_addPart_9 rfl rfl ?_
        refine g_aload_n V dX4_addPart_10 rfl rfl ?_
        refine g_iload V dX4_addPart_11 rfl rfl ?_
        obtain ⟨hb, hw⟩ := hw
        obtain ⟨fb, hb⟩ := hb
        refine g_callV (C := RX4) (T := TX4) (N := 2) (st := [.ref v0]) V (k_X4_isUp hst hw) ww_1_227 ww_1_228 ww_1_229 ww_1_3 ww_1_230 hd_X4_isUp ⟨by decide, by decide⟩ rfl (by decide) hb rfl rfl (ga_cat rfl) dX4_addPart_13 (Nat.zero_le _) (Nat.zero_le _) rfl (gaX_all hT V) (ga_ki (fun r2 hp1 hw => ?_))
        obtain ⟨hb, hw⟩ := hw
        obtain ⟨fb, hb⟩ := hb
        refine g_callV (C := RX4) (T := TX4) (N := 2) (st := []) V (k_X4_add hst hw) ww_1_231 ww_1_90 ww_1_91 ww_1_3 ww_1_92 hd_X4_add ⟨by decide, by decide⟩ rfl (by decide) hb rfl rfl (ga_cat rfl) dX4_addPart_16 (Nat.zero_le _) (Nat.zero_le _) rfl (gaX_all hT V) (ga_kv (fun hp3 hw => ?_))
        refine gi_iinc (lv2 := [some (.ref v0), some (.ref v1), none, some (gi v3), some (gi (v4 + 1))]) V dX4_addPart_19 (by decide) rfl rfl rfl rfl ?_
        refine g_goto V dX4_addPart_22 rfl ?_
        exact ih v0 v1 v3 (v4 + 1) hp3 hw
  unfold w_X4_addPart at hw
  refine g_iload_n V dX4_addPart_0 rfl rfl ?_
  refine g_istore (lv2 := [some (.ref a0), some (.ref a1), some (gi a2), some (gi a3), some (gi a2)]) V dX4_addPart_1 (by decide) rfl rfl rfl ?_
  refine g_less (bs := [true, true, false, true, true]) (lv2 := [some (.ref a0), some (.ref a1), none, some (gi a3), some (gi a2)]) rfl ?_
  obtain ⟨z, hw⟩ := hw
  exact h_X4_addPart_L3 z a0 a1 a3 a2 h hw
def w_X4_put (a0 : Nat) (a1 : Int) (a2 : Int) (h : gaH) (Q : gaH → Prop) : Prop := gR a1 ∧ (if a1 < 0 then Q h else gA h a0 4 0 (fun r1 => gAL h r1 100 (fun r2 => gR a1 ∧ gR r2 ∧ (if r2 ≤ a1 then Q h else gA h a0 4 0 (fun r3 => narrow .boolean (gi a2) = gi a2 ∧ gSI h r3 100 a1 (gi a2) (fun hp4 => Q hp4))))))
abbrev rm_X4_put : Room := { frames := 0, cells := 0, slots := 0, locals := 0 }
theorem hd_X4_put : yX4_put.cls = RX4 ∧ (yX4_put.cls ≠ "java/lang/invoke/MethodHandle" ∧ yX4_put.cls ≠ "java/lang/invoke/VarHandle" ∧ (parseMethodDescriptor yX4_put.desc).map (fun d => d.parameters.length) = some 2) := by decide +kernel
theorem k_X4_put {l : Launch} (hst : l.stackTraces = false) {G : gaG} {X : String → gaH → Prop} {a0 : Nat} {a1 : Int} {a2 : Int} {h : gaH} {Q : gaH → Prop} (hw : w_X4_put a0 a1 a2 h Q) : gaC l G yX4_put (gaM yX4_put cX4_put 3 ((none : Option Jvm.ClassFile.FieldType))) rm_X4_put [.ref a0, gi a1, gi a2] h (gQv Q) X := by
  refine g_start (lv := [some (.ref a0), some (gi a1), some (gi a2)]) hpl_RX4 hst (Nat.le_of_ble_eq_true rfl) (gaArgs_pad (z := 0) rfl) ww_2_56 ?_
  intro p e s m args below meth c V hT
  unfold w_X4_put at hw
  refine g_iload_n V dX4_put_0 rfl rfl ?_
  obtain ⟨hx0, hw⟩ := hw
  refine gi_if_lt V dX4_put_1 rfl rfl hx0 (fun q => ?_) (fun q => ?_)
  · have hw := ga_t q hw
    exact g_vret V rfl dX4_put_20 ⟨rfl, hw⟩
  · have hw := ga_f q hw
    refine g_iload_n V dX4_put_4 rfl rfl ?_
    refine g_aload_n V dX4_put_5 rfl rfl ?_
    obtain ⟨fs, r1, ha, hv, hw⟩ := hw
    refine g_get (C := RX4) (T := TX4) (N := 2) V 0 rfl hin_RX4 (by decide) (by decide) ww_1_50 rfl ha hv dX4_put_6 rfl ?_
    obtain ⟨t9, vs, ha, ht, hw⟩ := hw
    refine gi_arraylength (t0 := 100) V (by simp [gaT]) ha ht dX4_put_9 rfl ?_
    generalize (vs.length : Int) = r2 at hw ⊢
    obtain ⟨hx0, hx1, hw⟩ := hw
    refine gi_icmp_ge V dX4_put_10 rfl rfl hx0 hx1 (fun q => ?_) (fun q => ?_)
    · have hw := ga_t q hw
      exact g_vret V rfl dX4_put_20 ⟨rfl, hw⟩
    · have hw := ga_f q hw
      refine g_aload_n V dX4_put_13 rfl rfl ?_
      obtain ⟨fs, r3, ha, hv, hw⟩ := hw
      refine g_get (C := RX4) (T := TX4) (N := 2) V 0 rfl hin_RX4 (by decide) (by decide) ww_1_50 rfl ha hv dX4_put_14 rfl ?_
      refine g_iload_n V dX4_put_17 rfl rfl ?_
      refine g_iload_n V dX4_put_18 rfl rfl ?_
      obtain ⟨hb, hw⟩ := hw
      obtain ⟨vs, ha, h0, h9, hi, hw⟩ := hw
      refine gi_bastoreZ V hb ha h0 h9 hi dX4_put_19 rfl ?_
      generalize gaUp h r3 _ = hp4 at hw ⊢
      exact g_vret V rfl dX4_put_20 ⟨rfl, hw⟩
def w_X4_take_L2 (Q : gaH → Prop) : Nat → (Nat → Nat → Int → gaH → Prop)
  | 0 => fun _ _ _ _ => False
  | n + 1 => fun v0 v1 v2 h => gI h v1 4 1 (fun r1 => gR v2 ∧ gR r1 ∧ (if r1 ≤ v2 then gI h v1 4 1 (fun r2 => gPF h v0 4 1 (gi r2) (fun hp3 => Q hp3)) else gHas h v1 4 ∧ w_X4_isUp v1 v2 h (fun r5 hp4 => gHas hp4 v0 4 ∧ w_X4_put v0 v2 r5 hp4 (fun hp6 => w_X4_take_L2 Q n v0 v1 (v2 + 1) hp6))))
def w_X4_take (a0 : Nat) (a1 : Nat) (h : gaH) (Q : gaH → Prop) : Prop := ∃ z, w_X4_take_L2 Q z a0 a1 0 h
abbrev rm_X4_take : Room := { frames := 1, cells := 0, slots := 0, locals := 22 }
theorem hd_X4_take : yX4_take.cls = RX4 ∧ (yX4_take.cls ≠ "java/lang/invoke/MethodHandle" ∧ yX4_take.cls ≠ "java/lang/invoke/VarHandle" ∧ (parseMethodDescriptor yX4_take.desc).map (fun d => d.parameters.length) = some 1) := by decide +kernel
theorem k_X4_take {l : Launch} (hst : l.stackTraces = false) {G : gaG} {X : String → gaH → Prop} {a0 : Nat} {a1 : Nat} {h : gaH} {Q : gaH → Prop} (hw : w_X4_take a0 a1 h Q) : gaC l G yX4_take (gaM yX4_take cX4_take 3 ((none : Option Jvm.ClassFile.FieldType))) rm_X4_take [.ref a0, .ref a1] h (gQv Q) X := by
  refine g_start (lv := [some (.ref a0), some (.ref a1), none]) hpl_RX4 hst (Nat.le_of_ble_eq_true rfl) (gaArgs_pad (z := 1) rfl) ww_2_52 ?_
  intro p e s m args below meth c V hT
  have h_X4_take_L2 : ∀ (n : Nat), ∀ (v0 : Nat) (v1 : Nat) (v2 : Int) (h : gaH), w_X4_take_L2 Q n v0 v1 v2 h → gaP p l e rm_X4_take s m args below meth c G 3 (gaZ below G (gQv Q) X args s rm_X4_take) 2 [some (.ref v0), some (.ref v1), some (gi v2)] [] h 0 0 := by
    intro n
    induction n with
    | zero =>
      intro v0 v1 v2 h hw
      exact hw.elim
    | succ n ih =>
      intro v0 v1 v2 h hw
      unfold w_X4_take_L2 at hw
      refine g_iload_n V dX4_take_2 rfl rfl ?_
      refine g_aload_n V dX4_take_3 rfl rfl ?_
      obtain ⟨fs, r1, ha, hv, hw⟩ := hw
      refine g_get (C := RX4) (T := TX4) (N := 2) V 1 rfl hin_RX4 (by decide) (by decide) ww_1_54 rfl ha hv dX4_take_4 rfl ?_
      obtain ⟨hx0, hx1, hw⟩ := hw
      refine gi_icmp_ge V dX4_take_7 rfl rfl hx0 hx1 (fun q => ?_) (fun q => ?_)
      · have hw := ga_t q hw
        refine g_aload_n V dX4_take_26 rfl rfl ?_
        refine g_aload_n V dX4_take_27 rfl rfl ?_
        obtain ⟨fs, r2, ha, hv, hw⟩ := hw
        refine g_get (C := RX4) (T := TX4) (N := 2) V 1 rfl hin_RX4 (by decide) (by decide) ww_1_54 rfl ha hv dX4_take_28 rfl ?_
        obtain ⟨fs, ha, hl, hw⟩ := hw
        refine g_put (C := RX4) (T := TX4) (N := 2) V 1 tyX4 tyX4_ok nmX4 rfl hin_RX4 (by decide) (by decide) ww_1_54 rfl rfl rfl rfl ha hl dX4_take_31 rfl ?_
        generalize gaUp h v0 _ = hp3 at hw ⊢
        exact g_vret V rfl dX4_take_34 ⟨rfl, hw⟩
      · have hw := ga_f q hw
        refine g_aload_n V dX4_take_10 rfl rfl ?_
        refine g_iload_n V dX4_take_11 rfl rfl ?_
        refine g_aload_n V dX4_take_12 rfl rfl ?_
        refine g_iload_n V dX4_take_13 rfl rfl ?_
        obtain ⟨hb, hw⟩ := hw
        obtain ⟨fb, hb⟩ := hb
        refine g_callV (C := RX4) (T := TX4) (N := 2) (st := [gi v2, .ref v0]) V (k_X4_isUp hst hw) ww_1_227 ww_1_228 ww_1_229 ww_1_3 ww_1_230 hd_X4_isUp ⟨by decide, by decide⟩ rfl (by decide) hb rfl rfl (ga_cat rfl) dX4_take_14 (Nat.zero_le _) (Nat.zero_le _) rfl (gaX_all hT V) (ga_ki (fun r5 hp4 hw => ?_))
        obtain ⟨hb, hw⟩ := hw
        obtain ⟨fb, hb⟩ := hb
        refine g_callV (C := RX4) (T := TX4) (N := 2) (st := []) V (k_X4_put hst hw) ww_2_53 ww_2_54 ww_2_55 ww_1_3 ww_2_56 hd_X4_put ⟨by decide, by decide⟩ rfl (by decide) hb rfl rfl (ga_cat rfl) dX4_take_17 (Nat.zero_le _) (Nat.zero_le _) rfl (gaX_all hT V) (ga_kv (fun hp6 hw => ?_))
        refine gi_iinc (lv2 := [some (.ref v0), some (.ref v1), some (gi (v2 + 1))]) V dX4_take_20 (by decide) rfl rfl rfl rfl ?_
        refine g_goto V dX4_take_23 rfl ?_
        exact ih v0 v1 (v2 + 1) hp6 hw
  unfold w_X4_take at hw
  refine g_iconst V (Int32.ofInt 0) dX4_take_0 rfl rfl ?_
  refine g_istore_n (lv2 := [some (.ref a0), some (.ref a1), some (gi 0)]) V dX4_take_1 (by decide) rfl rfl rfl ?_
  obtain ⟨z, hw⟩ := hw
  exact h_X4_take_L2 z a0 a1 0 h hw
def w_X4_takeCode_J48 (Q : gaH → Prop) (K9 : Nat → Int → Int → Int → gaH → Prop) (v0 : Nat) (v1 : Int) (v3 : Int) (h : gaH) : Prop := K9 v0 v1 1 (v3 + (-1)) h
def w_X4_takeCode_J39 (Q : gaH → Prop) (K9 : Nat → Int → Int → Int → gaH → Prop) (v0 : Nat) (v1 : Int) (v2 : Int) (v3 : Int) (v4 : Int) (h : gaH) : Prop := gR v2 ∧ (if v2 = 0 then gR v4 ∧ (if v4 = 0 then K9 v0 v1 0 (v3 + (-1)) h else w_X4_takeCode_J48 Q K9 v0 v1 v3 h) else w_X4_takeCode_J48 Q K9 v0 v1 v3 h)
def w_X4_takeCode_J27 (Q : gaH → Prop) (K9 : Nat → Int → Int → Int → gaH → Prop) (v0 : Nat) (v1 : Int) (v2 : Int) (v3 : Int) (t0 : Int) (h : gaH) : Prop := gR v2 ∧ (if v2 = 0 then w_X4_takeCode_J39 Q K9 v0 v1 v2 v3 t0 h else gHas h v0 4 ∧ w_X4_add v0 t0 h (fun hp1 => w_X4_takeCode_J39 Q K9 v0 v1 v2 v3 t0 hp1))
def w_X4_takeCode_L9 (Q : gaH → Prop) : Nat → (Nat → Int → Int → Int → gaH → Prop)
  | 0 => fun _ _ _ _ _ => False
  | n + 1 => fun v0 v1 v2 v3 h => gR v3 ∧ (if v3 < 0 then Q h else gR (gAnd (gShr v1 v3) 1) ∧ (if (gAnd (gShr v1 v3) 1) = 1 then w_X4_takeCode_J27 Q (w_X4_takeCode_L9 Q n) v0 v1 v2 v3 1 h else w_X4_takeCode_J27 Q (w_X4_takeCode_L9 Q n) v0 v1 v2 v3 0 h))
def w_X4_takeCode (a0 : Nat) (a1 : Int) (h : gaH) (Q : gaH → Prop) : Prop := gHas h a0 4 ∧ w_X4_clear a0 h (fun hp1 => ∃ z, w_X4_takeCode_L9 Q z a0 a1 0 15 hp1)
abbrev rm_X4_takeCode : Room := { frames := 1, cells := 0, slots := 0, locals := 21 }
theorem hd_X4_takeCode : yX4_takeCode.cls = RX4 ∧ (yX4_takeCode.cls ≠ "java/lang/invoke/MethodHandle" ∧ yX4_takeCode.cls ≠ "java/lang/invoke/VarHandle" ∧ (parseMethodDescriptor yX4_takeCode.desc).map (fun d => d.parameters.length) = some 1) := by decide +kernel
theorem k_X4_takeCode {l : Launch} (hst : l.stackTraces = false) {G : gaG} {X : String → gaH → Prop} {a0 : Nat} {a1 : Int} {h : gaH} {Q : gaH → Prop} (hw : w_X4_takeCode a0 a1 h Q) : gaC l G yX4_takeCode (gaM yX4_takeCode cX4_takeCode 5 ((none : Option Jvm.ClassFile.FieldType))) rm_X4_takeCode [.ref a0, gi a1] h (gQv Q) X := by
  refine g_start (lv := [some (.ref a0), some (gi a1), none, none, none]) hpl_RX4 hst (Nat.le_of_ble_eq_true rfl) (gaArgs_pad (z := 3) rfl) ww_2_38 ?_
  intro p e s m args below meth c V hT
  have h_X4_takeCode_J48 : ∀ (K9 : Nat → Int → Int → Int → gaH → Prop), ∀ (hK9 : ∀ (v0 : Nat) (v1 : Int) (v2 : Int) (v3 : Int) (h : gaH), K9 v0 v1 v2 v3 h → gaP p l e rm_X4_takeCode s m args below meth c G 5 (gaZ below G (gQv Q) X args s rm_X4_takeCode) 9 [some (.ref v0), some (gi v1), some (gi v2), some (gi v3), none] [] h 0 0), ∀ (v0 : Nat) (v1 : Int) (v3 : Int) (h : gaH), w_X4_takeCode_J48 Q K9 v0 v1 v3 h → gaP p l e rm_X4_takeCode s m args below meth c G 5 (gaZ below G (gQv Q) X args s rm_X4_takeCode) 48 [some (.ref v0), some (gi v1), none, some (gi v3), none] [] h 0 0 := by
    intro K9 hK9
    intro v0 v1 v3 h hw
    unfold w_X4_takeCode_J48 at hw
    refine g_iconst V (Int32.ofInt 1) dX4_takeCode_48 rfl rfl ?_
    refine g_goto V dX4_takeCode_49 rfl ?_
    refine g_istore_n (lv2 := [some (.ref v0), some (gi v1), some (gi 1), some (gi v3), none]) V dX4_takeCode_53 (by decide) rfl rfl rfl ?_
    refine gi_iinc (lv2 := [some (.ref v0), some (gi v1), some (gi 1), some (gi (v3 + (-1))), none]) V dX4_takeCode_54 (by decide) rfl rfl rfl rfl ?_
    refine g_goto V dX4_takeCode_57 rfl ?_
    exact hK9 v0 v1 1 (v3 + (-1)) h hw
  have h_X4_takeCode_J39 : ∀ (K9 : Nat → Int → Int → Int → gaH → Prop), ∀ (hK9 : ∀ (v0 : Nat) (v1 : Int) (v2 : Int) (v3 : Int) (h : gaH), K9 v0 v1 v2 v3 h → gaP p l e rm_X4_takeCode s m args below meth c G 5 (gaZ below G (gQv Q) X args s rm_X4_takeCode) 9 [some (.ref v0), some (gi v1), some (gi v2), some (gi v3), none] [] h 0 0), ∀ (v0 : Nat) (v1 : Int) (v2 : Int) (v3 : Int) (v4 : Int) (h : gaH), w_X4_takeCode_J39 Q K9 v0 v1 v2 v3 v4 h → gaP p l e rm_X4_takeCode s m args below meth c G 5 (gaZ below G (gQv Q) X args s rm_X4_takeCode) 39 [some (.ref v0), some (gi v1), some (gi v2), some (gi v3), some (gi v4)] [] h 0 0 := by
    intro K9 hK9
    intro v0 v1 v2 v3 v4 h hw
    unfold w_X4_takeCode_J39 at hw
    refine g_iload_n V dX4_takeCode_39 rfl rfl ?_
    obtain ⟨hx0, hw⟩ := hw
    refine gi_if_ne V dX4_takeCode_40 rfl rfl hx0 (fun q => ?_) (fun q => ?_)
    · have hw := ga_f q hw
      refine g_less (bs := [true, true, false, true, false]) (lv2 := [some (.ref v0), some (gi v1), none, some (gi v3), none]) rfl ?_
      exact h_X4_takeCode_J48 K9 hK9 v0 v1 v3 h hw
    · have hw := ga_t q hw
      refine g_iload V dX4_takeCode_43 rfl rfl ?_
      obtain ⟨hx0, hw⟩ := hw
      refine gi_if_eq V dX4_takeCode_45 rfl rfl hx0 (fun q => ?_) (fun q => ?_)
      · have hw := ga_t q hw
        refine g_iconst V (Int32.ofInt 0) dX4_takeCode_52 rfl rfl ?_
        refine g_istore_n (lv2 := [some (.ref v0), some (gi v1), some (gi 0), some (gi v3), some (gi v4)]) V dX4_takeCode_53 (by decide) rfl rfl rfl ?_
        refine gi_iinc (lv2 := [some (.ref v0), some (gi v1), some (gi 0), some (gi (v3 + (-1))), some (gi v4)]) V dX4_takeCode_54 (by decide) rfl rfl rfl rfl ?_
        refine g_goto V dX4_takeCode_57 rfl ?_
        refine g_less (bs := [true, true, true, true, false]) (lv2 := [some (.ref v0), some (gi v1), some (gi 0), some (gi (v3 + (-1))), none]) rfl ?_
        exact hK9 v0 v1 0 (v3 + (-1)) h hw
      · have hw := ga_f q hw
        refine g_less (bs := [true, true, false, true, false]) (lv2 := [some (.ref v0), some (gi v1), none, some (gi v3), none]) rfl ?_
        exact h_X4_takeCode_J48 K9 hK9 v0 v1 v3 h hw
  have h_X4_takeCode_J27 : ∀ (K9 : Nat → Int → Int → Int → gaH → Prop), ∀ (hK9 : ∀ (v0 : Nat) (v1 : Int) (v2 : Int) (v3 : Int) (h : gaH), K9 v0 v1 v2 v3 h → gaP p l e rm_X4_takeCode s m args below meth c G 5 (gaZ below G (gQv Q) X args s rm_X4_takeCode) 9 [some (.ref v0), some (gi v1), some (gi v2), some (gi v3), none] [] h 0 0), ∀ (v0 : Nat) (v1 : Int) (v2 : Int) (v3 : Int) (t0 : Int) (h : gaH), w_X4_takeCode_J27 Q K9 v0 v1 v2 v3 t0 h → gaP p l e rm_X4_takeCode s m args below meth c G 5 (gaZ below G (gQv Q) X args s rm_X4_takeCode) 27 [some (.ref v0), some (gi v1), some (gi v2), some (gi v3), none] [gi t0] h 0 0 := by
    intro K9 hK9
    intro v0 v1 v2 v3 t0 h hw
    unfold w_X4_takeCode_J27 at hw
    refine g_istore (lv2 := [some (.ref v0), some (gi v1), some (gi v2), some (gi v3), some (gi t0)]) V dX4_takeCode_27 (by decide) rfl rfl rfl ?_
    refine g_iload_n V dX4_takeCode_29 rfl rfl ?_
    obtain ⟨hx0, hw⟩ := hw
    refine gi_if_eq V dX4_takeCode_30 rfl rfl hx0 (fun q => ?_) (fun q => ?_)
    · have hw := ga_t q hw
      exact h_X4_takeCode_J39 K9 hK9 v0 v1 v2 v3 t0 h hw
    · have hw := ga_f q hw
      refine g_aload_n V dX4_takeCode_33 rfl rfl ?_
      refine g_iload V dX4_takeCode_34 rfl rfl ?_
      obtain ⟨hb, hw⟩ := hw
      obtain ⟨fb, hb⟩ := hb
      refine g_callV (C := RX4) (T := TX4) (N := 2) (st := []) V (k_X4_add hst hw) ww_1_231 ww_1_90 ww_1_91 ww_1_3 ww_1_92 hd_X4_add ⟨by decide, by decide⟩ rfl (by decide) hb rfl rfl (ga_cat rfl) dX4_takeCode_36 (Nat.zero_le _) (Nat.zero_le _) rfl (gaX_all hT V) (ga_kv (fun hp1 hw => ?_))
      exact h_X4_takeCode_J39 K9 hK9 v0 v1 v2 v3 t0 hp1 hw
  have h_X4_takeCode_L9 : ∀ (n : Nat), ∀ (v0 : Nat) (v1 : Int) (v2 : Int) (v3 : Int) (h : gaH), w_X4_takeCode_L9 Q n v0 v1 v2 v3 h → gaP p l e rm_X4_takeCode s m args below meth c G 5 (gaZ below G (gQv Q) X args s rm_X4_takeCode) 9 [some (.ref v0), some (gi v1), some (gi v2), some (gi v3), none] [] h 0 0 := by
    intro n
    induction n with
    | zero =>
      intro v0 v1 v2 v3 h hw
      exact hw.elim
    | succ n ih =>
      intro v0 v1 v2 v3 h hw
      unfold w_X4_takeCode_L9 at hw
      refine g_iload_n V dX4_takeCode_9 rfl rfl ?_
      obtain ⟨hx0, hw⟩ := hw
      refine gi_if_lt V dX4_takeCode_10 rfl rfl hx0 (fun q => ?_) (fun q => ?_)
      · have hw := ga_t q hw
        exact g_vret V rfl dX4_takeCode_60 ⟨rfl, hw⟩
      · have hw := ga_f q hw
        refine g_iload_n V dX4_takeCode_13 rfl rfl ?_
        refine g_iload_n V dX4_takeCode_14 rfl rfl ?_
        refine gi_ishr V dX4_takeCode_15 rfl ?_
        refine g_iconst V (Int32.ofInt 1) dX4_takeCode_16 rfl rfl ?_
        refine gi_iand V dX4_takeCode_17 rfl ?_
        refine g_iconst V (Int32.ofInt 1) dX4_takeCode_18 rfl rfl ?_
        obtain ⟨hx0, hw⟩ := hw
        refine gi_icmp_ne V dX4_takeCode_19 rfl rfl hx0 (by decide) (fun q => ?_) (fun q => ?_)
        · have hw := ga_f q hw
          refine g_iconst V (Int32.ofInt 0) dX4_takeCode_26 rfl rfl ?_
          exact h_X4_takeCode_J27 (w_X4_takeCode_L9 Q n) ih v0 v1 v2 v3 0 h hw
        · have hw := ga_t q hw
          refine g_iconst V (Int32.ofInt 1) dX4_takeCode_22 rfl rfl ?_
          refine g_goto V dX4_takeCode_23 rfl ?_
          exact h_X4_takeCode_J27 (w_X4_takeCode_L9 Q n) ih v0 v1 v2 v3 1 h hw
  unfold w_X4_takeCode at hw
  refine g_aload_n V dX4_takeCode_0 rfl rfl ?_
  obtain ⟨hb, hw⟩ := hw
  obtain ⟨fb, hb⟩ := hb
  refine g_callV (C := RX4) (T := TX4) (N := 2) (st := []) V (k_X4_clear hst hw) ww_1_226 ww_1_86 ww_1_87 ww_1_3 ww_1_88 hd_X4_clear ⟨by decide, by decide⟩ rfl (by decide) hb rfl rfl (ga_cat rfl) dX4_takeCode_1 (Nat.zero_le _) (Nat.zero_le _) rfl (gaX_all hT V) (ga_kv (fun hp1 hw => ?_))
  refine g_iconst V (Int32.ofInt 0) dX4_takeCode_4 rfl rfl ?_
  refine g_istore_n (lv2 := [some (.ref a0), some (gi a1), some (gi 0), none, none]) V dX4_takeCode_5 (by decide) rfl rfl rfl ?_
  refine g_bipush V (Int32.ofInt 15) dX4_takeCode_6 rfl rfl ?_
  refine g_istore_n (lv2 := [some (.ref a0), some (gi a1), some (gi 0), some (gi 15), none]) V dX4_takeCode_8 (by decide) rfl rfl rfl ?_
  obtain ⟨z, hw⟩ := hw
  exact h_X4_takeCode_L9 z a0 a1 0 15 hp1 hw
def w_X2_take (a0 : Nat) (a1 : Int) (a2 : Int) (h : gaH) (Q : gaH → Prop) : Prop := gA h a0 3 0 (fun r1 => gHas h r1 4 ∧ w_X4_takeCode r1 a1 h (fun hp2 => gA hp2 a0 3 1 (fun r4 => gHas hp2 r4 4 ∧ w_X4_takeCode r4 a2 hp2 (fun hp5 => Q hp5))))
abbrev rm_X2_take : Room := { frames := 2, cells := 0, slots := 0, locals := 45 }
theorem hd_X2_take : yX2_take.cls = RX2 ∧ (yX2_take.cls ≠ "java/lang/invoke/MethodHandle" ∧ yX2_take.cls ≠ "java/lang/invoke/VarHandle" ∧ (parseMethodDescriptor yX2_take.desc).map (fun d => d.parameters.length) = some 2) := by decide +kernel
theorem k_X2_take {l : Launch} (hst : l.stackTraces = false) {G : gaG} {X : String → gaH → Prop} {a0 : Nat} {a1 : Int} {a2 : Int} {h : gaH} {Q : gaH → Prop} (hw : w_X2_take a0 a1 a2 h Q) : gaC l G yX2_take (gaM yX2_take cX2_take 3 ((none : Option Jvm.ClassFile.FieldType))) rm_X2_take [.ref a0, gi a1, gi a2] h (gQv Q) X := by
  refine g_start (lv := [some (.ref a0), some (gi a1), some (gi a2)]) hpl_RX2 hst (Nat.le_of_ble_eq_true rfl) (gaArgs_pad (z := 0) rfl) ww_2_34 ?_
  intro p e s m args below meth c V hT
  unfold w_X2_take at hw
  refine g_aload_n V dX2_take_0 rfl rfl ?_
  obtain ⟨fs, r1, ha, hv, hw⟩ := hw
  refine g_get (C := RX2) (T := TX2) (N := 3) V 0 rfl hin_RX2 (by decide) (by decide) ww_1_63 rfl ha hv dX2_take_1 rfl ?_
  refine g_iload_n V dX2_take_4 rfl rfl ?_
  obtain ⟨hb, hw⟩ := hw
  obtain ⟨fb, hb⟩ := hb
  refine g_callV (C := RX4) (T := TX4) (N := 2) (st := []) V (k_X4_takeCode hst hw) ww_2_35 ww_2_36 ww_2_37 ww_1_3 ww_2_38 hd_X4_takeCode ⟨by decide, by decide⟩ rfl (by decide) hb rfl rfl (ga_cat rfl) dX2_take_5 (Nat.zero_le _) (Nat.zero_le _) rfl (gaX_all hT V) (ga_kv (fun hp2 hw => ?_))
  refine g_aload_n V dX2_take_8 rfl rfl ?_
  obtain ⟨fs, r4, ha, hv, hw⟩ := hw
  refine g_get (C := RX2) (T := TX2) (N := 3) V 1 rfl hin_RX2 (by decide) (by decide) ww_1_64 rfl ha hv dX2_take_9 rfl ?_
  refine g_iload_n V dX2_take_12 rfl rfl ?_
  obtain ⟨hb, hw⟩ := hw
  obtain ⟨fb, hb⟩ := hb
  refine g_callV (C := RX4) (T := TX4) (N := 2) (st := []) V (k_X4_takeCode hst hw) ww_2_35 ww_2_36 ww_2_37 ww_1_3 ww_2_38 hd_X4_takeCode ⟨by decide, by decide⟩ rfl (by decide) hb rfl rfl (ga_cat rfl) dX2_take_13 (Nat.zero_le _) (Nat.zero_le _) rfl (gaX_all hT V) (ga_kv (fun hp5 hw => ?_))
  exact g_vret V rfl dX2_take_16 ⟨rfl, hw⟩
def w_X1_upsOf_L4 (Q : Int → gaH → Prop) : Nat → (Nat → Int → Int → gaH → Prop)
  | 0 => fun _ _ _ _ => False
  | n + 1 => fun v0 v1 v2 h => gI h v0 4 1 (fun r1 => gR v2 ∧ gR r1 ∧ (if r1 ≤ v2 then Q v1 h else gHas h v0 4 ∧ w_X4_isUp v0 v2 h (fun r3 hp2 => gR r3 ∧ (if r3 = 0 then w_X1_upsOf_L4 Q n v0 v1 (v2 + 1) hp2 else w_X1_upsOf_L4 Q n v0 (v1 + 1) (v2 + 1) hp2))))
def w_X1_upsOf (a0 : Nat) (h : gaH) (Q : Int → gaH → Prop) : Prop := ∃ z, w_X1_upsOf_L4 Q z a0 0 0 h
abbrev rm_X1_upsOf : Room := { frames := 1, cells := 0, slots := 0, locals := 21 }
theorem hd_X1_upsOf : (yX1_upsOf.cls ≠ "java/lang/invoke/MethodHandle" ∧ yX1_upsOf.cls ≠ "java/lang/invoke/VarHandle" ∧ (parseMethodDescriptor yX1_upsOf.desc).map (fun d => d.parameters.length) = some 1) := by decide +kernel
theorem k_X1_upsOf {l : Launch} (hst : l.stackTraces = false) {G : gaG} {X : String → gaH → Prop} {a0 : Nat} {h : gaH} {Q : Int → gaH → Prop} (hw : w_X1_upsOf a0 h Q) : gaC l G yX1_upsOf (gaM yX1_upsOf cX1_upsOf 3 ((some .int))) rm_X1_upsOf [.ref a0] h (gQi Q) X := by
  refine g_start (lv := [some (.ref a0), none, none]) hpl_RX1 hst (Nat.le_of_ble_eq_true rfl) (gaArgs_pad (z := 2) rfl) ww_1_238 ?_
  intro p e s m args below meth c V hT
  have h_X1_upsOf_L4 : ∀ (n : Nat), ∀ (v0 : Nat) (v1 : Int) (v2 : Int) (h : gaH), w_X1_upsOf_L4 Q n v0 v1 v2 h → gaP p l e rm_X1_upsOf s m args below meth c G 3 (gaZ below G (gQi Q) X args s rm_X1_upsOf) 4 [some (.ref v0), some (gi v1), some (gi v2)] [] h 0 0 := by
    intro n
    induction n with
    | zero =>
      intro v0 v1 v2 h hw
      exact hw.elim
    | succ n ih =>
      intro v0 v1 v2 h hw
      unfold w_X1_upsOf_L4 at hw
      refine g_iload_n V dX1_upsOf_4 rfl rfl ?_
      refine g_aload_n V dX1_upsOf_5 rfl rfl ?_
      obtain ⟨fs, r1, ha, hv, hw⟩ := hw
      refine g_getN (C := RX4) (T := TX4) (N := 2) (host := "Wordgarden") V 1 rfl hin_RX4 (by decide) (by decide) gn_2 rfl ha hv dX1_upsOf_6 rfl ?_
      obtain ⟨hx0, hx1, hw⟩ := hw
      refine gi_icmp_ge V dX1_upsOf_9 rfl rfl hx0 hx1 (fun q => ?_) (fun q => ?_)
      · have hw := ga_t q hw
        refine g_iload_n V dX1_upsOf_29 rfl rfl ?_
        exact g_iret V rfl rfl dX1_upsOf_30 ⟨_, rfl, hw⟩
      · have hw := ga_f q hw
        refine g_aload_n V dX1_upsOf_12 rfl rfl ?_
        refine g_iload_n V dX1_upsOf_13 rfl rfl ?_
        obtain ⟨hb, hw⟩ := hw
        obtain ⟨fb, hb⟩ := hb
        refine g_callV (C := RX4) (T := TX4) (N := 2) (st := []) V (k_X4_isUp hst hw) ww_1_239 ww_1_228 ww_1_229 ww_1_3 ww_1_230 hd_X4_isUp ⟨by decide, by decide⟩ rfl (by decide) hb rfl rfl (ga_cat rfl) dX1_upsOf_14 (Nat.zero_le _) (Nat.zero_le _) rfl (gaX_all hT V) (ga_ki (fun r3 hp2 hw => ?_))
        obtain ⟨hx0, hw⟩ := hw
        refine gi_if_eq V dX1_upsOf_17 rfl rfl hx0 (fun q => ?_) (fun q => ?_)
        · have hw := ga_t q hw
          refine gi_iinc (lv2 := [some (.ref v0), some (gi v1), some (gi (v2 + 1))]) V dX1_upsOf_23 (by decide) rfl rfl rfl rfl ?_
          refine g_goto V dX1_upsOf_26 rfl ?_
          exact ih v0 v1 (v2 + 1) hp2 hw
        · have hw := ga_f q hw
          refine gi_iinc (lv2 := [some (.ref v0), some (gi (v1 + 1)), some (gi v2)]) V dX1_upsOf_20 (by decide) rfl rfl rfl rfl ?_
          refine gi_iinc (lv2 := [some (.ref v0), some (gi (v1 + 1)), some (gi (v2 + 1))]) V dX1_upsOf_23 (by decide) rfl rfl rfl rfl ?_
          refine g_goto V dX1_upsOf_26 rfl ?_
          exact ih v0 (v1 + 1) (v2 + 1) hp2 hw
  unfold w_X1_upsOf at hw
  refine g_iconst V (Int32.ofInt 0) dX1_upsOf_0 rfl rfl ?_
  refine g_istore_n (lv2 := [some (.ref a0), some (gi 0), none]) V dX1_upsOf_1 (by decide) rfl rfl rfl ?_
  refine g_iconst V (Int32.ofInt 0) dX1_upsOf_2 rfl rfl ?_
  refine g_istore_n (lv2 := [some (.ref a0), some (gi 0), some (gi 0)]) V dX1_upsOf_3 (by decide) rfl rfl rfl ?_
  obtain ⟨z, hw⟩ := hw
  exact h_X1_upsOf_L4 z a0 0 0 h hw
def w_X2_imageLength (a0 : Nat) (a1 : Nat) (h : gaH) (Q : Int → gaH → Prop) : Prop := w_X1_upsOf a1 h (fun r2 hp1 => gI hp1 a1 4 1 (fun r3 => gA hp1 a0 3 0 (fun r4 => gI hp1 r4 4 1 (fun r5 => gA hp1 a0 3 1 (fun r6 => gI hp1 r6 4 1 (fun r7 => Q (((r3 - r2) * r5) + (r2 * r7)) hp1))))))
abbrev rm_X2_imageLength : Room := { frames := 2, cells := 0, slots := 0, locals := 43 }
theorem hd_X2_imageLength : yX2_imageLength.cls = RX2 ∧ (yX2_imageLength.cls ≠ "java/lang/invoke/MethodHandle" ∧ yX2_imageLength.cls ≠ "java/lang/invoke/VarHandle" ∧ (parseMethodDescriptor yX2_imageLength.desc).map (fun d => d.parameters.length) = some 1) := by decide +kernel
theorem k_X2_imageLength {l : Launch} (hst : l.stackTraces = false) {G : gaG} {X : String → gaH → Prop} {a0 : Nat} {a1 : Nat} {h : gaH} {Q : Int → gaH → Prop} (hw : w_X2_imageLength a0 a1 h Q) : gaC l G yX2_imageLength (gaM yX2_imageLength cX2_imageLength 3 ((some .int))) rm_X2_imageLength [.ref a0, .ref a1] h (gQi Q) X := by
  refine g_start (lv := [some (.ref a0), some (.ref a1), none]) hpl_RX2 hst (Nat.le_of_ble_eq_true rfl) (gaArgs_pad (z := 1) rfl) ww_3_108 ?_
  intro p e s m args below meth c V hT
  unfold w_X2_imageLength at hw
  refine g_aload_n V dX2_imageLength_0 rfl rfl ?_
  refine g_callS (st := []) V (k_X1_upsOf hst hw) ww_3_109 ww_1_237 ww_1_12 ww_1_238 hd_X1_upsOf ⟨by decide, by decide⟩ rfl rfl (ga_cat rfl) dX2_imageLength_1 (Nat.zero_le _) (Nat.zero_le _) rfl (gaX_all hT V) (ga_ki (fun r2 hp1 hw => ?_))
  refine g_istore_n (lv2 := [some (.ref a0), some (.ref a1), some (gi r2)]) V dX2_imageLength_4 (by decide) rfl rfl rfl ?_
  refine g_aload_n V dX2_imageLength_5 rfl rfl ?_
  obtain ⟨fs, r3, ha, hv, hw⟩ := hw
  refine g_getN (C := RX4) (T := TX4) (N := 2) (host := "Wordgarden") V 1 rfl hin_RX4 (by decide) (by decide) gn_5 rfl ha hv dX2_imageLength_6 rfl ?_
  refine g_iload_n V dX2_imageLength_9 rfl rfl ?_
  refine gi_isub V dX2_imageLength_10 rfl ?_
  refine g_aload_n V dX2_imageLength_11 rfl rfl ?_
  obtain ⟨fs, r4, ha, hv, hw⟩ := hw
  refine g_get (C := RX2) (T := TX2) (N := 3) V 0 rfl hin_RX2 (by decide) (by decide) ww_1_63 rfl ha hv dX2_imageLength_12 rfl ?_
  obtain ⟨fs, r5, ha, hv, hw⟩ := hw
  refine g_getN (C := RX4) (T := TX4) (N := 2) (host := "Wordgarden") V 1 rfl hin_RX4 (by decide) (by decide) gn_5 rfl ha hv dX2_imageLength_15 rfl ?_
  refine gi_imul V dX2_imageLength_18 rfl ?_
  refine g_iload_n V dX2_imageLength_19 rfl rfl ?_
  refine g_aload_n V dX2_imageLength_20 rfl rfl ?_
  obtain ⟨fs, r6, ha, hv, hw⟩ := hw
  refine g_get (C := RX2) (T := TX2) (N := 3) V 1 rfl hin_RX2 (by decide) (by decide) ww_1_64 rfl ha hv dX2_imageLength_21 rfl ?_
  obtain ⟨fs, r7, ha, hv, hw⟩ := hw
  refine g_getN (C := RX4) (T := TX4) (N := 2) (host := "Wordgarden") V 1 rfl hin_RX4 (by decide) (by decide) gn_5 rfl ha hv dX2_imageLength_24 rfl ?_
  refine gi_imul V dX2_imageLength_27 rfl ?_
  refine gi_iadd V dX2_imageLength_28 rfl ?_
  exact g_iret V rfl rfl dX2_imageLength_29 ⟨_, rfl, hw⟩
def w_X2_layImage_J33 (Q : gaH → Prop) (K6 : Nat → Nat → Nat → Int → gaH → Prop) (v0 : Nat) (v1 : Nat) (v2 : Nat) (v3 : Int) (t0 : Nat) (h : gaH) : Prop := gI h t0 4 1 (fun r1 => gHas h v2 4 ∧ w_X4_addPart v2 t0 0 r1 h (fun hp2 => K6 v0 v1 v2 (v3 + 1) hp2))
def w_X2_layImage_L6 (Q : gaH → Prop) : Nat → (Nat → Nat → Nat → Int → gaH → Prop)
  | 0 => fun _ _ _ _ _ => False
  | n + 1 => fun v0 v1 v2 v3 h => gI h v1 4 1 (fun r1 => gR v3 ∧ gR r1 ∧ (if r1 ≤ v3 then Q h else gHas h v1 4 ∧ w_X4_isUp v1 v3 h (fun r3 hp2 => gR r3 ∧ (if r3 = 0 then gA hp2 v0 3 0 (fun r4 => w_X2_layImage_J33 Q (w_X2_layImage_L6 Q n) v0 v1 v2 v3 r4 hp2) else gA hp2 v0 3 1 (fun r5 => w_X2_layImage_J33 Q (w_X2_layImage_L6 Q n) v0 v1 v2 v3 r5 hp2)))))
def w_X2_layImage (a0 : Nat) (a1 : Nat) (a2 : Nat) (h : gaH) (Q : gaH → Prop) : Prop := gHas h a2 4 ∧ w_X4_clear a2 h (fun hp1 => ∃ z, w_X2_layImage_L6 Q z a0 a1 a2 0 hp1)
abbrev rm_X2_layImage : Room := { frames := 2, cells := 0, slots := 0, locals := 45 }
theorem hd_X2_layImage : yX2_layImage.cls = RX2 ∧ (yX2_layImage.cls ≠ "java/lang/invoke/MethodHandle" ∧ yX2_layImage.cls ≠ "java/lang/invoke/VarHandle" ∧ (parseMethodDescriptor yX2_layImage.desc).map (fun d => d.parameters.length) = some 2) := by decide +kernel
theorem k_X2_layImage {l : Launch} (hst : l.stackTraces = false) {G : gaG} {X : String → gaH → Prop} {a0 : Nat} {a1 : Nat} {a2 : Nat} {h : gaH} {Q : gaH → Prop} (hw : w_X2_layImage a0 a1 a2 h Q) : gaC l G yX2_layImage (gaM yX2_layImage cX2_layImage 5 ((none : Option Jvm.ClassFile.FieldType))) rm_X2_layImage [.ref a0, .ref a1, .ref a2] h (gQv Q) X := by
  refine g_start (lv := [some (.ref a0), some (.ref a1), some (.ref a2), none, none]) hpl_RX2 hst (Nat.le_of_ble_eq_true rfl) (gaArgs_pad (z := 2) rfl) ww_2_42 ?_
  intro p e s m args below meth c V hT
  have h_X2_layImage_J33 : ∀ (K6 : Nat → Nat → Nat → Int → gaH → Prop), ∀ (hK6 : ∀ (v0 : Nat) (v1 : Nat) (v2 : Nat) (v3 : Int) (h : gaH), K6 v0 v1 v2 v3 h → gaP p l e rm_X2_layImage s m args below meth c G 5 (gaZ below G (gQv Q) X args s rm_X2_layImage) 6 [some (.ref v0), some (.ref v1), some (.ref v2), some (gi v3), none] [] h 0 0), ∀ (v0 : Nat) (v1 : Nat) (v2 : Nat) (v3 : Int) (t0 : Nat) (h : gaH), w_X2_layImage_J33 Q K6 v0 v1 v2 v3 t0 h → gaP p l e rm_X2_layImage s m args below meth c G 5 (gaZ below G (gQv Q) X args s rm_X2_layImage) 33 [some (.ref v0), some (.ref v1), some (.ref v2), some (gi v3), none] [.ref t0] h 0 0 := by
    intro K6 hK6
    intro v0 v1 v2 v3 t0 h hw
    unfold w_X2_layImage_J33 at hw
    refine g_astore (lv2 := [some (.ref v0), some (.ref v1), some (.ref v2), some (gi v3), some (.ref t0)]) V dX2_layImage_33 (by decide) rfl rfl rfl ?_
    refine g_aload_n V dX2_layImage_35 rfl rfl ?_
    refine g_aload V dX2_layImage_36 rfl rfl ?_
    refine g_iconst V (Int32.ofInt 0) dX2_layImage_38 rfl rfl ?_
    refine g_aload V dX2_layImage_39 rfl rfl ?_
    obtain ⟨fs, r1, ha, hv, hw⟩ := hw
    refine g_getN (C := RX4) (T := TX4) (N := 2) (host := "Wordgarden") V 1 rfl hin_RX4 (by decide) (by decide) gn_5 rfl ha hv dX2_layImage_41 rfl ?_
    obtain ⟨hb, hw⟩ := hw
    obtain ⟨fb, hb⟩ := hb
    refine g_callV (C := RX4) (T := TX4) (N := 2) (st := []) V (k_X4_addPart hst hw) ww_2_45 ww_2_46 ww_2_47 ww_1_3 ww_2_48 hd_X4_addPart ⟨by decide, by decide⟩ rfl (by decide) hb rfl rfl (ga_cat rfl) dX2_layImage_44 (Nat.zero_le _) (Nat.zero_le _) rfl (gaX_all hT V) (ga_kv (fun hp2 hw => ?_))
    refine gi_iinc (lv2 := [some (.ref v0), some (.ref v1), some (.ref v2), some (gi (v3 + 1)), some (.ref t0)]) V dX2_layImage_47 (by decide) rfl rfl rfl rfl ?_
    refine g_goto V dX2_layImage_50 rfl ?_
    refine g_less (bs := [true, true, true, true, false]) (lv2 := [some (.ref v0), some (.ref v1), some (.ref v2), some (gi (v3 + 1)), none]) rfl ?_
    exact hK6 v0 v1 v2 (v3 + 1) hp2 hw
  have h_X2_layImage_L6 : ∀ (n : Nat), ∀ (v0 : Nat) (v1 : Nat) (v2 : Nat) (v3 : Int) (h : gaH), w_X2_layImage_L6 Q n v0 v1 v2 v3 h → gaP p l e rm_X2_layImage s m args below meth c G 5 (gaZ below G (gQv Q) X args s rm_X2_layImage) 6 [some (.ref v0), some (.ref v1), some (.ref v2), some (gi v3), none] [] h 0 0 := by
    intro n
    induction n with
    | zero =>
      intro v0 v1 v2 v3 h hw
      exact hw.elim
    | succ n ih =>
      intro v0 v1 v2 v3 h hw
      unfold w_X2_layImage_L6 at hw
      refine g_iload_n V dX2_layImage_6 rfl rfl ?_
      refine g_aload_n V dX2_layImage_7 rfl rfl ?_
      obtain ⟨fs, r1, ha, hv, hw⟩ := hw
      refine g_getN (C := RX4) (T := TX4) (N := 2) (host := "Wordgarden") V 1 rfl hin_RX4 (by decide) (by decide) gn_5 rfl ha hv dX2_layImage_8 rfl ?_
      obtain ⟨hx0, hx1, hw⟩ := hw
      refine gi_icmp_ge V dX2_layImage_11 rfl rfl hx0 hx1 (fun q => ?_) (fun q => ?_)
      · have hw := ga_t q hw
        exact g_vret V rfl dX2_layImage_53 ⟨rfl, hw⟩
      · have hw := ga_f q hw
        refine g_aload_n V dX2_layImage_14 rfl rfl ?_
        refine g_iload_n V dX2_layImage_15 rfl rfl ?_
        obtain ⟨hb, hw⟩ := hw
        obtain ⟨fb, hb⟩ := hb
        refine g_callV (C := RX4) (T := TX4) (N := 2) (st := []) V (k_X4_isUp hst hw) ww_2_44 ww_1_228 ww_1_229 ww_1_3 ww_1_230 hd_X4_isUp ⟨by decide, by decide⟩ rfl (by decide) hb rfl rfl (ga_cat rfl) dX2_layImage_16 (Nat.zero_le _) (Nat.zero_le _) rfl (gaX_all hT V) (ga_ki (fun r3 hp2 hw => ?_))
        obtain ⟨hx0, hw⟩ := hw
        refine gi_if_eq V dX2_layImage_19 rfl rfl hx0 (fun q => ?_) (fun q => ?_)
        · have hw := ga_t q hw
          refine g_aload_n V dX2_layImage_29 rfl rfl ?_
          obtain ⟨fs, r4, ha, hv, hw⟩ := hw
          refine g_get (C := RX2) (T := TX2) (N := 3) V 0 rfl hin_RX2 (by decide) (by decide) ww_1_63 rfl ha hv dX2_layImage_30 rfl ?_
          exact h_X2_layImage_J33 (w_X2_layImage_L6 Q n) ih v0 v1 v2 v3 r4 hp2 hw
        · have hw := ga_f q hw
          refine g_aload_n V dX2_layImage_22 rfl rfl ?_
          obtain ⟨fs, r5, ha, hv, hw⟩ := hw
          refine g_get (C := RX2) (T := TX2) (N := 3) V 1 rfl hin_RX2 (by decide) (by decide) ww_1_64 rfl ha hv dX2_layImage_23 rfl ?_
          refine g_goto V dX2_layImage_26 rfl ?_
          exact h_X2_layImage_J33 (w_X2_layImage_L6 Q n) ih v0 v1 v2 v3 r5 hp2 hw
  unfold w_X2_layImage at hw
  refine g_aload_n V dX2_layImage_0 rfl rfl ?_
  obtain ⟨hb, hw⟩ := hw
  obtain ⟨fb, hb⟩ := hb
  refine g_callV (C := RX4) (T := TX4) (N := 2) (st := []) V (k_X4_clear hst hw) ww_2_43 ww_1_86 ww_1_87 ww_1_3 ww_1_88 hd_X4_clear ⟨by decide, by decide⟩ rfl (by decide) hb rfl rfl (ga_cat rfl) dX2_layImage_1 (Nat.zero_le _) (Nat.zero_le _) rfl (gaX_all hT V) (ga_kv (fun hp1 hw => ?_))
  refine g_iconst V (Int32.ofInt 0) dX2_layImage_4 rfl rfl ?_
  refine g_istore_n (lv2 := [some (.ref a0), some (.ref a1), some (.ref a2), some (gi 0), none]) V dX2_layImage_5 (by decide) rfl rfl rfl ?_
  obtain ⟨z, hw⟩ := hw
  exact h_X2_layImage_L6 z a0 a1 a2 0 hp1 hw
def w_J6_compare_7cf53 (a0 : Int) (a1 : Int) (h : gaH) (Q : Int → gaH → Prop) : Prop := gR a0 ∧ gR a1 ∧ (if a1 ≤ a0 then gR a0 ∧ gR a1 ∧ (if a0 = a1 then Q 0 h else Q 1 h) else Q (-1) h)
abbrev rm_J6_compare_7cf53 : Room := { frames := 0, cells := 0, slots := 0, locals := 0 }
theorem hd_J6_compare_7cf53 : (yJ6_compare_7cf53.cls ≠ "java/lang/invoke/MethodHandle" ∧ yJ6_compare_7cf53.cls ≠ "java/lang/invoke/VarHandle" ∧ (parseMethodDescriptor yJ6_compare_7cf53.desc).map (fun d => d.parameters.length) = some 2) := by decide +kernel
theorem k_J6_compare_7cf53 {l : Launch} (hst : l.stackTraces = false) {G : gaG} {X : String → gaH → Prop} {a0 : Int} {a1 : Int} {h : gaH} {Q : Int → gaH → Prop} (hw : w_J6_compare_7cf53 a0 a1 h Q) : gaC l G yJ6_compare_7cf53 (gaM yJ6_compare_7cf53 cJ6_compare_7cf53 2 ((some .int))) rm_J6_compare_7cf53 [gi a0, gi a1] h (gQi Q) X := by
  refine g_start (lv := [some (gi a0), some (gi a1)]) hpl_RJ6 hst (Nat.le_of_ble_eq_true rfl) (gaArgs_pad (z := 0) rfl) ww_2_8 ?_
  intro p e s m args below meth c V hT
  unfold w_J6_compare_7cf53 at hw
  refine g_iload_n V dJ6_compare_7cf53_0 rfl rfl ?_
  refine g_iload_n V dJ6_compare_7cf53_1 rfl rfl ?_
  obtain ⟨hx0, hx1, hw⟩ := hw
  refine gi_icmp_ge V dJ6_compare_7cf53_2 rfl rfl hx0 hx1 (fun q => ?_) (fun q => ?_)
  · have hw := ga_t q hw
    refine g_iload_n V dJ6_compare_7cf53_9 rfl rfl ?_
    refine g_iload_n V dJ6_compare_7cf53_10 rfl rfl ?_
    obtain ⟨hx0, hx1, hw⟩ := hw
    refine gi_icmp_ne V dJ6_compare_7cf53_11 rfl rfl hx0 hx1 (fun q => ?_) (fun q => ?_)
    · have hw := ga_f q hw
      refine g_iconst V (Int32.ofInt 1) dJ6_compare_7cf53_18 rfl rfl ?_
      exact g_iret V rfl rfl dJ6_compare_7cf53_19 ⟨_, rfl, hw⟩
    · have hw := ga_t q hw
      refine g_iconst V (Int32.ofInt 0) dJ6_compare_7cf53_14 rfl rfl ?_
      refine g_goto V dJ6_compare_7cf53_15 rfl ?_
      exact g_iret V rfl rfl dJ6_compare_7cf53_19 ⟨_, rfl, hw⟩
  · have hw := ga_f q hw
    refine g_iconst V (Int32.ofInt (-1)) dJ6_compare_7cf53_5 rfl rfl ?_
    refine g_goto V dJ6_compare_7cf53_6 rfl ?_
    exact g_iret V rfl rfl dJ6_compare_7cf53_19 ⟨_, rfl, hw⟩
def w_X1_orderOf_L14 (Q : Int → gaH → Prop) : Nat → (Nat → Nat → Int → Int → gaH → Prop)
  | 0 => fun _ _ _ _ _ => False
  | n + 1 => fun v0 v1 v2 v3 h => gR v3 ∧ gR v2 ∧ (if v2 ≤ v3 then gI h v0 4 1 (fun r1 => gI h v1 4 1 (fun r2 => w_J6_compare_7cf53 r1 r2 h (fun r4 hp3 => Q r4 hp3))) else gHas h v0 4 ∧ w_X4_isUp v0 v3 h (fun r6 hp5 => gHas hp5 v1 4 ∧ w_X4_isUp v1 v3 hp5 (fun r8 hp7 => gR r6 ∧ gR r8 ∧ (if r6 = r8 then w_X1_orderOf_L14 Q n v0 v1 v2 (v3 + 1) hp7 else gHas hp7 v1 4 ∧ w_X4_isUp v1 v3 hp7 (fun r10 hp9 => gR r10 ∧ (if r10 = 0 then Q 1 hp9 else Q (-1) hp9))))))
def w_X1_orderOf (a0 : Nat) (a1 : Nat) (h : gaH) (Q : Int → gaH → Prop) : Prop := gI h a0 4 1 (fun r1 => gI h a1 4 1 (fun r2 => gR r1 ∧ gR r2 ∧ (∃ z, w_X1_orderOf_L14 Q z a0 a1 (min r1 r2) 0 h)))
abbrev rm_X1_orderOf : Room := { frames := 2, cells := 0, slots := 0, locals := 60 }
theorem hd_X1_orderOf : (yX1_orderOf.cls ≠ "java/lang/invoke/MethodHandle" ∧ yX1_orderOf.cls ≠ "java/lang/invoke/VarHandle" ∧ (parseMethodDescriptor yX1_orderOf.desc).map (fun d => d.parameters.length) = some 2) := by decide +kernel
theorem k_X1_orderOf {l : Launch} (hst : l.stackTraces = false) {G : gaG} {X : String → gaH → Prop} {a0 : Nat} {a1 : Nat} {h : gaH} {Q : Int → gaH → Prop} (hw : w_X1_orderOf a0 a1 h Q) : gaC l G yX1_orderOf (gaM yX1_orderOf cX1_orderOf 4 ((some .int))) rm_X1_orderOf [.ref a0, .ref a1] h (gQi Q) X := by
  refine g_start (lv := [some (.ref a0), some (.ref a1), none, none]) hpl_RX1 hst (Nat.le_of_ble_eq_true rfl) (gaArgs_pad (z := 2) rfl) ww_2_2 ?_
  intro p e s m args below meth c V hT
  have h_X1_orderOf_L14 : ∀ (n : Nat), ∀ (v0 : Nat) (v1 : Nat) (v2 : Int) (v3 : Int) (h : gaH), w_X1_orderOf_L14 Q n v0 v1 v2 v3 h → gaP p l e rm_X1_orderOf s m args below meth c G 4 (gaZ below G (gQi Q) X args s rm_X1_orderOf) 14 [some (.ref v0), some (.ref v1), some (gi v2), some (gi v3)] [] h 0 0 := by
    intro n
    induction n with
    | zero =>
      intro v0 v1 v2 v3 h hw
      exact hw.elim
    | succ n ih =>
      intro v0 v1 v2 v3 h hw
      unfold w_X1_orderOf_L14 at hw
      refine g_iload_n V dX1_orderOf_14 rfl rfl ?_
      refine g_iload_n V dX1_orderOf_15 rfl rfl ?_
      obtain ⟨hx0, hx1, hw⟩ := hw
      refine gi_icmp_ge V dX1_orderOf_16 rfl rfl hx0 hx1 (fun q => ?_) (fun q => ?_)
      · have hw := ga_t q hw
        refine g_aload_n V dX1_orderOf_52 rfl rfl ?_
        obtain ⟨fs, r1, ha, hv, hw⟩ := hw
        refine g_getN (C := RX4) (T := TX4) (N := 2) (host := "Wordgarden") V 1 rfl hin_RX4 (by decide) (by decide) gn_2 rfl ha hv dX1_orderOf_53 rfl ?_
        refine g_aload_n V dX1_orderOf_56 rfl rfl ?_
        obtain ⟨fs, r2, ha, hv, hw⟩ := hw
        refine g_getN (C := RX4) (T := TX4) (N := 2) (host := "Wordgarden") V 1 rfl hin_RX4 (by decide) (by decide) gn_2 rfl ha hv dX1_orderOf_57 rfl ?_
        refine g_callS (st := []) V (k_J6_compare_7cf53 hst hw) ww_2_6 ww_2_7 ww_1_14 ww_2_8 hd_J6_compare_7cf53 ⟨by decide, by decide⟩ rfl rfl (ga_cat rfl) dX1_orderOf_60 (Nat.zero_le _) (Nat.zero_le _) rfl (gaX_all hT V) (ga_ki (fun r4 hp3 hw => ?_))
        exact g_iret V rfl rfl dX1_orderOf_63 ⟨_, rfl, hw⟩
      · have hw := ga_f q hw
        refine g_aload_n V dX1_orderOf_19 rfl rfl ?_
        refine g_iload_n V dX1_orderOf_20 rfl rfl ?_
        obtain ⟨hb, hw⟩ := hw
        obtain ⟨fb, hb⟩ := hb
        refine g_callV (C := RX4) (T := TX4) (N := 2) (st := []) V (k_X4_isUp hst hw) ww_1_239 ww_1_228 ww_1_229 ww_1_3 ww_1_230 hd_X4_isUp ⟨by decide, by decide⟩ rfl (by decide) hb rfl rfl (ga_cat rfl) dX1_orderOf_21 (Nat.zero_le _) (Nat.zero_le _) rfl (gaX_all hT V) (ga_ki (fun r6 hp5 hw => ?_))
        refine g_aload_n V dX1_orderOf_24 rfl rfl ?_
        refine g_iload_n V dX1_orderOf_25 rfl rfl ?_
        obtain ⟨hb, hw⟩ := hw
        obtain ⟨fb, hb⟩ := hb
        refine g_callV (C := RX4) (T := TX4) (N := 2) (st := [gi r6]) V (k_X4_isUp hst hw) ww_1_239 ww_1_228 ww_1_229 ww_1_3 ww_1_230 hd_X4_isUp ⟨by decide, by decide⟩ rfl (by decide) hb rfl rfl (ga_cat rfl) dX1_orderOf_26 (Nat.zero_le _) (Nat.zero_le _) rfl (gaX_all hT V) (ga_ki (fun r8 hp7 hw => ?_))
        obtain ⟨hx0, hx1, hw⟩ := hw
        refine gi_icmp_eq V dX1_orderOf_29 rfl rfl hx0 hx1 (fun q => ?_) (fun q => ?_)
        · have hw := ga_t q hw
          refine gi_iinc (lv2 := [some (.ref v0), some (.ref v1), some (gi v2), some (gi (v3 + 1))]) V dX1_orderOf_46 (by decide) rfl rfl rfl rfl ?_
          refine g_goto V dX1_orderOf_49 rfl ?_
          exact ih v0 v1 v2 (v3 + 1) hp7 hw
        · have hw := ga_f q hw
          refine g_aload_n V dX1_orderOf_32 rfl rfl ?_
          refine g_iload_n V dX1_orderOf_33 rfl rfl ?_
          obtain ⟨hb, hw⟩ := hw
          obtain ⟨fb, hb⟩ := hb
          refine g_callV (C := RX4) (T := TX4) (N := 2) (st := []) V (k_X4_isUp hst hw) ww_1_239 ww_1_228 ww_1_229 ww_1_3 ww_1_230 hd_X4_isUp ⟨by decide, by decide⟩ rfl (by decide) hb rfl rfl (ga_cat rfl) dX1_orderOf_34 (Nat.zero_le _) (Nat.zero_le _) rfl (gaX_all hT V) (ga_ki (fun r10 hp9 hw => ?_))
          obtain ⟨hx0, hw⟩ := hw
          refine gi_if_eq V dX1_orderOf_37 rfl rfl hx0 (fun q => ?_) (fun q => ?_)
          · have hw := ga_t q hw
            refine g_iconst V (Int32.ofInt 1) dX1_orderOf_44 rfl rfl ?_
            exact g_iret V rfl rfl dX1_orderOf_45 ⟨_, rfl, hw⟩
          · have hw := ga_f q hw
            refine g_iconst V (Int32.ofInt (-1)) dX1_orderOf_40 rfl rfl ?_
            refine g_goto V dX1_orderOf_41 rfl ?_
            exact g_iret V rfl rfl dX1_orderOf_45 ⟨_, rfl, hw⟩
  unfold w_X1_orderOf at hw
  refine g_aload_n V dX1_orderOf_0 rfl rfl ?_
  obtain ⟨fs, r1, ha, hv, hw⟩ := hw
  refine g_getN (C := RX4) (T := TX4) (N := 2) (host := "Wordgarden") V 1 rfl hin_RX4 (by decide) (by decide) gn_2 rfl ha hv dX1_orderOf_1 rfl ?_
  refine g_aload_n V dX1_orderOf_4 rfl rfl ?_
  obtain ⟨fs, r2, ha, hv, hw⟩ := hw
  refine g_getN (C := RX4) (T := TX4) (N := 2) (host := "Wordgarden") V 1 rfl hin_RX4 (by decide) (by decide) gn_2 rfl ha hv dX1_orderOf_5 rfl ?_
  obtain ⟨hx0, hx1, hw⟩ := hw
  refine gi_mmin V ww_2_3 ww_2_4 ww_1_13 ww_2_5 (by decide) (by decide) (ga_cat rfl) hx0 hx1 dX1_orderOf_8 rfl ?_
  refine g_istore_n (lv2 := [some (.ref a0), some (.ref a1), some (gi (min r1 r2)), none]) V dX1_orderOf_11 (by decide) rfl rfl rfl ?_
  refine g_iconst V (Int32.ofInt 0) dX1_orderOf_12 rfl rfl ?_
  refine g_istore_n (lv2 := [some (.ref a0), some (.ref a1), some (gi (min r1 r2)), some (gi 0)]) V dX1_orderOf_13 (by decide) rfl rfl rfl ?_
  obtain ⟨z, hw⟩ := hw
  exact h_X1_orderOf_L14 z a0 a1 (min r1 r2) 0 h hw
def w_X1_isMirroredPart_L2 (Q : Int → gaH → Prop) : Nat → (Nat → Int → Int → Int → gaH → Prop)
  | 0 => fun _ _ _ _ _ => False
  | n + 1 => fun v0 v1 v2 v3 h => gR v3 ∧ gR (gDiv v2 2) ∧ (if (gDiv v2 2) ≤ v3 then Q 1 h else gHas h v0 4 ∧ w_X4_isUp v0 (v1 + v3) h (fun r2 hp1 => gHas hp1 v0 4 ∧ w_X4_isUp v0 (((v1 + v2) - 1) - v3) hp1 (fun r4 hp3 => gR r2 ∧ gR r4 ∧ (if r2 = r4 then w_X1_isMirroredPart_L2 Q n v0 v1 v2 (v3 + 1) hp3 else Q 0 hp3))))
def w_X1_isMirroredPart (a0 : Nat) (a1 : Int) (a2 : Int) (h : gaH) (Q : Int → gaH → Prop) : Prop := ∃ z, w_X1_isMirroredPart_L2 Q z a0 a1 a2 0 h
abbrev rm_X1_isMirroredPart : Room := { frames := 1, cells := 0, slots := 0, locals := 21 }
theorem hd_X1_isMirroredPart : (yX1_isMirroredPart.cls ≠ "java/lang/invoke/MethodHandle" ∧ yX1_isMirroredPart.cls ≠ "java/lang/invoke/VarHandle" ∧ (parseMethodDescriptor yX1_isMirroredPart.desc).map (fun d => d.parameters.length) = some 3) := by decide +kernel
theorem k_X1_isMirroredPart {l : Launch} (hst : l.stackTraces = false) {G : gaG} {X : String → gaH → Prop} {a0 : Nat} {a1 : Int} {a2 : Int} {h : gaH} {Q : Int → gaH → Prop} (hw : w_X1_isMirroredPart a0 a1 a2 h Q) : gaC l G yX1_isMirroredPart (gaM yX1_isMirroredPart cX1_isMirroredPart 4 ((some .boolean))) rm_X1_isMirroredPart [.ref a0, gi a1, gi a2] h (gQi Q) X := by
  refine g_start (lv := [some (.ref a0), some (gi a1), some (gi a2), none]) hpl_RX1 hst (Nat.le_of_ble_eq_true rfl) (gaArgs_pad (z := 1) rfl) ww_2_103 ?_
  intro p e s m args below meth c V hT
  have h_X1_isMirroredPart_L2 : ∀ (n : Nat), ∀ (v0 : Nat) (v1 : Int) (v2 : Int) (v3 : Int) (h : gaH), w_X1_isMirroredPart_L2 Q n v0 v1 v2 v3 h → gaP p l e rm_X1_isMirroredPart s m args below meth c G 4 (gaZ below G (gQi Q) X args s rm_X1_isMirroredPart) 2 [some (.ref v0), some (gi v1), some (gi v2), some (gi v3)] [] h 0 0 := by
    intro n
    induction n with
    | zero =>
      intro v0 v1 v2 v3 h hw
      exact hw.elim
    | succ n ih =>
      intro v0 v1 v2 v3 h hw
      unfold w_X1_isMirroredPart_L2 at hw
      refine g_iload_n V dX1_isMirroredPart_2 rfl rfl ?_
      refine g_iload_n V dX1_isMirroredPart_3 rfl rfl ?_
      refine g_iconst V (Int32.ofInt 2) dX1_isMirroredPart_4 rfl rfl ?_
      refine gi_idiv V dX1_isMirroredPart_5 (by decide) (by decide) rfl ?_
      obtain ⟨hx0, hx1, hw⟩ := hw
      refine gi_icmp_ge V dX1_isMirroredPart_6 rfl rfl hx0 hx1 (fun q => ?_) (fun q => ?_)
      · have hw := ga_t q hw
        refine g_iconst V (Int32.ofInt 1) dX1_isMirroredPart_38 rfl rfl ?_
        exact g_iret V rfl rfl dX1_isMirroredPart_39 ⟨_, rfl, hw⟩
      · have hw := ga_f q hw
        refine g_aload_n V dX1_isMirroredPart_9 rfl rfl ?_
        refine g_iload_n V dX1_isMirroredPart_10 rfl rfl ?_
        refine g_iload_n V dX1_isMirroredPart_11 rfl rfl ?_
        refine gi_iadd V dX1_isMirroredPart_12 rfl ?_
        obtain ⟨hb, hw⟩ := hw
        obtain ⟨fb, hb⟩ := hb
        refine g_callV (C := RX4) (T := TX4) (N := 2) (st := []) V (k_X4_isUp hst hw) ww_1_239 ww_1_228 ww_1_229 ww_1_3 ww_1_230 hd_X4_isUp ⟨by decide, by decide⟩ rfl (by decide) hb rfl rfl (ga_cat rfl) dX1_isMirroredPart_13 (Nat.zero_le _) (Nat.zero_le _) rfl (gaX_all hT V) (ga_ki (fun r2 hp1 hw => ?_))
        refine g_aload_n V dX1_isMirroredPart_16 rfl rfl ?_
        refine g_iload_n V dX1_isMirroredPart_17 rfl rfl ?_
        refine g_iload_n V dX1_isMirroredPart_18 rfl rfl ?_
        refine gi_iadd V dX1_isMirroredPart_19 rfl ?_
        refine g_iconst V (Int32.ofInt 1) dX1_isMirroredPart_20 rfl rfl ?_
        refine gi_isub V dX1_isMirroredPart_21 rfl ?_
        refine g_iload_n V dX1_isMirroredPart_22 rfl rfl ?_
        refine gi_isub V dX1_isMirroredPart_23 rfl ?_
        obtain ⟨hb, hw⟩ := hw
        obtain ⟨fb, hb⟩ := hb
        refine g_callV (C := RX4) (T := TX4) (N := 2) (st := [gi r2]) V (k_X4_isUp hst hw) ww_1_239 ww_1_228 ww_1_229 ww_1_3 ww_1_230 hd_X4_isUp ⟨by decide, by decide⟩ rfl (by decide) hb rfl rfl (ga_cat rfl) dX1_isMirroredPart_24 (Nat.zero_le _) (Nat.zero_le _) rfl (gaX_all hT V) (ga_ki (fun r4 hp3 hw => ?_))
        obtain ⟨hx0, hx1, hw⟩ := hw
        refine gi_icmp_eq V dX1_isMirroredPart_27 rfl rfl hx0 hx1 (fun q => ?_) (fun q => ?_)
        · have hw := ga_t q hw
          refine gi_iinc (lv2 := [some (.ref v0), some (gi v1), some (gi v2), some (gi (v3 + 1))]) V dX1_isMirroredPart_32 (by decide) rfl rfl rfl rfl ?_
          refine g_goto V dX1_isMirroredPart_35 rfl ?_
          exact ih v0 v1 v2 (v3 + 1) hp3 hw
        · have hw := ga_f q hw
          refine g_iconst V (Int32.ofInt 0) dX1_isMirroredPart_30 rfl rfl ?_
          exact g_iret V rfl rfl dX1_isMirroredPart_31 ⟨_, rfl, hw⟩
  unfold w_X1_isMirroredPart at hw
  refine g_iconst V (Int32.ofInt 0) dX1_isMirroredPart_0 rfl rfl ?_
  refine g_istore_n (lv2 := [some (.ref a0), some (gi a1), some (gi a2), some (gi 0)]) V dX1_isMirroredPart_1 (by decide) rfl rfl rfl ?_
  obtain ⟨z, hw⟩ := hw
  exact h_X1_isMirroredPart_L2 z a0 a1 a2 0 h hw
def w_X1_timesWith_J42 (Q : Int → gaH → Prop) (K7 : Nat → Int → Int → Int → Int → gaH → Prop) (v0 : Nat) (v1 : Int) (v3 : Int) (v4 : Int) (t0 : Int) (h : gaH) : Prop := gR v3 ∧ gR t0 ∧ (K7 v0 v1 t0 (max v3 t0) (v4 + 1) h)
def w_X1_timesWith_L7 (Q : Int → gaH → Prop) : Nat → (Nat → Int → Int → Int → Int → gaH → Prop)
  | 0 => fun _ _ _ _ _ _ => False
  | n + 1 => fun v0 v1 v2 v3 v4 h => gI h v0 4 1 (fun r1 => gR (v4 + v1) ∧ gR r1 ∧ (if r1 ≤ (v4 + v1) then gR v1 ∧ (if v1 ≤ 0 then Q 1 h else gR v1 ∧ ¬ v1 = 0 ∧ (Q ((gDiv v3 v1) + 1) h)) else gHas h v0 4 ∧ w_X4_isUp v0 v4 h (fun r3 hp2 => gHas hp2 v0 4 ∧ w_X4_isUp v0 (v4 + v1) hp2 (fun r5 hp4 => gR r3 ∧ gR r5 ∧ (if r3 = r5 then w_X1_timesWith_J42 Q (w_X1_timesWith_L7 Q n) v0 v1 v3 v4 (v2 + 1) hp4 else w_X1_timesWith_J42 Q (w_X1_timesWith_L7 Q n) v0 v1 v3 v4 0 hp4)))))
def w_X1_timesWith (a0 : Nat) (a1 : Int) (h : gaH) (Q : Int → gaH → Prop) : Prop := ∃ z, w_X1_timesWith_L7 Q z a0 a1 0 0 0 h
abbrev rm_X1_timesWith : Room := { frames := 2, cells := 0, slots := 0, locals := 60 }
theorem hd_X1_timesWith : (yX1_timesWith.cls ≠ "java/lang/invoke/MethodHandle" ∧ yX1_timesWith.cls ≠ "java/lang/invoke/VarHandle" ∧ (parseMethodDescriptor yX1_timesWith.desc).map (fun d => d.parameters.length) = some 2) := by decide +kernel
theorem k_X1_timesWith {l : Launch} (hst : l.stackTraces = false) {G : gaG} {X : String → gaH → Prop} {a0 : Nat} {a1 : Int} {h : gaH} {Q : Int → gaH → Prop} (hw : w_X1_timesWith a0 a1 h Q) : gaC l G yX1_timesWith (gaM yX1_timesWith cX1_timesWith 5 ((some .int))) rm_X1_timesWith [.ref a0, gi a1] h (gQi Q) X := by
  refine g_start (lv := [some (.ref a0), some (gi a1), none, none, none]) hpl_RX1 hst (Nat.le_of_ble_eq_true rfl) (gaArgs_pad (z := 3) rfl) ww_2_116 ?_
  intro p e s m args below meth c V hT
  have h_X1_timesWith_J42 : ∀ (K7 : Nat → Int → Int → Int → Int → gaH → Prop), ∀ (hK7 : ∀ (v0 : Nat) (v1 : Int) (v2 : Int) (v3 : Int) (v4 : Int) (h : gaH), K7 v0 v1 v2 v3 v4 h → gaP p l e rm_X1_timesWith s m args below meth c G 5 (gaZ below G (gQi Q) X args s rm_X1_timesWith) 7 [some (.ref v0), some (gi v1), some (gi v2), some (gi v3), some (gi v4)] [] h 0 0), ∀ (v0 : Nat) (v1 : Int) (v3 : Int) (v4 : Int) (t0 : Int) (h : gaH), w_X1_timesWith_J42 Q K7 v0 v1 v3 v4 t0 h → gaP p l e rm_X1_timesWith s m args below meth c G 5 (gaZ below G (gQi Q) X args s rm_X1_timesWith) 42 [some (.ref v0), some (gi v1), none, some (gi v3), some (gi v4)] [gi t0] h 0 0 := by
    intro K7 hK7
    intro v0 v1 v3 v4 t0 h hw
    unfold w_X1_timesWith_J42 at hw
    refine g_istore_n (lv2 := [some (.ref v0), some (gi v1), some (gi t0), some (gi v3), some (gi v4)]) V dX1_timesWith_42 (by decide) rfl rfl rfl ?_
    refine g_iload_n V dX1_timesWith_43 rfl rfl ?_
    refine g_iload_n V dX1_timesWith_44 rfl rfl ?_
    obtain ⟨hx0, hx1, hw⟩ := hw
    refine gi_mmax V ww_2_117 ww_2_118 ww_1_13 ww_2_119 (by decide) (by decide) (ga_cat rfl) hx0 hx1 dX1_timesWith_45 rfl ?_
    refine g_istore_n (lv2 := [some (.ref v0), some (gi v1), some (gi t0), some (gi (max v3 t0)), some (gi v4)]) V dX1_timesWith_48 (by decide) rfl rfl rfl ?_
    refine gi_iinc (lv2 := [some (.ref v0), some (gi v1), some (gi t0), some (gi (max v3 t0)), some (gi (v4 + 1))]) V dX1_timesWith_49 (by decide) rfl rfl rfl rfl ?_
    refine g_goto V dX1_timesWith_52 rfl ?_
    exact hK7 v0 v1 t0 (max v3 t0) (v4 + 1) h hw
  have h_X1_timesWith_L7 : ∀ (n : Nat), ∀ (v0 : Nat) (v1 : Int) (v2 : Int) (v3 : Int) (v4 : Int) (h : gaH), w_X1_timesWith_L7 Q n v0 v1 v2 v3 v4 h → gaP p l e rm_X1_timesWith s m args below meth c G 5 (gaZ below G (gQi Q) X args s rm_X1_timesWith) 7 [some (.ref v0), some (gi v1), some (gi v2), some (gi v3), some (gi v4)] [] h 0 0 := by
    intro n
    induction n with
    | zero =>
      intro v0 v1 v2 v3 v4 h hw
      exact hw.elim
    | succ n ih =>
      intro v0 v1 v2 v3 v4 h hw
      unfold w_X1_timesWith_L7 at hw
      refine g_iload V dX1_timesWith_7 rfl rfl ?_
      refine g_iload_n V dX1_timesWith_9 rfl rfl ?_
      refine gi_iadd V dX1_timesWith_10 rfl ?_
      refine g_aload_n V dX1_timesWith_11 rfl rfl ?_
      obtain ⟨fs, r1, ha, hv, hw⟩ := hw
      refine g_getN (C := RX4) (T := TX4) (N := 2) (host := "Wordgarden") V 1 rfl hin_RX4 (by decide) (by decide) gn_2 rfl ha hv dX1_timesWith_12 rfl ?_
      obtain ⟨hx0, hx1, hw⟩ := hw
      refine gi_icmp_ge V dX1_timesWith_15 rfl rfl hx0 hx1 (fun q => ?_) (fun q => ?_)
      · have hw := ga_t q hw
        refine g_iload_n V dX1_timesWith_55 rfl rfl ?_
        obtain ⟨hx0, hw⟩ := hw
        refine gi_if_le V dX1_timesWith_56 rfl rfl hx0 (fun q => ?_) (fun q => ?_)
        · have hw := ga_t q hw
          refine g_iconst V (Int32.ofInt 1) dX1_timesWith_67 rfl rfl ?_
          exact g_iret V rfl rfl dX1_timesWith_68 ⟨_, rfl, hw⟩
        · have hw := ga_f q hw
          refine g_iload_n V dX1_timesWith_59 rfl rfl ?_
          refine g_iload_n V dX1_timesWith_60 rfl rfl ?_
          obtain ⟨hx, h0, hw⟩ := hw
          refine gi_idiv V dX1_timesWith_61 hx h0 rfl ?_
          refine g_iconst V (Int32.ofInt 1) dX1_timesWith_62 rfl rfl ?_
          refine gi_iadd V dX1_timesWith_63 rfl ?_
          refine g_goto V dX1_timesWith_64 rfl ?_
          exact g_iret V rfl rfl dX1_timesWith_68 ⟨_, rfl, hw⟩
      · have hw := ga_f q hw
        refine g_aload_n V dX1_timesWith_18 rfl rfl ?_
        refine g_iload V dX1_timesWith_19 rfl rfl ?_
        obtain ⟨hb, hw⟩ := hw
        obtain ⟨fb, hb⟩ := hb
        refine g_callV (C := RX4) (T := TX4) (N := 2) (st := []) V (k_X4_isUp hst hw) ww_1_239 ww_1_228 ww_1_229 ww_1_3 ww_1_230 hd_X4_isUp ⟨by decide, by decide⟩ rfl (by decide) hb rfl rfl (ga_cat rfl) dX1_timesWith_21 (Nat.zero_le _) (Nat.zero_le _) rfl (gaX_all hT V) (ga_ki (fun r3 hp2 hw => ?_))
        refine g_aload_n V dX1_timesWith_24 rfl rfl ?_
        refine g_iload V dX1_timesWith_25 rfl rfl ?_
        refine g_iload_n V dX1_timesWith_27 rfl rfl ?_
        refine gi_iadd V dX1_timesWith_28 rfl ?_
        obtain ⟨hb, hw⟩ := hw
        obtain ⟨fb, hb⟩ := hb
        refine g_callV (C := RX4) (T := TX4) (N := 2) (st := [gi r3]) V (k_X4_isUp hst hw) ww_1_239 ww_1_228 ww_1_229 ww_1_3 ww_1_230 hd_X4_isUp ⟨by decide, by decide⟩ rfl (by decide) hb rfl rfl (ga_cat rfl) dX1_timesWith_29 (Nat.zero_le _) (Nat.zero_le _) rfl (gaX_all hT V) (ga_ki (fun r5 hp4 hw => ?_))
        obtain ⟨hx0, hx1, hw⟩ := hw
        refine gi_icmp_ne V dX1_timesWith_32 rfl rfl hx0 hx1 (fun q => ?_) (fun q => ?_)
        · have hw := ga_f q hw
          refine g_iconst V (Int32.ofInt 0) dX1_timesWith_41 rfl rfl ?_
          refine g_less (bs := [true, true, false, true, true]) (lv2 := [some (.ref v0), some (gi v1), none, some (gi v3), some (gi v4)]) rfl ?_
          exact h_X1_timesWith_J42 (w_X1_timesWith_L7 Q n) ih v0 v1 v3 v4 0 hp4 hw
        · have hw := ga_t q hw
          refine g_iload_n V dX1_timesWith_35 rfl rfl ?_
          refine g_iconst V (Int32.ofInt 1) dX1_timesWith_36 rfl rfl ?_
          refine gi_iadd V dX1_timesWith_37 rfl ?_
          refine g_goto V dX1_timesWith_38 rfl ?_
          refine g_less (bs := [true, true, false, true, true]) (lv2 := [some (.ref v0), some (gi v1), none, some (gi v3), some (gi v4)]) rfl ?_
          exact h_X1_timesWith_J42 (w_X1_timesWith_L7 Q n) ih v0 v1 v3 v4 (v2 + 1) hp4 hw
  unfold w_X1_timesWith at hw
  refine g_iconst V (Int32.ofInt 0) dX1_timesWith_0 rfl rfl ?_
  refine g_istore_n (lv2 := [some (.ref a0), some (gi a1), some (gi 0), none, none]) V dX1_timesWith_1 (by decide) rfl rfl rfl ?_
  refine g_iconst V (Int32.ofInt 0) dX1_timesWith_2 rfl rfl ?_
  refine g_istore_n (lv2 := [some (.ref a0), some (gi a1), some (gi 0), some (gi 0), none]) V dX1_timesWith_3 (by decide) rfl rfl rfl ?_
  refine g_iconst V (Int32.ofInt 0) dX1_timesWith_4 rfl rfl ?_
  refine g_istore (lv2 := [some (.ref a0), some (gi a1), some (gi 0), some (gi 0), some (gi 0)]) V dX1_timesWith_5 (by decide) rfl rfl rfl ?_
  obtain ⟨z, hw⟩ := hw
  exact h_X1_timesWith_L7 z a0 a1 0 0 0 h hw
def w_X1_timesOf_L4 (Q : Int → gaH → Prop) : Nat → (Nat → Int → Int → gaH → Prop)
  | 0 => fun _ _ _ _ => False
  | n + 1 => fun v0 v1 v2 h => gI h v0 4 1 (fun r1 => gR v2 ∧ gR r1 ∧ (if r1 < v2 then Q v1 h else w_X1_timesWith v0 v2 h (fun r3 hp2 => gR v1 ∧ gR r3 ∧ (w_X1_timesOf_L4 Q n v0 (max v1 r3) (v2 + 1) hp2))))
def w_X1_timesOf (a0 : Nat) (h : gaH) (Q : Int → gaH → Prop) : Prop := ∃ z, w_X1_timesOf_L4 Q z a0 0 1 h
abbrev rm_X1_timesOf : Room := { frames := 3, cells := 0, slots := 0, locals := 84 }
theorem hd_X1_timesOf : (yX1_timesOf.cls ≠ "java/lang/invoke/MethodHandle" ∧ yX1_timesOf.cls ≠ "java/lang/invoke/VarHandle" ∧ (parseMethodDescriptor yX1_timesOf.desc).map (fun d => d.parameters.length) = some 1) := by decide +kernel
theorem k_X1_timesOf {l : Launch} (hst : l.stackTraces = false) {G : gaG} {X : String → gaH → Prop} {a0 : Nat} {h : gaH} {Q : Int → gaH → Prop} (hw : w_X1_timesOf a0 h Q) : gaC l G yX1_timesOf (gaM yX1_timesOf cX1_timesOf 3 ((some .int))) rm_X1_timesOf [.ref a0] h (gQi Q) X := by
  refine g_start (lv := [some (.ref a0), none, none]) hpl_RX1 hst (Nat.le_of_ble_eq_true rfl) (gaArgs_pad (z := 2) rfl) ww_2_113 ?_
  intro p e s m args below meth c V hT
  have h_X1_timesOf_L4 : ∀ (n : Nat), ∀ (v0 : Nat) (v1 : Int) (v2 : Int) (h : gaH), w_X1_timesOf_L4 Q n v0 v1 v2 h → gaP p l e rm_X1_timesOf s m args below meth c G 3 (gaZ below G (gQi Q) X args s rm_X1_timesOf) 4 [some (.ref v0), some (gi v1), some (gi v2)] [] h 0 0 := by
    intro n
    induction n with
    | zero =>
      intro v0 v1 v2 h hw
      exact hw.elim
    | succ n ih =>
      intro v0 v1 v2 h hw
      unfold w_X1_timesOf_L4 at hw
      refine g_iload_n V dX1_timesOf_4 rfl rfl ?_
      refine g_aload_n V dX1_timesOf_5 rfl rfl ?_
      obtain ⟨fs, r1, ha, hv, hw⟩ := hw
      refine g_getN (C := RX4) (T := TX4) (N := 2) (host := "Wordgarden") V 1 rfl hin_RX4 (by decide) (by decide) gn_2 rfl ha hv dX1_timesOf_6 rfl ?_
      obtain ⟨hx0, hx1, hw⟩ := hw
      refine gi_icmp_gt V dX1_timesOf_9 rfl rfl hx0 hx1 (fun q => ?_) (fun q => ?_)
      · have hw := ga_t q hw
        refine g_iload_n V dX1_timesOf_28 rfl rfl ?_
        exact g_iret V rfl rfl dX1_timesOf_29 ⟨_, rfl, hw⟩
      · have hw := ga_f q hw
        refine g_iload_n V dX1_timesOf_12 rfl rfl ?_
        refine g_aload_n V dX1_timesOf_13 rfl rfl ?_
        refine g_iload_n V dX1_timesOf_14 rfl rfl ?_
        refine g_callS (st := [gi v1]) V (k_X1_timesWith hst hw) ww_2_114 ww_2_115 ww_1_12 ww_2_116 hd_X1_timesWith ⟨by decide, by decide⟩ rfl rfl (ga_cat rfl) dX1_timesOf_15 (Nat.zero_le _) (Nat.zero_le _) rfl (gaX_all hT V) (ga_ki (fun r3 hp2 hw => ?_))
        obtain ⟨hx0, hx1, hw⟩ := hw
        refine gi_mmax V ww_2_117 ww_2_118 ww_1_13 ww_2_119 (by decide) (by decide) (ga_cat rfl) hx0 hx1 dX1_timesOf_18 rfl ?_
        refine g_istore_n (lv2 := [some (.ref v0), some (gi (max v1 r3)), some (gi v2)]) V dX1_timesOf_21 (by decide) rfl rfl rfl ?_
        refine gi_iinc (lv2 := [some (.ref v0), some (gi (max v1 r3)), some (gi (v2 + 1))]) V dX1_timesOf_22 (by decide) rfl rfl rfl rfl ?_
        refine g_goto V dX1_timesOf_25 rfl ?_
        exact ih v0 (max v1 r3) (v2 + 1) hp2 hw
  unfold w_X1_timesOf at hw
  refine g_iconst V (Int32.ofInt 0) dX1_timesOf_0 rfl rfl ?_
  refine g_istore_n (lv2 := [some (.ref a0), some (gi 0), none]) V dX1_timesOf_1 (by decide) rfl rfl rfl ?_
  refine g_iconst V (Int32.ofInt 1) dX1_timesOf_2 rfl rfl ?_
  refine g_istore_n (lv2 := [some (.ref a0), some (gi 0), some (gi 1)]) V dX1_timesOf_3 (by decide) rfl rfl rfl ?_
  obtain ⟨z, hw⟩ := hw
  exact h_X1_timesOf_L4 z a0 0 1 h hw
def w_X1_isOverlap_L2 (Q : Int → gaH → Prop) : Nat → (Nat → Int → Int → Int → gaH → Prop)
  | 0 => fun _ _ _ _ _ => False
  | n + 1 => fun v0 v1 v2 v3 h => gR v3 ∧ gR (v1 + v2) ∧ (if (v1 + v2) < v3 then Q 1 h else gHas h v0 4 ∧ w_X4_isUp v0 v3 h (fun r2 hp1 => gHas hp1 v0 4 ∧ w_X4_isUp v0 (v3 + v2) hp1 (fun r4 hp3 => gR r2 ∧ gR r4 ∧ (if r2 = r4 then w_X1_isOverlap_L2 Q n v0 v1 v2 (v3 + 1) hp3 else Q 0 hp3))))
def w_X1_isOverlap (a0 : Nat) (a1 : Int) (a2 : Int) (h : gaH) (Q : Int → gaH → Prop) : Prop := ∃ z, w_X1_isOverlap_L2 Q z a0 a1 a2 a1 h
abbrev rm_X1_isOverlap : Room := { frames := 1, cells := 0, slots := 0, locals := 21 }
theorem hd_X1_isOverlap : (yX1_isOverlap.cls ≠ "java/lang/invoke/MethodHandle" ∧ yX1_isOverlap.cls ≠ "java/lang/invoke/VarHandle" ∧ (parseMethodDescriptor yX1_isOverlap.desc).map (fun d => d.parameters.length) = some 3) := by decide +kernel
theorem k_X1_isOverlap {l : Launch} (hst : l.stackTraces = false) {G : gaG} {X : String → gaH → Prop} {a0 : Nat} {a1 : Int} {a2 : Int} {h : gaH} {Q : Int → gaH → Prop} (hw : w_X1_isOverlap a0 a1 a2 h Q) : gaC l G yX1_isOverlap (gaM yX1_isOverlap cX1_isOverlap 4 ((some .boolean))) rm_X1_isOverlap [.ref a0, gi a1, gi a2] h (gQi Q) X := by
  refine g_start (lv := [some (.ref a0), some (gi a1), some (gi a2), none]) hpl_RX1 hst (Nat.le_of_ble_eq_true rfl) (gaArgs_pad (z := 1) rfl) ww_2_129 ?_
  intro p e s m args below meth c V hT
  have h_X1_isOverlap_L2 : ∀ (n : Nat), ∀ (v0 : Nat) (v1 : Int) (v2 : Int) (v3 : Int) (h : gaH), w_X1_isOverlap_L2 Q n v0 v1 v2 v3 h → gaP p l e rm_X1_isOverlap s m args below meth c G 4 (gaZ below G (gQi Q) X args s rm_X1_isOverlap) 2 [some (.ref v0), some (gi v1), some (gi v2), some (gi v3)] [] h 0 0 := by
    intro n
    induction n with
    | zero =>
      intro v0 v1 v2 v3 h hw
      exact hw.elim
    | succ n ih =>
      intro v0 v1 v2 v3 h hw
      unfold w_X1_isOverlap_L2 at hw
      refine g_iload_n V dX1_isOverlap_2 rfl rfl ?_
      refine g_iload_n V dX1_isOverlap_3 rfl rfl ?_
      refine g_iload_n V dX1_isOverlap_4 rfl rfl ?_
      refine gi_iadd V dX1_isOverlap_5 rfl ?_
      obtain ⟨hx0, hx1, hw⟩ := hw
      refine gi_icmp_gt V dX1_isOverlap_6 rfl rfl hx0 hx1 (fun q => ?_) (fun q => ?_)
      · have hw := ga_t q hw
        refine g_iconst V (Int32.ofInt 1) dX1_isOverlap_32 rfl rfl ?_
        exact g_iret V rfl rfl dX1_isOverlap_33 ⟨_, rfl, hw⟩
      · have hw := ga_f q hw
        refine g_aload_n V dX1_isOverlap_9 rfl rfl ?_
        refine g_iload_n V dX1_isOverlap_10 rfl rfl ?_
        obtain ⟨hb, hw⟩ := hw
        obtain ⟨fb, hb⟩ := hb
        refine g_callV (C := RX4) (T := TX4) (N := 2) (st := []) V (k_X4_isUp hst hw) ww_1_239 ww_1_228 ww_1_229 ww_1_3 ww_1_230 hd_X4_isUp ⟨by decide, by decide⟩ rfl (by decide) hb rfl rfl (ga_cat rfl) dX1_isOverlap_11 (Nat.zero_le _) (Nat.zero_le _) rfl (gaX_all hT V) (ga_ki (fun r2 hp1 hw => ?_))
        refine g_aload_n V dX1_isOverlap_14 rfl rfl ?_
        refine g_iload_n V dX1_isOverlap_15 rfl rfl ?_
        refine g_iload_n V dX1_isOverlap_16 rfl rfl ?_
        refine gi_iadd V dX1_isOverlap_17 rfl ?_
        obtain ⟨hb, hw⟩ := hw
        obtain ⟨fb, hb⟩ := hb
        refine g_callV (C := RX4) (T := TX4) (N := 2) (st := [gi r2]) V (k_X4_isUp hst hw) ww_1_239 ww_1_228 ww_1_229 ww_1_3 ww_1_230 hd_X4_isUp ⟨by decide, by decide⟩ rfl (by decide) hb rfl rfl (ga_cat rfl) dX1_isOverlap_18 (Nat.zero_le _) (Nat.zero_le _) rfl (gaX_all hT V) (ga_ki (fun r4 hp3 hw => ?_))
        obtain ⟨hx0, hx1, hw⟩ := hw
        refine gi_icmp_eq V dX1_isOverlap_21 rfl rfl hx0 hx1 (fun q => ?_) (fun q => ?_)
        · have hw := ga_t q hw
          refine gi_iinc (lv2 := [some (.ref v0), some (gi v1), some (gi v2), some (gi (v3 + 1))]) V dX1_isOverlap_26 (by decide) rfl rfl rfl rfl ?_
          refine g_goto V dX1_isOverlap_29 rfl ?_
          exact ih v0 v1 v2 (v3 + 1) hp3 hw
        · have hw := ga_f q hw
          refine g_iconst V (Int32.ofInt 0) dX1_isOverlap_24 rfl rfl ?_
          exact g_iret V rfl rfl dX1_isOverlap_25 ⟨_, rfl, hw⟩
  unfold w_X1_isOverlap at hw
  refine g_iload_n V dX1_isOverlap_0 rfl rfl ?_
  refine g_istore_n (lv2 := [some (.ref a0), some (gi a1), some (gi a2), some (gi a1)]) V dX1_isOverlap_1 (by decide) rfl rfl rfl ?_
  obtain ⟨z, hw⟩ := hw
  exact h_X1_isOverlap_L2 z a0 a1 a2 a1 h hw
def w_X1_overlapsOf_L14 (Q : Int → gaH → Prop) (K4 : Nat → Int → Int → gaH → Prop) : Nat → (Nat → Int → Int → Int → gaH → Prop)
  | 0 => fun _ _ _ _ _ => False
  | n + 1 => fun v0 v1 v2 v3 h => gI h v0 4 1 (fun r1 => gR (v3 + (2 * v2)) ∧ gR r1 ∧ (if r1 ≤ (v3 + (2 * v2)) then K4 v0 v1 (v2 + 1) h else w_X1_isOverlap v0 v3 v2 h (fun r3 hp2 => gR r3 ∧ (if r3 = 0 then w_X1_overlapsOf_L14 Q K4 n v0 v1 v2 (v3 + 1) hp2 else w_X1_overlapsOf_L14 Q K4 n v0 (v1 + 1) v2 (v3 + 1) hp2))))
def w_X1_overlapsOf_L4 (Q : Int → gaH → Prop) : Nat → (Nat → Int → Int → gaH → Prop)
  | 0 => fun _ _ _ _ => False
  | n + 1 => fun v0 v1 v2 h => gI h v0 4 1 (fun r1 => gR v2 ∧ gR r1 ∧ (if r1 ≤ v2 then Q v1 h else ∃ z, w_X1_overlapsOf_L14 Q (w_X1_overlapsOf_L4 Q n) z v0 v1 v2 0 h))
def w_X1_overlapsOf (a0 : Nat) (h : gaH) (Q : Int → gaH → Prop) : Prop := ∃ z, w_X1_overlapsOf_L4 Q z a0 0 1 h
abbrev rm_X1_overlapsOf : Room := { frames := 2, cells := 0, slots := 0, locals := 44 }
theorem hd_X1_overlapsOf : (yX1_overlapsOf.cls ≠ "java/lang/invoke/MethodHandle" ∧ yX1_overlapsOf.cls ≠ "java/lang/invoke/VarHandle" ∧ (parseMethodDescriptor yX1_overlapsOf.desc).map (fun d => d.parameters.length) = some 1) := by decide +kernel
theorem k_X1_overlapsOf {l : Launch} (hst : l.stackTraces = false) {G : gaG} {X : String → gaH → Prop} {a0 : Nat} {h : gaH} {Q : Int → gaH → Prop} (hw : w_X1_overlapsOf a0 h Q) : gaC l G yX1_overlapsOf (gaM yX1_overlapsOf cX1_overlapsOf 4 ((some .int))) rm_X1_overlapsOf [.ref a0] h (gQi Q) X := by
  refine g_start (lv := [some (.ref a0), none, none, none]) hpl_RX1 hst (Nat.le_of_ble_eq_true rfl) (gaArgs_pad (z := 3) rfl) ww_2_126 ?_
  intro p e s m args below meth c V hT
  have h_X1_overlapsOf_L14 : ∀ (K4 : Nat → Int → Int → gaH → Prop), ∀ (hK4 : ∀ (v0 : Nat) (v1 : Int) (v2 : Int) (h : gaH), K4 v0 v1 v2 h → gaP p l e rm_X1_overlapsOf s m args below meth c G 4 (gaZ below G (gQi Q) X args s rm_X1_overlapsOf) 4 [some (.ref v0), some (gi v1), some (gi v2), none] [] h 0 0), ∀ (n : Nat), ∀ (v0 : Nat) (v1 : Int) (v2 : Int) (v3 : Int) (h : gaH), w_X1_overlapsOf_L14 Q K4 n v0 v1 v2 v3 h → gaP p l e rm_X1_overlapsOf s m args below meth c G 4 (gaZ below G (gQi Q) X args s rm_X1_overlapsOf) 14 [some (.ref v0), some (gi v1), some (gi v2), some (gi v3)] [] h 0 0 := by
    intro K4 hK4
    intro n
    induction n with
    | zero =>
      intro v0 v1 v2 v3 h hw
      exact hw.elim
    | succ n ih =>
      intro v0 v1 v2 v3 h hw
      unfold w_X1_overlapsOf_L14 at hw
      refine g_iload_n V dX1_overlapsOf_14 rfl rfl ?_
      refine g_iconst V (Int32.ofInt 2) dX1_overlapsOf_15 rfl rfl ?_
      refine g_iload_n V dX1_overlapsOf_16 rfl rfl ?_
      refine gi_imul V dX1_overlapsOf_17 rfl ?_
      refine gi_iadd V dX1_overlapsOf_18 rfl ?_
      refine g_aload_n V dX1_overlapsOf_19 rfl rfl ?_
      obtain ⟨fs, r1, ha, hv, hw⟩ := hw
      refine g_getN (C := RX4) (T := TX4) (N := 2) (host := "Wordgarden") V 1 rfl hin_RX4 (by decide) (by decide) gn_2 rfl ha hv dX1_overlapsOf_20 rfl ?_
      obtain ⟨hx0, hx1, hw⟩ := hw
      refine gi_icmp_ge V dX1_overlapsOf_23 rfl rfl hx0 hx1 (fun q => ?_) (fun q => ?_)
      · have hw := ga_t q hw
        refine gi_iinc (lv2 := [some (.ref v0), some (gi v1), some (gi (v2 + 1)), some (gi v3)]) V dX1_overlapsOf_44 (by decide) rfl rfl rfl rfl ?_
        refine g_goto V dX1_overlapsOf_47 rfl ?_
        refine g_less (bs := [true, true, true, false]) (lv2 := [some (.ref v0), some (gi v1), some (gi (v2 + 1)), none]) rfl ?_
        exact hK4 v0 v1 (v2 + 1) h hw
      · have hw := ga_f q hw
        refine g_aload_n V dX1_overlapsOf_26 rfl rfl ?_
        refine g_iload_n V dX1_overlapsOf_27 rfl rfl ?_
        refine g_iload_n V dX1_overlapsOf_28 rfl rfl ?_
        refine g_callS (st := []) V (k_X1_isOverlap hst hw) ww_2_127 ww_2_128 ww_1_12 ww_2_129 hd_X1_isOverlap ⟨by decide, by decide⟩ rfl rfl (ga_cat rfl) dX1_overlapsOf_29 (Nat.zero_le _) (Nat.zero_le _) rfl (gaX_all hT V) (ga_ki (fun r3 hp2 hw => ?_))
        obtain ⟨hx0, hw⟩ := hw
        refine gi_if_eq V dX1_overlapsOf_32 rfl rfl hx0 (fun q => ?_) (fun q => ?_)
        · have hw := ga_t q hw
          refine gi_iinc (lv2 := [some (.ref v0), some (gi v1), some (gi v2), some (gi (v3 + 1))]) V dX1_overlapsOf_38 (by decide) rfl rfl rfl rfl ?_
          refine g_goto V dX1_overlapsOf_41 rfl ?_
          exact ih v0 v1 v2 (v3 + 1) hp2 hw
        · have hw := ga_f q hw
          refine gi_iinc (lv2 := [some (.ref v0), some (gi (v1 + 1)), some (gi v2), some (gi v3)]) V dX1_overlapsOf_35 (by decide) rfl rfl rfl rfl ?_
          refine gi_iinc (lv2 := [some (.ref v0), some (gi (v1 + 1)), some (gi v2), some (gi (v3 + 1))]) V dX1_overlapsOf_38 (by decide) rfl rfl rfl rfl ?_
          refine g_goto V dX1_overlapsOf_41 rfl ?_
          exact ih v0 (v1 + 1) v2 (v3 + 1) hp2 hw
  have h_X1_overlapsOf_L4 : ∀ (n : Nat), ∀ (v0 : Nat) (v1 : Int) (v2 : Int) (h : gaH), w_X1_overlapsOf_L4 Q n v0 v1 v2 h → gaP p l e rm_X1_overlapsOf s m args below meth c G 4 (gaZ below G (gQi Q) X args s rm_X1_overlapsOf) 4 [some (.ref v0), some (gi v1), some (gi v2), none] [] h 0 0 := by
    intro n
    induction n with
    | zero =>
      intro v0 v1 v2 h hw
      exact hw.elim
    | succ n ih =>
      intro v0 v1 v2 h hw
      unfold w_X1_overlapsOf_L4 at hw
      refine g_iload_n V dX1_overlapsOf_4 rfl rfl ?_
      refine g_aload_n V dX1_overlapsOf_5 rfl rfl ?_
      obtain ⟨fs, r1, ha, hv, hw⟩ := hw
      refine g_getN (C := RX4) (T := TX4) (N := 2) (host := "Wordgarden") V 1 rfl hin_RX4 (by decide) (by decide) gn_2 rfl ha hv dX1_overlapsOf_6 rfl ?_
      obtain ⟨hx0, hx1, hw⟩ := hw
      refine gi_icmp_ge V dX1_overlapsOf_9 rfl rfl hx0 hx1 (fun q => ?_) (fun q => ?_)
      · have hw := ga_t q hw
        refine g_iload_n V dX1_overlapsOf_50 rfl rfl ?_
        exact g_iret V rfl rfl dX1_overlapsOf_51 ⟨_, rfl, hw⟩
      · have hw := ga_f q hw
        refine g_iconst V (Int32.ofInt 0) dX1_overlapsOf_12 rfl rfl ?_
        refine g_istore_n (lv2 := [some (.ref v0), some (gi v1), some (gi v2), some (gi 0)]) V dX1_overlapsOf_13 (by decide) rfl rfl rfl ?_
        obtain ⟨z, hw⟩ := hw
        exact h_X1_overlapsOf_L14 (w_X1_overlapsOf_L4 Q n) ih z v0 v1 v2 0 h hw
  unfold w_X1_overlapsOf at hw
  refine g_iconst V (Int32.ofInt 0) dX1_overlapsOf_0 rfl rfl ?_
  refine g_istore_n (lv2 := [some (.ref a0), some (gi 0), none, none]) V dX1_overlapsOf_1 (by decide) rfl rfl rfl ?_
  refine g_iconst V (Int32.ofInt 1) dX1_overlapsOf_2 rfl rfl ?_
  refine g_istore_n (lv2 := [some (.ref a0), some (gi 0), some (gi 1), none]) V dX1_overlapsOf_3 (by decide) rfl rfl rfl ?_
  obtain ⟨z, hw⟩ := hw
  exact h_X1_overlapsOf_L4 z a0 0 1 h hw
def w_X1_foldsOf_L4 (Q : Int → gaH → Prop) : Nat → (Nat → Int → Int → gaH → Prop)
  | 0 => fun _ _ _ _ => False
  | n + 1 => fun v0 v1 v2 h => gI h v0 4 1 (fun r1 => gR v2 ∧ gR r1 ∧ (if r1 ≤ v2 then Q v1 h else w_X1_isMirroredPart v0 0 v2 h (fun r3 hp2 => gR r3 ∧ (if r3 = 0 then w_X1_foldsOf_L4 Q n v0 v1 (v2 + 1) hp2 else gI hp2 v0 4 1 (fun r4 => w_X1_isMirroredPart v0 v2 (r4 - v2) hp2 (fun r6 hp5 => gR r6 ∧ (if r6 = 0 then w_X1_foldsOf_L4 Q n v0 v1 (v2 + 1) hp5 else w_X1_foldsOf_L4 Q n v0 (v1 + 1) (v2 + 1) hp5)))))))
def w_X1_foldsOf (a0 : Nat) (h : gaH) (Q : Int → gaH → Prop) : Prop := ∃ z, w_X1_foldsOf_L4 Q z a0 0 0 h
abbrev rm_X1_foldsOf : Room := { frames := 2, cells := 0, slots := 0, locals := 44 }
theorem hd_X1_foldsOf : (yX1_foldsOf.cls ≠ "java/lang/invoke/MethodHandle" ∧ yX1_foldsOf.cls ≠ "java/lang/invoke/VarHandle" ∧ (parseMethodDescriptor yX1_foldsOf.desc).map (fun d => d.parameters.length) = some 1) := by decide +kernel
theorem k_X1_foldsOf {l : Launch} (hst : l.stackTraces = false) {G : gaG} {X : String → gaH → Prop} {a0 : Nat} {h : gaH} {Q : Int → gaH → Prop} (hw : w_X1_foldsOf a0 h Q) : gaC l G yX1_foldsOf (gaM yX1_foldsOf cX1_foldsOf 3 ((some .int))) rm_X1_foldsOf [.ref a0] h (gQi Q) X := by
  refine g_start (lv := [some (.ref a0), none, none]) hpl_RX1 hst (Nat.le_of_ble_eq_true rfl) (gaArgs_pad (z := 2) rfl) ww_2_136 ?_
  intro p e s m args below meth c V hT
  have h_X1_foldsOf_L4 : ∀ (n : Nat), ∀ (v0 : Nat) (v1 : Int) (v2 : Int) (h : gaH), w_X1_foldsOf_L4 Q n v0 v1 v2 h → gaP p l e rm_X1_foldsOf s m args below meth c G 3 (gaZ below G (gQi Q) X args s rm_X1_foldsOf) 4 [some (.ref v0), some (gi v1), some (gi v2)] [] h 0 0 := by
    intro n
    induction n with
    | zero =>
      intro v0 v1 v2 h hw
      exact hw.elim
    | succ n ih =>
      intro v0 v1 v2 h hw
      unfold w_X1_foldsOf_L4 at hw
      refine g_iload_n V dX1_foldsOf_4 rfl rfl ?_
      refine g_aload_n V dX1_foldsOf_5 rfl rfl ?_
      obtain ⟨fs, r1, ha, hv, hw⟩ := hw
      refine g_getN (C := RX4) (T := TX4) (N := 2) (host := "Wordgarden") V 1 rfl hin_RX4 (by decide) (by decide) gn_2 rfl ha hv dX1_foldsOf_6 rfl ?_
      obtain ⟨hx0, hx1, hw⟩ := hw
      refine gi_icmp_ge V dX1_foldsOf_9 rfl rfl hx0 hx1 (fun q => ?_) (fun q => ?_)
      · have hw := ga_t q hw
        refine g_iload_n V dX1_foldsOf_44 rfl rfl ?_
        exact g_iret V rfl rfl dX1_foldsOf_45 ⟨_, rfl, hw⟩
      · have hw := ga_f q hw
        refine g_aload_n V dX1_foldsOf_12 rfl rfl ?_
        refine g_iconst V (Int32.ofInt 0) dX1_foldsOf_13 rfl rfl ?_
        refine g_iload_n V dX1_foldsOf_14 rfl rfl ?_
        refine g_callS (st := []) V (k_X1_isMirroredPart hst hw) ww_2_137 ww_2_102 ww_1_12 ww_2_103 hd_X1_isMirroredPart ⟨by decide, by decide⟩ rfl rfl (ga_cat rfl) dX1_foldsOf_15 (Nat.zero_le _) (Nat.zero_le _) rfl (gaX_all hT V) (ga_ki (fun r3 hp2 hw => ?_))
        obtain ⟨hx0, hw⟩ := hw
        refine gi_if_eq V dX1_foldsOf_18 rfl rfl hx0 (fun q => ?_) (fun q => ?_)
        · have hw := ga_t q hw
          refine gi_iinc (lv2 := [some (.ref v0), some (gi v1), some (gi (v2 + 1))]) V dX1_foldsOf_38 (by decide) rfl rfl rfl rfl ?_
          refine g_goto V dX1_foldsOf_41 rfl ?_
          exact ih v0 v1 (v2 + 1) hp2 hw
        · have hw := ga_f q hw
          refine g_aload_n V dX1_foldsOf_21 rfl rfl ?_
          refine g_iload_n V dX1_foldsOf_22 rfl rfl ?_
          refine g_aload_n V dX1_foldsOf_23 rfl rfl ?_
          obtain ⟨fs, r4, ha, hv, hw⟩ := hw
          refine g_getN (C := RX4) (T := TX4) (N := 2) (host := "Wordgarden") V 1 rfl hin_RX4 (by decide) (by decide) gn_2 rfl ha hv dX1_foldsOf_24 rfl ?_
          refine g_iload_n V dX1_foldsOf_27 rfl rfl ?_
          refine gi_isub V dX1_foldsOf_28 rfl ?_
          refine g_callS (st := []) V (k_X1_isMirroredPart hst hw) ww_2_137 ww_2_102 ww_1_12 ww_2_103 hd_X1_isMirroredPart ⟨by decide, by decide⟩ rfl rfl (ga_cat rfl) dX1_foldsOf_29 (Nat.zero_le _) (Nat.zero_le _) rfl (gaX_all hT V) (ga_ki (fun r6 hp5 hw => ?_))
          obtain ⟨hx0, hw⟩ := hw
          refine gi_if_eq V dX1_foldsOf_32 rfl rfl hx0 (fun q => ?_) (fun q => ?_)
          · have hw := ga_t q hw
            refine gi_iinc (lv2 := [some (.ref v0), some (gi v1), some (gi (v2 + 1))]) V dX1_foldsOf_38 (by decide) rfl rfl rfl rfl ?_
            refine g_goto V dX1_foldsOf_41 rfl ?_
            exact ih v0 v1 (v2 + 1) hp5 hw
          · have hw := ga_f q hw
            refine gi_iinc (lv2 := [some (.ref v0), some (gi (v1 + 1)), some (gi v2)]) V dX1_foldsOf_35 (by decide) rfl rfl rfl rfl ?_
            refine gi_iinc (lv2 := [some (.ref v0), some (gi (v1 + 1)), some (gi (v2 + 1))]) V dX1_foldsOf_38 (by decide) rfl rfl rfl rfl ?_
            refine g_goto V dX1_foldsOf_41 rfl ?_
            exact ih v0 (v1 + 1) (v2 + 1) hp5 hw
  unfold w_X1_foldsOf at hw
  refine g_iconst V (Int32.ofInt 0) dX1_foldsOf_0 rfl rfl ?_
  refine g_istore_n (lv2 := [some (.ref a0), some (gi 0), none]) V dX1_foldsOf_1 (by decide) rfl rfl rfl ?_
  refine g_iconst V (Int32.ofInt 0) dX1_foldsOf_2 rfl rfl ?_
  refine g_istore_n (lv2 := [some (.ref a0), some (gi 0), some (gi 0)]) V dX1_foldsOf_3 (by decide) rfl rfl rfl ?_
  obtain ⟨z, hw⟩ := hw
  exact h_X1_foldsOf_L4 z a0 0 0 h hw
def w_X1_isUpOnRing_J19 (Q : Int → gaH → Prop) (t0 : Nat) (t1 : Int) (h : gaH) : Prop := gHas h t0 4 ∧ w_X4_isUp t0 t1 h (fun r2 hp1 => narrow .boolean (gi r2) = gi r2 ∧ Q r2 hp1)
def w_X1_isUpOnRing (a0 : Nat) (a1 : Int) (h : gaH) (Q : Int → gaH → Prop) : Prop := gI h a0 4 1 (fun r1 => gR a1 ∧ gR r1 ∧ (if r1 ≤ a1 then gI h a0 4 1 (fun r2 => w_X1_isUpOnRing_J19 Q a0 (a1 - r2) h) else w_X1_isUpOnRing_J19 Q a0 a1 h))
abbrev rm_X1_isUpOnRing : Room := { frames := 1, cells := 0, slots := 0, locals := 21 }
theorem hd_X1_isUpOnRing : (yX1_isUpOnRing.cls ≠ "java/lang/invoke/MethodHandle" ∧ yX1_isUpOnRing.cls ≠ "java/lang/invoke/VarHandle" ∧ (parseMethodDescriptor yX1_isUpOnRing.desc).map (fun d => d.parameters.length) = some 2) := by decide +kernel
theorem k_X1_isUpOnRing {l : Launch} (hst : l.stackTraces = false) {G : gaG} {X : String → gaH → Prop} {a0 : Nat} {a1 : Int} {h : gaH} {Q : Int → gaH → Prop} (hw : w_X1_isUpOnRing a0 a1 h Q) : gaC l G yX1_isUpOnRing (gaM yX1_isUpOnRing cX1_isUpOnRing 2 ((some .boolean))) rm_X1_isUpOnRing [.ref a0, gi a1] h (gQi Q) X := by
  refine g_start (lv := [some (.ref a0), some (gi a1)]) hpl_RX1 hst (Nat.le_of_ble_eq_true rfl) (gaArgs_pad (z := 0) rfl) ww_2_150 ?_
  intro p e s m args below meth c V hT
  have h_X1_isUpOnRing_J19 : ∀ (t0 : Nat) (t1 : Int) (h : gaH), w_X1_isUpOnRing_J19 Q t0 t1 h → gaP p l e rm_X1_isUpOnRing s m args below meth c G 2 (gaZ below G (gQi Q) X args s rm_X1_isUpOnRing) 19 [none, none] [gi t1, .ref t0] h 0 0 := by
    intro t0 t1 h hw
    unfold w_X1_isUpOnRing_J19 at hw
    obtain ⟨hb, hw⟩ := hw
    obtain ⟨fb, hb⟩ := hb
    refine g_callV (C := RX4) (T := TX4) (N := 2) (st := []) V (k_X4_isUp hst hw) ww_1_239 ww_1_228 ww_1_229 ww_1_3 ww_1_230 hd_X4_isUp ⟨by decide, by decide⟩ rfl (by decide) hb rfl rfl (ga_cat rfl) dX1_isUpOnRing_19 (Nat.zero_le _) (Nat.zero_le _) rfl (gaX_all hT V) (ga_ki (fun r2 hp1 hw => ?_))
    exact g_iret V rfl hw.1 dX1_isUpOnRing_22 ⟨_, rfl, hw.2⟩
  unfold w_X1_isUpOnRing at hw
  refine g_aload_n V dX1_isUpOnRing_0 rfl rfl ?_
  refine g_iload_n V dX1_isUpOnRing_1 rfl rfl ?_
  refine g_aload_n V dX1_isUpOnRing_2 rfl rfl ?_
  obtain ⟨fs, r1, ha, hv, hw⟩ := hw
  refine g_getN (C := RX4) (T := TX4) (N := 2) (host := "Wordgarden") V 1 rfl hin_RX4 (by decide) (by decide) gn_2 rfl ha hv dX1_isUpOnRing_3 rfl ?_
  obtain ⟨hx0, hx1, hw⟩ := hw
  refine gi_icmp_ge V dX1_isUpOnRing_6 rfl rfl hx0 hx1 (fun q => ?_) (fun q => ?_)
  · have hw := ga_t q hw
    refine g_iload_n V dX1_isUpOnRing_13 rfl rfl ?_
    refine g_aload_n V dX1_isUpOnRing_14 rfl rfl ?_
    obtain ⟨fs, r2, ha, hv, hw⟩ := hw
    refine g_getN (C := RX4) (T := TX4) (N := 2) (host := "Wordgarden") V 1 rfl hin_RX4 (by decide) (by decide) gn_2 rfl ha hv dX1_isUpOnRing_15 rfl ?_
    refine gi_isub V dX1_isUpOnRing_18 rfl ?_
    refine g_less (bs := [false, false]) (lv2 := [none, none]) rfl ?_
    exact h_X1_isUpOnRing_J19 a0 (a1 - r2) h hw
  · have hw := ga_f q hw
    refine g_iload_n V dX1_isUpOnRing_9 rfl rfl ?_
    refine g_goto V dX1_isUpOnRing_10 rfl ?_
    refine g_less (bs := [false, false]) (lv2 := [none, none]) rfl ?_
    exact h_X1_isUpOnRing_J19 a0 a1 h hw
def w_X1_ringOrder_L3 (Q : Int → gaH → Prop) : Nat → (Nat → Int → Int → Int → Int → gaH → Prop)
  | 0 => fun _ _ _ _ _ _ => False
  | n + 1 => fun v0 v1 v2 v3 v4 h => gR v4 ∧ gR v3 ∧ (if v3 ≤ v4 then Q 0 h else w_X1_isUpOnRing v0 (v1 + v4) h (fun r2 hp1 => w_X1_isUpOnRing v0 (v2 + v4) hp1 (fun r4 hp3 => gR r2 ∧ gR r4 ∧ (if r2 = r4 then w_X1_ringOrder_L3 Q n v0 v1 v2 v3 (v4 + 1) hp3 else gR r2 ∧ (if r2 = 0 then Q (-1) hp3 else Q 1 hp3)))))
def w_X1_ringOrder (a0 : Nat) (a1 : Int) (a2 : Int) (a3 : Int) (h : gaH) (Q : Int → gaH → Prop) : Prop := ∃ z, w_X1_ringOrder_L3 Q z a0 a1 a2 a3 0 h
abbrev rm_X1_ringOrder : Room := { frames := 2, cells := 0, slots := 0, locals := 42 }
theorem hd_X1_ringOrder : (yX1_ringOrder.cls ≠ "java/lang/invoke/MethodHandle" ∧ yX1_ringOrder.cls ≠ "java/lang/invoke/VarHandle" ∧ (parseMethodDescriptor yX1_ringOrder.desc).map (fun d => d.parameters.length) = some 4) := by decide +kernel
theorem k_X1_ringOrder {l : Launch} (hst : l.stackTraces = false) {G : gaG} {X : String → gaH → Prop} {a0 : Nat} {a1 : Int} {a2 : Int} {a3 : Int} {h : gaH} {Q : Int → gaH → Prop} (hw : w_X1_ringOrder a0 a1 a2 a3 h Q) : gaC l G yX1_ringOrder (gaM yX1_ringOrder cX1_ringOrder 6 ((some .int))) rm_X1_ringOrder [.ref a0, gi a1, gi a2, gi a3] h (gQi Q) X := by
  refine g_start (lv := [some (.ref a0), some (gi a1), some (gi a2), some (gi a3), none, none]) hpl_RX1 hst (Nat.le_of_ble_eq_true rfl) (gaArgs_pad (z := 2) rfl) ww_2_147 ?_
  intro p e s m args below meth c V hT
  have h_X1_ringOrder_L3 : ∀ (n : Nat), ∀ (v0 : Nat) (v1 : Int) (v2 : Int) (v3 : Int) (v4 : Int) (h : gaH), w_X1_ringOrder_L3 Q n v0 v1 v2 v3 v4 h → gaP p l e rm_X1_ringOrder s m args below meth c G 6 (gaZ below G (gQi Q) X args s rm_X1_ringOrder) 3 [some (.ref v0), some (gi v1), some (gi v2), some (gi v3), some (gi v4), none] [] h 0 0 := by
    intro n
    induction n with
    | zero =>
      intro v0 v1 v2 v3 v4 h hw
      exact hw.elim
    | succ n ih =>
      intro v0 v1 v2 v3 v4 h hw
      unfold w_X1_ringOrder_L3 at hw
      refine g_iload V dX1_ringOrder_3 rfl rfl ?_
      refine g_iload_n V dX1_ringOrder_5 rfl rfl ?_
      obtain ⟨hx0, hx1, hw⟩ := hw
      refine gi_icmp_ge V dX1_ringOrder_6 rfl rfl hx0 hx1 (fun q => ?_) (fun q => ?_)
      · have hw := ga_t q hw
        refine g_iconst V (Int32.ofInt 0) dX1_ringOrder_49 rfl rfl ?_
        exact g_iret V rfl rfl dX1_ringOrder_50 ⟨_, rfl, hw⟩
      · have hw := ga_f q hw
        refine g_aload_n V dX1_ringOrder_9 rfl rfl ?_
        refine g_iload_n V dX1_ringOrder_10 rfl rfl ?_
        refine g_iload V dX1_ringOrder_11 rfl rfl ?_
        refine gi_iadd V dX1_ringOrder_13 rfl ?_
        refine g_callS (st := []) V (k_X1_isUpOnRing hst hw) ww_2_148 ww_2_149 ww_1_12 ww_2_150 hd_X1_isUpOnRing ⟨by decide, by decide⟩ rfl rfl (ga_cat rfl) dX1_ringOrder_14 (Nat.zero_le _) (Nat.zero_le _) rfl (gaX_all hT V) (ga_ki (fun r2 hp1 hw => ?_))
        refine g_istore (lv2 := [some (.ref v0), some (gi v1), some (gi v2), some (gi v3), some (gi v4), some (gi r2)]) V dX1_ringOrder_17 (by decide) rfl rfl rfl ?_
        refine g_iload V dX1_ringOrder_19 rfl rfl ?_
        refine g_aload_n V dX1_ringOrder_21 rfl rfl ?_
        refine g_iload_n V dX1_ringOrder_22 rfl rfl ?_
        refine g_iload V dX1_ringOrder_23 rfl rfl ?_
        refine gi_iadd V dX1_ringOrder_25 rfl ?_
        refine g_callS (st := [gi r2]) V (k_X1_isUpOnRing hst hw) ww_2_148 ww_2_149 ww_1_12 ww_2_150 hd_X1_isUpOnRing ⟨by decide, by decide⟩ rfl rfl (ga_cat rfl) dX1_ringOrder_26 (Nat.zero_le _) (Nat.zero_le _) rfl (gaX_all hT V) (ga_ki (fun r4 hp3 hw => ?_))
        obtain ⟨hx0, hx1, hw⟩ := hw
        refine gi_icmp_eq V dX1_ringOrder_29 rfl rfl hx0 hx1 (fun q => ?_) (fun q => ?_)
        · have hw := ga_t q hw
          refine gi_iinc (lv2 := [some (.ref v0), some (gi v1), some (gi v2), some (gi v3), some (gi (v4 + 1)), some (gi r2)]) V dX1_ringOrder_43 (by decide) rfl rfl rfl rfl ?_
          refine g_goto V dX1_ringOrder_46 rfl ?_
          refine g_less (bs := [true, true, true, true, true, false]) (lv2 := [some (.ref v0), some (gi v1), some (gi v2), some (gi v3), some (gi (v4 + 1)), none]) rfl ?_
          exact ih v0 v1 v2 v3 (v4 + 1) hp3 hw
        · have hw := ga_f q hw
          refine g_iload V dX1_ringOrder_32 rfl rfl ?_
          obtain ⟨hx0, hw⟩ := hw
          refine gi_if_eq V dX1_ringOrder_34 rfl rfl hx0 (fun q => ?_) (fun q => ?_)
          · have hw := ga_t q hw
            refine g_iconst V (Int32.ofInt (-1)) dX1_ringOrder_41 rfl rfl ?_
            exact g_iret V rfl rfl dX1_ringOrder_42 ⟨_, rfl, hw⟩
          · have hw := ga_f q hw
            refine g_iconst V (Int32.ofInt 1) dX1_ringOrder_37 rfl rfl ?_
            refine g_goto V dX1_ringOrder_38 rfl ?_
            exact g_iret V rfl rfl dX1_ringOrder_42 ⟨_, rfl, hw⟩
  unfold w_X1_ringOrder at hw
  refine g_iconst V (Int32.ofInt 0) dX1_ringOrder_0 rfl rfl ?_
  refine g_istore (lv2 := [some (.ref a0), some (gi a1), some (gi a2), some (gi a3), some (gi 0), none]) V dX1_ringOrder_1 (by decide) rfl rfl rfl ?_
  obtain ⟨z, hw⟩ := hw
  exact h_X1_ringOrder_L3 z a0 a1 a2 a3 0 h hw
def w_X1_leastOf_L4 (Q : Int → gaH → Prop) : Nat → (Nat → Int → Int → gaH → Prop)
  | 0 => fun _ _ _ _ => False
  | n + 1 => fun v0 v1 v2 h => gI h v0 4 1 (fun r1 => gR v2 ∧ gR r1 ∧ (if r1 ≤ v2 then Q v1 h else gI h v0 4 1 (fun r2 => w_X1_ringOrder v0 v2 v1 r2 h (fun r4 hp3 => gR r4 ∧ (if 0 ≤ r4 then w_X1_leastOf_L4 Q n v0 v1 (v2 + 1) hp3 else w_X1_leastOf_L4 Q n v0 v2 (v2 + 1) hp3)))))
def w_X1_leastOf (a0 : Nat) (h : gaH) (Q : Int → gaH → Prop) : Prop := ∃ z, w_X1_leastOf_L4 Q z a0 0 1 h
abbrev rm_X1_leastOf : Room := { frames := 3, cells := 0, slots := 0, locals := 67 }
theorem hd_X1_leastOf : (yX1_leastOf.cls ≠ "java/lang/invoke/MethodHandle" ∧ yX1_leastOf.cls ≠ "java/lang/invoke/VarHandle" ∧ (parseMethodDescriptor yX1_leastOf.desc).map (fun d => d.parameters.length) = some 1) := by decide +kernel
theorem k_X1_leastOf {l : Launch} (hst : l.stackTraces = false) {G : gaG} {X : String → gaH → Prop} {a0 : Nat} {h : gaH} {Q : Int → gaH → Prop} (hw : w_X1_leastOf a0 h Q) : gaC l G yX1_leastOf (gaM yX1_leastOf cX1_leastOf 3 ((some .int))) rm_X1_leastOf [.ref a0] h (gQi Q) X := by
  refine g_start (lv := [some (.ref a0), none, none]) hpl_RX1 hst (Nat.le_of_ble_eq_true rfl) (gaArgs_pad (z := 2) rfl) ww_2_144 ?_
  intro p e s m args below meth c V hT
  have h_X1_leastOf_L4 : ∀ (n : Nat), ∀ (v0 : Nat) (v1 : Int) (v2 : Int) (h : gaH), w_X1_leastOf_L4 Q n v0 v1 v2 h → gaP p l e rm_X1_leastOf s m args below meth c G 3 (gaZ below G (gQi Q) X args s rm_X1_leastOf) 4 [some (.ref v0), some (gi v1), some (gi v2)] [] h 0 0 := by
    intro n
    induction n with
    | zero =>
      intro v0 v1 v2 h hw
      exact hw.elim
    | succ n ih =>
      intro v0 v1 v2 h hw
      unfold w_X1_leastOf_L4 at hw
      refine g_iload_n V dX1_leastOf_4 rfl rfl ?_
      refine g_aload_n V dX1_leastOf_5 rfl rfl ?_
      obtain ⟨fs, r1, ha, hv, hw⟩ := hw
      refine g_getN (C := RX4) (T := TX4) (N := 2) (host := "Wordgarden") V 1 rfl hin_RX4 (by decide) (by decide) gn_2 rfl ha hv dX1_leastOf_6 rfl ?_
      obtain ⟨hx0, hx1, hw⟩ := hw
      refine gi_icmp_ge V dX1_leastOf_9 rfl rfl hx0 hx1 (fun q => ?_) (fun q => ?_)
      · have hw := ga_t q hw
        refine g_iload_n V dX1_leastOf_33 rfl rfl ?_
        exact g_iret V rfl rfl dX1_leastOf_34 ⟨_, rfl, hw⟩
      · have hw := ga_f q hw
        refine g_aload_n V dX1_leastOf_12 rfl rfl ?_
        refine g_iload_n V dX1_leastOf_13 rfl rfl ?_
        refine g_iload_n V dX1_leastOf_14 rfl rfl ?_
        refine g_aload_n V dX1_leastOf_15 rfl rfl ?_
        obtain ⟨fs, r2, ha, hv, hw⟩ := hw
        refine g_getN (C := RX4) (T := TX4) (N := 2) (host := "Wordgarden") V 1 rfl hin_RX4 (by decide) (by decide) gn_2 rfl ha hv dX1_leastOf_16 rfl ?_
        refine g_callS (st := []) V (k_X1_ringOrder hst hw) ww_2_145 ww_2_146 ww_1_12 ww_2_147 hd_X1_ringOrder ⟨by decide, by decide⟩ rfl rfl (ga_cat rfl) dX1_leastOf_19 (Nat.zero_le _) (Nat.zero_le _) rfl (gaX_all hT V) (ga_ki (fun r4 hp3 hw => ?_))
        obtain ⟨hx0, hw⟩ := hw
        refine gi_if_ge V dX1_leastOf_22 rfl rfl hx0 (fun q => ?_) (fun q => ?_)
        · have hw := ga_t q hw
          refine gi_iinc (lv2 := [some (.ref v0), some (gi v1), some (gi (v2 + 1))]) V dX1_leastOf_27 (by decide) rfl rfl rfl rfl ?_
          refine g_goto V dX1_leastOf_30 rfl ?_
          exact ih v0 v1 (v2 + 1) hp3 hw
        · have hw := ga_f q hw
          refine g_iload_n V dX1_leastOf_25 rfl rfl ?_
          refine g_istore_n (lv2 := [some (.ref v0), some (gi v2), some (gi v2)]) V dX1_leastOf_26 (by decide) rfl rfl rfl ?_
          refine gi_iinc (lv2 := [some (.ref v0), some (gi v2), some (gi (v2 + 1))]) V dX1_leastOf_27 (by decide) rfl rfl rfl rfl ?_
          refine g_goto V dX1_leastOf_30 rfl ?_
          exact ih v0 v2 (v2 + 1) hp3 hw
  unfold w_X1_leastOf at hw
  refine g_iconst V (Int32.ofInt 0) dX1_leastOf_0 rfl rfl ?_
  refine g_istore_n (lv2 := [some (.ref a0), some (gi 0), none]) V dX1_leastOf_1 (by decide) rfl rfl rfl ?_
  refine g_iconst V (Int32.ofInt 1) dX1_leastOf_2 rfl rfl ?_
  refine g_istore_n (lv2 := [some (.ref a0), some (gi 0), some (gi 1)]) V dX1_leastOf_3 (by decide) rfl rfl rfl ?_
  obtain ⟨z, hw⟩ := hw
  exact h_X1_leastOf_L4 z a0 0 1 h hw
def w_X0_turnAt (a0 : Nat) (a1 : Int) (h : gaH) (Q : Int → gaH → Prop) : Prop := gR a1 ∧ (if a1 < 0 then Q 0 h else gA h a0 2 0 (fun r1 => gAL h r1 102 (fun r2 => gR a1 ∧ gR r2 ∧ (if r2 ≤ a1 then Q 0 h else gA h a0 2 0 (fun r3 => gLI h r3 102 a1 (fun r4 => Q r4 h))))))
abbrev rm_X0_turnAt : Room := { frames := 0, cells := 0, slots := 0, locals := 0 }
theorem hd_X0_turnAt : yX0_turnAt.cls = RX0 ∧ (yX0_turnAt.cls ≠ "java/lang/invoke/MethodHandle" ∧ yX0_turnAt.cls ≠ "java/lang/invoke/VarHandle" ∧ (parseMethodDescriptor yX0_turnAt.desc).map (fun d => d.parameters.length) = some 1) := by decide +kernel
theorem k_X0_turnAt {l : Launch} (hst : l.stackTraces = false) {G : gaG} {X : String → gaH → Prop} {a0 : Nat} {a1 : Int} {h : gaH} {Q : Int → gaH → Prop} (hw : w_X0_turnAt a0 a1 h Q) : gaC l G yX0_turnAt (gaM yX0_turnAt cX0_turnAt 2 ((some .int))) rm_X0_turnAt [.ref a0, gi a1] h (gQi Q) X := by
  refine g_start (lv := [some (.ref a0), some (gi a1)]) hpl_RX0 hst (Nat.le_of_ble_eq_true rfl) (gaArgs_pad (z := 0) rfl) ww_2_25 ?_
  intro p e s m args below meth c V hT
  unfold w_X0_turnAt at hw
  refine g_iload_n V dX0_turnAt_0 rfl rfl ?_
  obtain ⟨hx0, hw⟩ := hw
  refine gi_if_lt V dX0_turnAt_1 rfl rfl hx0 (fun q => ?_) (fun q => ?_)
  · have hw := ga_t q hw
    refine g_iconst V (Int32.ofInt 0) dX0_turnAt_22 rfl rfl ?_
    exact g_iret V rfl rfl dX0_turnAt_23 ⟨_, rfl, hw⟩
  · have hw := ga_f q hw
    refine g_iload_n V dX0_turnAt_4 rfl rfl ?_
    refine g_aload_n V dX0_turnAt_5 rfl rfl ?_
    obtain ⟨fs, r1, ha, hv, hw⟩ := hw
    refine g_get (C := RX0) (T := TX0) (N := 4) V 0 rfl hin_RX0 (by decide) (by decide) ww_1_93 rfl ha hv dX0_turnAt_6 rfl ?_
    obtain ⟨t9, vs, ha, ht, hw⟩ := hw
    refine gi_arraylength (t0 := 102) V (by simp [gaT]) ha ht dX0_turnAt_9 rfl ?_
    generalize (vs.length : Int) = r2 at hw ⊢
    obtain ⟨hx0, hx1, hw⟩ := hw
    refine gi_icmp_ge V dX0_turnAt_10 rfl rfl hx0 hx1 (fun q => ?_) (fun q => ?_)
    · have hw := ga_t q hw
      refine g_iconst V (Int32.ofInt 0) dX0_turnAt_22 rfl rfl ?_
      exact g_iret V rfl rfl dX0_turnAt_23 ⟨_, rfl, hw⟩
    · have hw := ga_f q hw
      refine g_aload_n V dX0_turnAt_13 rfl rfl ?_
      obtain ⟨fs, r3, ha, hv, hw⟩ := hw
      refine g_get (C := RX0) (T := TX0) (N := 4) V 0 rfl hin_RX0 (by decide) (by decide) ww_1_93 rfl ha hv dX0_turnAt_14 rfl ?_
      refine g_iload_n V dX0_turnAt_17 rfl rfl ?_
      obtain ⟨t9, vs, r4, ha, ht, h0, h9, hv, hw⟩ := hw
      refine gi_iaload V ha ht h0 h9 hv dX0_turnAt_18 rfl ?_
      refine g_goto V dX0_turnAt_19 rfl ?_
      exact g_iret V rfl rfl dX0_turnAt_23 ⟨_, rfl, hw⟩
def w_X0_wordBy (a0 : Nat) (a1 : Int) (h : gaH) (Q : Nat → gaH → Prop) : Prop := gR a1 ∧ (if a1 = 0 then gA h a0 2 3 (fun r1 => Q r1 h) else gA h a0 2 2 (fun r2 => Q r2 h))
abbrev rm_X0_wordBy : Room := { frames := 0, cells := 0, slots := 0, locals := 0 }
theorem hd_X0_wordBy : yX0_wordBy.cls = RX0 ∧ (yX0_wordBy.cls ≠ "java/lang/invoke/MethodHandle" ∧ yX0_wordBy.cls ≠ "java/lang/invoke/VarHandle" ∧ (parseMethodDescriptor yX0_wordBy.desc).map (fun d => d.parameters.length) = some 1) := by decide +kernel
theorem k_X0_wordBy {l : Launch} (hst : l.stackTraces = false) {G : gaG} {X : String → gaH → Prop} {a0 : Nat} {a1 : Int} {h : gaH} {Q : Nat → gaH → Prop} (hw : w_X0_wordBy a0 a1 h Q) : gaC l G yX0_wordBy (gaM yX0_wordBy cX0_wordBy 2 ((some (.object "Wordgarden$Word")))) rm_X0_wordBy [.ref a0, gi a1] h (gQa Q) X := by
  refine g_start (lv := [some (.ref a0), some (gi a1)]) hpl_RX0 hst (Nat.le_of_ble_eq_true rfl) (gaArgs_pad (z := 0) rfl) ww_2_163 ?_
  intro p e s m args below meth c V hT
  unfold w_X0_wordBy at hw
  refine g_iload_n V dX0_wordBy_0 rfl rfl ?_
  obtain ⟨hx0, hw⟩ := hw
  refine gi_if_eq V dX0_wordBy_1 rfl rfl hx0 (fun q => ?_) (fun q => ?_)
  · have hw := ga_t q hw
    refine g_aload_n V dX0_wordBy_11 rfl rfl ?_
    obtain ⟨fs, r1, ha, hv, hw⟩ := hw
    refine g_get (C := RX0) (T := TX0) (N := 4) V 3 rfl hin_RX0 (by decide) (by decide) ww_1_98 rfl ha hv dX0_wordBy_12 rfl ?_
    exact g_aret V rfl (by first | exact Or.inl ⟨_, rfl⟩ | exact Or.inr ⟨_, rfl⟩) dX0_wordBy_15 ⟨_, rfl, hw⟩
  · have hw := ga_f q hw
    refine g_aload_n V dX0_wordBy_4 rfl rfl ?_
    obtain ⟨fs, r2, ha, hv, hw⟩ := hw
    refine g_get (C := RX0) (T := TX0) (N := 4) V 2 rfl hin_RX0 (by decide) (by decide) ww_1_96 rfl ha hv dX0_wordBy_5 rfl ?_
    refine g_goto V dX0_wordBy_8 rfl ?_
    exact g_aret V rfl (by first | exact Or.inl ⟨_, rfl⟩ | exact Or.inr ⟨_, rfl⟩) dX0_wordBy_15 ⟨_, rfl, hw⟩
def w_X4_takeTurned_L11 (Q : gaH → Prop) : Nat → (Nat → Nat → Int → gaH → Prop)
  | 0 => fun _ _ _ _ => False
  | n + 1 => fun v0 v1 v2 h => gR v2 ∧ (if v2 < 0 then Q h else gHas h v1 4 ∧ w_X4_isUp v1 v2 h (fun r2 hp1 => gHas hp1 v0 4 ∧ w_X4_add v0 r2 hp1 (fun hp3 => w_X4_takeTurned_L11 Q n v0 v1 (v2 + (-1)) hp3)))
def w_X4_takeTurned (a0 : Nat) (a1 : Nat) (h : gaH) (Q : gaH → Prop) : Prop := gHas h a0 4 ∧ w_X4_clear a0 h (fun hp1 => gI hp1 a1 4 1 (fun r3 => ∃ z, w_X4_takeTurned_L11 Q z a0 a1 (r3 - 1) hp1))
abbrev rm_X4_takeTurned : Room := { frames := 1, cells := 0, slots := 0, locals := 21 }
theorem hd_X4_takeTurned : yX4_takeTurned.cls = RX4 ∧ (yX4_takeTurned.cls ≠ "java/lang/invoke/MethodHandle" ∧ yX4_takeTurned.cls ≠ "java/lang/invoke/VarHandle" ∧ (parseMethodDescriptor yX4_takeTurned.desc).map (fun d => d.parameters.length) = some 1) := by decide +kernel
theorem k_X4_takeTurned {l : Launch} (hst : l.stackTraces = false) {G : gaG} {X : String → gaH → Prop} {a0 : Nat} {a1 : Nat} {h : gaH} {Q : gaH → Prop} (hw : w_X4_takeTurned a0 a1 h Q) : gaC l G yX4_takeTurned (gaM yX4_takeTurned cX4_takeTurned 3 ((none : Option Jvm.ClassFile.FieldType))) rm_X4_takeTurned [.ref a0, .ref a1] h (gQv Q) X := by
  refine g_start (lv := [some (.ref a0), some (.ref a1), none]) hpl_RX4 hst (Nat.le_of_ble_eq_true rfl) (gaArgs_pad (z := 1) rfl) ww_1_225 ?_
  intro p e s m args below meth c V hT
  have h_X4_takeTurned_L11 : ∀ (n : Nat), ∀ (v0 : Nat) (v1 : Nat) (v2 : Int) (h : gaH), w_X4_takeTurned_L11 Q n v0 v1 v2 h → gaP p l e rm_X4_takeTurned s m args below meth c G 3 (gaZ below G (gQv Q) X args s rm_X4_takeTurned) 11 [some (.ref v0), some (.ref v1), some (gi v2)] [] h 0 0 := by
    intro n
    induction n with
    | zero =>
      intro v0 v1 v2 h hw
      exact hw.elim
    | succ n ih =>
      intro v0 v1 v2 h hw
      unfold w_X4_takeTurned_L11 at hw
      refine g_iload_n V dX4_takeTurned_11 rfl rfl ?_
      obtain ⟨hx0, hw⟩ := hw
      refine gi_if_lt V dX4_takeTurned_12 rfl rfl hx0 (fun q => ?_) (fun q => ?_)
      · have hw := ga_t q hw
        exact g_vret V rfl dX4_takeTurned_30 ⟨rfl, hw⟩
      · have hw := ga_f q hw
        refine g_aload_n V dX4_takeTurned_15 rfl rfl ?_
        refine g_aload_n V dX4_takeTurned_16 rfl rfl ?_
        refine g_iload_n V dX4_takeTurned_17 rfl rfl ?_
        obtain ⟨hb, hw⟩ := hw
        obtain ⟨fb, hb⟩ := hb
        refine g_callV (C := RX4) (T := TX4) (N := 2) (st := [.ref v0]) V (k_X4_isUp hst hw) ww_1_227 ww_1_228 ww_1_229 ww_1_3 ww_1_230 hd_X4_isUp ⟨by decide, by decide⟩ rfl (by decide) hb rfl rfl (ga_cat rfl) dX4_takeTurned_18 (Nat.zero_le _) (Nat.zero_le _) rfl (gaX_all hT V) (ga_ki (fun r2 hp1 hw => ?_))
        obtain ⟨hb, hw⟩ := hw
        obtain ⟨fb, hb⟩ := hb
        refine g_callV (C := RX4) (T := TX4) (N := 2) (st := []) V (k_X4_add hst hw) ww_1_231 ww_1_90 ww_1_91 ww_1_3 ww_1_92 hd_X4_add ⟨by decide, by decide⟩ rfl (by decide) hb rfl rfl (ga_cat rfl) dX4_takeTurned_21 (Nat.zero_le _) (Nat.zero_le _) rfl (gaX_all hT V) (ga_kv (fun hp3 hw => ?_))
        refine gi_iinc (lv2 := [some (.ref v0), some (.ref v1), some (gi (v2 + (-1)))]) V dX4_takeTurned_24 (by decide) rfl rfl rfl rfl ?_
        refine g_goto V dX4_takeTurned_27 rfl ?_
        exact ih v0 v1 (v2 + (-1)) hp3 hw
  unfold w_X4_takeTurned at hw
  refine g_aload_n V dX4_takeTurned_0 rfl rfl ?_
  obtain ⟨hb, hw⟩ := hw
  obtain ⟨fb, hb⟩ := hb
  refine g_callV (C := RX4) (T := TX4) (N := 2) (st := []) V (k_X4_clear hst hw) ww_1_226 ww_1_86 ww_1_87 ww_1_3 ww_1_88 hd_X4_clear ⟨by decide, by decide⟩ rfl (by decide) hb rfl rfl (ga_cat rfl) dX4_takeTurned_1 (Nat.zero_le _) (Nat.zero_le _) rfl (gaX_all hT V) (ga_kv (fun hp1 hw => ?_))
  refine g_aload_n V dX4_takeTurned_4 rfl rfl ?_
  obtain ⟨fs, r3, ha, hv, hw⟩ := hw
  refine g_get (C := RX4) (T := TX4) (N := 2) V 1 rfl hin_RX4 (by decide) (by decide) ww_1_54 rfl ha hv dX4_takeTurned_5 rfl ?_
  refine g_iconst V (Int32.ofInt 1) dX4_takeTurned_8 rfl rfl ?_
  refine gi_isub V dX4_takeTurned_9 rfl ?_
  refine g_istore_n (lv2 := [some (.ref a0), some (.ref a1), some (gi (r3 - 1))]) V dX4_takeTurned_10 (by decide) rfl rfl rfl ?_
  obtain ⟨z, hw⟩ := hw
  exact h_X4_takeTurned_L11 z a0 a1 (r3 - 1) hp1 hw
def w_X0_codeForA (G : gaG) (a0 : Int) (h : gaH) (Q : Int → gaH → Prop) : Prop := gR a0 ∧ (if a0 < 0 then Q 0 h else gAL h (G.2.2.2 0) 102 (fun r1 => gR a0 ∧ gR r1 ∧ (if r1 ≤ a0 then Q 0 h else gLI h (G.2.2.2 0) 102 a0 (fun r2 => Q r2 h))))
abbrev rm_X0_codeForA : Room := { frames := 0, cells := 0, slots := 0, locals := 0 }
theorem hd_X0_codeForA : (yX0_codeForA.cls ≠ "java/lang/invoke/MethodHandle" ∧ yX0_codeForA.cls ≠ "java/lang/invoke/VarHandle" ∧ (parseMethodDescriptor yX0_codeForA.desc).map (fun d => d.parameters.length) = some 1) := by decide +kernel
theorem k_X0_codeForA {l : Launch} (hst : l.stackTraces = false) {G : gaG} {X : String → gaH → Prop} {a0 : Int} {h : gaH} {Q : Int → gaH → Prop} (hw : w_X0_codeForA G a0 h Q) : gaC l G yX0_codeForA (gaM yX0_codeForA cX0_codeForA 1 ((some .int))) rm_X0_codeForA [gi a0] h (gQi Q) X := by
  refine g_start (lv := [some (gi a0)]) hpl_RX0 hst (Nat.le_of_ble_eq_true rfl) (gaArgs_pad (z := 0) rfl) ww_2_28 ?_
  intro p e s m args below meth c V hT
  unfold w_X0_codeForA at hw
  refine g_iload_n V dX0_codeForA_0 rfl rfl ?_
  obtain ⟨hx0, hw⟩ := hw
  refine gi_if_lt V dX0_codeForA_1 rfl rfl hx0 (fun q => ?_) (fun q => ?_)
  · have hw := ga_t q hw
    refine g_iconst V (Int32.ofInt 0) dX0_codeForA_20 rfl rfl ?_
    exact g_iret V rfl rfl dX0_codeForA_21 ⟨_, rfl, hw⟩
  · have hw := ga_f q hw
    refine g_iload_n V dX0_codeForA_4 rfl rfl ?_
    refine g_gets V V.z0 ww_2_29 dX0_codeForA_5 rfl ?_
    obtain ⟨t9, vs, ha, ht, hw⟩ := hw
    refine gi_arraylength (t0 := 102) V (by simp [gaT]) ha ht dX0_codeForA_8 rfl ?_
    generalize (vs.length : Int) = r1 at hw ⊢
    obtain ⟨hx0, hx1, hw⟩ := hw
    refine gi_icmp_ge V dX0_codeForA_9 rfl rfl hx0 hx1 (fun q => ?_) (fun q => ?_)
    · have hw := ga_t q hw
      refine g_iconst V (Int32.ofInt 0) dX0_codeForA_20 rfl rfl ?_
      exact g_iret V rfl rfl dX0_codeForA_21 ⟨_, rfl, hw⟩
    · have hw := ga_f q hw
      refine g_gets V V.z0 ww_2_29 dX0_codeForA_12 rfl ?_
      refine g_iload_n V dX0_codeForA_15 rfl rfl ?_
      obtain ⟨t9, vs, r2, ha, ht, h0, h9, hv, hw⟩ := hw
      refine gi_iaload V ha ht h0 h9 hv dX0_codeForA_16 rfl ?_
      refine g_goto V dX0_codeForA_17 rfl ?_
      exact g_iret V rfl rfl dX0_codeForA_21 ⟨_, rfl, hw⟩
def w_X0_layByRules_L17 (G : gaG) (Q : gaH → Prop) : Nat → (Nat → Nat → Nat → Nat → Int → gaH → Prop)
  | 0 => fun _ _ _ _ _ _ => False
  | n + 1 => fun v0 v1 v2 v3 v4 h => gR v4 ∧ (if v4 < 0 then Q h else gHas h v0 2 ∧ w_X0_turnAt v0 v4 h (fun r2 hp1 => w_X0_codeForA G r2 hp1 (fun r4 hp3 => gHas hp3 v3 3 ∧ w_X2_take v3 r4 2 hp3 (fun hp5 => gHas hp5 v3 3 ∧ w_X2_layImage v3 v1 v2 hp5 (fun hp7 => gHas hp7 v1 4 ∧ w_X4_take v1 v2 hp7 (fun hp9 => w_X0_layByRules_L17 G Q n v0 v1 v2 v3 (v4 + (-1)) hp9))))))
def w_X0_layByRules (G : gaG) (a0 : Nat) (a1 : Nat) (a2 : Nat) (a3 : Nat) (h : gaH) (Q : gaH → Prop) : Prop := gHas h a1 4 ∧ w_X4_clear a1 h (fun hp1 => gHas hp1 a1 4 ∧ w_X4_add a1 0 hp1 (fun hp3 => gI hp3 a0 2 1 (fun r5 => ∃ z, w_X0_layByRules_L17 G Q z a0 a1 a2 a3 (r5 - 1) hp3)))
abbrev rm_X0_layByRules : Room := { frames := 3, cells := 0, slots := 0, locals := 69 }
theorem hd_X0_layByRules : yX0_layByRules.cls = RX0 ∧ (yX0_layByRules.cls ≠ "java/lang/invoke/MethodHandle" ∧ yX0_layByRules.cls ≠ "java/lang/invoke/VarHandle" ∧ (parseMethodDescriptor yX0_layByRules.desc).map (fun d => d.parameters.length) = some 3) := by decide +kernel
theorem k_X0_layByRules {l : Launch} (hst : l.stackTraces = false) {G : gaG} {X : String → gaH → Prop} {a0 : Nat} {a1 : Nat} {a2 : Nat} {a3 : Nat} {h : gaH} {Q : gaH → Prop} (hw : w_X0_layByRules G a0 a1 a2 a3 h Q) : gaC l G yX0_layByRules (gaM yX0_layByRules cX0_layByRules 5 ((none : Option Jvm.ClassFile.FieldType))) rm_X0_layByRules [.ref a0, .ref a1, .ref a2, .ref a3] h (gQv Q) X := by
  refine g_start (lv := [some (.ref a0), some (.ref a1), some (.ref a2), some (.ref a3), none]) hpl_RX0 hst (Nat.le_of_ble_eq_true rfl) (gaArgs_pad (z := 1) rfl) ww_2_21 ?_
  intro p e s m args below meth c V hT
  have h_X0_layByRules_L17 : ∀ (n : Nat), ∀ (v0 : Nat) (v1 : Nat) (v2 : Nat) (v3 : Nat) (v4 : Int) (h : gaH), w_X0_layByRules_L17 G Q n v0 v1 v2 v3 v4 h → gaP p l e rm_X0_layByRules s m args below meth c G 5 (gaZ below G (gQv Q) X args s rm_X0_layByRules) 17 [some (.ref v0), some (.ref v1), some (.ref v2), some (.ref v3), some (gi v4)] [] h 0 0 := by
    intro n
    induction n with
    | zero =>
      intro v0 v1 v2 v3 v4 h hw
      exact hw.elim
    | succ n ih =>
      intro v0 v1 v2 v3 v4 h hw
      unfold w_X0_layByRules_L17 at hw
      refine g_iload V dX0_layByRules_17 rfl rfl ?_
      obtain ⟨hx0, hw⟩ := hw
      refine gi_if_lt V dX0_layByRules_19 rfl rfl hx0 (fun q => ?_) (fun q => ?_)
      · have hw := ga_t q hw
        exact g_vret V rfl dX0_layByRules_53 ⟨rfl, hw⟩
      · have hw := ga_f q hw
        refine g_aload_n V dX0_layByRules_22 rfl rfl ?_
        refine g_aload_n V dX0_layByRules_23 rfl rfl ?_
        refine g_iload V dX0_layByRules_24 rfl rfl ?_
        obtain ⟨hb, hw⟩ := hw
        obtain ⟨fb, hb⟩ := hb
        refine g_callV (C := RX0) (T := TX0) (N := 4) (st := [.ref v3]) V (k_X0_turnAt hst hw) ww_2_22 ww_2_23 ww_2_24 ww_1_4 ww_2_25 hd_X0_turnAt ⟨by decide, by decide⟩ rfl (by decide) hb rfl rfl (ga_cat rfl) dX0_layByRules_26 (Nat.zero_le _) (Nat.zero_le _) rfl (gaX_all hT V) (ga_ki (fun r2 hp1 hw => ?_))
        refine g_callS (st := [.ref v3]) V (k_X0_codeForA hst hw) ww_2_26 ww_2_27 ww_1_4 ww_2_28 hd_X0_codeForA ⟨by decide, by decide⟩ rfl rfl (ga_cat rfl) dX0_layByRules_29 (Nat.zero_le _) (Nat.zero_le _) rfl (gaX_all hT V) (ga_ki (fun r4 hp3 hw => ?_))
        refine g_iconst V (Int32.ofInt 2) dX0_layByRules_32 rfl rfl ?_
        obtain ⟨hb, hw⟩ := hw
        obtain ⟨fb, hb⟩ := hb
        refine g_callV (C := RX2) (T := TX2) (N := 3) (st := []) V (k_X2_take hst hw) ww_2_31 ww_2_32 ww_2_33 ww_1_2 ww_2_34 hd_X2_take ⟨by decide, by decide⟩ rfl (by decide) hb rfl rfl (ga_cat rfl) dX0_layByRules_33 (Nat.zero_le _) (Nat.zero_le _) rfl (gaX_all hT V) (ga_kv (fun hp5 hw => ?_))
        refine g_aload_n V dX0_layByRules_36 rfl rfl ?_
        refine g_aload_n V dX0_layByRules_37 rfl rfl ?_
        refine g_aload_n V dX0_layByRules_38 rfl rfl ?_
        obtain ⟨hb, hw⟩ := hw
        obtain ⟨fb, hb⟩ := hb
        refine g_callV (C := RX2) (T := TX2) (N := 3) (st := []) V (k_X2_layImage hst hw) ww_2_39 ww_2_40 ww_2_41 ww_1_2 ww_2_42 hd_X2_layImage ⟨by decide, by decide⟩ rfl (by decide) hb rfl rfl (ga_cat rfl) dX0_layByRules_39 (Nat.zero_le _) (Nat.zero_le _) rfl (gaX_all hT V) (ga_kv (fun hp7 hw => ?_))
        refine g_aload_n V dX0_layByRules_42 rfl rfl ?_
        refine g_aload_n V dX0_layByRules_43 rfl rfl ?_
        obtain ⟨hb, hw⟩ := hw
        obtain ⟨fb, hb⟩ := hb
        refine g_callV (C := RX4) (T := TX4) (N := 2) (st := []) V (k_X4_take hst hw) ww_2_49 ww_2_50 ww_2_51 ww_1_3 ww_2_52 hd_X4_take ⟨by decide, by decide⟩ rfl (by decide) hb rfl rfl (ga_cat rfl) dX0_layByRules_44 (Nat.zero_le _) (Nat.zero_le _) rfl (gaX_all hT V) (ga_kv (fun hp9 hw => ?_))
        refine gi_iinc (lv2 := [some (.ref v0), some (.ref v1), some (.ref v2), some (.ref v3), some (gi (v4 + (-1)))]) V dX0_layByRules_47 (by decide) rfl rfl rfl rfl ?_
        refine g_goto V dX0_layByRules_50 rfl ?_
        exact ih v0 v1 v2 v3 (v4 + (-1)) hp9 hw
  unfold w_X0_layByRules at hw
  refine g_aload_n V dX0_layByRules_0 rfl rfl ?_
  obtain ⟨hb, hw⟩ := hw
  obtain ⟨fb, hb⟩ := hb
  refine g_callV (C := RX4) (T := TX4) (N := 2) (st := []) V (k_X4_clear hst hw) ww_1_85 ww_1_86 ww_1_87 ww_1_3 ww_1_88 hd_X4_clear ⟨by decide, by decide⟩ rfl (by decide) hb rfl rfl (ga_cat rfl) dX0_layByRules_1 (Nat.zero_le _) (Nat.zero_le _) rfl (gaX_all hT V) (ga_kv (fun hp1 hw => ?_))
  refine g_aload_n V dX0_layByRules_4 rfl rfl ?_
  refine g_iconst V (Int32.ofInt 0) dX0_layByRules_5 rfl rfl ?_
  obtain ⟨hb, hw⟩ := hw
  obtain ⟨fb, hb⟩ := hb
  refine g_callV (C := RX4) (T := TX4) (N := 2) (st := []) V (k_X4_add hst hw) ww_1_89 ww_1_90 ww_1_91 ww_1_3 ww_1_92 hd_X4_add ⟨by decide, by decide⟩ rfl (by decide) hb rfl rfl (ga_cat rfl) dX0_layByRules_6 (Nat.zero_le _) (Nat.zero_le _) rfl (gaX_all hT V) (ga_kv (fun hp3 hw => ?_))
  refine g_aload_n V dX0_layByRules_9 rfl rfl ?_
  obtain ⟨fs, r5, ha, hv, hw⟩ := hw
  refine g_get (C := RX0) (T := TX0) (N := 4) V 1 rfl hin_RX0 (by decide) (by decide) ww_1_94 rfl ha hv dX0_layByRules_10 rfl ?_
  refine g_iconst V (Int32.ofInt 1) dX0_layByRules_13 rfl rfl ?_
  refine gi_isub V dX0_layByRules_14 rfl ?_
  refine g_istore (lv2 := [some (.ref a0), some (.ref a1), some (.ref a2), some (.ref a3), some (gi (r5 - 1))]) V dX0_layByRules_15 (by decide) rfl rfl rfl ?_
  obtain ⟨z, hw⟩ := hw
  exact h_X0_layByRules_L17 z a0 a1 a2 a3 (r5 - 1) hp3 hw
def w_X5_isUpOnLine (a0 : Int) (a1 : Int) (a2 : Int) (a3 : Int) (h : gaH) (Q : Int → gaH → Prop) : Prop := gR a0 ∧ (if a0 ≤ 0 then Q 0 h else gR a0 ∧ ¬ a0 = 0 ∧ (gR ((gRem ((a3 * a1) + a2) a0) + a1) ∧ gR a0 ∧ (if ((gRem ((a3 * a1) + a2) a0) + a1) < a0 then Q 0 h else Q 1 h)))
abbrev rm_X5_isUpOnLine : Room := { frames := 0, cells := 0, slots := 0, locals := 0 }
theorem hd_X5_isUpOnLine : (yX5_isUpOnLine.cls ≠ "java/lang/invoke/MethodHandle" ∧ yX5_isUpOnLine.cls ≠ "java/lang/invoke/VarHandle" ∧ (parseMethodDescriptor yX5_isUpOnLine.desc).map (fun d => d.parameters.length) = some 4) := by decide +kernel
theorem k_X5_isUpOnLine {l : Launch} (hst : l.stackTraces = false) {G : gaG} {X : String → gaH → Prop} {a0 : Int} {a1 : Int} {a2 : Int} {a3 : Int} {h : gaH} {Q : Int → gaH → Prop} (hw : w_X5_isUpOnLine a0 a1 a2 a3 h Q) : gaC l G yX5_isUpOnLine (gaM yX5_isUpOnLine cX5_isUpOnLine 4 ((some .boolean))) rm_X5_isUpOnLine [gi a0, gi a1, gi a2, gi a3] h (gQi Q) X := by
  refine g_start (lv := [some (gi a0), some (gi a1), some (gi a2), some (gi a3)]) hpl_RX5 hst (Nat.le_of_ble_eq_true rfl) (gaArgs_pad (z := 0) rfl) ww_2_63 ?_
  intro p e s m args below meth c V hT
  unfold w_X5_isUpOnLine at hw
  refine g_iload_n V dX5_isUpOnLine_0 rfl rfl ?_
  obtain ⟨hx0, hw⟩ := hw
  refine gi_if_le V dX5_isUpOnLine_1 rfl rfl hx0 (fun q => ?_) (fun q => ?_)
  · have hw := ga_t q hw
    refine g_iconst V (Int32.ofInt 0) dX5_isUpOnLine_21 rfl rfl ?_
    exact g_iret V rfl rfl dX5_isUpOnLine_22 ⟨_, rfl, hw⟩
  · have hw := ga_f q hw
    refine g_iload_n V dX5_isUpOnLine_4 rfl rfl ?_
    refine g_iload_n V dX5_isUpOnLine_5 rfl rfl ?_
    refine gi_imul V dX5_isUpOnLine_6 rfl ?_
    refine g_iload_n V dX5_isUpOnLine_7 rfl rfl ?_
    refine gi_iadd V dX5_isUpOnLine_8 rfl ?_
    refine g_iload_n V dX5_isUpOnLine_9 rfl rfl ?_
    obtain ⟨hx, h0, hw⟩ := hw
    refine gi_irem V dX5_isUpOnLine_10 hx h0 rfl ?_
    refine g_iload_n V dX5_isUpOnLine_11 rfl rfl ?_
    refine gi_iadd V dX5_isUpOnLine_12 rfl ?_
    refine g_iload_n V dX5_isUpOnLine_13 rfl rfl ?_
    obtain ⟨hx0, hx1, hw⟩ := hw
    refine gi_icmp_lt V dX5_isUpOnLine_14 rfl rfl hx0 hx1 (fun q => ?_) (fun q => ?_)
    · have hw := ga_t q hw
      refine g_iconst V (Int32.ofInt 0) dX5_isUpOnLine_21 rfl rfl ?_
      exact g_iret V rfl rfl dX5_isUpOnLine_22 ⟨_, rfl, hw⟩
    · have hw := ga_f q hw
      refine g_iconst V (Int32.ofInt 1) dX5_isUpOnLine_17 rfl rfl ?_
      refine g_goto V dX5_isUpOnLine_18 rfl ?_
      exact g_iret V rfl rfl dX5_isUpOnLine_22 ⟨_, rfl, hw⟩
def w_X0_addLineEnd_J36 (Q : gaH → Prop) (v1 : Nat) (v2 : Int) (h : gaH) : Prop := gHas h v1 4 ∧ w_X4_add v1 v2 h (fun hp1 => Q hp1)
def w_X0_addLineEnd_J33 (Q : gaH → Prop) (v1 : Nat) (v2 : Int) (t0 : Nat) (t1 : Int) (h : gaH) : Prop := gHas h t0 4 ∧ w_X4_add t0 t1 h (fun hp1 => w_X0_addLineEnd_J36 Q v1 v2 hp1)
def w_X0_addLineEnd_J15 (Q : gaH → Prop) (v0 : Nat) (v1 : Nat) (t0 : Int) (h : gaH) : Prop := gI h v0 2 1 (fun r1 => gR r1 ∧ (if r1 ≤ 0 then w_X0_addLineEnd_J36 Q v1 t0 h else gR t0 ∧ (if t0 = 0 then w_X0_addLineEnd_J33 Q v1 t0 v1 1 h else w_X0_addLineEnd_J33 Q v1 t0 v1 0 h)))
def w_X0_addLineEnd (a0 : Nat) (a1 : Nat) (h : gaH) (Q : gaH → Prop) : Prop := gI h a0 2 1 (fun r1 => gR (gRem r1 2) ∧ (if (gRem r1 2) = 1 then w_X0_addLineEnd_J15 Q a0 a1 1 h else w_X0_addLineEnd_J15 Q a0 a1 0 h))
abbrev rm_X0_addLineEnd : Room := { frames := 1, cells := 0, slots := 0, locals := 21 }
theorem hd_X0_addLineEnd : yX0_addLineEnd.cls = RX0 ∧ (yX0_addLineEnd.cls ≠ "java/lang/invoke/MethodHandle" ∧ yX0_addLineEnd.cls ≠ "java/lang/invoke/VarHandle" ∧ (parseMethodDescriptor yX0_addLineEnd.desc).map (fun d => d.parameters.length) = some 1) := by decide +kernel
theorem k_X0_addLineEnd {l : Launch} (hst : l.stackTraces = false) {G : gaG} {X : String → gaH → Prop} {a0 : Nat} {a1 : Nat} {h : gaH} {Q : gaH → Prop} (hw : w_X0_addLineEnd a0 a1 h Q) : gaC l G yX0_addLineEnd (gaM yX0_addLineEnd cX0_addLineEnd 3 ((none : Option Jvm.ClassFile.FieldType))) rm_X0_addLineEnd [.ref a0, .ref a1] h (gQv Q) X := by
  refine g_start (lv := [some (.ref a0), some (.ref a1), none]) hpl_RX0 hst (Nat.le_of_ble_eq_true rfl) (gaArgs_pad (z := 1) rfl) ww_2_67 ?_
  intro p e s m args below meth c V hT
  have h_X0_addLineEnd_J36 : ∀ (v1 : Nat) (v2 : Int) (h : gaH), w_X0_addLineEnd_J36 Q v1 v2 h → gaP p l e rm_X0_addLineEnd s m args below meth c G 3 (gaZ below G (gQv Q) X args s rm_X0_addLineEnd) 36 [none, some (.ref v1), some (gi v2)] [] h 0 0 := by
    intro v1 v2 h hw
    unfold w_X0_addLineEnd_J36 at hw
    refine g_aload_n V dX0_addLineEnd_36 rfl rfl ?_
    refine g_iload_n V dX0_addLineEnd_37 rfl rfl ?_
    obtain ⟨hb, hw⟩ := hw
    obtain ⟨fb, hb⟩ := hb
    refine g_callV (C := RX4) (T := TX4) (N := 2) (st := []) V (k_X4_add hst hw) ww_1_89 ww_1_90 ww_1_91 ww_1_3 ww_1_92 hd_X4_add ⟨by decide, by decide⟩ rfl (by decide) hb rfl rfl (ga_cat rfl) dX0_addLineEnd_38 (Nat.zero_le _) (Nat.zero_le _) rfl (gaX_all hT V) (ga_kv (fun hp1 hw => ?_))
    exact g_vret V rfl dX0_addLineEnd_41 ⟨rfl, hw⟩
  have h_X0_addLineEnd_J33 : ∀ (v1 : Nat) (v2 : Int) (t0 : Nat) (t1 : Int) (h : gaH), w_X0_addLineEnd_J33 Q v1 v2 t0 t1 h → gaP p l e rm_X0_addLineEnd s m args below meth c G 3 (gaZ below G (gQv Q) X args s rm_X0_addLineEnd) 33 [none, some (.ref v1), some (gi v2)] [gi t1, .ref t0] h 0 0 := by
    intro v1 v2 t0 t1 h hw
    unfold w_X0_addLineEnd_J33 at hw
    obtain ⟨hb, hw⟩ := hw
    obtain ⟨fb, hb⟩ := hb
    refine g_callV (C := RX4) (T := TX4) (N := 2) (st := []) V (k_X4_add hst hw) ww_1_89 ww_1_90 ww_1_91 ww_1_3 ww_1_92 hd_X4_add ⟨by decide, by decide⟩ rfl (by decide) hb rfl rfl (ga_cat rfl) dX0_addLineEnd_33 (Nat.zero_le _) (Nat.zero_le _) rfl (gaX_all hT V) (ga_kv (fun hp1 hw => ?_))
    exact h_X0_addLineEnd_J36 v1 v2 hp1 hw
  have h_X0_addLineEnd_J15 : ∀ (v0 : Nat) (v1 : Nat) (t0 : Int) (h : gaH), w_X0_addLineEnd_J15 Q v0 v1 t0 h → gaP p l e rm_X0_addLineEnd s m args below meth c G 3 (gaZ below G (gQv Q) X args s rm_X0_addLineEnd) 15 [some (.ref v0), some (.ref v1), none] [gi t0] h 0 0 := by
    intro v0 v1 t0 h hw
    unfold w_X0_addLineEnd_J15 at hw
    refine g_istore_n (lv2 := [some (.ref v0), some (.ref v1), some (gi t0)]) V dX0_addLineEnd_15 (by decide) rfl rfl rfl ?_
    refine g_aload_n V dX0_addLineEnd_16 rfl rfl ?_
    obtain ⟨fs, r1, ha, hv, hw⟩ := hw
    refine g_get (C := RX0) (T := TX0) (N := 4) V 1 rfl hin_RX0 (by decide) (by decide) ww_1_94 rfl ha hv dX0_addLineEnd_17 rfl ?_
    obtain ⟨hx0, hw⟩ := hw
    refine gi_if_le V dX0_addLineEnd_20 rfl rfl hx0 (fun q => ?_) (fun q => ?_)
    · have hw := ga_t q hw
      refine g_less (bs := [false, true, true]) (lv2 := [none, some (.ref v1), some (gi t0)]) rfl ?_
      exact h_X0_addLineEnd_J36 v1 t0 h hw
    · have hw := ga_f q hw
      refine g_aload_n V dX0_addLineEnd_23 rfl rfl ?_
      refine g_iload_n V dX0_addLineEnd_24 rfl rfl ?_
      obtain ⟨hx0, hw⟩ := hw
      refine gi_if_ne V dX0_addLineEnd_25 rfl rfl hx0 (fun q => ?_) (fun q => ?_)
      · have hw := ga_f q hw
        refine g_iconst V (Int32.ofInt 0) dX0_addLineEnd_32 rfl rfl ?_
        refine g_less (bs := [false, true, true]) (lv2 := [none, some (.ref v1), some (gi t0)]) rfl ?_
        exact h_X0_addLineEnd_J33 v1 t0 v1 0 h hw
      · have hw := ga_t q hw
        refine g_iconst V (Int32.ofInt 1) dX0_addLineEnd_28 rfl rfl ?_
        refine g_goto V dX0_addLineEnd_29 rfl ?_
        refine g_less (bs := [false, true, true]) (lv2 := [none, some (.ref v1), some (gi t0)]) rfl ?_
        exact h_X0_addLineEnd_J33 v1 t0 v1 1 h hw
  unfold w_X0_addLineEnd at hw
  refine g_aload_n V dX0_addLineEnd_0 rfl rfl ?_
  obtain ⟨fs, r1, ha, hv, hw⟩ := hw
  refine g_get (C := RX0) (T := TX0) (N := 4) V 1 rfl hin_RX0 (by decide) (by decide) ww_1_94 rfl ha hv dX0_addLineEnd_1 rfl ?_
  refine g_iconst V (Int32.ofInt 2) dX0_addLineEnd_4 rfl rfl ?_
  refine gi_irem V dX0_addLineEnd_5 (by decide) (by decide) rfl ?_
  refine g_iconst V (Int32.ofInt 1) dX0_addLineEnd_6 rfl rfl ?_
  obtain ⟨hx0, hw⟩ := hw
  refine gi_icmp_ne V dX0_addLineEnd_7 rfl rfl hx0 (by decide) (fun q => ?_) (fun q => ?_)
  · have hw := ga_f q hw
    refine g_iconst V (Int32.ofInt 0) dX0_addLineEnd_14 rfl rfl ?_
    exact h_X0_addLineEnd_J15 a0 a1 0 h hw
  · have hw := ga_t q hw
    refine g_iconst V (Int32.ofInt 1) dX0_addLineEnd_10 rfl rfl ?_
    refine g_goto V dX0_addLineEnd_11 rfl ?_
    exact h_X0_addLineEnd_J15 a0 a1 1 h hw
def w_X0_layByLine_L75 (Q : gaH → Prop) : Nat → (Nat → Nat → Int → Int → Int → gaH → Prop)
  | 0 => fun _ _ _ _ _ _ => False
  | n + 1 => fun v0 v1 v4 v5 v6 h => gR v6 ∧ gR (v4 - 1) ∧ (if (v4 - 1) ≤ v6 then gHas h v0 2 ∧ w_X0_addLineEnd v0 v1 h (fun hp1 => Q hp1) else w_X5_isUpOnLine v4 v5 0 v6 h (fun r4 hp3 => gHas hp3 v1 4 ∧ w_X4_add v1 r4 hp3 (fun hp5 => w_X0_layByLine_L75 Q n v0 v1 v4 v5 (v6 + 1) hp5)))
def w_X0_layByLine_L13 (Q : gaH → Prop) : Nat → (Nat → Nat → Int → Int → Int → Int → Int → gaH → Prop)
  | 0 => fun _ _ _ _ _ _ _ _ => False
  | n + 1 => fun v0 v1 v2 v3 v4 v5 v6 h => gI h v0 2 1 (fun r1 => gR v6 ∧ gR r1 ∧ (if r1 ≤ v6 then gHas h v1 4 ∧ w_X4_clear v1 h (fun hp2 => ∃ z, w_X0_layByLine_L75 Q z v0 v1 v4 v5 1 hp2) else gHas h v0 2 ∧ w_X0_turnAt v0 v6 h (fun r5 hp4 => w_X0_layByLine_L13 Q n v0 v1 v4 v5 ((r5 * v4) + v2) ((r5 * v5) + v3) (v6 + 1) hp4)))
def w_X0_layByLine (a0 : Nat) (a1 : Nat) (h : gaH) (Q : gaH → Prop) : Prop := ∃ z, w_X0_layByLine_L13 Q z a0 a1 1 1 1 0 0 h
abbrev rm_X0_layByLine : Room := { frames := 2, cells := 0, slots := 0, locals := 43 }
theorem hd_X0_layByLine : yX0_layByLine.cls = RX0 ∧ (yX0_layByLine.cls ≠ "java/lang/invoke/MethodHandle" ∧ yX0_layByLine.cls ≠ "java/lang/invoke/VarHandle" ∧ (parseMethodDescriptor yX0_layByLine.desc).map (fun d => d.parameters.length) = some 1) := by decide +kernel
theorem k_X0_layByLine {l : Launch} (hst : l.stackTraces = false) {G : gaG} {X : String → gaH → Prop} {a0 : Nat} {a1 : Nat} {h : gaH} {Q : gaH → Prop} (hw : w_X0_layByLine a0 a1 h Q) : gaC l G yX0_layByLine (gaM yX0_layByLine cX0_layByLine 10 ((none : Option Jvm.ClassFile.FieldType))) rm_X0_layByLine [.ref a0, .ref a1] h (gQv Q) X := by
  refine g_start (lv := [some (.ref a0), some (.ref a1), none, none, none, none, none, none, none, none]) hpl_RX0 hst (Nat.le_of_ble_eq_true rfl) (gaArgs_pad (z := 8) rfl) ww_2_60 ?_
  intro p e s m args below meth c V hT
  have h_X0_layByLine_L75 : ∀ (n : Nat), ∀ (v0 : Nat) (v1 : Nat) (v4 : Int) (v5 : Int) (v6 : Int) (h : gaH), w_X0_layByLine_L75 Q n v0 v1 v4 v5 v6 h → gaP p l e rm_X0_layByLine s m args below meth c G 10 (gaZ below G (gQv Q) X args s rm_X0_layByLine) 75 [some (.ref v0), some (.ref v1), none, none, some (gi v4), some (gi v5), some (gi v6), none, none, none] [] h 0 0 := by
    intro n
    induction n with
    | zero =>
      intro v0 v1 v4 v5 v6 h hw
      exact hw.elim
    | succ n ih =>
      intro v0 v1 v4 v5 v6 h hw
      unfold w_X0_layByLine_L75 at hw
      refine g_iload V dX0_layByLine_75 rfl rfl ?_
      refine g_iload V dX0_layByLine_77 rfl rfl ?_
      refine g_iconst V (Int32.ofInt 1) dX0_layByLine_79 rfl rfl ?_
      refine gi_isub V dX0_layByLine_80 rfl ?_
      obtain ⟨hx0, hx1, hw⟩ := hw
      refine gi_icmp_ge V dX0_layByLine_81 rfl rfl hx0 hx1 (fun q => ?_) (fun q => ?_)
      · have hw := ga_t q hw
        refine g_aload_n V dX0_layByLine_104 rfl rfl ?_
        refine g_aload_n V dX0_layByLine_105 rfl rfl ?_
        obtain ⟨hb, hw⟩ := hw
        obtain ⟨fb, hb⟩ := hb
        refine g_callV (C := RX0) (T := TX0) (N := 4) (st := []) V (k_X0_addLineEnd hst hw) ww_2_64 ww_2_66 wp_1_5 ww_1_4 ww_2_67 hd_X0_addLineEnd ⟨by decide, by decide⟩ rfl (by decide) hb rfl rfl (ga_cat rfl) dX0_layByLine_106 (Nat.zero_le _) (Nat.zero_le _) rfl (gaX_all hT V) (ga_kv (fun hp1 hw => ?_))
        exact g_vret V rfl dX0_layByLine_109 ⟨rfl, hw⟩
      · have hw := ga_f q hw
        refine g_aload_n V dX0_layByLine_84 rfl rfl ?_
        refine g_iload V dX0_layByLine_85 rfl rfl ?_
        refine g_iload V dX0_layByLine_87 rfl rfl ?_
        refine g_iconst V (Int32.ofInt 0) dX0_layByLine_89 rfl rfl ?_
        refine g_iload V dX0_layByLine_90 rfl rfl ?_
        refine g_callSN (host := "Wordgarden") (st := [.ref v1]) V (k_X5_isUpOnLine hst hw) gn_19 ww_2_62 ww_1_1 ww_2_63 hd_X5_isUpOnLine ⟨by decide, by decide⟩ rfl rfl (ga_cat rfl) dX0_layByLine_92 (Nat.zero_le _) (Nat.zero_le _) rfl (gaX_all hT V) (ga_ki (fun r4 hp3 hw => ?_))
        obtain ⟨hb, hw⟩ := hw
        obtain ⟨fb, hb⟩ := hb
        refine g_callV (C := RX4) (T := TX4) (N := 2) (st := []) V (k_X4_add hst hw) ww_1_89 ww_1_90 ww_1_91 ww_1_3 ww_1_92 hd_X4_add ⟨by decide, by decide⟩ rfl (by decide) hb rfl rfl (ga_cat rfl) dX0_layByLine_95 (Nat.zero_le _) (Nat.zero_le _) rfl (gaX_all hT V) (ga_kv (fun hp5 hw => ?_))
        refine gi_iinc (lv2 := [some (.ref v0), some (.ref v1), none, none, some (gi v4), some (gi v5), some (gi (v6 + 1)), none, none, none]) V dX0_layByLine_98 (by decide) rfl rfl rfl rfl ?_
        refine g_goto V dX0_layByLine_101 rfl ?_
        exact ih v0 v1 v4 v5 (v6 + 1) hp5 hw
  have h_X0_layByLine_L13 : ∀ (n : Nat), ∀ (v0 : Nat) (v1 : Nat) (v2 : Int) (v3 : Int) (v4 : Int) (v5 : Int) (v6 : Int) (h : gaH), w_X0_layByLine_L13 Q n v0 v1 v2 v3 v4 v5 v6 h → gaP p l e rm_X0_layByLine s m args below meth c G 10 (gaZ below G (gQv Q) X args s rm_X0_layByLine) 13 [some (.ref v0), some (.ref v1), some (gi v2), some (gi v3), some (gi v4), some (gi v5), some (gi v6), none, none, none] [] h 0 0 := by
    intro n
    induction n with
    | zero =>
      intro v0 v1 v2 v3 v4 v5 v6 h hw
      exact hw.elim
    | succ n ih =>
      intro v0 v1 v2 v3 v4 v5 v6 h hw
      unfold w_X0_layByLine_L13 at hw
      refine g_iload V dX0_layByLine_13 rfl rfl ?_
      refine g_aload_n V dX0_layByLine_15 rfl rfl ?_
      obtain ⟨fs, r1, ha, hv, hw⟩ := hw
      refine g_get (C := RX0) (T := TX0) (N := 4) V 1 rfl hin_RX0 (by decide) (by decide) ww_1_94 rfl ha hv dX0_layByLine_16 rfl ?_
      obtain ⟨hx0, hx1, hw⟩ := hw
      refine gi_icmp_ge V dX0_layByLine_19 rfl rfl hx0 hx1 (fun q => ?_) (fun q => ?_)
      · have hw := ga_t q hw
        refine g_aload_n V dX0_layByLine_68 rfl rfl ?_
        obtain ⟨hb, hw⟩ := hw
        obtain ⟨fb, hb⟩ := hb
        refine g_callV (C := RX4) (T := TX4) (N := 2) (st := []) V (k_X4_clear hst hw) ww_1_85 ww_1_86 ww_1_87 ww_1_3 ww_1_88 hd_X4_clear ⟨by decide, by decide⟩ rfl (by decide) hb rfl rfl (ga_cat rfl) dX0_layByLine_69 (Nat.zero_le _) (Nat.zero_le _) rfl (gaX_all hT V) (ga_kv (fun hp2 hw => ?_))
        refine g_iconst V (Int32.ofInt 1) dX0_layByLine_72 rfl rfl ?_
        refine g_istore (lv2 := [some (.ref v0), some (.ref v1), some (gi v2), some (gi v3), some (gi v4), some (gi v5), some (gi 1), none, none, none]) V dX0_layByLine_73 (by decide) rfl rfl rfl ?_
        refine g_less (bs := [true, true, false, false, true, true, true, true, true, true]) (lv2 := [some (.ref v0), some (.ref v1), none, none, some (gi v4), some (gi v5), some (gi 1), none, none, none]) rfl ?_
        obtain ⟨z, hw⟩ := hw
        exact h_X0_layByLine_L75 z v0 v1 v4 v5 1 hp2 hw
      · have hw := ga_f q hw
        refine g_aload_n V dX0_layByLine_22 rfl rfl ?_
        refine g_iload V dX0_layByLine_23 rfl rfl ?_
        obtain ⟨hb, hw⟩ := hw
        obtain ⟨fb, hb⟩ := hb
        refine g_callV (C := RX0) (T := TX0) (N := 4) (st := []) V (k_X0_turnAt hst hw) ww_2_22 ww_2_23 ww_2_24 ww_1_4 ww_2_25 hd_X0_turnAt ⟨by decide, by decide⟩ rfl (by decide) hb rfl rfl (ga_cat rfl) dX0_layByLine_25 (Nat.zero_le _) (Nat.zero_le _) rfl (gaX_all hT V) (ga_ki (fun r5 hp4 hw => ?_))
        refine g_istore (lv2 := [some (.ref v0), some (.ref v1), some (gi v2), some (gi v3), some (gi v4), some (gi v5), some (gi v6), some (gi r5), none, none]) V dX0_layByLine_28 (by decide) rfl rfl rfl ?_
        refine g_iload V dX0_layByLine_30 rfl rfl ?_
        refine g_iload V dX0_layByLine_32 rfl rfl ?_
        refine gi_imul V dX0_layByLine_34 rfl ?_
        refine g_iload_n V dX0_layByLine_35 rfl rfl ?_
        refine gi_iadd V dX0_layByLine_36 rfl ?_
        refine g_istore (lv2 := [some (.ref v0), some (.ref v1), some (gi v2), some (gi v3), some (gi v4), some (gi v5), some (gi v6), some (gi r5), some (gi ((r5 * v4) + v2)), none]) V dX0_layByLine_37 (by decide) rfl rfl rfl ?_
        refine g_iload V dX0_layByLine_39 rfl rfl ?_
        refine g_iload V dX0_layByLine_41 rfl rfl ?_
        refine gi_imul V dX0_layByLine_43 rfl ?_
        refine g_iload_n V dX0_layByLine_44 rfl rfl ?_
        refine gi_iadd V dX0_layByLine_45 rfl ?_
        refine g_istore (lv2 := [some (.ref v0), some (.ref v1), some (gi v2), some (gi v3), some (gi v4), some (gi v5), some (gi v6), some (gi r5), some (gi ((r5 * v4) + v2)), some (gi ((r5 * v5) + v3))]) V dX0_layByLine_46 (by decide) rfl rfl rfl ?_
        refine g_iload V dX0_layByLine_48 rfl rfl ?_
        refine g_istore_n (lv2 := [some (.ref v0), some (.ref v1), some (gi v4), some (gi v3), some (gi v4), some (gi v5), some (gi v6), some (gi r5), some (gi ((r5 * v4) + v2)), some (gi ((r5 * v5) + v3))]) V dX0_layByLine_50 (by decide) rfl rfl rfl ?_
        refine g_iload V dX0_layByLine_51 rfl rfl ?_
        refine g_istore_n (lv2 := [some (.ref v0), some (.ref v1), some (gi v4), some (gi v5), some (gi v4), some (gi v5), some (gi v6), some (gi r5), some (gi ((r5 * v4) + v2)), some (gi ((r5 * v5) + v3))]) V dX0_layByLine_53 (by decide) rfl rfl rfl ?_
        refine g_iload V dX0_layByLine_54 rfl rfl ?_
        refine g_istore (lv2 := [some (.ref v0), some (.ref v1), some (gi v4), some (gi v5), some (gi ((r5 * v4) + v2)), some (gi v5), some (gi v6), some (gi r5), some (gi ((r5 * v4) + v2)), some (gi ((r5 * v5) + v3))]) V dX0_layByLine_56 (by decide) rfl rfl rfl ?_
        refine g_iload V dX0_layByLine_58 rfl rfl ?_
        refine g_istore (lv2 := [some (.ref v0), some (.ref v1), some (gi v4), some (gi v5), some (gi ((r5 * v4) + v2)), some (gi ((r5 * v5) + v3)), some (gi v6), some (gi r5), some (gi ((r5 * v4) + v2)), some (gi ((r5 * v5) + v3))]) V dX0_layByLine_60 (by decide) rfl rfl rfl ?_
        refine gi_iinc (lv2 := [some (.ref v0), some (.ref v1), some (gi v4), some (gi v5), some (gi ((r5 * v4) + v2)), some (gi ((r5 * v5) + v3)), some (gi (v6 + 1)), some (gi r5), some (gi ((r5 * v4) + v2)), some (gi ((r5 * v5) + v3))]) V dX0_layByLine_62 (by decide) rfl rfl rfl rfl ?_
        refine g_goto V dX0_layByLine_65 rfl ?_
        refine g_less (bs := [true, true, true, true, true, true, true, false, false, false]) (lv2 := [some (.ref v0), some (.ref v1), some (gi v4), some (gi v5), some (gi ((r5 * v4) + v2)), some (gi ((r5 * v5) + v3)), some (gi (v6 + 1)), none, none, none]) rfl ?_
        exact ih v0 v1 v4 v5 ((r5 * v4) + v2) ((r5 * v5) + v3) (v6 + 1) hp4 hw
  unfold w_X0_layByLine at hw
  refine g_iconst V (Int32.ofInt 1) dX0_layByLine_0 rfl rfl ?_
  refine g_istore_n (lv2 := [some (.ref a0), some (.ref a1), some (gi 1), none, none, none, none, none, none, none]) V dX0_layByLine_1 (by decide) rfl rfl rfl ?_
  refine g_iconst V (Int32.ofInt 1) dX0_layByLine_2 rfl rfl ?_
  refine g_istore_n (lv2 := [some (.ref a0), some (.ref a1), some (gi 1), some (gi 1), none, none, none, none, none, none]) V dX0_layByLine_3 (by decide) rfl rfl rfl ?_
  refine g_iconst V (Int32.ofInt 1) dX0_layByLine_4 rfl rfl ?_
  refine g_istore (lv2 := [some (.ref a0), some (.ref a1), some (gi 1), some (gi 1), some (gi 1), none, none, none, none, none]) V dX0_layByLine_5 (by decide) rfl rfl rfl ?_
  refine g_iconst V (Int32.ofInt 0) dX0_layByLine_7 rfl rfl ?_
  refine g_istore (lv2 := [some (.ref a0), some (.ref a1), some (gi 1), some (gi 1), some (gi 1), some (gi 0), none, none, none, none]) V dX0_layByLine_8 (by decide) rfl rfl rfl ?_
  refine g_iconst V (Int32.ofInt 0) dX0_layByLine_10 rfl rfl ?_
  refine g_istore (lv2 := [some (.ref a0), some (.ref a1), some (gi 1), some (gi 1), some (gi 1), some (gi 0), some (gi 0), none, none, none]) V dX0_layByLine_11 (by decide) rfl rfl rfl ?_
  obtain ⟨z, hw⟩ := hw
  exact h_X0_layByLine_L13 z a0 a1 1 1 1 0 0 h hw
def w_X1_standsAt_L17 (Q : Int → gaH → Prop) : Nat → (Nat → Int → Nat → Int → gaH → Prop)
  | 0 => fun _ _ _ _ _ => False
  | n + 1 => fun v0 v1 v2 v3 h => gI h v2 4 1 (fun r1 => gR v3 ∧ gR r1 ∧ (if r1 ≤ v3 then Q 1 h else gHas h v0 4 ∧ w_X4_isUp v0 (v1 + v3) h (fun r3 hp2 => gHas hp2 v2 4 ∧ w_X4_isUp v2 v3 hp2 (fun r5 hp4 => gR r3 ∧ gR r5 ∧ (if r3 = r5 then w_X1_standsAt_L17 Q n v0 v1 v2 (v3 + 1) hp4 else Q 0 hp4)))))
def w_X1_standsAt (a0 : Nat) (a1 : Int) (a2 : Nat) (h : gaH) (Q : Int → gaH → Prop) : Prop := gI h a2 4 1 (fun r1 => gI h a0 4 1 (fun r2 => gR (a1 + r1) ∧ gR r2 ∧ (if (a1 + r1) ≤ r2 then ∃ z, w_X1_standsAt_L17 Q z a0 a1 a2 0 h else Q 0 h)))
abbrev rm_X1_standsAt : Room := { frames := 1, cells := 0, slots := 0, locals := 21 }
theorem hd_X1_standsAt : (yX1_standsAt.cls ≠ "java/lang/invoke/MethodHandle" ∧ yX1_standsAt.cls ≠ "java/lang/invoke/VarHandle" ∧ (parseMethodDescriptor yX1_standsAt.desc).map (fun d => d.parameters.length) = some 3) := by decide +kernel
theorem k_X1_standsAt {l : Launch} (hst : l.stackTraces = false) {G : gaG} {X : String → gaH → Prop} {a0 : Nat} {a1 : Int} {a2 : Nat} {h : gaH} {Q : Int → gaH → Prop} (hw : w_X1_standsAt a0 a1 a2 h Q) : gaC l G yX1_standsAt (gaM yX1_standsAt cX1_standsAt 4 ((some .boolean))) rm_X1_standsAt [.ref a0, gi a1, .ref a2] h (gQi Q) X := by
  refine g_start (lv := [some (.ref a0), some (gi a1), some (.ref a2), none]) hpl_RX1 hst (Nat.le_of_ble_eq_true rfl) (gaArgs_pad (z := 1) rfl) ww_3_157 ?_
  intro p e s m args below meth c V hT
  have h_X1_standsAt_L17 : ∀ (n : Nat), ∀ (v0 : Nat) (v1 : Int) (v2 : Nat) (v3 : Int) (h : gaH), w_X1_standsAt_L17 Q n v0 v1 v2 v3 h → gaP p l e rm_X1_standsAt s m args below meth c G 4 (gaZ below G (gQi Q) X args s rm_X1_standsAt) 17 [some (.ref v0), some (gi v1), some (.ref v2), some (gi v3)] [] h 0 0 := by
    intro n
    induction n with
    | zero =>
      intro v0 v1 v2 v3 h hw
      exact hw.elim
    | succ n ih =>
      intro v0 v1 v2 v3 h hw
      unfold w_X1_standsAt_L17 at hw
      refine g_iload_n V dX1_standsAt_17 rfl rfl ?_
      refine g_aload_n V dX1_standsAt_18 rfl rfl ?_
      obtain ⟨fs, r1, ha, hv, hw⟩ := hw
      refine g_getN (C := RX4) (T := TX4) (N := 2) (host := "Wordgarden") V 1 rfl hin_RX4 (by decide) (by decide) gn_2 rfl ha hv dX1_standsAt_19 rfl ?_
      obtain ⟨hx0, hx1, hw⟩ := hw
      refine gi_icmp_ge V dX1_standsAt_22 rfl rfl hx0 hx1 (fun q => ?_) (fun q => ?_)
      · have hw := ga_t q hw
        refine g_iconst V (Int32.ofInt 1) dX1_standsAt_48 rfl rfl ?_
        exact g_iret V rfl rfl dX1_standsAt_49 ⟨_, rfl, hw⟩
      · have hw := ga_f q hw
        refine g_aload_n V dX1_standsAt_25 rfl rfl ?_
        refine g_iload_n V dX1_standsAt_26 rfl rfl ?_
        refine g_iload_n V dX1_standsAt_27 rfl rfl ?_
        refine gi_iadd V dX1_standsAt_28 rfl ?_
        obtain ⟨hb, hw⟩ := hw
        obtain ⟨fb, hb⟩ := hb
        refine g_callV (C := RX4) (T := TX4) (N := 2) (st := []) V (k_X4_isUp hst hw) ww_1_239 ww_1_228 ww_1_229 ww_1_3 ww_1_230 hd_X4_isUp ⟨by decide, by decide⟩ rfl (by decide) hb rfl rfl (ga_cat rfl) dX1_standsAt_29 (Nat.zero_le _) (Nat.zero_le _) rfl (gaX_all hT V) (ga_ki (fun r3 hp2 hw => ?_))
        refine g_aload_n V dX1_standsAt_32 rfl rfl ?_
        refine g_iload_n V dX1_standsAt_33 rfl rfl ?_
        obtain ⟨hb, hw⟩ := hw
        obtain ⟨fb, hb⟩ := hb
        refine g_callV (C := RX4) (T := TX4) (N := 2) (st := [gi r3]) V (k_X4_isUp hst hw) ww_1_239 ww_1_228 ww_1_229 ww_1_3 ww_1_230 hd_X4_isUp ⟨by decide, by decide⟩ rfl (by decide) hb rfl rfl (ga_cat rfl) dX1_standsAt_34 (Nat.zero_le _) (Nat.zero_le _) rfl (gaX_all hT V) (ga_ki (fun r5 hp4 hw => ?_))
        obtain ⟨hx0, hx1, hw⟩ := hw
        refine gi_icmp_eq V dX1_standsAt_37 rfl rfl hx0 hx1 (fun q => ?_) (fun q => ?_)
        · have hw := ga_t q hw
          refine gi_iinc (lv2 := [some (.ref v0), some (gi v1), some (.ref v2), some (gi (v3 + 1))]) V dX1_standsAt_42 (by decide) rfl rfl rfl rfl ?_
          refine g_goto V dX1_standsAt_45 rfl ?_
          exact ih v0 v1 v2 (v3 + 1) hp4 hw
        · have hw := ga_f q hw
          refine g_iconst V (Int32.ofInt 0) dX1_standsAt_40 rfl rfl ?_
          exact g_iret V rfl rfl dX1_standsAt_41 ⟨_, rfl, hw⟩
  unfold w_X1_standsAt at hw
  refine g_iload_n V dX1_standsAt_0 rfl rfl ?_
  refine g_aload_n V dX1_standsAt_1 rfl rfl ?_
  obtain ⟨fs, r1, ha, hv, hw⟩ := hw
  refine g_getN (C := RX4) (T := TX4) (N := 2) (host := "Wordgarden") V 1 rfl hin_RX4 (by decide) (by decide) gn_2 rfl ha hv dX1_standsAt_2 rfl ?_
  refine gi_iadd V dX1_standsAt_5 rfl ?_
  refine g_aload_n V dX1_standsAt_6 rfl rfl ?_
  obtain ⟨fs, r2, ha, hv, hw⟩ := hw
  refine g_getN (C := RX4) (T := TX4) (N := 2) (host := "Wordgarden") V 1 rfl hin_RX4 (by decide) (by decide) gn_2 rfl ha hv dX1_standsAt_7 rfl ?_
  obtain ⟨hx0, hx1, hw⟩ := hw
  refine gi_icmp_le V dX1_standsAt_10 rfl rfl hx0 hx1 (fun q => ?_) (fun q => ?_)
  · have hw := ga_t q hw
    refine g_iconst V (Int32.ofInt 0) dX1_standsAt_15 rfl rfl ?_
    refine g_istore_n (lv2 := [some (.ref a0), some (gi a1), some (.ref a2), some (gi 0)]) V dX1_standsAt_16 (by decide) rfl rfl rfl ?_
    obtain ⟨z, hw⟩ := hw
    exact h_X1_standsAt_L17 z a0 a1 a2 0 h hw
  · have hw := ga_f q hw
    refine g_iconst V (Int32.ofInt 0) dX1_standsAt_13 rfl rfl ?_
    exact g_iret V rfl rfl dX1_standsAt_14 ⟨_, rfl, hw⟩
def w_X0_begin (a0 : Nat) (h : gaH) (Q : gaH → Prop) : Prop := gPF h a0 2 1 (gi 0) (fun hp1 => gA hp1 a0 2 2 (fun r2 => gHas hp1 r2 4 ∧ w_X4_clear r2 hp1 (fun hp3 => gA hp3 a0 2 2 (fun r5 => gHas hp3 r5 4 ∧ w_X4_add r5 1 hp3 (fun hp6 => gA hp6 a0 2 3 (fun r8 => gHas hp6 r8 4 ∧ w_X4_clear r8 hp6 (fun hp9 => gA hp9 a0 2 3 (fun r11 => gHas hp9 r11 4 ∧ w_X4_add r11 0 hp9 (fun hp12 => Q hp12)))))))))
abbrev rm_X0_begin : Room := { frames := 1, cells := 0, slots := 0, locals := 21 }
theorem hd_X0_begin : yX0_begin.cls = RX0 ∧ (yX0_begin.cls ≠ "java/lang/invoke/MethodHandle" ∧ yX0_begin.cls ≠ "java/lang/invoke/VarHandle" ∧ (parseMethodDescriptor yX0_begin.desc).map (fun d => d.parameters.length) = some 0) := by decide +kernel
theorem k_X0_begin {l : Launch} (hst : l.stackTraces = false) {G : gaG} {X : String → gaH → Prop} {a0 : Nat} {h : gaH} {Q : gaH → Prop} (hw : w_X0_begin a0 h Q) : gaC l G yX0_begin (gaM yX0_begin cX0_begin 1 ((none : Option Jvm.ClassFile.FieldType))) rm_X0_begin [.ref a0] h (gQv Q) X := by
  refine g_start (lv := [some (.ref a0)]) hpl_RX0 hst (Nat.le_of_ble_eq_true rfl) (gaArgs_pad (z := 0) rfl) ww_1_84 ?_
  intro p e s m args below meth c V hT
  unfold w_X0_begin at hw
  refine g_aload_n V dX0_begin_0 rfl rfl ?_
  refine g_iconst V (Int32.ofInt 0) dX0_begin_1 rfl rfl ?_
  obtain ⟨fs, ha, hl, hw⟩ := hw
  refine g_put (C := RX0) (T := TX0) (N := 4) V 1 tyX0 tyX0_ok nmX0 rfl hin_RX0 (by decide) (by decide) ww_1_94 rfl rfl rfl rfl ha hl dX0_begin_2 rfl ?_
  generalize gaUp h a0 _ = hp1 at hw ⊢
  refine g_aload_n V dX0_begin_5 rfl rfl ?_
  obtain ⟨fs, r2, ha, hv, hw⟩ := hw
  refine g_get (C := RX0) (T := TX0) (N := 4) V 2 rfl hin_RX0 (by decide) (by decide) ww_1_96 rfl ha hv dX0_begin_6 rfl ?_
  obtain ⟨hb, hw⟩ := hw
  obtain ⟨fb, hb⟩ := hb
  refine g_callV (C := RX4) (T := TX4) (N := 2) (st := []) V (k_X4_clear hst hw) ww_1_85 ww_1_86 ww_1_87 ww_1_3 ww_1_88 hd_X4_clear ⟨by decide, by decide⟩ rfl (by decide) hb rfl rfl (ga_cat rfl) dX0_begin_9 (Nat.zero_le _) (Nat.zero_le _) rfl (gaX_all hT V) (ga_kv (fun hp3 hw => ?_))
  refine g_aload_n V dX0_begin_12 rfl rfl ?_
  obtain ⟨fs, r5, ha, hv, hw⟩ := hw
  refine g_get (C := RX0) (T := TX0) (N := 4) V 2 rfl hin_RX0 (by decide) (by decide) ww_1_96 rfl ha hv dX0_begin_13 rfl ?_
  refine g_iconst V (Int32.ofInt 1) dX0_begin_16 rfl rfl ?_
  obtain ⟨hb, hw⟩ := hw
  obtain ⟨fb, hb⟩ := hb
  refine g_callV (C := RX4) (T := TX4) (N := 2) (st := []) V (k_X4_add hst hw) ww_1_89 ww_1_90 ww_1_91 ww_1_3 ww_1_92 hd_X4_add ⟨by decide, by decide⟩ rfl (by decide) hb rfl rfl (ga_cat rfl) dX0_begin_17 (Nat.zero_le _) (Nat.zero_le _) rfl (gaX_all hT V) (ga_kv (fun hp6 hw => ?_))
  refine g_aload_n V dX0_begin_20 rfl rfl ?_
  obtain ⟨fs, r8, ha, hv, hw⟩ := hw
  refine g_get (C := RX0) (T := TX0) (N := 4) V 3 rfl hin_RX0 (by decide) (by decide) ww_1_98 rfl ha hv dX0_begin_21 rfl ?_
  obtain ⟨hb, hw⟩ := hw
  obtain ⟨fb, hb⟩ := hb
  refine g_callV (C := RX4) (T := TX4) (N := 2) (st := []) V (k_X4_clear hst hw) ww_1_85 ww_1_86 ww_1_87 ww_1_3 ww_1_88 hd_X4_clear ⟨by decide, by decide⟩ rfl (by decide) hb rfl rfl (ga_cat rfl) dX0_begin_24 (Nat.zero_le _) (Nat.zero_le _) rfl (gaX_all hT V) (ga_kv (fun hp9 hw => ?_))
  refine g_aload_n V dX0_begin_27 rfl rfl ?_
  obtain ⟨fs, r11, ha, hv, hw⟩ := hw
  refine g_get (C := RX0) (T := TX0) (N := 4) V 3 rfl hin_RX0 (by decide) (by decide) ww_1_98 rfl ha hv dX0_begin_28 rfl ?_
  refine g_iconst V (Int32.ofInt 0) dX0_begin_31 rfl rfl ?_
  obtain ⟨hb, hw⟩ := hw
  obtain ⟨fb, hb⟩ := hb
  refine g_callV (C := RX4) (T := TX4) (N := 2) (st := []) V (k_X4_add hst hw) ww_1_89 ww_1_90 ww_1_91 ww_1_3 ww_1_92 hd_X4_add ⟨by decide, by decide⟩ rfl (by decide) hb rfl rfl (ga_cat rfl) dX0_begin_32 (Nat.zero_le _) (Nat.zero_le _) rfl (gaX_all hT V) (ga_kv (fun hp12 hw => ?_))
  exact g_vret V rfl dX0_begin_35 ⟨rfl, hw⟩
def w_X0_goOn_L60 (Q : Int → gaH → Prop) : Nat → (Nat → Int → Nat → Int → gaH → Prop)
  | 0 => fun _ _ _ _ _ => False
  | n + 1 => fun v0 v1 v2 v4 h => gR v4 ∧ gR v1 ∧ (if v1 ≤ v4 then gA h v0 2 2 (fun r1 => gA h v0 2 2 (fun r2 => gI h r2 4 1 (fun r3 => gHas h v2 4 ∧ w_X4_addPart v2 r1 0 r3 h (fun hp4 => gA hp4 v0 2 2 (fun r6 => gA hp4 v0 2 3 (fun r7 => gHas hp4 r6 4 ∧ w_X4_take r6 r7 hp4 (fun hp8 => gA hp8 v0 2 3 (fun r10 => gHas hp8 r10 4 ∧ w_X4_take r10 v2 hp8 (fun hp11 => gA hp11 v0 2 0 (fun r13 => gI hp11 v0 2 1 (fun r14 => gSI hp11 r13 102 r14 (gi v1) (fun hp15 => gI hp15 v0 2 1 (fun r16 => gPF hp15 v0 2 1 (gi (r16 + 1)) (fun hp17 => Q 1 hp17)))))))))))))) else gA h v0 2 3 (fun r18 => gA h v0 2 3 (fun r19 => gI h r19 4 1 (fun r20 => gHas h v2 4 ∧ w_X4_addPart v2 r18 0 r20 h (fun hp21 => w_X0_goOn_L60 Q n v0 v1 v2 (v4 + 1) hp21)))))
def w_X0_goOn_J24 (Q : Int → gaH → Prop) (v0 : Nat) (v1 : Int) (v2 : Nat) (t0 : Int) (h : gaH) : Prop := gR t0 ∧ (if t0 = 0 then Q 0 h else gA h v0 2 3 (fun r1 => gI h r1 4 1 (fun r2 => gA h v0 2 2 (fun r3 => gI h r3 4 1 (fun r4 => gR ((v1 * r2) + r4) ∧ (if ((v1 * r2) + r4) ≤ 64 then gHas h v2 4 ∧ w_X4_clear v2 h (fun hp5 => ∃ z, w_X0_goOn_L60 Q z v0 v1 v2 0 hp5) else Q 0 h))))))
def w_X0_goOn_J23 (Q : Int → gaH → Prop) (v0 : Nat) (v1 : Int) (v2 : Nat) (h : gaH) : Prop := w_X0_goOn_J24 Q v0 v1 v2 0 h
def w_X0_goOn (a0 : Nat) (a1 : Int) (a2 : Nat) (h : gaH) (Q : Int → gaH → Prop) : Prop := gI h a0 2 1 (fun r1 => gR r1 ∧ (if r1 < 0 then w_X0_goOn_J23 Q a0 a1 a2 h else gI h a0 2 1 (fun r2 => gA h a0 2 0 (fun r3 => gAL h r3 102 (fun r4 => gR r2 ∧ gR r4 ∧ (if r4 ≤ r2 then w_X0_goOn_J23 Q a0 a1 a2 h else w_X0_goOn_J24 Q a0 a1 a2 1 h))))))
abbrev rm_X0_goOn : Room := { frames := 2, cells := 0, slots := 0, locals := 45 }
theorem hd_X0_goOn : yX0_goOn.cls = RX0 ∧ (yX0_goOn.cls ≠ "java/lang/invoke/MethodHandle" ∧ yX0_goOn.cls ≠ "java/lang/invoke/VarHandle" ∧ (parseMethodDescriptor yX0_goOn.desc).map (fun d => d.parameters.length) = some 2) := by decide +kernel
theorem k_X0_goOn {l : Launch} (hst : l.stackTraces = false) {G : gaG} {X : String → gaH → Prop} {a0 : Nat} {a1 : Int} {a2 : Nat} {h : gaH} {Q : Int → gaH → Prop} (hw : w_X0_goOn a0 a1 a2 h Q) : gaC l G yX0_goOn (gaM yX0_goOn cX0_goOn 5 ((some .boolean))) rm_X0_goOn [.ref a0, gi a1, .ref a2] h (gQi Q) X := by
  refine g_start (lv := [some (.ref a0), some (gi a1), some (.ref a2), none, none]) hpl_RX0 hst (Nat.le_of_ble_eq_true rfl) (gaArgs_pad (z := 2) rfl) ww_3_216 ?_
  intro p e s m args below meth c V hT
  have h_X0_goOn_L60 : ∀ (n : Nat), ∀ (v0 : Nat) (v1 : Int) (v2 : Nat) (v4 : Int) (h : gaH), w_X0_goOn_L60 Q n v0 v1 v2 v4 h → gaP p l e rm_X0_goOn s m args below meth c G 5 (gaZ below G (gQi Q) X args s rm_X0_goOn) 60 [some (.ref v0), some (gi v1), some (.ref v2), none, some (gi v4)] [] h 0 0 := by
    intro n
    induction n with
    | zero =>
      intro v0 v1 v2 v4 h hw
      exact hw.elim
    | succ n ih =>
      intro v0 v1 v2 v4 h hw
      unfold w_X0_goOn_L60 at hw
      refine g_iload V dX0_goOn_60 rfl rfl ?_
      refine g_iload_n V dX0_goOn_62 rfl rfl ?_
      obtain ⟨hx0, hx1, hw⟩ := hw
      refine gi_icmp_ge V dX0_goOn_63 rfl rfl hx0 hx1 (fun q => ?_) (fun q => ?_)
      · have hw := ga_t q hw
        refine g_aload_n V dX0_goOn_88 rfl rfl ?_
        refine g_aload_n V dX0_goOn_89 rfl rfl ?_
        obtain ⟨fs, r1, ha, hv, hw⟩ := hw
        refine g_get (C := RX0) (T := TX0) (N := 4) V 2 rfl hin_RX0 (by decide) (by decide) ww_1_96 rfl ha hv dX0_goOn_90 rfl ?_
        refine g_iconst V (Int32.ofInt 0) dX0_goOn_93 rfl rfl ?_
        refine g_aload_n V dX0_goOn_94 rfl rfl ?_
        obtain ⟨fs, r2, ha, hv, hw⟩ := hw
        refine g_get (C := RX0) (T := TX0) (N := 4) V 2 rfl hin_RX0 (by decide) (by decide) ww_1_96 rfl ha hv dX0_goOn_95 rfl ?_
        obtain ⟨fs, r3, ha, hv, hw⟩ := hw
        refine g_getN (C := RX4) (T := TX4) (N := 2) (host := "Wordgarden") V 1 rfl hin_RX4 (by decide) (by decide) gn_6 rfl ha hv dX0_goOn_98 rfl ?_
        obtain ⟨hb, hw⟩ := hw
        obtain ⟨fb, hb⟩ := hb
        refine g_callV (C := RX4) (T := TX4) (N := 2) (st := []) V (k_X4_addPart hst hw) ww_3_217 ww_2_46 ww_2_47 ww_1_3 ww_2_48 hd_X4_addPart ⟨by decide, by decide⟩ rfl (by decide) hb rfl rfl (ga_cat rfl) dX0_goOn_101 (Nat.zero_le _) (Nat.zero_le _) rfl (gaX_all hT V) (ga_kv (fun hp4 hw => ?_))
        refine g_aload_n V dX0_goOn_104 rfl rfl ?_
        obtain ⟨fs, r6, ha, hv, hw⟩ := hw
        refine g_get (C := RX0) (T := TX0) (N := 4) V 2 rfl hin_RX0 (by decide) (by decide) ww_1_96 rfl ha hv dX0_goOn_105 rfl ?_
        refine g_aload_n V dX0_goOn_108 rfl rfl ?_
        obtain ⟨fs, r7, ha, hv, hw⟩ := hw
        refine g_get (C := RX0) (T := TX0) (N := 4) V 3 rfl hin_RX0 (by decide) (by decide) ww_1_98 rfl ha hv dX0_goOn_109 rfl ?_
        obtain ⟨hb, hw⟩ := hw
        obtain ⟨fb, hb⟩ := hb
        refine g_callV (C := RX4) (T := TX4) (N := 2) (st := []) V (k_X4_take hst hw) ww_2_49 ww_2_50 ww_2_51 ww_1_3 ww_2_52 hd_X4_take ⟨by decide, by decide⟩ rfl (by decide) hb rfl rfl (ga_cat rfl) dX0_goOn_112 (Nat.zero_le _) (Nat.zero_le _) rfl (gaX_all hT V) (ga_kv (fun hp8 hw => ?_))
        refine g_aload_n V dX0_goOn_115 rfl rfl ?_
        obtain ⟨fs, r10, ha, hv, hw⟩ := hw
        refine g_get (C := RX0) (T := TX0) (N := 4) V 3 rfl hin_RX0 (by decide) (by decide) ww_1_98 rfl ha hv dX0_goOn_116 rfl ?_
        refine g_aload_n V dX0_goOn_119 rfl rfl ?_
        obtain ⟨hb, hw⟩ := hw
        obtain ⟨fb, hb⟩ := hb
        refine g_callV (C := RX4) (T := TX4) (N := 2) (st := []) V (k_X4_take hst hw) ww_2_49 ww_2_50 ww_2_51 ww_1_3 ww_2_52 hd_X4_take ⟨by decide, by decide⟩ rfl (by decide) hb rfl rfl (ga_cat rfl) dX0_goOn_120 (Nat.zero_le _) (Nat.zero_le _) rfl (gaX_all hT V) (ga_kv (fun hp11 hw => ?_))
        refine g_aload_n V dX0_goOn_123 rfl rfl ?_
        obtain ⟨fs, r13, ha, hv, hw⟩ := hw
        refine g_get (C := RX0) (T := TX0) (N := 4) V 0 rfl hin_RX0 (by decide) (by decide) ww_1_93 rfl ha hv dX0_goOn_124 rfl ?_
        refine g_aload_n V dX0_goOn_127 rfl rfl ?_
        obtain ⟨fs, r14, ha, hv, hw⟩ := hw
        refine g_get (C := RX0) (T := TX0) (N := 4) V 1 rfl hin_RX0 (by decide) (by decide) ww_1_94 rfl ha hv dX0_goOn_128 rfl ?_
        refine g_iload_n V dX0_goOn_131 rfl rfl ?_
        obtain ⟨vs, ha, h0, h9, hi, hw⟩ := hw
        refine gi_iastore V ha h0 h9 hi dX0_goOn_132 rfl ?_
        generalize gaUp hp11 r13 _ = hp15 at hw ⊢
        refine g_aload_n V dX0_goOn_133 rfl rfl ?_
        refine g_dup V dX0_goOn_134 rfl rfl ?_
        obtain ⟨fs, r16, ha, hv, hw⟩ := hw
        refine g_get (C := RX0) (T := TX0) (N := 4) V 1 rfl hin_RX0 (by decide) (by decide) ww_1_94 rfl ha hv dX0_goOn_135 rfl ?_
        refine g_iconst V (Int32.ofInt 1) dX0_goOn_138 rfl rfl ?_
        refine gi_iadd V dX0_goOn_139 rfl ?_
        obtain ⟨fs, ha, hl, hw⟩ := hw
        refine g_put (C := RX0) (T := TX0) (N := 4) V 1 tyX0 tyX0_ok nmX0 rfl hin_RX0 (by decide) (by decide) ww_1_94 rfl rfl rfl rfl ha hl dX0_goOn_140 rfl ?_
        generalize gaUp hp15 v0 _ = hp17 at hw ⊢
        refine g_iconst V (Int32.ofInt 1) dX0_goOn_143 rfl rfl ?_
        exact g_iret V rfl rfl dX0_goOn_144 ⟨_, rfl, hw⟩
      · have hw := ga_f q hw
        refine g_aload_n V dX0_goOn_66 rfl rfl ?_
        refine g_aload_n V dX0_goOn_67 rfl rfl ?_
        obtain ⟨fs, r18, ha, hv, hw⟩ := hw
        refine g_get (C := RX0) (T := TX0) (N := 4) V 3 rfl hin_RX0 (by decide) (by decide) ww_1_98 rfl ha hv dX0_goOn_68 rfl ?_
        refine g_iconst V (Int32.ofInt 0) dX0_goOn_71 rfl rfl ?_
        refine g_aload_n V dX0_goOn_72 rfl rfl ?_
        obtain ⟨fs, r19, ha, hv, hw⟩ := hw
        refine g_get (C := RX0) (T := TX0) (N := 4) V 3 rfl hin_RX0 (by decide) (by decide) ww_1_98 rfl ha hv dX0_goOn_73 rfl ?_
        obtain ⟨fs, r20, ha, hv, hw⟩ := hw
        refine g_getN (C := RX4) (T := TX4) (N := 2) (host := "Wordgarden") V 1 rfl hin_RX4 (by decide) (by decide) gn_6 rfl ha hv dX0_goOn_76 rfl ?_
        obtain ⟨hb, hw⟩ := hw
        obtain ⟨fb, hb⟩ := hb
        refine g_callV (C := RX4) (T := TX4) (N := 2) (st := []) V (k_X4_addPart hst hw) ww_3_217 ww_2_46 ww_2_47 ww_1_3 ww_2_48 hd_X4_addPart ⟨by decide, by decide⟩ rfl (by decide) hb rfl rfl (ga_cat rfl) dX0_goOn_79 (Nat.zero_le _) (Nat.zero_le _) rfl (gaX_all hT V) (ga_kv (fun hp21 hw => ?_))
        refine gi_iinc (lv2 := [some (.ref v0), some (gi v1), some (.ref v2), none, some (gi (v4 + 1))]) V dX0_goOn_82 (by decide) rfl rfl rfl rfl ?_
        refine g_goto V dX0_goOn_85 rfl ?_
        exact ih v0 v1 v2 (v4 + 1) hp21 hw
  have h_X0_goOn_J24 : ∀ (v0 : Nat) (v1 : Int) (v2 : Nat) (t0 : Int) (h : gaH), w_X0_goOn_J24 Q v0 v1 v2 t0 h → gaP p l e rm_X0_goOn s m args below meth c G 5 (gaZ below G (gQi Q) X args s rm_X0_goOn) 24 [some (.ref v0), some (gi v1), some (.ref v2), none, none] [gi t0] h 0 0 := by
    intro v0 v1 v2 t0 h hw
    unfold w_X0_goOn_J24 at hw
    refine g_istore_n (lv2 := [some (.ref v0), some (gi v1), some (.ref v2), some (gi t0), none]) V dX0_goOn_24 (by decide) rfl rfl rfl ?_
    refine g_iload_n V dX0_goOn_25 rfl rfl ?_
    obtain ⟨hx0, hw⟩ := hw
    refine gi_if_eq V dX0_goOn_26 rfl rfl hx0 (fun q => ?_) (fun q => ?_)
    · have hw := ga_t q hw
      refine g_iconst V (Int32.ofInt 0) dX0_goOn_51 rfl rfl ?_
      exact g_iret V rfl rfl dX0_goOn_52 ⟨_, rfl, hw⟩
    · have hw := ga_f q hw
      refine g_iload_n V dX0_goOn_29 rfl rfl ?_
      refine g_aload_n V dX0_goOn_30 rfl rfl ?_
      obtain ⟨fs, r1, ha, hv, hw⟩ := hw
      refine g_get (C := RX0) (T := TX0) (N := 4) V 3 rfl hin_RX0 (by decide) (by decide) ww_1_98 rfl ha hv dX0_goOn_31 rfl ?_
      obtain ⟨fs, r2, ha, hv, hw⟩ := hw
      refine g_getN (C := RX4) (T := TX4) (N := 2) (host := "Wordgarden") V 1 rfl hin_RX4 (by decide) (by decide) gn_6 rfl ha hv dX0_goOn_34 rfl ?_
      refine gi_imul V dX0_goOn_37 rfl ?_
      refine g_aload_n V dX0_goOn_38 rfl rfl ?_
      obtain ⟨fs, r3, ha, hv, hw⟩ := hw
      refine g_get (C := RX0) (T := TX0) (N := 4) V 2 rfl hin_RX0 (by decide) (by decide) ww_1_96 rfl ha hv dX0_goOn_39 rfl ?_
      obtain ⟨fs, r4, ha, hv, hw⟩ := hw
      refine g_getN (C := RX4) (T := TX4) (N := 2) (host := "Wordgarden") V 1 rfl hin_RX4 (by decide) (by decide) gn_6 rfl ha hv dX0_goOn_42 rfl ?_
      refine gi_iadd V dX0_goOn_45 rfl ?_
      refine g_bipush V (Int32.ofInt 64) dX0_goOn_46 rfl rfl ?_
      obtain ⟨hx0, hw⟩ := hw
      refine gi_icmp_le V dX0_goOn_48 rfl rfl hx0 (by decide) (fun q => ?_) (fun q => ?_)
      · have hw := ga_t q hw
        refine g_aload_n V dX0_goOn_53 rfl rfl ?_
        obtain ⟨hb, hw⟩ := hw
        obtain ⟨fb, hb⟩ := hb
        refine g_callV (C := RX4) (T := TX4) (N := 2) (st := []) V (k_X4_clear hst hw) ww_1_85 ww_1_86 ww_1_87 ww_1_3 ww_1_88 hd_X4_clear ⟨by decide, by decide⟩ rfl (by decide) hb rfl rfl (ga_cat rfl) dX0_goOn_54 (Nat.zero_le _) (Nat.zero_le _) rfl (gaX_all hT V) (ga_kv (fun hp5 hw => ?_))
        refine g_iconst V (Int32.ofInt 0) dX0_goOn_57 rfl rfl ?_
        refine g_istore (lv2 := [some (.ref v0), some (gi v1), some (.ref v2), some (gi t0), some (gi 0)]) V dX0_goOn_58 (by decide) rfl rfl rfl ?_
        refine g_less (bs := [true, true, true, false, true]) (lv2 := [some (.ref v0), some (gi v1), some (.ref v2), none, some (gi 0)]) rfl ?_
        obtain ⟨z, hw⟩ := hw
        exact h_X0_goOn_L60 z v0 v1 v2 0 hp5 hw
      · have hw := ga_f q hw
        refine g_iconst V (Int32.ofInt 0) dX0_goOn_51 rfl rfl ?_
        exact g_iret V rfl rfl dX0_goOn_52 ⟨_, rfl, hw⟩
  have h_X0_goOn_J23 : ∀ (v0 : Nat) (v1 : Int) (v2 : Nat) (h : gaH), w_X0_goOn_J23 Q v0 v1 v2 h → gaP p l e rm_X0_goOn s m args below meth c G 5 (gaZ below G (gQi Q) X args s rm_X0_goOn) 23 [some (.ref v0), some (gi v1), some (.ref v2), none, none] [] h 0 0 := by
    intro v0 v1 v2 h hw
    unfold w_X0_goOn_J23 at hw
    refine g_iconst V (Int32.ofInt 0) dX0_goOn_23 rfl rfl ?_
    exact h_X0_goOn_J24 v0 v1 v2 0 h hw
  unfold w_X0_goOn at hw
  refine g_aload_n V dX0_goOn_0 rfl rfl ?_
  obtain ⟨fs, r1, ha, hv, hw⟩ := hw
  refine g_get (C := RX0) (T := TX0) (N := 4) V 1 rfl hin_RX0 (by decide) (by decide) ww_1_94 rfl ha hv dX0_goOn_1 rfl ?_
  obtain ⟨hx0, hw⟩ := hw
  refine gi_if_lt V dX0_goOn_4 rfl rfl hx0 (fun q => ?_) (fun q => ?_)
  · have hw := ga_t q hw
    exact h_X0_goOn_J23 a0 a1 a2 h hw
  · have hw := ga_f q hw
    refine g_aload_n V dX0_goOn_7 rfl rfl ?_
    obtain ⟨fs, r2, ha, hv, hw⟩ := hw
    refine g_get (C := RX0) (T := TX0) (N := 4) V 1 rfl hin_RX0 (by decide) (by decide) ww_1_94 rfl ha hv dX0_goOn_8 rfl ?_
    refine g_aload_n V dX0_goOn_11 rfl rfl ?_
    obtain ⟨fs, r3, ha, hv, hw⟩ := hw
    refine g_get (C := RX0) (T := TX0) (N := 4) V 0 rfl hin_RX0 (by decide) (by decide) ww_1_93 rfl ha hv dX0_goOn_12 rfl ?_
    obtain ⟨t9, vs, ha, ht, hw⟩ := hw
    refine gi_arraylength (t0 := 102) V (by simp [gaT]) ha ht dX0_goOn_15 rfl ?_
    generalize (vs.length : Int) = r4 at hw ⊢
    obtain ⟨hx0, hx1, hw⟩ := hw
    refine gi_icmp_ge V dX0_goOn_16 rfl rfl hx0 hx1 (fun q => ?_) (fun q => ?_)
    · have hw := ga_t q hw
      exact h_X0_goOn_J23 a0 a1 a2 h hw
    · have hw := ga_f q hw
      refine g_iconst V (Int32.ofInt 1) dX0_goOn_19 rfl rfl ?_
      refine g_goto V dX0_goOn_20 rfl ?_
      exact h_X0_goOn_J24 a0 a1 a2 1 h hw
def w_X4_init (a0 : Nat) (h : gaH) (Q : gaH → Prop) : Prop := gNA h 100 (gi 0) 64 1 64 (fun o1 hp2 c3 s4 => gPF hp2 a0 4 0 (.ref o1) (fun hp5 => Q hp5))
abbrev rm_X4_init : Room := { frames := 2, cells := 1, slots := 64, locals := 60 }
theorem hd_X4_init : (yX4_init.cls ≠ "java/lang/invoke/MethodHandle" ∧ yX4_init.cls ≠ "java/lang/invoke/VarHandle" ∧ (parseMethodDescriptor yX4_init.desc).map (fun d => d.parameters.length) = some 0) := by decide +kernel
theorem k_X4_init {l : Launch} (hst : l.stackTraces = false) {G : gaG} {X : String → gaH → Prop} {a0 : Nat} {h : gaH} {Q : gaH → Prop} (hw : w_X4_init a0 h Q) : gaC l G yX4_init (gaM yX4_init cX4_init 1 ((none : Option Jvm.ClassFile.FieldType))) rm_X4_init [.ref a0] h (gQv Q) X := by
  refine g_start (lv := [some (.ref a0)]) hpl_RX4 hst (Nat.le_of_ble_eq_true rfl) (gaArgs_pad (z := 0) rfl) ww_1_48 ?_
  intro p e s m args below meth c V hT
  show gaP p l e rm_X4_init s m args below meth c G 1 (gaZ below G (gQv Q) X args s rm_X4_init) 0 [some (.ref a0)] [] h 1 64
  unfold w_X4_init at hw
  refine g_aload_n V dX4_init_0 rfl rfl ?_
  refine g_objInit V ww_1_49 ww_1_32 ww_1_33 dX4_init_1 (by decide) (by decide) (ga_cat rfl) rfl ?_
  refine g_aload_n V dX4_init_4 rfl rfl ?_
  refine g_bipush V (Int32.ofInt 64) dX4_init_5 rfl rfl ?_
  obtain ⟨h0, h9, hk, hj, hw⟩ := hw
  refine gi_newarray (atype := .boolean) (t := 100) V (by decide) rfl ww_1_62 h0 h9 dX4_init_7 rfl hk hj (fun o1 hf => ?_)
  obtain ⟨c3, s4, ec, es, hw⟩ := hw o1 hf
  refine ga_re ec es ?_
  generalize gaUp h o1 _ = hp2 at hw ⊢
  obtain ⟨fs, ha, hl, hw⟩ := hw
  refine g_putF (C := RX4) (T := TX4) (N := 2) V 0 tyX4 tyX4_ok nmX4 rfl hin_RX4 (by decide) (by decide) ww_1_50 rfl rfl rfl rfl rfl rfl ha hl dX4_init_9 rfl ?_
  generalize gaUp hp2 a0 _ = hp5 at hw ⊢
  exact g_vret V rfl dX4_init_12 ⟨rfl, hw⟩
def w_X2_init (a0 : Nat) (h : gaH) (Q : gaH → Prop) : Prop := gNO h 4 2 ([.null, gi 0]) 5 197 (fun o1 hp2 c3 s4 => gCall 1 64 c3 s4 (fun c7 s8 => w_X4_init o1 hp2 (fun hp5 => gPF hp5 a0 3 0 (.ref o1) (fun hp9 => gNO hp9 4 2 ([.null, gi 0]) c7 s8 (fun o10 hp11 c12 s13 => gCall 1 64 c12 s13 (fun c16 s17 => w_X4_init o10 hp11 (fun hp14 => gPF hp14 a0 3 1 (.ref o10) (fun hp18 => gNA hp18 100 (gi 0) 65 c16 s17 (fun o19 hp20 c21 s22 => gPF hp20 a0 3 2 (.ref o19) (fun hp23 => Q hp23))))))))))
abbrev rm_X2_init : Room := { frames := 3, cells := 5, slots := 197, locals := 80 }
theorem hd_X2_init : (yX2_init.cls ≠ "java/lang/invoke/MethodHandle" ∧ yX2_init.cls ≠ "java/lang/invoke/VarHandle" ∧ (parseMethodDescriptor yX2_init.desc).map (fun d => d.parameters.length) = some 0) := by decide +kernel
theorem k_X2_init {l : Launch} (hst : l.stackTraces = false) {G : gaG} {X : String → gaH → Prop} {a0 : Nat} {h : gaH} {Q : gaH → Prop} (hw : w_X2_init a0 h Q) : gaC l G yX2_init (gaM yX2_init cX2_init 1 ((none : Option Jvm.ClassFile.FieldType))) rm_X2_init [.ref a0] h (gQv Q) X := by
  refine g_start (lv := [some (.ref a0)]) hpl_RX2 hst (Nat.le_of_ble_eq_true rfl) (gaArgs_pad (z := 0) rfl) ww_1_42 ?_
  intro p e s m args below meth c V hT
  show gaP p l e rm_X2_init s m args below meth c G 1 (gaZ below G (gQv Q) X args s rm_X2_init) 0 [some (.ref a0)] [] h 5 197
  unfold w_X2_init at hw
  refine g_aload_n V dX2_init_0 rfl rfl ?_
  refine g_objInit V ww_1_43 ww_1_32 ww_1_33 dX2_init_1 (by decide) (by decide) (ga_cat rfl) rfl ?_
  refine g_aload_n V dX2_init_4 rfl rfl ?_
  obtain ⟨hk, hj, hw⟩ := hw
  refine g_new (ci := 4) (C := RX4) (T := TX4) (N := 2) (fs := [.null, gi 0]) V tyX4 tyX4_ok rfl hin_RX4 (by decide) ww_1_44 ww_1_45 ww_1_3 hdf_RX4 dX2_init_5 rfl hk hj (fun o1 hf => ?_)
  obtain ⟨c3, s4, ec, es, hw⟩ := hw o1 hf
  refine ga_re ec es ?_
  generalize gaUp h o1 _ = hp2 at hw ⊢
  refine g_dup V dX2_init_8 rfl rfl ?_
  obtain ⟨hk, hj, c7, s8, ec, es, hw⟩ := hw
  refine g_callIN (host := "Wordgarden") (st := [.ref o1, .ref a0]) V (k_X4_init hst hw) gn_1 ww_1_47 ww_1_3 ww_1_48 rfl hd_X4_init ⟨by decide, by decide⟩ rfl rfl (ga_cat rfl) dX2_init_9 hk hj rfl (gaX_all hT V) (ga_kv (fun hp5 hw => ?_))
  refine ga_re ec es ?_
  obtain ⟨fs, ha, hl, hw⟩ := hw
  refine g_putF (C := RX2) (T := TX2) (N := 3) V 0 tyX2 tyX2_ok nmX2 rfl hin_RX2 (by decide) (by decide) ww_1_63 rfl rfl rfl rfl rfl rfl ha hl dX2_init_12 rfl ?_
  generalize gaUp hp5 a0 _ = hp9 at hw ⊢
  refine g_aload_n V dX2_init_15 rfl rfl ?_
  obtain ⟨hk, hj, hw⟩ := hw
  refine g_new (ci := 4) (C := RX4) (T := TX4) (N := 2) (fs := [.null, gi 0]) V tyX4 tyX4_ok rfl hin_RX4 (by decide) ww_1_44 ww_1_45 ww_1_3 hdf_RX4 dX2_init_16 rfl hk hj (fun o10 hf => ?_)
  obtain ⟨c12, s13, ec, es, hw⟩ := hw o10 hf
  refine ga_re ec es ?_
  generalize gaUp hp9 o10 _ = hp11 at hw ⊢
  refine g_dup V dX2_init_19 rfl rfl ?_
  obtain ⟨hk, hj, c16, s17, ec, es, hw⟩ := hw
  refine g_callIN (host := "Wordgarden") (st := [.ref o10, .ref a0]) V (k_X4_init hst hw) gn_1 ww_1_47 ww_1_3 ww_1_48 rfl hd_X4_init ⟨by decide, by decide⟩ rfl rfl (ga_cat rfl) dX2_init_20 hk hj rfl (gaX_all hT V) (ga_kv (fun hp14 hw => ?_))
  refine ga_re ec es ?_
  obtain ⟨fs, ha, hl, hw⟩ := hw
  refine g_putF (C := RX2) (T := TX2) (N := 3) V 1 tyX2 tyX2_ok nmX2 rfl hin_RX2 (by decide) (by decide) ww_1_64 rfl rfl rfl rfl rfl rfl ha hl dX2_init_23 rfl ?_
  generalize gaUp hp14 a0 _ = hp18 at hw ⊢
  refine g_aload_n V dX2_init_26 rfl rfl ?_
  refine g_bipush V (Int32.ofInt 65) dX2_init_27 rfl rfl ?_
  obtain ⟨h0, h9, hk, hj, hw⟩ := hw
  refine gi_newarray (atype := .boolean) (t := 100) V (by decide) rfl ww_1_62 h0 h9 dX2_init_29 rfl hk hj (fun o19 hf => ?_)
  obtain ⟨c21, s22, ec, es, hw⟩ := hw o19 hf
  refine ga_re ec es ?_
  generalize gaUp hp18 o19 _ = hp20 at hw ⊢
  obtain ⟨fs, ha, hl, hw⟩ := hw
  refine g_putF (C := RX2) (T := TX2) (N := 3) V 2 tyX2 tyX2_ok nmX2 rfl hin_RX2 (by decide) (by decide) ww_1_65 rfl rfl rfl rfl rfl rfl ha hl dX2_init_31 rfl ?_
  generalize gaUp hp20 a0 _ = hp23 at hw ⊢
  exact g_vret V rfl dX2_init_34 ⟨rfl, hw⟩
def w_X0_init (a0 : Nat) (h : gaH) (Q : gaH → Prop) : Prop := gNA h 102 (gi 0) 64 5 196 (fun o1 hp2 c3 s4 => gPF hp2 a0 2 0 (.ref o1) (fun hp5 => gNO hp5 4 2 ([.null, gi 0]) c3 s4 (fun o6 hp7 c8 s9 => gCall 1 64 c8 s9 (fun c12 s13 => w_X4_init o6 hp7 (fun hp10 => gPF hp10 a0 2 2 (.ref o6) (fun hp14 => gNO hp14 4 2 ([.null, gi 0]) c12 s13 (fun o15 hp16 c17 s18 => gCall 1 64 c17 s18 (fun c21 s22 => w_X4_init o15 hp16 (fun hp19 => gPF hp19 a0 2 3 (.ref o15) (fun hp23 => gHas hp23 a0 2 ∧ w_X0_begin a0 hp23 (fun hp24 => Q hp24)))))))))))
abbrev rm_X0_init : Room := { frames := 3, cells := 5, slots := 196, locals := 80 }
theorem hd_X0_init : (yX0_init.cls ≠ "java/lang/invoke/MethodHandle" ∧ yX0_init.cls ≠ "java/lang/invoke/VarHandle" ∧ (parseMethodDescriptor yX0_init.desc).map (fun d => d.parameters.length) = some 0) := by decide +kernel
theorem k_X0_init {l : Launch} (hst : l.stackTraces = false) {G : gaG} {X : String → gaH → Prop} {a0 : Nat} {h : gaH} {Q : gaH → Prop} (hw : w_X0_init a0 h Q) : gaC l G yX0_init (gaM yX0_init cX0_init 1 ((none : Option Jvm.ClassFile.FieldType))) rm_X0_init [.ref a0] h (gQv Q) X := by
  refine g_start (lv := [some (.ref a0)]) hpl_RX0 hst (Nat.le_of_ble_eq_true rfl) (gaArgs_pad (z := 0) rfl) ww_1_77 ?_
  intro p e s m args below meth c V hT
  show gaP p l e rm_X0_init s m args below meth c G 1 (gaZ below G (gQv Q) X args s rm_X0_init) 0 [some (.ref a0)] [] h 5 196
  unfold w_X0_init at hw
  refine g_aload_n V dX0_init_0 rfl rfl ?_
  refine g_objInit V ww_1_78 ww_1_32 ww_1_33 dX0_init_1 (by decide) (by decide) (ga_cat rfl) rfl ?_
  refine g_aload_n V dX0_init_4 rfl rfl ?_
  refine g_bipush V (Int32.ofInt 64) dX0_init_5 rfl rfl ?_
  obtain ⟨h0, h9, hk, hj, hw⟩ := hw
  refine gi_newarray (atype := .int) (t := 102) V (by decide) rfl ww_1_109 h0 h9 dX0_init_7 rfl hk hj (fun o1 hf => ?_)
  obtain ⟨c3, s4, ec, es, hw⟩ := hw o1 hf
  refine ga_re ec es ?_
  generalize gaUp h o1 _ = hp2 at hw ⊢
  obtain ⟨fs, ha, hl, hw⟩ := hw
  refine g_putF (C := RX0) (T := TX0) (N := 4) V 0 tyX0 tyX0_ok nmX0 rfl hin_RX0 (by decide) (by decide) ww_1_93 rfl rfl rfl rfl rfl rfl ha hl dX0_init_9 rfl ?_
  generalize gaUp hp2 a0 _ = hp5 at hw ⊢
  refine g_aload_n V dX0_init_12 rfl rfl ?_
  obtain ⟨hk, hj, hw⟩ := hw
  refine g_new (ci := 4) (C := RX4) (T := TX4) (N := 2) (fs := [.null, gi 0]) V tyX4 tyX4_ok rfl hin_RX4 (by decide) ww_1_79 ww_1_45 ww_1_3 hdf_RX4 dX0_init_13 rfl hk hj (fun o6 hf => ?_)
  obtain ⟨c8, s9, ec, es, hw⟩ := hw o6 hf
  refine ga_re ec es ?_
  generalize gaUp hp5 o6 _ = hp7 at hw ⊢
  refine g_dup V dX0_init_16 rfl rfl ?_
  obtain ⟨hk, hj, c12, s13, ec, es, hw⟩ := hw
  refine g_callIN (host := "Wordgarden") (st := [.ref o6, .ref a0]) V (k_X4_init hst hw) gn_8 ww_1_47 ww_1_3 ww_1_48 rfl hd_X4_init ⟨by decide, by decide⟩ rfl rfl (ga_cat rfl) dX0_init_17 hk hj rfl (gaX_all hT V) (ga_kv (fun hp10 hw => ?_))
  refine ga_re ec es ?_
  obtain ⟨fs, ha, hl, hw⟩ := hw
  refine g_putF (C := RX0) (T := TX0) (N := 4) V 2 tyX0 tyX0_ok nmX0 rfl hin_RX0 (by decide) (by decide) ww_1_96 rfl rfl rfl rfl rfl rfl ha hl dX0_init_20 rfl ?_
  generalize gaUp hp10 a0 _ = hp14 at hw ⊢
  refine g_aload_n V dX0_init_23 rfl rfl ?_
  obtain ⟨hk, hj, hw⟩ := hw
  refine g_new (ci := 4) (C := RX4) (T := TX4) (N := 2) (fs := [.null, gi 0]) V tyX4 tyX4_ok rfl hin_RX4 (by decide) ww_1_79 ww_1_45 ww_1_3 hdf_RX4 dX0_init_24 rfl hk hj (fun o15 hf => ?_)
  obtain ⟨c17, s18, ec, es, hw⟩ := hw o15 hf
  refine ga_re ec es ?_
  generalize gaUp hp14 o15 _ = hp16 at hw ⊢
  refine g_dup V dX0_init_27 rfl rfl ?_
  obtain ⟨hk, hj, c21, s22, ec, es, hw⟩ := hw
  refine g_callIN (host := "Wordgarden") (st := [.ref o15, .ref a0]) V (k_X4_init hst hw) gn_8 ww_1_47 ww_1_3 ww_1_48 rfl hd_X4_init ⟨by decide, by decide⟩ rfl rfl (ga_cat rfl) dX0_init_28 hk hj rfl (gaX_all hT V) (ga_kv (fun hp19 hw => ?_))
  refine ga_re ec es ?_
  obtain ⟨fs, ha, hl, hw⟩ := hw
  refine g_putF (C := RX0) (T := TX0) (N := 4) V 3 tyX0 tyX0_ok nmX0 rfl hin_RX0 (by decide) (by decide) ww_1_98 rfl rfl rfl rfl rfl rfl ha hl dX0_init_31 rfl ?_
  generalize gaUp hp19 a0 _ = hp23 at hw ⊢
  refine g_aload_n V dX0_init_34 rfl rfl ?_
  obtain ⟨hb, hw⟩ := hw
  obtain ⟨fb, hb⟩ := hb
  refine g_callV (C := RX0) (T := TX0) (N := 4) (st := []) V (k_X0_begin hst hw) ww_1_81 ww_1_82 ww_1_83 ww_1_4 ww_1_84 hd_X0_begin ⟨by decide, by decide⟩ rfl (by decide) hb rfl rfl (ga_cat rfl) dX0_init_35 (Nat.zero_le _) (Nat.zero_le _) rfl (gaX_all hT V) (ga_kv (fun hp24 hw => ?_))
  exact g_vret V rfl dX0_init_38 ⟨rfl, hw⟩
def w_X2_keepsApart (a0 : Nat) (h : gaH) (Q : Int → gaH → Prop) : Prop := gA h a0 3 0 (fun r1 => gA h a0 3 1 (fun r2 => w_X1_firstUnlikeJoined r1 r2 h (fun r4 hp3 => gR r4 ∧ (if r4 = (-1) then Q 0 hp3 else Q 1 hp3))))
abbrev rm_X2_keepsApart : Room := { frames := 3, cells := 0, slots := 0, locals := 65 }
theorem hd_X2_keepsApart : yX2_keepsApart.cls = RX2 ∧ (yX2_keepsApart.cls ≠ "java/lang/invoke/MethodHandle" ∧ yX2_keepsApart.cls ≠ "java/lang/invoke/VarHandle" ∧ (parseMethodDescriptor yX2_keepsApart.desc).map (fun d => d.parameters.length) = some 0) := by decide +kernel
theorem k_X2_keepsApart {l : Launch} (hst : l.stackTraces = false) {G : gaG} {X : String → gaH → Prop} {a0 : Nat} {h : gaH} {Q : Int → gaH → Prop} (hw : w_X2_keepsApart a0 h Q) : gaC l G yX2_keepsApart (gaM yX2_keepsApart cX2_keepsApart 1 ((some .boolean))) rm_X2_keepsApart [.ref a0] h (gQi Q) X := by
  refine g_start (lv := [some (.ref a0)]) hpl_RX2 hst (Nat.le_of_ble_eq_true rfl) (gaArgs_pad (z := 0) rfl) ww_3_122 ?_
  intro p e s m args below meth c V hT
  unfold w_X2_keepsApart at hw
  refine g_aload_n V dX2_keepsApart_0 rfl rfl ?_
  obtain ⟨fs, r1, ha, hv, hw⟩ := hw
  refine g_get (C := RX2) (T := TX2) (N := 3) V 0 rfl hin_RX2 (by decide) (by decide) ww_1_63 rfl ha hv dX2_keepsApart_1 rfl ?_
  refine g_aload_n V dX2_keepsApart_4 rfl rfl ?_
  obtain ⟨fs, r2, ha, hv, hw⟩ := hw
  refine g_get (C := RX2) (T := TX2) (N := 3) V 1 rfl hin_RX2 (by decide) (by decide) ww_1_64 rfl ha hv dX2_keepsApart_5 rfl ?_
  refine g_callS (st := []) V (k_X1_firstUnlikeJoined hst hw) ww_3_123 ww_2_77 ww_1_12 ww_2_78 hd_X1_firstUnlikeJoined ⟨by decide, by decide⟩ rfl rfl (ga_cat rfl) dX2_keepsApart_8 (Nat.zero_le _) (Nat.zero_le _) rfl (gaX_all hT V) (ga_ki (fun r4 hp3 hw => ?_))
  refine g_iconst V (Int32.ofInt (-1)) dX2_keepsApart_11 rfl rfl ?_
  obtain ⟨hx0, hw⟩ := hw
  refine gi_icmp_eq V dX2_keepsApart_12 rfl rfl hx0 (by decide) (fun q => ?_) (fun q => ?_)
  · have hw := ga_t q hw
    refine g_iconst V (Int32.ofInt 0) dX2_keepsApart_19 rfl rfl ?_
    exact g_iret V rfl rfl dX2_keepsApart_20 ⟨_, rfl, hw⟩
  · have hw := ga_f q hw
    refine g_iconst V (Int32.ofInt 1) dX2_keepsApart_15 rfl rfl ?_
    refine g_goto V dX2_keepsApart_16 rfl ?_
    exact g_iret V rfl rfl dX2_keepsApart_20 ⟨_, rfl, hw⟩
def w_X1_beginnings (a0 : Nat) (a1 : Int) (a2 : Int) (h : gaH) (Q : Int → gaH → Prop) : Prop := gR a2 ∧ (if a2 = 0 then gI h a0 4 1 (fun r1 => Q ((r1 - a1) + 1) h) else gI h a0 4 1 (fun r2 => gR r2 ∧ (Q (max r2 1) h)))
abbrev rm_X1_beginnings : Room := { frames := 2, cells := 0, slots := 0, locals := 60 }
theorem hd_X1_beginnings : (yX1_beginnings.cls ≠ "java/lang/invoke/MethodHandle" ∧ yX1_beginnings.cls ≠ "java/lang/invoke/VarHandle" ∧ (parseMethodDescriptor yX1_beginnings.desc).map (fun d => d.parameters.length) = some 3) := by decide +kernel
theorem k_X1_beginnings {l : Launch} (hst : l.stackTraces = false) {G : gaG} {X : String → gaH → Prop} {a0 : Nat} {a1 : Int} {a2 : Int} {h : gaH} {Q : Int → gaH → Prop} (hw : w_X1_beginnings a0 a1 a2 h Q) : gaC l G yX1_beginnings (gaM yX1_beginnings cX1_beginnings 3 ((some .int))) rm_X1_beginnings [.ref a0, gi a1, gi a2] h (gQi Q) X := by
  refine g_start (lv := [some (.ref a0), some (gi a1), some (gi a2)]) hpl_RX1 hst (Nat.le_of_ble_eq_true rfl) (gaArgs_pad (z := 0) rfl) ww_5_87 ?_
  intro p e s m args below meth c V hT
  unfold w_X1_beginnings at hw
  refine g_iload_n V dX1_beginnings_0 rfl rfl ?_
  obtain ⟨hx0, hw⟩ := hw
  refine gi_if_eq V dX1_beginnings_1 rfl rfl hx0 (fun q => ?_) (fun q => ?_)
  · have hw := ga_t q hw
    refine g_aload_n V dX1_beginnings_15 rfl rfl ?_
    obtain ⟨fs, r1, ha, hv, hw⟩ := hw
    refine g_getN (C := RX4) (T := TX4) (N := 2) (host := "Wordgarden") V 1 rfl hin_RX4 (by decide) (by decide) gn_2 rfl ha hv dX1_beginnings_16 rfl ?_
    refine g_iload_n V dX1_beginnings_19 rfl rfl ?_
    refine gi_isub V dX1_beginnings_20 rfl ?_
    refine g_iconst V (Int32.ofInt 1) dX1_beginnings_21 rfl rfl ?_
    refine gi_iadd V dX1_beginnings_22 rfl ?_
    exact g_iret V rfl rfl dX1_beginnings_23 ⟨_, rfl, hw⟩
  · have hw := ga_f q hw
    refine g_aload_n V dX1_beginnings_4 rfl rfl ?_
    obtain ⟨fs, r2, ha, hv, hw⟩ := hw
    refine g_getN (C := RX4) (T := TX4) (N := 2) (host := "Wordgarden") V 1 rfl hin_RX4 (by decide) (by decide) gn_2 rfl ha hv dX1_beginnings_5 rfl ?_
    refine g_iconst V (Int32.ofInt 1) dX1_beginnings_8 rfl rfl ?_
    obtain ⟨hx0, hw⟩ := hw
    refine gi_mmax V ww_2_117 ww_2_118 ww_1_13 ww_2_119 (by decide) (by decide) (ga_cat rfl) hx0 (by decide) dX1_beginnings_9 rfl ?_
    refine g_goto V dX1_beginnings_12 rfl ?_
    exact g_iret V rfl rfl dX1_beginnings_23 ⟨_, rfl, hw⟩
def w_X1_isReadEarlier_L2 (Q : Int → gaH → Prop) : Nat → (Nat → Int → Int → Int → gaH → Prop)
  | 0 => fun _ _ _ _ _ => False
  | n + 1 => fun v0 v1 v2 v3 h => gR v3 ∧ gR v1 ∧ (if v1 ≤ v3 then Q 0 h else w_X1_ringOrder v0 v3 v1 v2 h (fun r2 hp1 => gR r2 ∧ (if r2 = 0 then Q 1 hp1 else w_X1_isReadEarlier_L2 Q n v0 v1 v2 (v3 + 1) hp1)))
def w_X1_isReadEarlier (a0 : Nat) (a1 : Int) (a2 : Int) (h : gaH) (Q : Int → gaH → Prop) : Prop := ∃ z, w_X1_isReadEarlier_L2 Q z a0 a1 a2 0 h
abbrev rm_X1_isReadEarlier : Room := { frames := 3, cells := 0, slots := 0, locals := 67 }
theorem hd_X1_isReadEarlier : (yX1_isReadEarlier.cls ≠ "java/lang/invoke/MethodHandle" ∧ yX1_isReadEarlier.cls ≠ "java/lang/invoke/VarHandle" ∧ (parseMethodDescriptor yX1_isReadEarlier.desc).map (fun d => d.parameters.length) = some 3) := by decide +kernel
theorem k_X1_isReadEarlier {l : Launch} (hst : l.stackTraces = false) {G : gaG} {X : String → gaH → Prop} {a0 : Nat} {a1 : Int} {a2 : Int} {h : gaH} {Q : Int → gaH → Prop} (hw : w_X1_isReadEarlier a0 a1 a2 h Q) : gaC l G yX1_isReadEarlier (gaM yX1_isReadEarlier cX1_isReadEarlier 4 ((some .boolean))) rm_X1_isReadEarlier [.ref a0, gi a1, gi a2] h (gQi Q) X := by
  refine g_start (lv := [some (.ref a0), some (gi a1), some (gi a2), none]) hpl_RX1 hst (Nat.le_of_ble_eq_true rfl) (gaArgs_pad (z := 1) rfl) ww_5_101 ?_
  intro p e s m args below meth c V hT
  have h_X1_isReadEarlier_L2 : ∀ (n : Nat), ∀ (v0 : Nat) (v1 : Int) (v2 : Int) (v3 : Int) (h : gaH), w_X1_isReadEarlier_L2 Q n v0 v1 v2 v3 h → gaP p l e rm_X1_isReadEarlier s m args below meth c G 4 (gaZ below G (gQi Q) X args s rm_X1_isReadEarlier) 2 [some (.ref v0), some (gi v1), some (gi v2), some (gi v3)] [] h 0 0 := by
    intro n
    induction n with
    | zero =>
      intro v0 v1 v2 v3 h hw
      exact hw.elim
    | succ n ih =>
      intro v0 v1 v2 v3 h hw
      unfold w_X1_isReadEarlier_L2 at hw
      refine g_iload_n V dX1_isReadEarlier_2 rfl rfl ?_
      refine g_iload_n V dX1_isReadEarlier_3 rfl rfl ?_
      obtain ⟨hx0, hx1, hw⟩ := hw
      refine gi_icmp_ge V dX1_isReadEarlier_4 rfl rfl hx0 hx1 (fun q => ?_) (fun q => ?_)
      · have hw := ga_t q hw
        refine g_iconst V (Int32.ofInt 0) dX1_isReadEarlier_25 rfl rfl ?_
        exact g_iret V rfl rfl dX1_isReadEarlier_26 ⟨_, rfl, hw⟩
      · have hw := ga_f q hw
        refine g_aload_n V dX1_isReadEarlier_7 rfl rfl ?_
        refine g_iload_n V dX1_isReadEarlier_8 rfl rfl ?_
        refine g_iload_n V dX1_isReadEarlier_9 rfl rfl ?_
        refine g_iload_n V dX1_isReadEarlier_10 rfl rfl ?_
        refine g_callS (st := []) V (k_X1_ringOrder hst hw) ww_2_145 ww_2_146 ww_1_12 ww_2_147 hd_X1_ringOrder ⟨by decide, by decide⟩ rfl rfl (ga_cat rfl) dX1_isReadEarlier_11 (Nat.zero_le _) (Nat.zero_le _) rfl (gaX_all hT V) (ga_ki (fun r2 hp1 hw => ?_))
        obtain ⟨hx0, hw⟩ := hw
        refine gi_if_ne V dX1_isReadEarlier_14 rfl rfl hx0 (fun q => ?_) (fun q => ?_)
        · have hw := ga_f q hw
          refine gi_iinc (lv2 := [some (.ref v0), some (gi v1), some (gi v2), some (gi (v3 + 1))]) V dX1_isReadEarlier_19 (by decide) rfl rfl rfl rfl ?_
          refine g_goto V dX1_isReadEarlier_22 rfl ?_
          exact ih v0 v1 v2 (v3 + 1) hp1 hw
        · have hw := ga_t q hw
          refine g_iconst V (Int32.ofInt 1) dX1_isReadEarlier_17 rfl rfl ?_
          exact g_iret V rfl rfl dX1_isReadEarlier_18 ⟨_, rfl, hw⟩
  unfold w_X1_isReadEarlier at hw
  refine g_iconst V (Int32.ofInt 0) dX1_isReadEarlier_0 rfl rfl ?_
  refine g_istore_n (lv2 := [some (.ref a0), some (gi a1), some (gi a2), some (gi 0)]) V dX1_isReadEarlier_1 (by decide) rfl rfl rfl ?_
  obtain ⟨z, hw⟩ := hw
  exact h_X1_isReadEarlier_L2 z a0 a1 a2 0 h hw
def w_X1_kindsOf_L13 (Q : Int → gaH → Prop) : Nat → (Nat → Int → Int → Int → Int → gaH → Prop)
  | 0 => fun _ _ _ _ _ _ => False
  | n + 1 => fun v0 v1 v3 v4 v5 h => gR v5 ∧ gR v4 ∧ (if v4 ≤ v5 then Q v3 h else w_X1_isReadEarlier v0 v5 v1 h (fun r2 hp1 => gR r2 ∧ (if r2 = 0 then w_X1_kindsOf_L13 Q n v0 v1 (v3 + 1) v4 (v5 + 1) hp1 else w_X1_kindsOf_L13 Q n v0 v1 v3 v4 (v5 + 1) hp1)))
def w_X1_kindsOf (a0 : Nat) (a1 : Int) (a2 : Int) (h : gaH) (Q : Int → gaH → Prop) : Prop := w_X1_beginnings a0 a1 a2 h (fun r2 hp1 => ∃ z, w_X1_kindsOf_L13 Q z a0 a1 0 r2 0 hp1)
abbrev rm_X1_kindsOf : Room := { frames := 4, cells := 0, slots := 0, locals := 90 }
theorem hd_X1_kindsOf : (yX1_kindsOf.cls ≠ "java/lang/invoke/MethodHandle" ∧ yX1_kindsOf.cls ≠ "java/lang/invoke/VarHandle" ∧ (parseMethodDescriptor yX1_kindsOf.desc).map (fun d => d.parameters.length) = some 3) := by decide +kernel
theorem k_X1_kindsOf {l : Launch} (hst : l.stackTraces = false) {G : gaG} {X : String → gaH → Prop} {a0 : Nat} {a1 : Int} {a2 : Int} {h : gaH} {Q : Int → gaH → Prop} (hw : w_X1_kindsOf a0 a1 a2 h Q) : gaC l G yX1_kindsOf (gaM yX1_kindsOf cX1_kindsOf 6 ((some .int))) rm_X1_kindsOf [.ref a0, gi a1, gi a2] h (gQi Q) X := by
  refine g_start (lv := [some (.ref a0), some (gi a1), some (gi a2), none, none, none]) hpl_RX1 hst (Nat.le_of_ble_eq_true rfl) (gaArgs_pad (z := 3) rfl) ww_5_98 ?_
  intro p e s m args below meth c V hT
  have h_X1_kindsOf_L13 : ∀ (n : Nat), ∀ (v0 : Nat) (v1 : Int) (v3 : Int) (v4 : Int) (v5 : Int) (h : gaH), w_X1_kindsOf_L13 Q n v0 v1 v3 v4 v5 h → gaP p l e rm_X1_kindsOf s m args below meth c G 6 (gaZ below G (gQi Q) X args s rm_X1_kindsOf) 13 [some (.ref v0), some (gi v1), none, some (gi v3), some (gi v4), some (gi v5)] [] h 0 0 := by
    intro n
    induction n with
    | zero =>
      intro v0 v1 v3 v4 v5 h hw
      exact hw.elim
    | succ n ih =>
      intro v0 v1 v3 v4 v5 h hw
      unfold w_X1_kindsOf_L13 at hw
      refine g_iload V dX1_kindsOf_13 rfl rfl ?_
      refine g_iload V dX1_kindsOf_15 rfl rfl ?_
      obtain ⟨hx0, hx1, hw⟩ := hw
      refine gi_icmp_ge V dX1_kindsOf_17 rfl rfl hx0 hx1 (fun q => ?_) (fun q => ?_)
      · have hw := ga_t q hw
        refine g_iload_n V dX1_kindsOf_39 rfl rfl ?_
        exact g_iret V rfl rfl dX1_kindsOf_40 ⟨_, rfl, hw⟩
      · have hw := ga_f q hw
        refine g_aload_n V dX1_kindsOf_20 rfl rfl ?_
        refine g_iload V dX1_kindsOf_21 rfl rfl ?_
        refine g_iload_n V dX1_kindsOf_23 rfl rfl ?_
        refine g_callS (st := []) V (k_X1_isReadEarlier hst hw) ww_5_99 ww_5_100 ww_1_12 ww_5_101 hd_X1_isReadEarlier ⟨by decide, by decide⟩ rfl rfl (ga_cat rfl) dX1_kindsOf_24 (Nat.zero_le _) (Nat.zero_le _) rfl (gaX_all hT V) (ga_ki (fun r2 hp1 hw => ?_))
        obtain ⟨hx0, hw⟩ := hw
        refine gi_if_ne V dX1_kindsOf_27 rfl rfl hx0 (fun q => ?_) (fun q => ?_)
        · have hw := ga_f q hw
          refine gi_iinc (lv2 := [some (.ref v0), some (gi v1), none, some (gi v3), some (gi v4), some (gi (v5 + 1))]) V dX1_kindsOf_33 (by decide) rfl rfl rfl rfl ?_
          refine g_goto V dX1_kindsOf_36 rfl ?_
          exact ih v0 v1 v3 v4 (v5 + 1) hp1 hw
        · have hw := ga_t q hw
          refine gi_iinc (lv2 := [some (.ref v0), some (gi v1), none, some (gi (v3 + 1)), some (gi v4), some (gi v5)]) V dX1_kindsOf_30 (by decide) rfl rfl rfl rfl ?_
          refine gi_iinc (lv2 := [some (.ref v0), some (gi v1), none, some (gi (v3 + 1)), some (gi v4), some (gi (v5 + 1))]) V dX1_kindsOf_33 (by decide) rfl rfl rfl rfl ?_
          refine g_goto V dX1_kindsOf_36 rfl ?_
          exact ih v0 v1 (v3 + 1) v4 (v5 + 1) hp1 hw
  unfold w_X1_kindsOf at hw
  refine g_iconst V (Int32.ofInt 0) dX1_kindsOf_0 rfl rfl ?_
  refine g_istore_n (lv2 := [some (.ref a0), some (gi a1), some (gi a2), some (gi 0), none, none]) V dX1_kindsOf_1 (by decide) rfl rfl rfl ?_
  refine g_aload_n V dX1_kindsOf_2 rfl rfl ?_
  refine g_iload_n V dX1_kindsOf_3 rfl rfl ?_
  refine g_iload_n V dX1_kindsOf_4 rfl rfl ?_
  refine g_callS (st := []) V (k_X1_beginnings hst hw) ww_5_85 ww_5_86 ww_1_12 ww_5_87 hd_X1_beginnings ⟨by decide, by decide⟩ rfl rfl (ga_cat rfl) dX1_kindsOf_5 (Nat.zero_le _) (Nat.zero_le _) rfl (gaX_all hT V) (ga_ki (fun r2 hp1 hw => ?_))
  refine g_istore (lv2 := [some (.ref a0), some (gi a1), some (gi a2), some (gi 0), some (gi r2), none]) V dX1_kindsOf_8 (by decide) rfl rfl rfl ?_
  refine g_iconst V (Int32.ofInt 0) dX1_kindsOf_10 rfl rfl ?_
  refine g_istore (lv2 := [some (.ref a0), some (gi a1), some (gi a2), some (gi 0), some (gi r2), some (gi 0)]) V dX1_kindsOf_11 (by decide) rfl rfl rfl ?_
  refine g_less (bs := [true, true, false, true, true, true]) (lv2 := [some (.ref a0), some (gi a1), none, some (gi 0), some (gi r2), some (gi 0)]) rfl ?_
  obtain ⟨z, hw⟩ := hw
  exact h_X1_kindsOf_L13 z a0 a1 0 r2 0 hp1 hw
def w_X1_mirrorsOf_L14 (Q : Int → gaH → Prop) (K4 : Nat → Int → Int → gaH → Prop) : Nat → (Nat → Int → Int → Int → gaH → Prop)
  | 0 => fun _ _ _ _ _ => False
  | n + 1 => fun v0 v1 v2 v3 h => gI h v0 4 1 (fun r1 => gR v3 ∧ gR (r1 - v2) ∧ (if (r1 - v2) < v3 then K4 v0 v1 (v2 + 1) h else w_X1_isMirroredPart v0 v2 v3 h (fun r3 hp2 => gR r3 ∧ (if r3 = 0 then w_X1_mirrorsOf_L14 Q K4 n v0 v1 v2 (v3 + 1) hp2 else w_X1_isReadEarlier v0 v2 v3 hp2 (fun r5 hp4 => gR r5 ∧ (if r5 = 0 then w_X1_mirrorsOf_L14 Q K4 n v0 (v1 + 1) v2 (v3 + 1) hp4 else w_X1_mirrorsOf_L14 Q K4 n v0 v1 v2 (v3 + 1) hp4))))))
def w_X1_mirrorsOf_L4 (Q : Int → gaH → Prop) : Nat → (Nat → Int → Int → gaH → Prop)
  | 0 => fun _ _ _ _ => False
  | n + 1 => fun v0 v1 v2 h => gI h v0 4 1 (fun r1 => gR v2 ∧ gR r1 ∧ (if r1 ≤ v2 then Q v1 h else ∃ z, w_X1_mirrorsOf_L14 Q (w_X1_mirrorsOf_L4 Q n) z v0 v1 v2 1 h))
def w_X1_mirrorsOf (a0 : Nat) (h : gaH) (Q : Int → gaH → Prop) : Prop := ∃ z, w_X1_mirrorsOf_L4 Q z a0 0 0 h
abbrev rm_X1_mirrorsOf : Room := { frames := 4, cells := 0, slots := 0, locals := 90 }
theorem hd_X1_mirrorsOf : (yX1_mirrorsOf.cls ≠ "java/lang/invoke/MethodHandle" ∧ yX1_mirrorsOf.cls ≠ "java/lang/invoke/VarHandle" ∧ (parseMethodDescriptor yX1_mirrorsOf.desc).map (fun d => d.parameters.length) = some 1) := by decide +kernel
theorem k_X1_mirrorsOf {l : Launch} (hst : l.stackTraces = false) {G : gaG} {X : String → gaH → Prop} {a0 : Nat} {h : gaH} {Q : Int → gaH → Prop} (hw : w_X1_mirrorsOf a0 h Q) : gaC l G yX1_mirrorsOf (gaM yX1_mirrorsOf cX1_mirrorsOf 4 ((some .int))) rm_X1_mirrorsOf [.ref a0] h (gQi Q) X := by
  refine g_start (lv := [some (.ref a0), none, none, none]) hpl_RX1 hst (Nat.le_of_ble_eq_true rfl) (gaArgs_pad (z := 3) rfl) ww_5_119 ?_
  intro p e s m args below meth c V hT
  have h_X1_mirrorsOf_L14 : ∀ (K4 : Nat → Int → Int → gaH → Prop), ∀ (hK4 : ∀ (v0 : Nat) (v1 : Int) (v2 : Int) (h : gaH), K4 v0 v1 v2 h → gaP p l e rm_X1_mirrorsOf s m args below meth c G 4 (gaZ below G (gQi Q) X args s rm_X1_mirrorsOf) 4 [some (.ref v0), some (gi v1), some (gi v2), none] [] h 0 0), ∀ (n : Nat), ∀ (v0 : Nat) (v1 : Int) (v2 : Int) (v3 : Int) (h : gaH), w_X1_mirrorsOf_L14 Q K4 n v0 v1 v2 v3 h → gaP p l e rm_X1_mirrorsOf s m args below meth c G 4 (gaZ below G (gQi Q) X args s rm_X1_mirrorsOf) 14 [some (.ref v0), some (gi v1), some (gi v2), some (gi v3)] [] h 0 0 := by
    intro K4 hK4
    intro n
    induction n with
    | zero =>
      intro v0 v1 v2 v3 h hw
      exact hw.elim
    | succ n ih =>
      intro v0 v1 v2 v3 h hw
      unfold w_X1_mirrorsOf_L14 at hw
      refine g_iload_n V dX1_mirrorsOf_14 rfl rfl ?_
      refine g_aload_n V dX1_mirrorsOf_15 rfl rfl ?_
      obtain ⟨fs, r1, ha, hv, hw⟩ := hw
      refine g_getN (C := RX4) (T := TX4) (N := 2) (host := "Wordgarden") V 1 rfl hin_RX4 (by decide) (by decide) gn_2 rfl ha hv dX1_mirrorsOf_16 rfl ?_
      refine g_iload_n V dX1_mirrorsOf_19 rfl rfl ?_
      refine gi_isub V dX1_mirrorsOf_20 rfl ?_
      obtain ⟨hx0, hx1, hw⟩ := hw
      refine gi_icmp_gt V dX1_mirrorsOf_21 rfl rfl hx0 hx1 (fun q => ?_) (fun q => ?_)
      · have hw := ga_t q hw
        refine gi_iinc (lv2 := [some (.ref v0), some (gi v1), some (gi (v2 + 1)), some (gi v3)]) V dX1_mirrorsOf_51 (by decide) rfl rfl rfl rfl ?_
        refine g_goto V dX1_mirrorsOf_54 rfl ?_
        refine g_less (bs := [true, true, true, false]) (lv2 := [some (.ref v0), some (gi v1), some (gi (v2 + 1)), none]) rfl ?_
        exact hK4 v0 v1 (v2 + 1) h hw
      · have hw := ga_f q hw
        refine g_aload_n V dX1_mirrorsOf_24 rfl rfl ?_
        refine g_iload_n V dX1_mirrorsOf_25 rfl rfl ?_
        refine g_iload_n V dX1_mirrorsOf_26 rfl rfl ?_
        refine g_callS (st := []) V (k_X1_isMirroredPart hst hw) ww_2_137 ww_2_102 ww_1_12 ww_2_103 hd_X1_isMirroredPart ⟨by decide, by decide⟩ rfl rfl (ga_cat rfl) dX1_mirrorsOf_27 (Nat.zero_le _) (Nat.zero_le _) rfl (gaX_all hT V) (ga_ki (fun r3 hp2 hw => ?_))
        obtain ⟨hx0, hw⟩ := hw
        refine gi_if_eq V dX1_mirrorsOf_30 rfl rfl hx0 (fun q => ?_) (fun q => ?_)
        · have hw := ga_t q hw
          refine gi_iinc (lv2 := [some (.ref v0), some (gi v1), some (gi v2), some (gi (v3 + 1))]) V dX1_mirrorsOf_45 (by decide) rfl rfl rfl rfl ?_
          refine g_goto V dX1_mirrorsOf_48 rfl ?_
          exact ih v0 v1 v2 (v3 + 1) hp2 hw
        · have hw := ga_f q hw
          refine g_aload_n V dX1_mirrorsOf_33 rfl rfl ?_
          refine g_iload_n V dX1_mirrorsOf_34 rfl rfl ?_
          refine g_iload_n V dX1_mirrorsOf_35 rfl rfl ?_
          refine g_callS (st := []) V (k_X1_isReadEarlier hst hw) ww_5_99 ww_5_100 ww_1_12 ww_5_101 hd_X1_isReadEarlier ⟨by decide, by decide⟩ rfl rfl (ga_cat rfl) dX1_mirrorsOf_36 (Nat.zero_le _) (Nat.zero_le _) rfl (gaX_all hT V) (ga_ki (fun r5 hp4 hw => ?_))
          obtain ⟨hx0, hw⟩ := hw
          refine gi_if_ne V dX1_mirrorsOf_39 rfl rfl hx0 (fun q => ?_) (fun q => ?_)
          · have hw := ga_f q hw
            refine gi_iinc (lv2 := [some (.ref v0), some (gi v1), some (gi v2), some (gi (v3 + 1))]) V dX1_mirrorsOf_45 (by decide) rfl rfl rfl rfl ?_
            refine g_goto V dX1_mirrorsOf_48 rfl ?_
            exact ih v0 v1 v2 (v3 + 1) hp4 hw
          · have hw := ga_t q hw
            refine gi_iinc (lv2 := [some (.ref v0), some (gi (v1 + 1)), some (gi v2), some (gi v3)]) V dX1_mirrorsOf_42 (by decide) rfl rfl rfl rfl ?_
            refine gi_iinc (lv2 := [some (.ref v0), some (gi (v1 + 1)), some (gi v2), some (gi (v3 + 1))]) V dX1_mirrorsOf_45 (by decide) rfl rfl rfl rfl ?_
            refine g_goto V dX1_mirrorsOf_48 rfl ?_
            exact ih v0 (v1 + 1) v2 (v3 + 1) hp4 hw
  have h_X1_mirrorsOf_L4 : ∀ (n : Nat), ∀ (v0 : Nat) (v1 : Int) (v2 : Int) (h : gaH), w_X1_mirrorsOf_L4 Q n v0 v1 v2 h → gaP p l e rm_X1_mirrorsOf s m args below meth c G 4 (gaZ below G (gQi Q) X args s rm_X1_mirrorsOf) 4 [some (.ref v0), some (gi v1), some (gi v2), none] [] h 0 0 := by
    intro n
    induction n with
    | zero =>
      intro v0 v1 v2 h hw
      exact hw.elim
    | succ n ih =>
      intro v0 v1 v2 h hw
      unfold w_X1_mirrorsOf_L4 at hw
      refine g_iload_n V dX1_mirrorsOf_4 rfl rfl ?_
      refine g_aload_n V dX1_mirrorsOf_5 rfl rfl ?_
      obtain ⟨fs, r1, ha, hv, hw⟩ := hw
      refine g_getN (C := RX4) (T := TX4) (N := 2) (host := "Wordgarden") V 1 rfl hin_RX4 (by decide) (by decide) gn_2 rfl ha hv dX1_mirrorsOf_6 rfl ?_
      obtain ⟨hx0, hx1, hw⟩ := hw
      refine gi_icmp_ge V dX1_mirrorsOf_9 rfl rfl hx0 hx1 (fun q => ?_) (fun q => ?_)
      · have hw := ga_t q hw
        refine g_iload_n V dX1_mirrorsOf_57 rfl rfl ?_
        exact g_iret V rfl rfl dX1_mirrorsOf_58 ⟨_, rfl, hw⟩
      · have hw := ga_f q hw
        refine g_iconst V (Int32.ofInt 1) dX1_mirrorsOf_12 rfl rfl ?_
        refine g_istore_n (lv2 := [some (.ref v0), some (gi v1), some (gi v2), some (gi 1)]) V dX1_mirrorsOf_13 (by decide) rfl rfl rfl ?_
        obtain ⟨z, hw⟩ := hw
        exact h_X1_mirrorsOf_L14 (w_X1_mirrorsOf_L4 Q n) ih z v0 v1 v2 1 h hw
  unfold w_X1_mirrorsOf at hw
  refine g_iconst V (Int32.ofInt 0) dX1_mirrorsOf_0 rfl rfl ?_
  refine g_istore_n (lv2 := [some (.ref a0), some (gi 0), none, none]) V dX1_mirrorsOf_1 (by decide) rfl rfl rfl ?_
  refine g_iconst V (Int32.ofInt 0) dX1_mirrorsOf_2 rfl rfl ?_
  refine g_istore_n (lv2 := [some (.ref a0), some (gi 0), some (gi 0), none]) V dX1_mirrorsOf_3 (by decide) rfl rfl rfl ?_
  obtain ⟨z, hw⟩ := hw
  exact h_X1_mirrorsOf_L4 z a0 0 0 h hw
def w_X1_upsInPart_L5 (Q : Int → gaH → Prop) : Nat → (Nat → Int → Int → Int → Int → gaH → Prop)
  | 0 => fun _ _ _ _ _ _ => False
  | n + 1 => fun v0 v1 v2 v3 v4 h => gR v4 ∧ gR (v1 + v2) ∧ (if (v1 + v2) ≤ v4 then Q v3 h else w_X1_isUpOnRing v0 v4 h (fun r2 hp1 => gR r2 ∧ (if r2 = 0 then w_X1_upsInPart_L5 Q n v0 v1 v2 v3 (v4 + 1) hp1 else w_X1_upsInPart_L5 Q n v0 v1 v2 (v3 + 1) (v4 + 1) hp1)))
def w_X1_upsInPart (a0 : Nat) (a1 : Int) (a2 : Int) (h : gaH) (Q : Int → gaH → Prop) : Prop := ∃ z, w_X1_upsInPart_L5 Q z a0 a1 a2 0 a1 h
abbrev rm_X1_upsInPart : Room := { frames := 2, cells := 0, slots := 0, locals := 42 }
theorem hd_X1_upsInPart : (yX1_upsInPart.cls ≠ "java/lang/invoke/MethodHandle" ∧ yX1_upsInPart.cls ≠ "java/lang/invoke/VarHandle" ∧ (parseMethodDescriptor yX1_upsInPart.desc).map (fun d => d.parameters.length) = some 3) := by decide +kernel
theorem k_X1_upsInPart {l : Launch} (hst : l.stackTraces = false) {G : gaG} {X : String → gaH → Prop} {a0 : Nat} {a1 : Int} {a2 : Int} {h : gaH} {Q : Int → gaH → Prop} (hw : w_X1_upsInPart a0 a1 a2 h Q) : gaC l G yX1_upsInPart (gaM yX1_upsInPart cX1_upsInPart 5 ((some .int))) rm_X1_upsInPart [.ref a0, gi a1, gi a2] h (gQi Q) X := by
  refine g_start (lv := [some (.ref a0), some (gi a1), some (gi a2), none, none]) hpl_RX1 hst (Nat.le_of_ble_eq_true rfl) (gaArgs_pad (z := 2) rfl) ww_3_38 ?_
  intro p e s m args below meth c V hT
  have h_X1_upsInPart_L5 : ∀ (n : Nat), ∀ (v0 : Nat) (v1 : Int) (v2 : Int) (v3 : Int) (v4 : Int) (h : gaH), w_X1_upsInPart_L5 Q n v0 v1 v2 v3 v4 h → gaP p l e rm_X1_upsInPart s m args below meth c G 5 (gaZ below G (gQi Q) X args s rm_X1_upsInPart) 5 [some (.ref v0), some (gi v1), some (gi v2), some (gi v3), some (gi v4)] [] h 0 0 := by
    intro n
    induction n with
    | zero =>
      intro v0 v1 v2 v3 v4 h hw
      exact hw.elim
    | succ n ih =>
      intro v0 v1 v2 v3 v4 h hw
      unfold w_X1_upsInPart_L5 at hw
      refine g_iload V dX1_upsInPart_5 rfl rfl ?_
      refine g_iload_n V dX1_upsInPart_7 rfl rfl ?_
      refine g_iload_n V dX1_upsInPart_8 rfl rfl ?_
      refine gi_iadd V dX1_upsInPart_9 rfl ?_
      obtain ⟨hx0, hx1, hw⟩ := hw
      refine gi_icmp_ge V dX1_upsInPart_10 rfl rfl hx0 hx1 (fun q => ?_) (fun q => ?_)
      · have hw := ga_t q hw
        refine g_iload_n V dX1_upsInPart_31 rfl rfl ?_
        exact g_iret V rfl rfl dX1_upsInPart_32 ⟨_, rfl, hw⟩
      · have hw := ga_f q hw
        refine g_aload_n V dX1_upsInPart_13 rfl rfl ?_
        refine g_iload V dX1_upsInPart_14 rfl rfl ?_
        refine g_callS (st := []) V (k_X1_isUpOnRing hst hw) ww_2_148 ww_2_149 ww_1_12 ww_2_150 hd_X1_isUpOnRing ⟨by decide, by decide⟩ rfl rfl (ga_cat rfl) dX1_upsInPart_16 (Nat.zero_le _) (Nat.zero_le _) rfl (gaX_all hT V) (ga_ki (fun r2 hp1 hw => ?_))
        obtain ⟨hx0, hw⟩ := hw
        refine gi_if_eq V dX1_upsInPart_19 rfl rfl hx0 (fun q => ?_) (fun q => ?_)
        · have hw := ga_t q hw
          refine gi_iinc (lv2 := [some (.ref v0), some (gi v1), some (gi v2), some (gi v3), some (gi (v4 + 1))]) V dX1_upsInPart_25 (by decide) rfl rfl rfl rfl ?_
          refine g_goto V dX1_upsInPart_28 rfl ?_
          exact ih v0 v1 v2 v3 (v4 + 1) hp1 hw
        · have hw := ga_f q hw
          refine gi_iinc (lv2 := [some (.ref v0), some (gi v1), some (gi v2), some (gi (v3 + 1)), some (gi v4)]) V dX1_upsInPart_22 (by decide) rfl rfl rfl rfl ?_
          refine gi_iinc (lv2 := [some (.ref v0), some (gi v1), some (gi v2), some (gi (v3 + 1)), some (gi (v4 + 1))]) V dX1_upsInPart_25 (by decide) rfl rfl rfl rfl ?_
          refine g_goto V dX1_upsInPart_28 rfl ?_
          exact ih v0 v1 v2 (v3 + 1) (v4 + 1) hp1 hw
  unfold w_X1_upsInPart at hw
  refine g_iconst V (Int32.ofInt 0) dX1_upsInPart_0 rfl rfl ?_
  refine g_istore_n (lv2 := [some (.ref a0), some (gi a1), some (gi a2), some (gi 0), none]) V dX1_upsInPart_1 (by decide) rfl rfl rfl ?_
  refine g_iload_n V dX1_upsInPart_2 rfl rfl ?_
  refine g_istore (lv2 := [some (.ref a0), some (gi a1), some (gi a2), some (gi 0), some (gi a1)]) V dX1_upsInPart_3 (by decide) rfl rfl rfl ?_
  obtain ⟨z, hw⟩ := hw
  exact h_X1_upsInPart_L5 z a0 a1 a2 0 a1 h hw
def w_X0_goBack (a0 : Nat) (a1 : Nat) (h : gaH) (Q : Int → gaH → Prop) : Prop := gI h a0 2 1 (fun r1 => gHas h a0 2 ∧ w_X0_turnAt a0 (r1 - 1) h (fun r3 hp2 => gHas hp2 a1 4 ∧ w_X4_clear a1 hp2 (fun hp4 => gA hp4 a0 2 3 (fun r6 => gA hp4 a0 2 2 (fun r7 => gI hp4 r7 4 1 (fun r8 => gA hp4 a0 2 3 (fun r9 => gI hp4 r9 4 1 (fun r10 => gHas hp4 a1 4 ∧ w_X4_addPart a1 r6 (r3 * r8) r10 hp4 (fun hp11 => gA hp11 a0 2 3 (fun r13 => gA hp11 a0 2 2 (fun r14 => gHas hp11 r13 4 ∧ w_X4_take r13 r14 hp11 (fun hp15 => gA hp15 a0 2 2 (fun r17 => gHas hp15 r17 4 ∧ w_X4_take r17 a1 hp15 (fun hp18 => gI hp18 a0 2 1 (fun r20 => gPF hp18 a0 2 1 (gi (r20 - 1)) (fun hp21 => Q r3 hp21))))))))))))))))
abbrev rm_X0_goBack : Room := { frames := 2, cells := 0, slots := 0, locals := 45 }
theorem hd_X0_goBack : yX0_goBack.cls = RX0 ∧ (yX0_goBack.cls ≠ "java/lang/invoke/MethodHandle" ∧ yX0_goBack.cls ≠ "java/lang/invoke/VarHandle" ∧ (parseMethodDescriptor yX0_goBack.desc).map (fun d => d.parameters.length) = some 1) := by decide +kernel
theorem k_X0_goBack {l : Launch} (hst : l.stackTraces = false) {G : gaG} {X : String → gaH → Prop} {a0 : Nat} {a1 : Nat} {h : gaH} {Q : Int → gaH → Prop} (hw : w_X0_goBack a0 a1 h Q) : gaC l G yX0_goBack (gaM yX0_goBack cX0_goBack 3 ((some .int))) rm_X0_goBack [.ref a0, .ref a1] h (gQi Q) X := by
  refine g_start (lv := [some (.ref a0), some (.ref a1), none]) hpl_RX0 hst (Nat.le_of_ble_eq_true rfl) (gaArgs_pad (z := 1) rfl) ww_3_232 ?_
  intro p e s m args below meth c V hT
  unfold w_X0_goBack at hw
  refine g_aload_n V dX0_goBack_0 rfl rfl ?_
  refine g_aload_n V dX0_goBack_1 rfl rfl ?_
  obtain ⟨fs, r1, ha, hv, hw⟩ := hw
  refine g_get (C := RX0) (T := TX0) (N := 4) V 1 rfl hin_RX0 (by decide) (by decide) ww_1_94 rfl ha hv dX0_goBack_2 rfl ?_
  refine g_iconst V (Int32.ofInt 1) dX0_goBack_5 rfl rfl ?_
  refine gi_isub V dX0_goBack_6 rfl ?_
  obtain ⟨hb, hw⟩ := hw
  obtain ⟨fb, hb⟩ := hb
  refine g_callV (C := RX0) (T := TX0) (N := 4) (st := []) V (k_X0_turnAt hst hw) ww_2_22 ww_2_23 ww_2_24 ww_1_4 ww_2_25 hd_X0_turnAt ⟨by decide, by decide⟩ rfl (by decide) hb rfl rfl (ga_cat rfl) dX0_goBack_7 (Nat.zero_le _) (Nat.zero_le _) rfl (gaX_all hT V) (ga_ki (fun r3 hp2 hw => ?_))
  refine g_istore_n (lv2 := [some (.ref a0), some (.ref a1), some (gi r3)]) V dX0_goBack_10 (by decide) rfl rfl rfl ?_
  refine g_aload_n V dX0_goBack_11 rfl rfl ?_
  obtain ⟨hb, hw⟩ := hw
  obtain ⟨fb, hb⟩ := hb
  refine g_callV (C := RX4) (T := TX4) (N := 2) (st := []) V (k_X4_clear hst hw) ww_1_85 ww_1_86 ww_1_87 ww_1_3 ww_1_88 hd_X4_clear ⟨by decide, by decide⟩ rfl (by decide) hb rfl rfl (ga_cat rfl) dX0_goBack_12 (Nat.zero_le _) (Nat.zero_le _) rfl (gaX_all hT V) (ga_kv (fun hp4 hw => ?_))
  refine g_aload_n V dX0_goBack_15 rfl rfl ?_
  refine g_aload_n V dX0_goBack_16 rfl rfl ?_
  obtain ⟨fs, r6, ha, hv, hw⟩ := hw
  refine g_get (C := RX0) (T := TX0) (N := 4) V 3 rfl hin_RX0 (by decide) (by decide) ww_1_98 rfl ha hv dX0_goBack_17 rfl ?_
  refine g_iload_n V dX0_goBack_20 rfl rfl ?_
  refine g_aload_n V dX0_goBack_21 rfl rfl ?_
  obtain ⟨fs, r7, ha, hv, hw⟩ := hw
  refine g_get (C := RX0) (T := TX0) (N := 4) V 2 rfl hin_RX0 (by decide) (by decide) ww_1_96 rfl ha hv dX0_goBack_22 rfl ?_
  obtain ⟨fs, r8, ha, hv, hw⟩ := hw
  refine g_getN (C := RX4) (T := TX4) (N := 2) (host := "Wordgarden") V 1 rfl hin_RX4 (by decide) (by decide) gn_6 rfl ha hv dX0_goBack_25 rfl ?_
  refine gi_imul V dX0_goBack_28 rfl ?_
  refine g_aload_n V dX0_goBack_29 rfl rfl ?_
  obtain ⟨fs, r9, ha, hv, hw⟩ := hw
  refine g_get (C := RX0) (T := TX0) (N := 4) V 3 rfl hin_RX0 (by decide) (by decide) ww_1_98 rfl ha hv dX0_goBack_30 rfl ?_
  obtain ⟨fs, r10, ha, hv, hw⟩ := hw
  refine g_getN (C := RX4) (T := TX4) (N := 2) (host := "Wordgarden") V 1 rfl hin_RX4 (by decide) (by decide) gn_6 rfl ha hv dX0_goBack_33 rfl ?_
  obtain ⟨hb, hw⟩ := hw
  obtain ⟨fb, hb⟩ := hb
  refine g_callV (C := RX4) (T := TX4) (N := 2) (st := []) V (k_X4_addPart hst hw) ww_3_217 ww_2_46 ww_2_47 ww_1_3 ww_2_48 hd_X4_addPart ⟨by decide, by decide⟩ rfl (by decide) hb rfl rfl (ga_cat rfl) dX0_goBack_36 (Nat.zero_le _) (Nat.zero_le _) rfl (gaX_all hT V) (ga_kv (fun hp11 hw => ?_))
  refine g_aload_n V dX0_goBack_39 rfl rfl ?_
  obtain ⟨fs, r13, ha, hv, hw⟩ := hw
  refine g_get (C := RX0) (T := TX0) (N := 4) V 3 rfl hin_RX0 (by decide) (by decide) ww_1_98 rfl ha hv dX0_goBack_40 rfl ?_
  refine g_aload_n V dX0_goBack_43 rfl rfl ?_
  obtain ⟨fs, r14, ha, hv, hw⟩ := hw
  refine g_get (C := RX0) (T := TX0) (N := 4) V 2 rfl hin_RX0 (by decide) (by decide) ww_1_96 rfl ha hv dX0_goBack_44 rfl ?_
  obtain ⟨hb, hw⟩ := hw
  obtain ⟨fb, hb⟩ := hb
  refine g_callV (C := RX4) (T := TX4) (N := 2) (st := []) V (k_X4_take hst hw) ww_2_49 ww_2_50 ww_2_51 ww_1_3 ww_2_52 hd_X4_take ⟨by decide, by decide⟩ rfl (by decide) hb rfl rfl (ga_cat rfl) dX0_goBack_47 (Nat.zero_le _) (Nat.zero_le _) rfl (gaX_all hT V) (ga_kv (fun hp15 hw => ?_))
  refine g_aload_n V dX0_goBack_50 rfl rfl ?_
  obtain ⟨fs, r17, ha, hv, hw⟩ := hw
  refine g_get (C := RX0) (T := TX0) (N := 4) V 2 rfl hin_RX0 (by decide) (by decide) ww_1_96 rfl ha hv dX0_goBack_51 rfl ?_
  refine g_aload_n V dX0_goBack_54 rfl rfl ?_
  obtain ⟨hb, hw⟩ := hw
  obtain ⟨fb, hb⟩ := hb
  refine g_callV (C := RX4) (T := TX4) (N := 2) (st := []) V (k_X4_take hst hw) ww_2_49 ww_2_50 ww_2_51 ww_1_3 ww_2_52 hd_X4_take ⟨by decide, by decide⟩ rfl (by decide) hb rfl rfl (ga_cat rfl) dX0_goBack_55 (Nat.zero_le _) (Nat.zero_le _) rfl (gaX_all hT V) (ga_kv (fun hp18 hw => ?_))
  refine g_aload_n V dX0_goBack_58 rfl rfl ?_
  refine g_dup V dX0_goBack_59 rfl rfl ?_
  obtain ⟨fs, r20, ha, hv, hw⟩ := hw
  refine g_get (C := RX0) (T := TX0) (N := 4) V 1 rfl hin_RX0 (by decide) (by decide) ww_1_94 rfl ha hv dX0_goBack_60 rfl ?_
  refine g_iconst V (Int32.ofInt 1) dX0_goBack_63 rfl rfl ?_
  refine gi_isub V dX0_goBack_64 rfl ?_
  obtain ⟨fs, ha, hl, hw⟩ := hw
  refine g_put (C := RX0) (T := TX0) (N := 4) V 1 tyX0 tyX0_ok nmX0 rfl hin_RX0 (by decide) (by decide) ww_1_94 rfl rfl rfl rfl ha hl dX0_goBack_65 rfl ?_
  generalize gaUp hp18 a0 _ = hp21 at hw ⊢
  refine g_iload_n V dX0_goBack_68 rfl rfl ?_
  exact g_iret V rfl rfl dX0_goBack_69 ⟨_, rfl, hw⟩
def w_X1_spreadOf_L16 (Q : Int → gaH → Prop) : Nat → (Nat → Int → Int → Int → Int → Int → gaH → Prop)
  | 0 => fun _ _ _ _ _ _ _ => False
  | n + 1 => fun v0 v1 v3 v4 v5 v6 h => gR v6 ∧ gR v5 ∧ (if v5 ≤ v6 then Q (v3 - v4) h else w_X1_upsInPart v0 v6 v1 h (fun r2 hp1 => gR v3 ∧ gR r2 ∧ (gR v4 ∧ gR r2 ∧ (w_X1_spreadOf_L16 Q n v0 v1 (max v3 r2) (min v4 r2) v5 (v6 + 1) hp1))))
def w_X1_spreadOf (a0 : Nat) (a1 : Int) (a2 : Int) (h : gaH) (Q : Int → gaH → Prop) : Prop := w_X1_beginnings a0 a1 a2 h (fun r2 hp1 => ∃ z, w_X1_spreadOf_L16 Q z a0 a1 0 a1 r2 0 hp1)
abbrev rm_X1_spreadOf : Room := { frames := 3, cells := 0, slots := 0, locals := 82 }
theorem hd_X1_spreadOf : (yX1_spreadOf.cls ≠ "java/lang/invoke/MethodHandle" ∧ yX1_spreadOf.cls ≠ "java/lang/invoke/VarHandle" ∧ (parseMethodDescriptor yX1_spreadOf.desc).map (fun d => d.parameters.length) = some 3) := by decide +kernel
theorem k_X1_spreadOf {l : Launch} (hst : l.stackTraces = false) {G : gaG} {X : String → gaH → Prop} {a0 : Nat} {a1 : Int} {a2 : Int} {h : gaH} {Q : Int → gaH → Prop} (hw : w_X1_spreadOf a0 a1 a2 h Q) : gaC l G yX1_spreadOf (gaM yX1_spreadOf cX1_spreadOf 8 ((some .int))) rm_X1_spreadOf [.ref a0, gi a1, gi a2] h (gQi Q) X := by
  refine g_start (lv := [some (.ref a0), some (gi a1), some (gi a2), none, none, none, none, none]) hpl_RX1 hst (Nat.le_of_ble_eq_true rfl) (gaArgs_pad (z := 5) rfl) ww_5_84 ?_
  intro p e s m args below meth c V hT
  have h_X1_spreadOf_L16 : ∀ (n : Nat), ∀ (v0 : Nat) (v1 : Int) (v3 : Int) (v4 : Int) (v5 : Int) (v6 : Int) (h : gaH), w_X1_spreadOf_L16 Q n v0 v1 v3 v4 v5 v6 h → gaP p l e rm_X1_spreadOf s m args below meth c G 8 (gaZ below G (gQi Q) X args s rm_X1_spreadOf) 16 [some (.ref v0), some (gi v1), none, some (gi v3), some (gi v4), some (gi v5), some (gi v6), none] [] h 0 0 := by
    intro n
    induction n with
    | zero =>
      intro v0 v1 v3 v4 v5 v6 h hw
      exact hw.elim
    | succ n ih =>
      intro v0 v1 v3 v4 v5 v6 h hw
      unfold w_X1_spreadOf_L16 at hw
      refine g_iload V dX1_spreadOf_16 rfl rfl ?_
      refine g_iload V dX1_spreadOf_18 rfl rfl ?_
      obtain ⟨hx0, hx1, hw⟩ := hw
      refine gi_icmp_ge V dX1_spreadOf_20 rfl rfl hx0 hx1 (fun q => ?_) (fun q => ?_)
      · have hw := ga_t q hw
        refine g_iload_n V dX1_spreadOf_54 rfl rfl ?_
        refine g_iload V dX1_spreadOf_55 rfl rfl ?_
        refine gi_isub V dX1_spreadOf_57 rfl ?_
        exact g_iret V rfl rfl dX1_spreadOf_58 ⟨_, rfl, hw⟩
      · have hw := ga_f q hw
        refine g_aload_n V dX1_spreadOf_23 rfl rfl ?_
        refine g_iload V dX1_spreadOf_24 rfl rfl ?_
        refine g_iload_n V dX1_spreadOf_26 rfl rfl ?_
        refine g_callS (st := []) V (k_X1_upsInPart hst hw) ww_5_88 ww_3_37 ww_1_12 ww_3_38 hd_X1_upsInPart ⟨by decide, by decide⟩ rfl rfl (ga_cat rfl) dX1_spreadOf_27 (Nat.zero_le _) (Nat.zero_le _) rfl (gaX_all hT V) (ga_ki (fun r2 hp1 hw => ?_))
        refine g_istore (lv2 := [some (.ref v0), some (gi v1), none, some (gi v3), some (gi v4), some (gi v5), some (gi v6), some (gi r2)]) V dX1_spreadOf_30 (by decide) rfl rfl rfl ?_
        refine g_iload_n V dX1_spreadOf_32 rfl rfl ?_
        refine g_iload V dX1_spreadOf_33 rfl rfl ?_
        obtain ⟨hx0, hx1, hw⟩ := hw
        refine gi_mmax V ww_2_117 ww_2_118 ww_1_13 ww_2_119 (by decide) (by decide) (ga_cat rfl) hx0 hx1 dX1_spreadOf_35 rfl ?_
        refine g_istore_n (lv2 := [some (.ref v0), some (gi v1), none, some (gi (max v3 r2)), some (gi v4), some (gi v5), some (gi v6), some (gi r2)]) V dX1_spreadOf_38 (by decide) rfl rfl rfl ?_
        refine g_iload V dX1_spreadOf_39 rfl rfl ?_
        refine g_iload V dX1_spreadOf_41 rfl rfl ?_
        obtain ⟨hx0, hx1, hw⟩ := hw
        refine gi_mmin V ww_2_3 ww_2_4 ww_1_13 ww_2_5 (by decide) (by decide) (ga_cat rfl) hx0 hx1 dX1_spreadOf_43 rfl ?_
        refine g_istore (lv2 := [some (.ref v0), some (gi v1), none, some (gi (max v3 r2)), some (gi (min v4 r2)), some (gi v5), some (gi v6), some (gi r2)]) V dX1_spreadOf_46 (by decide) rfl rfl rfl ?_
        refine gi_iinc (lv2 := [some (.ref v0), some (gi v1), none, some (gi (max v3 r2)), some (gi (min v4 r2)), some (gi v5), some (gi (v6 + 1)), some (gi r2)]) V dX1_spreadOf_48 (by decide) rfl rfl rfl rfl ?_
        refine g_goto V dX1_spreadOf_51 rfl ?_
        refine g_less (bs := [true, true, true, true, true, true, true, false]) (lv2 := [some (.ref v0), some (gi v1), none, some (gi (max v3 r2)), some (gi (min v4 r2)), some (gi v5), some (gi (v6 + 1)), none]) rfl ?_
        exact ih v0 v1 (max v3 r2) (min v4 r2) v5 (v6 + 1) hp1 hw
  unfold w_X1_spreadOf at hw
  refine g_iconst V (Int32.ofInt 0) dX1_spreadOf_0 rfl rfl ?_
  refine g_istore_n (lv2 := [some (.ref a0), some (gi a1), some (gi a2), some (gi 0), none, none, none, none]) V dX1_spreadOf_1 (by decide) rfl rfl rfl ?_
  refine g_iload_n V dX1_spreadOf_2 rfl rfl ?_
  refine g_istore (lv2 := [some (.ref a0), some (gi a1), some (gi a2), some (gi 0), some (gi a1), none, none, none]) V dX1_spreadOf_3 (by decide) rfl rfl rfl ?_
  refine g_aload_n V dX1_spreadOf_5 rfl rfl ?_
  refine g_iload_n V dX1_spreadOf_6 rfl rfl ?_
  refine g_iload_n V dX1_spreadOf_7 rfl rfl ?_
  refine g_callS (st := []) V (k_X1_beginnings hst hw) ww_5_85 ww_5_86 ww_1_12 ww_5_87 hd_X1_beginnings ⟨by decide, by decide⟩ rfl rfl (ga_cat rfl) dX1_spreadOf_8 (Nat.zero_le _) (Nat.zero_le _) rfl (gaX_all hT V) (ga_ki (fun r2 hp1 hw => ?_))
  refine g_istore (lv2 := [some (.ref a0), some (gi a1), some (gi a2), some (gi 0), some (gi a1), some (gi r2), none, none]) V dX1_spreadOf_11 (by decide) rfl rfl rfl ?_
  refine g_iconst V (Int32.ofInt 0) dX1_spreadOf_13 rfl rfl ?_
  refine g_istore (lv2 := [some (.ref a0), some (gi a1), some (gi a2), some (gi 0), some (gi a1), some (gi r2), some (gi 0), none]) V dX1_spreadOf_14 (by decide) rfl rfl rfl ?_
  refine g_less (bs := [true, true, false, true, true, true, true, true]) (lv2 := [some (.ref a0), some (gi a1), none, some (gi 0), some (gi a1), some (gi r2), some (gi 0), none]) rfl ?_
  obtain ⟨z, hw⟩ := hw
  exact h_X1_spreadOf_L16 z a0 a1 0 a1 r2 0 hp1 hw
def w_X3_layByRule_L19 (Q : gaH → Prop) : Nat → (Int → Nat → Nat → Nat → Int → gaH → Prop)
  | 0 => fun _ _ _ _ _ _ => False
  | n + 1 => fun v0 v1 v2 v3 v4 h => gR v4 ∧ gR v0 ∧ (if v0 ≤ v4 then Q h else gHas h v3 3 ∧ w_X2_layImage v3 v1 v2 h (fun hp1 => gHas hp1 v1 4 ∧ w_X4_take v1 v2 hp1 (fun hp3 => w_X3_layByRule_L19 Q n v0 v1 v2 v3 (v4 + 1) hp3)))
def w_X3_layByRule (a0 : Int) (a1 : Nat) (a2 : Nat) (a3 : Nat) (h : gaH) (Q : gaH → Prop) : Prop := gHas h a3 3 ∧ w_X2_take a3 5 6 h (fun hp1 => gHas hp1 a1 4 ∧ w_X4_clear a1 hp1 (fun hp3 => gHas hp3 a1 4 ∧ w_X4_add a1 0 hp3 (fun hp5 => ∃ z, w_X3_layByRule_L19 Q z a0 a1 a2 a3 0 hp5)))
abbrev rm_X3_layByRule : Room := { frames := 3, cells := 0, slots := 0, locals := 69 }
theorem hd_X3_layByRule : (yX3_layByRule.cls ≠ "java/lang/invoke/MethodHandle" ∧ yX3_layByRule.cls ≠ "java/lang/invoke/VarHandle" ∧ (parseMethodDescriptor yX3_layByRule.desc).map (fun d => d.parameters.length) = some 4) := by decide +kernel
theorem k_X3_layByRule {l : Launch} (hst : l.stackTraces = false) {G : gaG} {X : String → gaH → Prop} {a0 : Int} {a1 : Nat} {a2 : Nat} {a3 : Nat} {h : gaH} {Q : gaH → Prop} (hw : w_X3_layByRule a0 a1 a2 a3 h Q) : gaC l G yX3_layByRule (gaM yX3_layByRule cX3_layByRule 5 ((none : Option Jvm.ClassFile.FieldType))) rm_X3_layByRule [gi a0, .ref a1, .ref a2, .ref a3] h (gQv Q) X := by
  refine g_start (lv := [some (gi a0), some (.ref a1), some (.ref a2), some (.ref a3), none]) hpl_RX3 hst (Nat.le_of_ble_eq_true rfl) (gaArgs_pad (z := 1) rfl) ww_3_179 ?_
  intro p e s m args below meth c V hT
  have h_X3_layByRule_L19 : ∀ (n : Nat), ∀ (v0 : Int) (v1 : Nat) (v2 : Nat) (v3 : Nat) (v4 : Int) (h : gaH), w_X3_layByRule_L19 Q n v0 v1 v2 v3 v4 h → gaP p l e rm_X3_layByRule s m args below meth c G 5 (gaZ below G (gQv Q) X args s rm_X3_layByRule) 19 [some (gi v0), some (.ref v1), some (.ref v2), some (.ref v3), some (gi v4)] [] h 0 0 := by
    intro n
    induction n with
    | zero =>
      intro v0 v1 v2 v3 v4 h hw
      exact hw.elim
    | succ n ih =>
      intro v0 v1 v2 v3 v4 h hw
      unfold w_X3_layByRule_L19 at hw
      refine g_iload V dX3_layByRule_19 rfl rfl ?_
      refine g_iload_n V dX3_layByRule_21 rfl rfl ?_
      obtain ⟨hx0, hx1, hw⟩ := hw
      refine gi_icmp_ge V dX3_layByRule_22 rfl rfl hx0 hx1 (fun q => ?_) (fun q => ?_)
      · have hw := ga_t q hw
        exact g_vret V rfl dX3_layByRule_42 ⟨rfl, hw⟩
      · have hw := ga_f q hw
        refine g_aload_n V dX3_layByRule_25 rfl rfl ?_
        refine g_aload_n V dX3_layByRule_26 rfl rfl ?_
        refine g_aload_n V dX3_layByRule_27 rfl rfl ?_
        obtain ⟨hb, hw⟩ := hw
        obtain ⟨fb, hb⟩ := hb
        refine g_callV (C := RX2) (T := TX2) (N := 3) (st := []) V (k_X2_layImage hst hw) ww_3_183 ww_2_40 ww_2_41 ww_1_2 ww_2_42 hd_X2_layImage ⟨by decide, by decide⟩ rfl (by decide) hb rfl rfl (ga_cat rfl) dX3_layByRule_28 (Nat.zero_le _) (Nat.zero_le _) rfl (gaX_all hT V) (ga_kv (fun hp1 hw => ?_))
        refine g_aload_n V dX3_layByRule_31 rfl rfl ?_
        refine g_aload_n V dX3_layByRule_32 rfl rfl ?_
        obtain ⟨hb, hw⟩ := hw
        obtain ⟨fb, hb⟩ := hb
        refine g_callV (C := RX4) (T := TX4) (N := 2) (st := []) V (k_X4_take hst hw) ww_3_184 ww_2_50 ww_2_51 ww_1_3 ww_2_52 hd_X4_take ⟨by decide, by decide⟩ rfl (by decide) hb rfl rfl (ga_cat rfl) dX3_layByRule_33 (Nat.zero_le _) (Nat.zero_le _) rfl (gaX_all hT V) (ga_kv (fun hp3 hw => ?_))
        refine gi_iinc (lv2 := [some (gi v0), some (.ref v1), some (.ref v2), some (.ref v3), some (gi (v4 + 1))]) V dX3_layByRule_36 (by decide) rfl rfl rfl rfl ?_
        refine g_goto V dX3_layByRule_39 rfl ?_
        exact ih v0 v1 v2 v3 (v4 + 1) hp3 hw
  unfold w_X3_layByRule at hw
  refine g_aload_n V dX3_layByRule_0 rfl rfl ?_
  refine g_iconst V (Int32.ofInt 5) dX3_layByRule_1 rfl rfl ?_
  refine g_bipush V (Int32.ofInt 6) dX3_layByRule_2 rfl rfl ?_
  obtain ⟨hb, hw⟩ := hw
  obtain ⟨fb, hb⟩ := hb
  refine g_callV (C := RX2) (T := TX2) (N := 3) (st := []) V (k_X2_take hst hw) ww_3_180 ww_2_32 ww_2_33 ww_1_2 ww_2_34 hd_X2_take ⟨by decide, by decide⟩ rfl (by decide) hb rfl rfl (ga_cat rfl) dX3_layByRule_4 (Nat.zero_le _) (Nat.zero_le _) rfl (gaX_all hT V) (ga_kv (fun hp1 hw => ?_))
  refine g_aload_n V dX3_layByRule_7 rfl rfl ?_
  obtain ⟨hb, hw⟩ := hw
  obtain ⟨fb, hb⟩ := hb
  refine g_callV (C := RX4) (T := TX4) (N := 2) (st := []) V (k_X4_clear hst hw) ww_3_181 ww_1_86 ww_1_87 ww_1_3 ww_1_88 hd_X4_clear ⟨by decide, by decide⟩ rfl (by decide) hb rfl rfl (ga_cat rfl) dX3_layByRule_8 (Nat.zero_le _) (Nat.zero_le _) rfl (gaX_all hT V) (ga_kv (fun hp3 hw => ?_))
  refine g_aload_n V dX3_layByRule_11 rfl rfl ?_
  refine g_iconst V (Int32.ofInt 0) dX3_layByRule_12 rfl rfl ?_
  obtain ⟨hb, hw⟩ := hw
  obtain ⟨fb, hb⟩ := hb
  refine g_callV (C := RX4) (T := TX4) (N := 2) (st := []) V (k_X4_add hst hw) ww_3_182 ww_1_90 ww_1_91 ww_1_3 ww_1_92 hd_X4_add ⟨by decide, by decide⟩ rfl (by decide) hb rfl rfl (ga_cat rfl) dX3_layByRule_13 (Nat.zero_le _) (Nat.zero_le _) rfl (gaX_all hT V) (ga_kv (fun hp5 hw => ?_))
  refine g_iconst V (Int32.ofInt 0) dX3_layByRule_16 rfl rfl ?_
  refine g_istore (lv2 := [some (gi a0), some (.ref a1), some (.ref a2), some (.ref a3), some (gi 0)]) V dX3_layByRule_17 (by decide) rfl rfl rfl ?_
  obtain ⟨z, hw⟩ := hw
  exact h_X3_layByRule_L19 z a0 a1 a2 a3 0 hp5 hw
def w_X3_layByCopies_J45 (Q : gaH → Prop) (K11 : Int → Nat → Int → gaH → Prop) (K24 : Int → Nat → Int → Int → Int → gaH → Prop) (v0 : Int) (v1 : Nat) (v2 : Int) (v3 : Int) (v4 : Int) (t0 : Nat) (t1 : Int) (h : gaH) : Prop := gHas h t0 4 ∧ w_X4_add t0 t1 h (fun hp1 => K24 v0 v1 v2 v3 (v4 + 1) hp1)
def w_X3_layByCopies_L24 (Q : gaH → Prop) (K11 : Int → Nat → Int → gaH → Prop) : Nat → (Int → Nat → Int → Int → Int → gaH → Prop)
  | 0 => fun _ _ _ _ _ _ => False
  | n + 1 => fun v0 v1 v2 v3 v4 h => gR v4 ∧ gR v3 ∧ (if v3 ≤ v4 then K11 v0 v1 (v2 + 1) h else gHas h v1 4 ∧ w_X4_isUp v1 v4 h (fun r2 hp1 => gR r2 ∧ (if r2 = 0 then w_X3_layByCopies_J45 Q K11 (w_X3_layByCopies_L24 Q K11 n) v0 v1 v2 v3 v4 v1 1 hp1 else w_X3_layByCopies_J45 Q K11 (w_X3_layByCopies_L24 Q K11 n) v0 v1 v2 v3 v4 v1 0 hp1)))
def w_X3_layByCopies_L11 (Q : gaH → Prop) : Nat → (Int → Nat → Int → gaH → Prop)
  | 0 => fun _ _ _ _ => False
  | n + 1 => fun v0 v1 v2 h => gR v2 ∧ gR v0 ∧ (if v0 ≤ v2 then Q h else gI h v1 4 1 (fun r1 => ∃ z, w_X3_layByCopies_L24 Q (w_X3_layByCopies_L11 Q n) z v0 v1 v2 r1 0 h))
def w_X3_layByCopies (a0 : Int) (a1 : Nat) (h : gaH) (Q : gaH → Prop) : Prop := gHas h a1 4 ∧ w_X4_clear a1 h (fun hp1 => gHas hp1 a1 4 ∧ w_X4_add a1 0 hp1 (fun hp3 => ∃ z, w_X3_layByCopies_L11 Q z a0 a1 0 hp3))
abbrev rm_X3_layByCopies : Room := { frames := 1, cells := 0, slots := 0, locals := 21 }
theorem hd_X3_layByCopies : (yX3_layByCopies.cls ≠ "java/lang/invoke/MethodHandle" ∧ yX3_layByCopies.cls ≠ "java/lang/invoke/VarHandle" ∧ (parseMethodDescriptor yX3_layByCopies.desc).map (fun d => d.parameters.length) = some 2) := by decide +kernel
theorem k_X3_layByCopies {l : Launch} (hst : l.stackTraces = false) {G : gaG} {X : String → gaH → Prop} {a0 : Int} {a1 : Nat} {h : gaH} {Q : gaH → Prop} (hw : w_X3_layByCopies a0 a1 h Q) : gaC l G yX3_layByCopies (gaM yX3_layByCopies cX3_layByCopies 5 ((none : Option Jvm.ClassFile.FieldType))) rm_X3_layByCopies [gi a0, .ref a1] h (gQv Q) X := by
  refine g_start (lv := [some (gi a0), some (.ref a1), none, none, none]) hpl_RX3 hst (Nat.le_of_ble_eq_true rfl) (gaArgs_pad (z := 3) rfl) ww_3_187 ?_
  intro p e s m args below meth c V hT
  have h_X3_layByCopies_J45 : ∀ (K11 : Int → Nat → Int → gaH → Prop), ∀ (K24 : Int → Nat → Int → Int → Int → gaH → Prop), ∀ (hK11 : ∀ (v0 : Int) (v1 : Nat) (v2 : Int) (h : gaH), K11 v0 v1 v2 h → gaP p l e rm_X3_layByCopies s m args below meth c G 5 (gaZ below G (gQv Q) X args s rm_X3_layByCopies) 11 [some (gi v0), some (.ref v1), some (gi v2), none, none] [] h 0 0), ∀ (hK24 : ∀ (v0 : Int) (v1 : Nat) (v2 : Int) (v3 : Int) (v4 : Int) (h : gaH), K24 v0 v1 v2 v3 v4 h → gaP p l e rm_X3_layByCopies s m args below meth c G 5 (gaZ below G (gQv Q) X args s rm_X3_layByCopies) 24 [some (gi v0), some (.ref v1), some (gi v2), some (gi v3), some (gi v4)] [] h 0 0), ∀ (v0 : Int) (v1 : Nat) (v2 : Int) (v3 : Int) (v4 : Int) (t0 : Nat) (t1 : Int) (h : gaH), w_X3_layByCopies_J45 Q K11 K24 v0 v1 v2 v3 v4 t0 t1 h → gaP p l e rm_X3_layByCopies s m args below meth c G 5 (gaZ below G (gQv Q) X args s rm_X3_layByCopies) 45 [some (gi v0), some (.ref v1), some (gi v2), some (gi v3), some (gi v4)] [gi t1, .ref t0] h 0 0 := by
    intro K11 K24 hK11 hK24
    intro v0 v1 v2 v3 v4 t0 t1 h hw
    unfold w_X3_layByCopies_J45 at hw
    obtain ⟨hb, hw⟩ := hw
    obtain ⟨fb, hb⟩ := hb
    refine g_callV (C := RX4) (T := TX4) (N := 2) (st := []) V (k_X4_add hst hw) ww_3_182 ww_1_90 ww_1_91 ww_1_3 ww_1_92 hd_X4_add ⟨by decide, by decide⟩ rfl (by decide) hb rfl rfl (ga_cat rfl) dX3_layByCopies_45 (Nat.zero_le _) (Nat.zero_le _) rfl (gaX_all hT V) (ga_kv (fun hp1 hw => ?_))
    refine gi_iinc (lv2 := [some (gi v0), some (.ref v1), some (gi v2), some (gi v3), some (gi (v4 + 1))]) V dX3_layByCopies_48 (by decide) rfl rfl rfl rfl ?_
    refine g_goto V dX3_layByCopies_51 rfl ?_
    exact hK24 v0 v1 v2 v3 (v4 + 1) hp1 hw
  have h_X3_layByCopies_L24 : ∀ (K11 : Int → Nat → Int → gaH → Prop), ∀ (hK11 : ∀ (v0 : Int) (v1 : Nat) (v2 : Int) (h : gaH), K11 v0 v1 v2 h → gaP p l e rm_X3_layByCopies s m args below meth c G 5 (gaZ below G (gQv Q) X args s rm_X3_layByCopies) 11 [some (gi v0), some (.ref v1), some (gi v2), none, none] [] h 0 0), ∀ (n : Nat), ∀ (v0 : Int) (v1 : Nat) (v2 : Int) (v3 : Int) (v4 : Int) (h : gaH), w_X3_layByCopies_L24 Q K11 n v0 v1 v2 v3 v4 h → gaP p l e rm_X3_layByCopies s m args below meth c G 5 (gaZ below G (gQv Q) X args s rm_X3_layByCopies) 24 [some (gi v0), some (.ref v1), some (gi v2), some (gi v3), some (gi v4)] [] h 0 0 := by
    intro K11 hK11
    intro n
    induction n with
    | zero =>
      intro v0 v1 v2 v3 v4 h hw
      exact hw.elim
    | succ n ih =>
      intro v0 v1 v2 v3 v4 h hw
      unfold w_X3_layByCopies_L24 at hw
      refine g_iload V dX3_layByCopies_24 rfl rfl ?_
      refine g_iload_n V dX3_layByCopies_26 rfl rfl ?_
      obtain ⟨hx0, hx1, hw⟩ := hw
      refine gi_icmp_ge V dX3_layByCopies_27 rfl rfl hx0 hx1 (fun q => ?_) (fun q => ?_)
      · have hw := ga_t q hw
        refine gi_iinc (lv2 := [some (gi v0), some (.ref v1), some (gi (v2 + 1)), some (gi v3), some (gi v4)]) V dX3_layByCopies_54 (by decide) rfl rfl rfl rfl ?_
        refine g_goto V dX3_layByCopies_57 rfl ?_
        refine g_less (bs := [true, true, true, false, false]) (lv2 := [some (gi v0), some (.ref v1), some (gi (v2 + 1)), none, none]) rfl ?_
        exact hK11 v0 v1 (v2 + 1) h hw
      · have hw := ga_f q hw
        refine g_aload_n V dX3_layByCopies_30 rfl rfl ?_
        refine g_aload_n V dX3_layByCopies_31 rfl rfl ?_
        refine g_iload V dX3_layByCopies_32 rfl rfl ?_
        obtain ⟨hb, hw⟩ := hw
        obtain ⟨fb, hb⟩ := hb
        refine g_callV (C := RX4) (T := TX4) (N := 2) (st := [.ref v1]) V (k_X4_isUp hst hw) ww_3_188 ww_1_228 ww_1_229 ww_1_3 ww_1_230 hd_X4_isUp ⟨by decide, by decide⟩ rfl (by decide) hb rfl rfl (ga_cat rfl) dX3_layByCopies_34 (Nat.zero_le _) (Nat.zero_le _) rfl (gaX_all hT V) (ga_ki (fun r2 hp1 hw => ?_))
        obtain ⟨hx0, hw⟩ := hw
        refine gi_if_ne V dX3_layByCopies_37 rfl rfl hx0 (fun q => ?_) (fun q => ?_)
        · have hw := ga_f q hw
          refine g_iconst V (Int32.ofInt 0) dX3_layByCopies_44 rfl rfl ?_
          exact h_X3_layByCopies_J45 K11 (w_X3_layByCopies_L24 Q K11 n) hK11 ih v0 v1 v2 v3 v4 v1 0 hp1 hw
        · have hw := ga_t q hw
          refine g_iconst V (Int32.ofInt 1) dX3_layByCopies_40 rfl rfl ?_
          refine g_goto V dX3_layByCopies_41 rfl ?_
          exact h_X3_layByCopies_J45 K11 (w_X3_layByCopies_L24 Q K11 n) hK11 ih v0 v1 v2 v3 v4 v1 1 hp1 hw
  have h_X3_layByCopies_L11 : ∀ (n : Nat), ∀ (v0 : Int) (v1 : Nat) (v2 : Int) (h : gaH), w_X3_layByCopies_L11 Q n v0 v1 v2 h → gaP p l e rm_X3_layByCopies s m args below meth c G 5 (gaZ below G (gQv Q) X args s rm_X3_layByCopies) 11 [some (gi v0), some (.ref v1), some (gi v2), none, none] [] h 0 0 := by
    intro n
    induction n with
    | zero =>
      intro v0 v1 v2 h hw
      exact hw.elim
    | succ n ih =>
      intro v0 v1 v2 h hw
      unfold w_X3_layByCopies_L11 at hw
      refine g_iload_n V dX3_layByCopies_11 rfl rfl ?_
      refine g_iload_n V dX3_layByCopies_12 rfl rfl ?_
      obtain ⟨hx0, hx1, hw⟩ := hw
      refine gi_icmp_ge V dX3_layByCopies_13 rfl rfl hx0 hx1 (fun q => ?_) (fun q => ?_)
      · have hw := ga_t q hw
        exact g_vret V rfl dX3_layByCopies_60 ⟨rfl, hw⟩
      · have hw := ga_f q hw
        refine g_aload_n V dX3_layByCopies_16 rfl rfl ?_
        obtain ⟨fs, r1, ha, hv, hw⟩ := hw
        refine g_getN (C := RX4) (T := TX4) (N := 2) (host := "Wordgarden") V 1 rfl hin_RX4 (by decide) (by decide) gn_4 rfl ha hv dX3_layByCopies_17 rfl ?_
        refine g_istore_n (lv2 := [some (gi v0), some (.ref v1), some (gi v2), some (gi r1), none]) V dX3_layByCopies_20 (by decide) rfl rfl rfl ?_
        refine g_iconst V (Int32.ofInt 0) dX3_layByCopies_21 rfl rfl ?_
        refine g_istore (lv2 := [some (gi v0), some (.ref v1), some (gi v2), some (gi r1), some (gi 0)]) V dX3_layByCopies_22 (by decide) rfl rfl rfl ?_
        obtain ⟨z, hw⟩ := hw
        exact h_X3_layByCopies_L24 (w_X3_layByCopies_L11 Q n) ih z v0 v1 v2 r1 0 h hw
  unfold w_X3_layByCopies at hw
  refine g_aload_n V dX3_layByCopies_0 rfl rfl ?_
  obtain ⟨hb, hw⟩ := hw
  obtain ⟨fb, hb⟩ := hb
  refine g_callV (C := RX4) (T := TX4) (N := 2) (st := []) V (k_X4_clear hst hw) ww_3_181 ww_1_86 ww_1_87 ww_1_3 ww_1_88 hd_X4_clear ⟨by decide, by decide⟩ rfl (by decide) hb rfl rfl (ga_cat rfl) dX3_layByCopies_1 (Nat.zero_le _) (Nat.zero_le _) rfl (gaX_all hT V) (ga_kv (fun hp1 hw => ?_))
  refine g_aload_n V dX3_layByCopies_4 rfl rfl ?_
  refine g_iconst V (Int32.ofInt 0) dX3_layByCopies_5 rfl rfl ?_
  obtain ⟨hb, hw⟩ := hw
  obtain ⟨fb, hb⟩ := hb
  refine g_callV (C := RX4) (T := TX4) (N := 2) (st := []) V (k_X4_add hst hw) ww_3_182 ww_1_90 ww_1_91 ww_1_3 ww_1_92 hd_X4_add ⟨by decide, by decide⟩ rfl (by decide) hb rfl rfl (ga_cat rfl) dX3_layByCopies_6 (Nat.zero_le _) (Nat.zero_le _) rfl (gaX_all hT V) (ga_kv (fun hp3 hw => ?_))
  refine g_iconst V (Int32.ofInt 0) dX3_layByCopies_9 rfl rfl ?_
  refine g_istore_n (lv2 := [some (gi a0), some (.ref a1), some (gi 0), none, none]) V dX3_layByCopies_10 (by decide) rfl rfl rfl ?_
  obtain ⟨z, hw⟩ := hw
  exact h_X3_layByCopies_L11 z a0 a1 0 hp3 hw
def w_J6_bitCount_0f7a4 (a0 : Int) (h : gaH) (Q : Int → gaH → Prop) : Prop := Q (gAnd (((gAnd (((gAnd (a0 - (gAnd (gUshr a0 1) 1431655765)) 858993459) + (gAnd (gUshr (a0 - (gAnd (gUshr a0 1) 1431655765)) 2) 858993459)) + (gUshr ((gAnd (a0 - (gAnd (gUshr a0 1) 1431655765)) 858993459) + (gAnd (gUshr (a0 - (gAnd (gUshr a0 1) 1431655765)) 2) 858993459)) 4)) 252645135) + (gUshr (gAnd (((gAnd (a0 - (gAnd (gUshr a0 1) 1431655765)) 858993459) + (gAnd (gUshr (a0 - (gAnd (gUshr a0 1) 1431655765)) 2) 858993459)) + (gUshr ((gAnd (a0 - (gAnd (gUshr a0 1) 1431655765)) 858993459) + (gAnd (gUshr (a0 - (gAnd (gUshr a0 1) 1431655765)) 2) 858993459)) 4)) 252645135) 8)) + (gUshr ((gAnd (((gAnd (a0 - (gAnd (gUshr a0 1) 1431655765)) 858993459) + (gAnd (gUshr (a0 - (gAnd (gUshr a0 1) 1431655765)) 2) 858993459)) + (gUshr ((gAnd (a0 - (gAnd (gUshr a0 1) 1431655765)) 858993459) + (gAnd (gUshr (a0 - (gAnd (gUshr a0 1) 1431655765)) 2) 858993459)) 4)) 252645135) + (gUshr (gAnd (((gAnd (a0 - (gAnd (gUshr a0 1) 1431655765)) 858993459) + (gAnd (gUshr (a0 - (gAnd (gUshr a0 1) 1431655765)) 2) 858993459)) + (gUshr ((gAnd (a0 - (gAnd (gUshr a0 1) 1431655765)) 858993459) + (gAnd (gUshr (a0 - (gAnd (gUshr a0 1) 1431655765)) 2) 858993459)) 4)) 252645135) 8)) 16)) 63) h
abbrev rm_J6_bitCount_0f7a4 : Room := { frames := 0, cells := 0, slots := 0, locals := 0 }
theorem hd_J6_bitCount_0f7a4 : (yJ6_bitCount_0f7a4.cls ≠ "java/lang/invoke/MethodHandle" ∧ yJ6_bitCount_0f7a4.cls ≠ "java/lang/invoke/VarHandle" ∧ (parseMethodDescriptor yJ6_bitCount_0f7a4.desc).map (fun d => d.parameters.length) = some 1) := by decide +kernel
theorem k_J6_bitCount_0f7a4 {l : Launch} (hst : l.stackTraces = false) {G : gaG} {X : String → gaH → Prop} {a0 : Int} {h : gaH} {Q : Int → gaH → Prop} (hw : w_J6_bitCount_0f7a4 a0 h Q) : gaC l G yJ6_bitCount_0f7a4 (gaM yJ6_bitCount_0f7a4 cJ6_bitCount_0f7a4 1 ((some .int))) rm_J6_bitCount_0f7a4 [gi a0] h (gQi Q) X := by
  refine g_start (lv := [some (gi a0)]) hpl_RJ6 hst (Nat.le_of_ble_eq_true rfl) (gaArgs_pad (z := 0) rfl) ww_3_194 ?_
  intro p e s m args below meth c V hT
  unfold w_J6_bitCount_0f7a4 at hw
  refine g_iload_n V dJ6_bitCount_0f7a4_0 rfl rfl ?_
  refine g_iload_n V dJ6_bitCount_0f7a4_1 rfl rfl ?_
  refine g_iconst V (Int32.ofInt 1) dJ6_bitCount_0f7a4_2 rfl rfl ?_
  refine gi_iushr V dJ6_bitCount_0f7a4_3 rfl ?_
  refine g_ldcw V (Int32.ofInt 1431655765) dJ6_bitCount_0f7a4_4 ww_3_195 rfl ?_
  refine gi_iand V dJ6_bitCount_0f7a4_7 rfl ?_
  refine gi_isub V dJ6_bitCount_0f7a4_8 rfl ?_
  refine g_istore_n (lv2 := [some (gi (a0 - (gAnd (gUshr a0 1) 1431655765)))]) V dJ6_bitCount_0f7a4_9 (by decide) rfl rfl rfl ?_
  refine g_iload_n V dJ6_bitCount_0f7a4_10 rfl rfl ?_
  refine g_ldcw V (Int32.ofInt 858993459) dJ6_bitCount_0f7a4_11 ww_3_196 rfl ?_
  refine gi_iand V dJ6_bitCount_0f7a4_14 rfl ?_
  refine g_iload_n V dJ6_bitCount_0f7a4_15 rfl rfl ?_
  refine g_iconst V (Int32.ofInt 2) dJ6_bitCount_0f7a4_16 rfl rfl ?_
  refine gi_iushr V dJ6_bitCount_0f7a4_17 rfl ?_
  refine g_ldcw V (Int32.ofInt 858993459) dJ6_bitCount_0f7a4_18 ww_3_196 rfl ?_
  refine gi_iand V dJ6_bitCount_0f7a4_21 rfl ?_
  refine gi_iadd V dJ6_bitCount_0f7a4_22 rfl ?_
  refine g_istore_n (lv2 := [some (gi ((gAnd (a0 - (gAnd (gUshr a0 1) 1431655765)) 858993459) + (gAnd (gUshr (a0 - (gAnd (gUshr a0 1) 1431655765)) 2) 858993459)))]) V dJ6_bitCount_0f7a4_23 (by decide) rfl rfl rfl ?_
  refine g_iload_n V dJ6_bitCount_0f7a4_24 rfl rfl ?_
  refine g_iload_n V dJ6_bitCount_0f7a4_25 rfl rfl ?_
  refine g_iconst V (Int32.ofInt 4) dJ6_bitCount_0f7a4_26 rfl rfl ?_
  refine gi_iushr V dJ6_bitCount_0f7a4_27 rfl ?_
  refine gi_iadd V dJ6_bitCount_0f7a4_28 rfl ?_
  refine g_ldcw V (Int32.ofInt 252645135) dJ6_bitCount_0f7a4_29 ww_3_197 rfl ?_
  refine gi_iand V dJ6_bitCount_0f7a4_32 rfl ?_
  refine g_istore_n (lv2 := [some (gi (gAnd (((gAnd (a0 - (gAnd (gUshr a0 1) 1431655765)) 858993459) + (gAnd (gUshr (a0 - (gAnd (gUshr a0 1) 1431655765)) 2) 858993459)) + (gUshr ((gAnd (a0 - (gAnd (gUshr a0 1) 1431655765)) 858993459) + (gAnd (gUshr (a0 - (gAnd (gUshr a0 1) 1431655765)) 2) 858993459)) 4)) 252645135))]) V dJ6_bitCount_0f7a4_33 (by decide) rfl rfl rfl ?_
  refine g_iload_n V dJ6_bitCount_0f7a4_34 rfl rfl ?_
  refine g_iload_n V dJ6_bitCount_0f7a4_35 rfl rfl ?_
  refine g_bipush V (Int32.ofInt 8) dJ6_bitCount_0f7a4_36 rfl rfl ?_
  refine gi_iushr V dJ6_bitCount_0f7a4_38 rfl ?_
  refine gi_iadd V dJ6_bitCount_0f7a4_39 rfl ?_
  refine g_istore_n (lv2 := [some (gi ((gAnd (((gAnd (a0 - (gAnd (gUshr a0 1) 1431655765)) 858993459) + (gAnd (gUshr (a0 - (gAnd (gUshr a0 1) 1431655765)) 2) 858993459)) + (gUshr ((gAnd (a0 - (gAnd (gUshr a0 1) 1431655765)) 858993459) + (gAnd (gUshr (a0 - (gAnd (gUshr a0 1) 1431655765)) 2) 858993459)) 4)) 252645135) + (gUshr (gAnd (((gAnd (a0 - (gAnd (gUshr a0 1) 1431655765)) 858993459) + (gAnd (gUshr (a0 - (gAnd (gUshr a0 1) 1431655765)) 2) 858993459)) + (gUshr ((gAnd (a0 - (gAnd (gUshr a0 1) 1431655765)) 858993459) + (gAnd (gUshr (a0 - (gAnd (gUshr a0 1) 1431655765)) 2) 858993459)) 4)) 252645135) 8)))]) V dJ6_bitCount_0f7a4_40 (by decide) rfl rfl rfl ?_
  refine g_iload_n V dJ6_bitCount_0f7a4_41 rfl rfl ?_
  refine g_iload_n V dJ6_bitCount_0f7a4_42 rfl rfl ?_
  refine g_bipush V (Int32.ofInt 16) dJ6_bitCount_0f7a4_43 rfl rfl ?_
  refine gi_iushr V dJ6_bitCount_0f7a4_45 rfl ?_
  refine gi_iadd V dJ6_bitCount_0f7a4_46 rfl ?_
  refine g_istore_n (lv2 := [some (gi (((gAnd (((gAnd (a0 - (gAnd (gUshr a0 1) 1431655765)) 858993459) + (gAnd (gUshr (a0 - (gAnd (gUshr a0 1) 1431655765)) 2) 858993459)) + (gUshr ((gAnd (a0 - (gAnd (gUshr a0 1) 1431655765)) 858993459) + (gAnd (gUshr (a0 - (gAnd (gUshr a0 1) 1431655765)) 2) 858993459)) 4)) 252645135) + (gUshr (gAnd (((gAnd (a0 - (gAnd (gUshr a0 1) 1431655765)) 858993459) + (gAnd (gUshr (a0 - (gAnd (gUshr a0 1) 1431655765)) 2) 858993459)) + (gUshr ((gAnd (a0 - (gAnd (gUshr a0 1) 1431655765)) 858993459) + (gAnd (gUshr (a0 - (gAnd (gUshr a0 1) 1431655765)) 2) 858993459)) 4)) 252645135) 8)) + (gUshr ((gAnd (((gAnd (a0 - (gAnd (gUshr a0 1) 1431655765)) 858993459) + (gAnd (gUshr (a0 - (gAnd (gUshr a0 1) 1431655765)) 2) 858993459)) + (gUshr ((gAnd (a0 - (gAnd (gUshr a0 1) 1431655765)) 858993459) + (gAnd (gUshr (a0 - (gAnd (gUshr a0 1) 1431655765)) 2) 858993459)) 4)) 252645135) + (gUshr (gAnd (((gAnd (a0 - (gAnd (gUshr a0 1) 1431655765)) 858993459) + (gAnd (gUshr (a0 - (gAnd (gUshr a0 1) 1431655765)) 2) 858993459)) + (gUshr ((gAnd (a0 - (gAnd (gUshr a0 1) 1431655765)) 858993459) + (gAnd (gUshr (a0 - (gAnd (gUshr a0 1) 1431655765)) 2) 858993459)) 4)) 252645135) 8)) 16)))]) V dJ6_bitCount_0f7a4_47 (by decide) rfl rfl rfl ?_
  refine g_iload_n V dJ6_bitCount_0f7a4_48 rfl rfl ?_
  refine g_bipush V (Int32.ofInt 63) dJ6_bitCount_0f7a4_49 rfl rfl ?_
  refine gi_iand V dJ6_bitCount_0f7a4_51 rfl ?_
  exact g_iret V rfl rfl dJ6_bitCount_0f7a4_52 ⟨_, rfl, hw⟩
def w_X3_laySignBySign_J29 (Q : gaH → Prop) (K6 : Int → Nat → Int → gaH → Prop) (v0 : Int) (v1 : Nat) (v2 : Int) (t0 : Nat) (t1 : Int) (h : gaH) : Prop := gHas h t0 4 ∧ w_X4_add t0 t1 h (fun hp1 => K6 v0 v1 (v2 + 1) hp1)
def w_X3_laySignBySign_L6 (Q : gaH → Prop) : Nat → (Int → Nat → Int → gaH → Prop)
  | 0 => fun _ _ _ _ => False
  | n + 1 => fun v0 v1 v2 h => gR v2 ∧ gR (gShl 1 v0) ∧ (if (gShl 1 v0) ≤ v2 then Q h else w_J6_bitCount_0f7a4 v2 h (fun r2 hp1 => gR (gAnd r2 1) ∧ (if (gAnd r2 1) = 1 then w_X3_laySignBySign_J29 Q (w_X3_laySignBySign_L6 Q n) v0 v1 v2 v1 1 hp1 else w_X3_laySignBySign_J29 Q (w_X3_laySignBySign_L6 Q n) v0 v1 v2 v1 0 hp1)))
def w_X3_laySignBySign (a0 : Int) (a1 : Nat) (h : gaH) (Q : gaH → Prop) : Prop := gHas h a1 4 ∧ w_X4_clear a1 h (fun hp1 => ∃ z, w_X3_laySignBySign_L6 Q z a0 a1 0 hp1)
abbrev rm_X3_laySignBySign : Room := { frames := 1, cells := 0, slots := 0, locals := 21 }
theorem hd_X3_laySignBySign : (yX3_laySignBySign.cls ≠ "java/lang/invoke/MethodHandle" ∧ yX3_laySignBySign.cls ≠ "java/lang/invoke/VarHandle" ∧ (parseMethodDescriptor yX3_laySignBySign.desc).map (fun d => d.parameters.length) = some 2) := by decide +kernel
theorem k_X3_laySignBySign {l : Launch} (hst : l.stackTraces = false) {G : gaG} {X : String → gaH → Prop} {a0 : Int} {a1 : Nat} {h : gaH} {Q : gaH → Prop} (hw : w_X3_laySignBySign a0 a1 h Q) : gaC l G yX3_laySignBySign (gaM yX3_laySignBySign cX3_laySignBySign 3 ((none : Option Jvm.ClassFile.FieldType))) rm_X3_laySignBySign [gi a0, .ref a1] h (gQv Q) X := by
  refine g_start (lv := [some (gi a0), some (.ref a1), none]) hpl_RX3 hst (Nat.le_of_ble_eq_true rfl) (gaArgs_pad (z := 1) rfl) ww_3_191 ?_
  intro p e s m args below meth c V hT
  have h_X3_laySignBySign_J29 : ∀ (K6 : Int → Nat → Int → gaH → Prop), ∀ (hK6 : ∀ (v0 : Int) (v1 : Nat) (v2 : Int) (h : gaH), K6 v0 v1 v2 h → gaP p l e rm_X3_laySignBySign s m args below meth c G 3 (gaZ below G (gQv Q) X args s rm_X3_laySignBySign) 6 [some (gi v0), some (.ref v1), some (gi v2)] [] h 0 0), ∀ (v0 : Int) (v1 : Nat) (v2 : Int) (t0 : Nat) (t1 : Int) (h : gaH), w_X3_laySignBySign_J29 Q K6 v0 v1 v2 t0 t1 h → gaP p l e rm_X3_laySignBySign s m args below meth c G 3 (gaZ below G (gQv Q) X args s rm_X3_laySignBySign) 29 [some (gi v0), some (.ref v1), some (gi v2)] [gi t1, .ref t0] h 0 0 := by
    intro K6 hK6
    intro v0 v1 v2 t0 t1 h hw
    unfold w_X3_laySignBySign_J29 at hw
    obtain ⟨hb, hw⟩ := hw
    obtain ⟨fb, hb⟩ := hb
    refine g_callV (C := RX4) (T := TX4) (N := 2) (st := []) V (k_X4_add hst hw) ww_3_182 ww_1_90 ww_1_91 ww_1_3 ww_1_92 hd_X4_add ⟨by decide, by decide⟩ rfl (by decide) hb rfl rfl (ga_cat rfl) dX3_laySignBySign_29 (Nat.zero_le _) (Nat.zero_le _) rfl (gaX_all hT V) (ga_kv (fun hp1 hw => ?_))
    refine gi_iinc (lv2 := [some (gi v0), some (.ref v1), some (gi (v2 + 1))]) V dX3_laySignBySign_32 (by decide) rfl rfl rfl rfl ?_
    refine g_goto V dX3_laySignBySign_35 rfl ?_
    exact hK6 v0 v1 (v2 + 1) hp1 hw
  have h_X3_laySignBySign_L6 : ∀ (n : Nat), ∀ (v0 : Int) (v1 : Nat) (v2 : Int) (h : gaH), w_X3_laySignBySign_L6 Q n v0 v1 v2 h → gaP p l e rm_X3_laySignBySign s m args below meth c G 3 (gaZ below G (gQv Q) X args s rm_X3_laySignBySign) 6 [some (gi v0), some (.ref v1), some (gi v2)] [] h 0 0 := by
    intro n
    induction n with
    | zero =>
      intro v0 v1 v2 h hw
      exact hw.elim
    | succ n ih =>
      intro v0 v1 v2 h hw
      unfold w_X3_laySignBySign_L6 at hw
      refine g_iload_n V dX3_laySignBySign_6 rfl rfl ?_
      refine g_iconst V (Int32.ofInt 1) dX3_laySignBySign_7 rfl rfl ?_
      refine g_iload_n V dX3_laySignBySign_8 rfl rfl ?_
      refine gi_ishl V dX3_laySignBySign_9 rfl ?_
      obtain ⟨hx0, hx1, hw⟩ := hw
      refine gi_icmp_ge V dX3_laySignBySign_10 rfl rfl hx0 hx1 (fun q => ?_) (fun q => ?_)
      · have hw := ga_t q hw
        exact g_vret V rfl dX3_laySignBySign_38 ⟨rfl, hw⟩
      · have hw := ga_f q hw
        refine g_aload_n V dX3_laySignBySign_13 rfl rfl ?_
        refine g_iload_n V dX3_laySignBySign_14 rfl rfl ?_
        refine g_callS (st := [.ref v1]) V (k_J6_bitCount_0f7a4 hst hw) ww_3_192 ww_3_193 ww_1_14 ww_3_194 hd_J6_bitCount_0f7a4 ⟨by decide, by decide⟩ rfl rfl (ga_cat rfl) dX3_laySignBySign_15 (Nat.zero_le _) (Nat.zero_le _) rfl (gaX_all hT V) (ga_ki (fun r2 hp1 hw => ?_))
        refine g_iconst V (Int32.ofInt 1) dX3_laySignBySign_18 rfl rfl ?_
        refine gi_iand V dX3_laySignBySign_19 rfl ?_
        refine g_iconst V (Int32.ofInt 1) dX3_laySignBySign_20 rfl rfl ?_
        obtain ⟨hx0, hw⟩ := hw
        refine gi_icmp_ne V dX3_laySignBySign_21 rfl rfl hx0 (by decide) (fun q => ?_) (fun q => ?_)
        · have hw := ga_f q hw
          refine g_iconst V (Int32.ofInt 0) dX3_laySignBySign_28 rfl rfl ?_
          exact h_X3_laySignBySign_J29 (w_X3_laySignBySign_L6 Q n) ih v0 v1 v2 v1 0 hp1 hw
        · have hw := ga_t q hw
          refine g_iconst V (Int32.ofInt 1) dX3_laySignBySign_24 rfl rfl ?_
          refine g_goto V dX3_laySignBySign_25 rfl ?_
          exact h_X3_laySignBySign_J29 (w_X3_laySignBySign_L6 Q n) ih v0 v1 v2 v1 1 hp1 hw
  unfold w_X3_laySignBySign at hw
  refine g_aload_n V dX3_laySignBySign_0 rfl rfl ?_
  obtain ⟨hb, hw⟩ := hw
  obtain ⟨fb, hb⟩ := hb
  refine g_callV (C := RX4) (T := TX4) (N := 2) (st := []) V (k_X4_clear hst hw) ww_3_181 ww_1_86 ww_1_87 ww_1_3 ww_1_88 hd_X4_clear ⟨by decide, by decide⟩ rfl (by decide) hb rfl rfl (ga_cat rfl) dX3_laySignBySign_1 (Nat.zero_le _) (Nat.zero_le _) rfl (gaX_all hT V) (ga_kv (fun hp1 hw => ?_))
  refine g_iconst V (Int32.ofInt 0) dX3_laySignBySign_4 rfl rfl ?_
  refine g_istore_n (lv2 := [some (gi a0), some (.ref a1), some (gi 0)]) V dX3_laySignBySign_5 (by decide) rfl rfl rfl ?_
  obtain ⟨z, hw⟩ := hw
  exact h_X3_laySignBySign_L6 z a0 a1 0 hp1 hw
def w_X2_isMarked (a0 : Nat) (a1 : Int) (h : gaH) (Q : Int → gaH → Prop) : Prop := gR a1 ∧ (if a1 < 0 then Q 0 h else gA h a0 3 2 (fun r1 => gAL h r1 100 (fun r2 => gR a1 ∧ gR r2 ∧ (if r2 ≤ a1 then Q 0 h else gA h a0 3 2 (fun r3 => gLI h r3 100 a1 (fun r4 => gR r4 ∧ (if r4 = 0 then Q 0 h else Q 1 h)))))))
abbrev rm_X2_isMarked : Room := { frames := 0, cells := 0, slots := 0, locals := 0 }
theorem hd_X2_isMarked : yX2_isMarked.cls = RX2 ∧ (yX2_isMarked.cls ≠ "java/lang/invoke/MethodHandle" ∧ yX2_isMarked.cls ≠ "java/lang/invoke/VarHandle" ∧ (parseMethodDescriptor yX2_isMarked.desc).map (fun d => d.parameters.length) = some 1) := by decide +kernel
theorem k_X2_isMarked {l : Launch} (hst : l.stackTraces = false) {G : gaG} {X : String → gaH → Prop} {a0 : Nat} {a1 : Int} {h : gaH} {Q : Int → gaH → Prop} (hw : w_X2_isMarked a0 a1 h Q) : gaC l G yX2_isMarked (gaM yX2_isMarked cX2_isMarked 2 ((some .boolean))) rm_X2_isMarked [.ref a0, gi a1] h (gQi Q) X := by
  refine g_start (lv := [some (.ref a0), some (gi a1)]) hpl_RX2 hst (Nat.le_of_ble_eq_true rfl) (gaArgs_pad (z := 0) rfl) ww_3_161 ?_
  intro p e s m args below meth c V hT
  unfold w_X2_isMarked at hw
  refine g_iload_n V dX2_isMarked_0 rfl rfl ?_
  obtain ⟨hx0, hw⟩ := hw
  refine gi_if_lt V dX2_isMarked_1 rfl rfl hx0 (fun q => ?_) (fun q => ?_)
  · have hw := ga_t q hw
    refine g_iconst V (Int32.ofInt 0) dX2_isMarked_26 rfl rfl ?_
    exact g_iret V rfl rfl dX2_isMarked_27 ⟨_, rfl, hw⟩
  · have hw := ga_f q hw
    refine g_iload_n V dX2_isMarked_4 rfl rfl ?_
    refine g_aload_n V dX2_isMarked_5 rfl rfl ?_
    obtain ⟨fs, r1, ha, hv, hw⟩ := hw
    refine g_get (C := RX2) (T := TX2) (N := 3) V 2 rfl hin_RX2 (by decide) (by decide) ww_1_65 rfl ha hv dX2_isMarked_6 rfl ?_
    obtain ⟨t9, vs, ha, ht, hw⟩ := hw
    refine gi_arraylength (t0 := 100) V (by simp [gaT]) ha ht dX2_isMarked_9 rfl ?_
    generalize (vs.length : Int) = r2 at hw ⊢
    obtain ⟨hx0, hx1, hw⟩ := hw
    refine gi_icmp_ge V dX2_isMarked_10 rfl rfl hx0 hx1 (fun q => ?_) (fun q => ?_)
    · have hw := ga_t q hw
      refine g_iconst V (Int32.ofInt 0) dX2_isMarked_26 rfl rfl ?_
      exact g_iret V rfl rfl dX2_isMarked_27 ⟨_, rfl, hw⟩
    · have hw := ga_f q hw
      refine g_aload_n V dX2_isMarked_13 rfl rfl ?_
      obtain ⟨fs, r3, ha, hv, hw⟩ := hw
      refine g_get (C := RX2) (T := TX2) (N := 3) V 2 rfl hin_RX2 (by decide) (by decide) ww_1_65 rfl ha hv dX2_isMarked_14 rfl ?_
      refine g_iload_n V dX2_isMarked_17 rfl rfl ?_
      obtain ⟨t9, vs, r4, ha, ht, h0, h9, hv, hw⟩ := hw
      refine gi_baloadZ V ha ht h0 h9 hv dX2_isMarked_18 rfl ?_
      obtain ⟨hx0, hw⟩ := hw
      refine gi_if_eq V dX2_isMarked_19 rfl rfl hx0 (fun q => ?_) (fun q => ?_)
      · have hw := ga_t q hw
        refine g_iconst V (Int32.ofInt 0) dX2_isMarked_26 rfl rfl ?_
        exact g_iret V rfl rfl dX2_isMarked_27 ⟨_, rfl, hw⟩
      · have hw := ga_f q hw
        refine g_iconst V (Int32.ofInt 1) dX2_isMarked_22 rfl rfl ?_
        refine g_goto V dX2_isMarked_23 rfl ?_
        exact g_iret V rfl rfl dX2_isMarked_27 ⟨_, rfl, hw⟩
def w_X2_goesOn (a0 : Nat) (a1 : Nat) (a2 : Int) (a3 : Nat) (h : gaH) (Q : Int → gaH → Prop) : Prop := w_X1_standsAt a1 a2 a3 h (fun r2 hp1 => gR r2 ∧ (if r2 = 0 then Q 0 hp1 else gI hp1 a3 4 1 (fun r3 => gHas hp1 a0 3 ∧ w_X2_isMarked a0 (a2 + r3) hp1 (fun r5 hp4 => gR r5 ∧ (if r5 = 0 then Q 0 hp4 else Q 1 hp4)))))
abbrev rm_X2_goesOn : Room := { frames := 2, cells := 0, slots := 0, locals := 44 }
theorem hd_X2_goesOn : yX2_goesOn.cls = RX2 ∧ (yX2_goesOn.cls ≠ "java/lang/invoke/MethodHandle" ∧ yX2_goesOn.cls ≠ "java/lang/invoke/VarHandle" ∧ (parseMethodDescriptor yX2_goesOn.desc).map (fun d => d.parameters.length) = some 3) := by decide +kernel
theorem k_X2_goesOn {l : Launch} (hst : l.stackTraces = false) {G : gaG} {X : String → gaH → Prop} {a0 : Nat} {a1 : Nat} {a2 : Int} {a3 : Nat} {h : gaH} {Q : Int → gaH → Prop} (hw : w_X2_goesOn a0 a1 a2 a3 h Q) : gaC l G yX2_goesOn (gaM yX2_goesOn cX2_goesOn 4 ((some .boolean))) rm_X2_goesOn [.ref a0, .ref a1, gi a2, .ref a3] h (gQi Q) X := by
  refine g_start (lv := [some (.ref a0), some (.ref a1), some (gi a2), some (.ref a3)]) hpl_RX2 hst (Nat.le_of_ble_eq_true rfl) (gaArgs_pad (z := 0) rfl) ww_3_154 ?_
  intro p e s m args below meth c V hT
  unfold w_X2_goesOn at hw
  refine g_aload_n V dX2_goesOn_0 rfl rfl ?_
  refine g_iload_n V dX2_goesOn_1 rfl rfl ?_
  refine g_aload_n V dX2_goesOn_2 rfl rfl ?_
  refine g_callS (st := []) V (k_X1_standsAt hst hw) ww_3_155 ww_3_156 ww_1_12 ww_3_157 hd_X1_standsAt ⟨by decide, by decide⟩ rfl rfl (ga_cat rfl) dX2_goesOn_3 (Nat.zero_le _) (Nat.zero_le _) rfl (gaX_all hT V) (ga_ki (fun r2 hp1 hw => ?_))
  obtain ⟨hx0, hw⟩ := hw
  refine gi_if_eq V dX2_goesOn_6 rfl rfl hx0 (fun q => ?_) (fun q => ?_)
  · have hw := ga_t q hw
    refine g_iconst V (Int32.ofInt 0) dX2_goesOn_26 rfl rfl ?_
    exact g_iret V rfl rfl dX2_goesOn_27 ⟨_, rfl, hw⟩
  · have hw := ga_f q hw
    refine g_aload_n V dX2_goesOn_9 rfl rfl ?_
    refine g_iload_n V dX2_goesOn_10 rfl rfl ?_
    refine g_aload_n V dX2_goesOn_11 rfl rfl ?_
    obtain ⟨fs, r3, ha, hv, hw⟩ := hw
    refine g_getN (C := RX4) (T := TX4) (N := 2) (host := "Wordgarden") V 1 rfl hin_RX4 (by decide) (by decide) gn_5 rfl ha hv dX2_goesOn_12 rfl ?_
    refine gi_iadd V dX2_goesOn_15 rfl ?_
    obtain ⟨hb, hw⟩ := hw
    obtain ⟨fb, hb⟩ := hb
    refine g_callV (C := RX2) (T := TX2) (N := 3) (st := []) V (k_X2_isMarked hst hw) ww_3_158 ww_3_160 wp_2_0 ww_1_2 ww_3_161 hd_X2_isMarked ⟨by decide, by decide⟩ rfl (by decide) hb rfl rfl (ga_cat rfl) dX2_goesOn_16 (Nat.zero_le _) (Nat.zero_le _) rfl (gaX_all hT V) (ga_ki (fun r5 hp4 hw => ?_))
    obtain ⟨hx0, hw⟩ := hw
    refine gi_if_eq V dX2_goesOn_19 rfl rfl hx0 (fun q => ?_) (fun q => ?_)
    · have hw := ga_t q hw
      refine g_iconst V (Int32.ofInt 0) dX2_goesOn_26 rfl rfl ?_
      exact g_iret V rfl rfl dX2_goesOn_27 ⟨_, rfl, hw⟩
    · have hw := ga_f q hw
      refine g_iconst V (Int32.ofInt 1) dX2_goesOn_22 rfl rfl ?_
      refine g_goto V dX2_goesOn_23 rfl ?_
      exact g_iret V rfl rfl dX2_goesOn_27 ⟨_, rfl, hw⟩
def w_X2_markImages_J56 (Q : gaH → Prop) (K8 : Nat → Nat → Int → gaH → Prop) (v0 : Nat) (v1 : Nat) (v2 : Int) (t0 : Nat) (t1 : Int) (t2 : Int) (h : gaH) : Prop := narrow .boolean (gi t2) = gi t2 ∧ gSI h t0 100 t1 (gi t2) (fun hp1 => K8 v0 v1 (v2 + (-1)) hp1)
def w_X2_markImages_J51 (Q : gaH → Prop) (K8 : Nat → Nat → Int → gaH → Prop) (v0 : Nat) (v1 : Nat) (v2 : Int) (t0 : Nat) (t1 : Int) (h : gaH) : Prop := w_X2_markImages_J56 Q K8 v0 v1 v2 t0 t1 1 h
def w_X2_markImages_L8 (Q : gaH → Prop) : Nat → (Nat → Nat → Int → gaH → Prop)
  | 0 => fun _ _ _ _ => False
  | n + 1 => fun v0 v1 v2 h => gR v2 ∧ (if v2 < 0 then Q h else gA h v0 3 2 (fun r1 => gI h v1 4 1 (fun r2 => gR v2 ∧ gR r2 ∧ (if v2 = r2 then w_X2_markImages_J51 Q (w_X2_markImages_L8 Q n) v0 v1 v2 r1 v2 h else gA h v0 3 0 (fun r3 => gHas h v0 3 ∧ w_X2_goesOn v0 v1 v2 r3 h (fun r5 hp4 => gR r5 ∧ (if r5 = 0 then gA hp4 v0 3 1 (fun r6 => gHas hp4 v0 3 ∧ w_X2_goesOn v0 v1 v2 r6 hp4 (fun r8 hp7 => gR r8 ∧ (if r8 = 0 then w_X2_markImages_J56 Q (w_X2_markImages_L8 Q n) v0 v1 v2 r1 v2 0 hp7 else w_X2_markImages_J51 Q (w_X2_markImages_L8 Q n) v0 v1 v2 r1 v2 hp7))) else w_X2_markImages_J51 Q (w_X2_markImages_L8 Q n) v0 v1 v2 r1 v2 hp4)))))))
def w_X2_markImages (a0 : Nat) (a1 : Nat) (h : gaH) (Q : gaH → Prop) : Prop := gA h a0 3 2 (fun r1 => gAL h r1 100 (fun r2 => ∃ z, w_X2_markImages_L8 Q z a0 a1 (r2 - 1) h))
abbrev rm_X2_markImages : Room := { frames := 3, cells := 0, slots := 0, locals := 67 }
theorem hd_X2_markImages : yX2_markImages.cls = RX2 ∧ (yX2_markImages.cls ≠ "java/lang/invoke/MethodHandle" ∧ yX2_markImages.cls ≠ "java/lang/invoke/VarHandle" ∧ (parseMethodDescriptor yX2_markImages.desc).map (fun d => d.parameters.length) = some 1) := by decide +kernel
theorem k_X2_markImages {l : Launch} (hst : l.stackTraces = false) {G : gaG} {X : String → gaH → Prop} {a0 : Nat} {a1 : Nat} {h : gaH} {Q : gaH → Prop} (hw : w_X2_markImages a0 a1 h Q) : gaC l G yX2_markImages (gaM yX2_markImages cX2_markImages 3 ((none : Option Jvm.ClassFile.FieldType))) rm_X2_markImages [.ref a0, .ref a1] h (gQv Q) X := by
  refine g_start (lv := [some (.ref a0), some (.ref a1), none]) hpl_RX2 hst (Nat.le_of_ble_eq_true rfl) (gaArgs_pad (z := 1) rfl) ww_3_150 ?_
  intro p e s m args below meth c V hT
  have h_X2_markImages_J56 : ∀ (K8 : Nat → Nat → Int → gaH → Prop), ∀ (hK8 : ∀ (v0 : Nat) (v1 : Nat) (v2 : Int) (h : gaH), K8 v0 v1 v2 h → gaP p l e rm_X2_markImages s m args below meth c G 3 (gaZ below G (gQv Q) X args s rm_X2_markImages) 8 [some (.ref v0), some (.ref v1), some (gi v2)] [] h 0 0), ∀ (v0 : Nat) (v1 : Nat) (v2 : Int) (t0 : Nat) (t1 : Int) (t2 : Int) (h : gaH), w_X2_markImages_J56 Q K8 v0 v1 v2 t0 t1 t2 h → gaP p l e rm_X2_markImages s m args below meth c G 3 (gaZ below G (gQv Q) X args s rm_X2_markImages) 56 [some (.ref v0), some (.ref v1), some (gi v2)] [gi t2, gi t1, .ref t0] h 0 0 := by
    intro K8 hK8
    intro v0 v1 v2 t0 t1 t2 h hw
    unfold w_X2_markImages_J56 at hw
    obtain ⟨hb, hw⟩ := hw
    obtain ⟨vs, ha, h0, h9, hi, hw⟩ := hw
    refine gi_bastoreZ V hb ha h0 h9 hi dX2_markImages_56 rfl ?_
    generalize gaUp h t0 _ = hp1 at hw ⊢
    refine gi_iinc (lv2 := [some (.ref v0), some (.ref v1), some (gi (v2 + (-1)))]) V dX2_markImages_57 (by decide) rfl rfl rfl rfl ?_
    refine g_goto V dX2_markImages_60 rfl ?_
    exact hK8 v0 v1 (v2 + (-1)) hp1 hw
  have h_X2_markImages_J51 : ∀ (K8 : Nat → Nat → Int → gaH → Prop), ∀ (hK8 : ∀ (v0 : Nat) (v1 : Nat) (v2 : Int) (h : gaH), K8 v0 v1 v2 h → gaP p l e rm_X2_markImages s m args below meth c G 3 (gaZ below G (gQv Q) X args s rm_X2_markImages) 8 [some (.ref v0), some (.ref v1), some (gi v2)] [] h 0 0), ∀ (v0 : Nat) (v1 : Nat) (v2 : Int) (t0 : Nat) (t1 : Int) (h : gaH), w_X2_markImages_J51 Q K8 v0 v1 v2 t0 t1 h → gaP p l e rm_X2_markImages s m args below meth c G 3 (gaZ below G (gQv Q) X args s rm_X2_markImages) 51 [some (.ref v0), some (.ref v1), some (gi v2)] [gi t1, .ref t0] h 0 0 := by
    intro K8 hK8
    intro v0 v1 v2 t0 t1 h hw
    unfold w_X2_markImages_J51 at hw
    refine g_iconst V (Int32.ofInt 1) dX2_markImages_51 rfl rfl ?_
    refine g_goto V dX2_markImages_52 rfl ?_
    exact h_X2_markImages_J56 K8 hK8 v0 v1 v2 t0 t1 1 h hw
  have h_X2_markImages_L8 : ∀ (n : Nat), ∀ (v0 : Nat) (v1 : Nat) (v2 : Int) (h : gaH), w_X2_markImages_L8 Q n v0 v1 v2 h → gaP p l e rm_X2_markImages s m args below meth c G 3 (gaZ below G (gQv Q) X args s rm_X2_markImages) 8 [some (.ref v0), some (.ref v1), some (gi v2)] [] h 0 0 := by
    intro n
    induction n with
    | zero =>
      intro v0 v1 v2 h hw
      exact hw.elim
    | succ n ih =>
      intro v0 v1 v2 h hw
      unfold w_X2_markImages_L8 at hw
      refine g_iload_n V dX2_markImages_8 rfl rfl ?_
      obtain ⟨hx0, hw⟩ := hw
      refine gi_if_lt V dX2_markImages_9 rfl rfl hx0 (fun q => ?_) (fun q => ?_)
      · have hw := ga_t q hw
        exact g_vret V rfl dX2_markImages_63 ⟨rfl, hw⟩
      · have hw := ga_f q hw
        refine g_aload_n V dX2_markImages_12 rfl rfl ?_
        obtain ⟨fs, r1, ha, hv, hw⟩ := hw
        refine g_get (C := RX2) (T := TX2) (N := 3) V 2 rfl hin_RX2 (by decide) (by decide) ww_1_65 rfl ha hv dX2_markImages_13 rfl ?_
        refine g_iload_n V dX2_markImages_16 rfl rfl ?_
        refine g_iload_n V dX2_markImages_17 rfl rfl ?_
        refine g_aload_n V dX2_markImages_18 rfl rfl ?_
        obtain ⟨fs, r2, ha, hv, hw⟩ := hw
        refine g_getN (C := RX4) (T := TX4) (N := 2) (host := "Wordgarden") V 1 rfl hin_RX4 (by decide) (by decide) gn_5 rfl ha hv dX2_markImages_19 rfl ?_
        obtain ⟨hx0, hx1, hw⟩ := hw
        refine gi_icmp_eq V dX2_markImages_22 rfl rfl hx0 hx1 (fun q => ?_) (fun q => ?_)
        · have hw := ga_t q hw
          exact h_X2_markImages_J51 (w_X2_markImages_L8 Q n) ih v0 v1 v2 r1 v2 h hw
        · have hw := ga_f q hw
          refine g_aload_n V dX2_markImages_25 rfl rfl ?_
          refine g_aload_n V dX2_markImages_26 rfl rfl ?_
          refine g_iload_n V dX2_markImages_27 rfl rfl ?_
          refine g_aload_n V dX2_markImages_28 rfl rfl ?_
          obtain ⟨fs, r3, ha, hv, hw⟩ := hw
          refine g_get (C := RX2) (T := TX2) (N := 3) V 0 rfl hin_RX2 (by decide) (by decide) ww_1_63 rfl ha hv dX2_markImages_29 rfl ?_
          obtain ⟨hb, hw⟩ := hw
          obtain ⟨fb, hb⟩ := hb
          refine g_callV (C := RX2) (T := TX2) (N := 3) (st := [gi v2, .ref r1]) V (k_X2_goesOn hst hw) ww_3_151 ww_3_153 wp_1_15 ww_1_2 ww_3_154 hd_X2_goesOn ⟨by decide, by decide⟩ rfl (by decide) hb rfl rfl (ga_cat rfl) dX2_markImages_32 (Nat.zero_le _) (Nat.zero_le _) rfl (gaX_all hT V) (ga_ki (fun r5 hp4 hw => ?_))
          obtain ⟨hx0, hw⟩ := hw
          refine gi_if_ne V dX2_markImages_35 rfl rfl hx0 (fun q => ?_) (fun q => ?_)
          · have hw := ga_f q hw
            exact h_X2_markImages_J51 (w_X2_markImages_L8 Q n) ih v0 v1 v2 r1 v2 hp4 hw
          · have hw := ga_t q hw
            refine g_aload_n V dX2_markImages_38 rfl rfl ?_
            refine g_aload_n V dX2_markImages_39 rfl rfl ?_
            refine g_iload_n V dX2_markImages_40 rfl rfl ?_
            refine g_aload_n V dX2_markImages_41 rfl rfl ?_
            obtain ⟨fs, r6, ha, hv, hw⟩ := hw
            refine g_get (C := RX2) (T := TX2) (N := 3) V 1 rfl hin_RX2 (by decide) (by decide) ww_1_64 rfl ha hv dX2_markImages_42 rfl ?_
            obtain ⟨hb, hw⟩ := hw
            obtain ⟨fb, hb⟩ := hb
            refine g_callV (C := RX2) (T := TX2) (N := 3) (st := [gi v2, .ref r1]) V (k_X2_goesOn hst hw) ww_3_151 ww_3_153 wp_1_15 ww_1_2 ww_3_154 hd_X2_goesOn ⟨by decide, by decide⟩ rfl (by decide) hb rfl rfl (ga_cat rfl) dX2_markImages_45 (Nat.zero_le _) (Nat.zero_le _) rfl (gaX_all hT V) (ga_ki (fun r8 hp7 hw => ?_))
            obtain ⟨hx0, hw⟩ := hw
            refine gi_if_eq V dX2_markImages_48 rfl rfl hx0 (fun q => ?_) (fun q => ?_)
            · have hw := ga_t q hw
              refine g_iconst V (Int32.ofInt 0) dX2_markImages_55 rfl rfl ?_
              exact h_X2_markImages_J56 (w_X2_markImages_L8 Q n) ih v0 v1 v2 r1 v2 0 hp7 hw
            · have hw := ga_f q hw
              exact h_X2_markImages_J51 (w_X2_markImages_L8 Q n) ih v0 v1 v2 r1 v2 hp7 hw
  unfold w_X2_markImages at hw
  refine g_aload_n V dX2_markImages_0 rfl rfl ?_
  obtain ⟨fs, r1, ha, hv, hw⟩ := hw
  refine g_get (C := RX2) (T := TX2) (N := 3) V 2 rfl hin_RX2 (by decide) (by decide) ww_1_65 rfl ha hv dX2_markImages_1 rfl ?_
  obtain ⟨t9, vs, ha, ht, hw⟩ := hw
  refine gi_arraylength (t0 := 100) V (by simp [gaT]) ha ht dX2_markImages_4 rfl ?_
  generalize (vs.length : Int) = r2 at hw ⊢
  refine g_iconst V (Int32.ofInt 1) dX2_markImages_5 rfl rfl ?_
  refine gi_isub V dX2_markImages_6 rfl ?_
  refine g_istore_n (lv2 := [some (.ref a0), some (.ref a1), some (gi (r2 - 1))]) V dX2_markImages_7 (by decide) rfl rfl rfl ?_
  obtain ⟨z, hw⟩ := hw
  exact h_X2_markImages_L8 z a0 a1 (r2 - 1) h hw
def w_X2_layOrigin_J58 (Q : Int → gaH → Prop) (K24 : Nat → Nat → Nat → Int → Int → gaH → Prop) (v0 : Nat) (v1 : Nat) (v2 : Nat) (v4 : Int) (t0 : Int) (h : gaH) : Prop := gHas h v2 4 ∧ w_X4_add v2 t0 h (fun hp1 => gR t0 ∧ (if t0 = 0 then gA hp1 v0 3 0 (fun r3 => gI hp1 r3 4 1 (fun r4 => K24 v0 v1 v2 (v4 + r4) (v4 + 1) hp1)) else gA hp1 v0 3 1 (fun r5 => gI hp1 r5 4 1 (fun r6 => K24 v0 v1 v2 (v4 + r6) (v4 + 1) hp1))))
def w_X2_layOrigin_L24 (Q : Int → gaH → Prop) : Nat → (Nat → Nat → Nat → Int → Int → gaH → Prop)
  | 0 => fun _ _ _ _ _ _ => False
  | n + 1 => fun v0 v1 v2 v3 v4 h => gI h v1 4 1 (fun r1 => gR v4 ∧ gR r1 ∧ (if r1 ≤ v4 then Q 1 h else gR v4 ∧ gR v3 ∧ (if v4 = v3 then gA h v0 3 0 (fun r2 => gHas h v0 3 ∧ w_X2_goesOn v0 v1 v4 r2 h (fun r4 hp3 => gR r4 ∧ (if r4 = 0 then w_X2_layOrigin_J58 Q (w_X2_layOrigin_L24 Q n) v0 v1 v2 v4 1 hp3 else w_X2_layOrigin_J58 Q (w_X2_layOrigin_L24 Q n) v0 v1 v2 v4 0 hp3))) else w_X2_layOrigin_L24 Q n v0 v1 v2 v3 (v4 + 1) h)))
def w_X2_layOrigin (a0 : Nat) (a1 : Nat) (a2 : Nat) (h : gaH) (Q : Int → gaH → Prop) : Prop := gHas h a0 3 ∧ w_X2_markImages a0 a1 h (fun hp1 => gHas hp1 a0 3 ∧ w_X2_isMarked a0 0 hp1 (fun r4 hp3 => gR r4 ∧ (if r4 = 0 then Q 0 hp3 else gHas hp3 a2 4 ∧ w_X4_clear a2 hp3 (fun hp5 => ∃ z, w_X2_layOrigin_L24 Q z a0 a1 a2 0 0 hp5))))
abbrev rm_X2_layOrigin : Room := { frames := 4, cells := 0, slots := 0, locals := 89 }
theorem hd_X2_layOrigin : yX2_layOrigin.cls = RX2 ∧ (yX2_layOrigin.cls ≠ "java/lang/invoke/MethodHandle" ∧ yX2_layOrigin.cls ≠ "java/lang/invoke/VarHandle" ∧ (parseMethodDescriptor yX2_layOrigin.desc).map (fun d => d.parameters.length) = some 2) := by decide +kernel
theorem k_X2_layOrigin {l : Launch} (hst : l.stackTraces = false) {G : gaG} {X : String → gaH → Prop} {a0 : Nat} {a1 : Nat} {a2 : Nat} {h : gaH} {Q : Int → gaH → Prop} (hw : w_X2_layOrigin a0 a1 a2 h Q) : gaC l G yX2_layOrigin (gaM yX2_layOrigin cX2_layOrigin 6 ((some .boolean))) rm_X2_layOrigin [.ref a0, .ref a1, .ref a2] h (gQi Q) X := by
  refine g_start (lv := [some (.ref a0), some (.ref a1), some (.ref a2), none, none, none]) hpl_RX2 hst (Nat.le_of_ble_eq_true rfl) (gaArgs_pad (z := 3) rfl) ww_3_146 ?_
  intro p e s m args below meth c V hT
  have h_X2_layOrigin_J58 : ∀ (K24 : Nat → Nat → Nat → Int → Int → gaH → Prop), ∀ (hK24 : ∀ (v0 : Nat) (v1 : Nat) (v2 : Nat) (v3 : Int) (v4 : Int) (h : gaH), K24 v0 v1 v2 v3 v4 h → gaP p l e rm_X2_layOrigin s m args below meth c G 6 (gaZ below G (gQi Q) X args s rm_X2_layOrigin) 24 [some (.ref v0), some (.ref v1), some (.ref v2), some (gi v3), some (gi v4), none] [] h 0 0), ∀ (v0 : Nat) (v1 : Nat) (v2 : Nat) (v4 : Int) (t0 : Int) (h : gaH), w_X2_layOrigin_J58 Q K24 v0 v1 v2 v4 t0 h → gaP p l e rm_X2_layOrigin s m args below meth c G 6 (gaZ below G (gQi Q) X args s rm_X2_layOrigin) 58 [some (.ref v0), some (.ref v1), some (.ref v2), none, some (gi v4), none] [gi t0] h 0 0 := by
    intro K24 hK24
    intro v0 v1 v2 v4 t0 h hw
    unfold w_X2_layOrigin_J58 at hw
    refine g_istore (lv2 := [some (.ref v0), some (.ref v1), some (.ref v2), none, some (gi v4), some (gi t0)]) V dX2_layOrigin_58 (by decide) rfl rfl rfl ?_
    refine g_aload_n V dX2_layOrigin_60 rfl rfl ?_
    refine g_iload V dX2_layOrigin_61 rfl rfl ?_
    obtain ⟨hb, hw⟩ := hw
    obtain ⟨fb, hb⟩ := hb
    refine g_callV (C := RX4) (T := TX4) (N := 2) (st := []) V (k_X4_add hst hw) ww_3_162 ww_1_90 ww_1_91 ww_1_3 ww_1_92 hd_X4_add ⟨by decide, by decide⟩ rfl (by decide) hb rfl rfl (ga_cat rfl) dX2_layOrigin_63 (Nat.zero_le _) (Nat.zero_le _) rfl (gaX_all hT V) (ga_kv (fun hp1 hw => ?_))
    refine g_iload V dX2_layOrigin_66 rfl rfl ?_
    refine g_iload V dX2_layOrigin_68 rfl rfl ?_
    obtain ⟨hx0, hw⟩ := hw
    refine gi_if_eq V dX2_layOrigin_70 rfl rfl hx0 (fun q => ?_) (fun q => ?_)
    · have hw := ga_t q hw
      refine g_aload_n V dX2_layOrigin_83 rfl rfl ?_
      obtain ⟨fs, r3, ha, hv, hw⟩ := hw
      refine g_get (C := RX2) (T := TX2) (N := 3) V 0 rfl hin_RX2 (by decide) (by decide) ww_1_63 rfl ha hv dX2_layOrigin_84 rfl ?_
      obtain ⟨fs, r4, ha, hv, hw⟩ := hw
      refine g_getN (C := RX4) (T := TX4) (N := 2) (host := "Wordgarden") V 1 rfl hin_RX4 (by decide) (by decide) gn_5 rfl ha hv dX2_layOrigin_87 rfl ?_
      refine gi_iadd V dX2_layOrigin_90 rfl ?_
      refine g_istore_n (lv2 := [some (.ref v0), some (.ref v1), some (.ref v2), some (gi (v4 + r4)), some (gi v4), some (gi t0)]) V dX2_layOrigin_91 (by decide) rfl rfl rfl ?_
      refine gi_iinc (lv2 := [some (.ref v0), some (.ref v1), some (.ref v2), some (gi (v4 + r4)), some (gi (v4 + 1)), some (gi t0)]) V dX2_layOrigin_92 (by decide) rfl rfl rfl rfl ?_
      refine g_goto V dX2_layOrigin_95 rfl ?_
      refine g_less (bs := [true, true, true, true, true, false]) (lv2 := [some (.ref v0), some (.ref v1), some (.ref v2), some (gi (v4 + r4)), some (gi (v4 + 1)), none]) rfl ?_
      exact hK24 v0 v1 v2 (v4 + r4) (v4 + 1) hp1 hw
    · have hw := ga_f q hw
      refine g_aload_n V dX2_layOrigin_73 rfl rfl ?_
      obtain ⟨fs, r5, ha, hv, hw⟩ := hw
      refine g_get (C := RX2) (T := TX2) (N := 3) V 1 rfl hin_RX2 (by decide) (by decide) ww_1_64 rfl ha hv dX2_layOrigin_74 rfl ?_
      obtain ⟨fs, r6, ha, hv, hw⟩ := hw
      refine g_getN (C := RX4) (T := TX4) (N := 2) (host := "Wordgarden") V 1 rfl hin_RX4 (by decide) (by decide) gn_5 rfl ha hv dX2_layOrigin_77 rfl ?_
      refine g_goto V dX2_layOrigin_80 rfl ?_
      refine gi_iadd V dX2_layOrigin_90 rfl ?_
      refine g_istore_n (lv2 := [some (.ref v0), some (.ref v1), some (.ref v2), some (gi (v4 + r6)), some (gi v4), some (gi t0)]) V dX2_layOrigin_91 (by decide) rfl rfl rfl ?_
      refine gi_iinc (lv2 := [some (.ref v0), some (.ref v1), some (.ref v2), some (gi (v4 + r6)), some (gi (v4 + 1)), some (gi t0)]) V dX2_layOrigin_92 (by decide) rfl rfl rfl rfl ?_
      refine g_goto V dX2_layOrigin_95 rfl ?_
      refine g_less (bs := [true, true, true, true, true, false]) (lv2 := [some (.ref v0), some (.ref v1), some (.ref v2), some (gi (v4 + r6)), some (gi (v4 + 1)), none]) rfl ?_
      exact hK24 v0 v1 v2 (v4 + r6) (v4 + 1) hp1 hw
  have h_X2_layOrigin_L24 : ∀ (n : Nat), ∀ (v0 : Nat) (v1 : Nat) (v2 : Nat) (v3 : Int) (v4 : Int) (h : gaH), w_X2_layOrigin_L24 Q n v0 v1 v2 v3 v4 h → gaP p l e rm_X2_layOrigin s m args below meth c G 6 (gaZ below G (gQi Q) X args s rm_X2_layOrigin) 24 [some (.ref v0), some (.ref v1), some (.ref v2), some (gi v3), some (gi v4), none] [] h 0 0 := by
    intro n
    induction n with
    | zero =>
      intro v0 v1 v2 v3 v4 h hw
      exact hw.elim
    | succ n ih =>
      intro v0 v1 v2 v3 v4 h hw
      unfold w_X2_layOrigin_L24 at hw
      refine g_iload V dX2_layOrigin_24 rfl rfl ?_
      refine g_aload_n V dX2_layOrigin_26 rfl rfl ?_
      obtain ⟨fs, r1, ha, hv, hw⟩ := hw
      refine g_getN (C := RX4) (T := TX4) (N := 2) (host := "Wordgarden") V 1 rfl hin_RX4 (by decide) (by decide) gn_5 rfl ha hv dX2_layOrigin_27 rfl ?_
      obtain ⟨hx0, hx1, hw⟩ := hw
      refine gi_icmp_ge V dX2_layOrigin_30 rfl rfl hx0 hx1 (fun q => ?_) (fun q => ?_)
      · have hw := ga_t q hw
        refine g_iconst V (Int32.ofInt 1) dX2_layOrigin_98 rfl rfl ?_
        exact g_iret V rfl rfl dX2_layOrigin_99 ⟨_, rfl, hw⟩
      · have hw := ga_f q hw
        refine g_iload V dX2_layOrigin_33 rfl rfl ?_
        refine g_iload_n V dX2_layOrigin_35 rfl rfl ?_
        obtain ⟨hx0, hx1, hw⟩ := hw
        refine gi_icmp_ne V dX2_layOrigin_36 rfl rfl hx0 hx1 (fun q => ?_) (fun q => ?_)
        · have hw := ga_f q hw
          refine gi_iinc (lv2 := [some (.ref v0), some (.ref v1), some (.ref v2), some (gi v3), some (gi (v4 + 1)), none]) V dX2_layOrigin_92 (by decide) rfl rfl rfl rfl ?_
          refine g_goto V dX2_layOrigin_95 rfl ?_
          exact ih v0 v1 v2 v3 (v4 + 1) h hw
        · have hw := ga_t q hw
          refine g_aload_n V dX2_layOrigin_39 rfl rfl ?_
          refine g_aload_n V dX2_layOrigin_40 rfl rfl ?_
          refine g_iload V dX2_layOrigin_41 rfl rfl ?_
          refine g_aload_n V dX2_layOrigin_43 rfl rfl ?_
          obtain ⟨fs, r2, ha, hv, hw⟩ := hw
          refine g_get (C := RX2) (T := TX2) (N := 3) V 0 rfl hin_RX2 (by decide) (by decide) ww_1_63 rfl ha hv dX2_layOrigin_44 rfl ?_
          obtain ⟨hb, hw⟩ := hw
          obtain ⟨fb, hb⟩ := hb
          refine g_callV (C := RX2) (T := TX2) (N := 3) (st := []) V (k_X2_goesOn hst hw) ww_3_151 ww_3_153 wp_1_15 ww_1_2 ww_3_154 hd_X2_goesOn ⟨by decide, by decide⟩ rfl (by decide) hb rfl rfl (ga_cat rfl) dX2_layOrigin_47 (Nat.zero_le _) (Nat.zero_le _) rfl (gaX_all hT V) (ga_ki (fun r4 hp3 hw => ?_))
          obtain ⟨hx0, hw⟩ := hw
          refine gi_if_ne V dX2_layOrigin_50 rfl rfl hx0 (fun q => ?_) (fun q => ?_)
          · have hw := ga_f q hw
            refine g_iconst V (Int32.ofInt 0) dX2_layOrigin_57 rfl rfl ?_
            refine g_less (bs := [true, true, true, false, true, true]) (lv2 := [some (.ref v0), some (.ref v1), some (.ref v2), none, some (gi v4), none]) rfl ?_
            exact h_X2_layOrigin_J58 (w_X2_layOrigin_L24 Q n) ih v0 v1 v2 v4 0 hp3 hw
          · have hw := ga_t q hw
            refine g_iconst V (Int32.ofInt 1) dX2_layOrigin_53 rfl rfl ?_
            refine g_goto V dX2_layOrigin_54 rfl ?_
            refine g_less (bs := [true, true, true, false, true, true]) (lv2 := [some (.ref v0), some (.ref v1), some (.ref v2), none, some (gi v4), none]) rfl ?_
            exact h_X2_layOrigin_J58 (w_X2_layOrigin_L24 Q n) ih v0 v1 v2 v4 1 hp3 hw
  unfold w_X2_layOrigin at hw
  refine g_aload_n V dX2_layOrigin_0 rfl rfl ?_
  refine g_aload_n V dX2_layOrigin_1 rfl rfl ?_
  obtain ⟨hb, hw⟩ := hw
  obtain ⟨fb, hb⟩ := hb
  refine g_callV (C := RX2) (T := TX2) (N := 3) (st := []) V (k_X2_markImages hst hw) ww_3_147 ww_3_149 wp_1_14 ww_1_2 ww_3_150 hd_X2_markImages ⟨by decide, by decide⟩ rfl (by decide) hb rfl rfl (ga_cat rfl) dX2_layOrigin_2 (Nat.zero_le _) (Nat.zero_le _) rfl (gaX_all hT V) (ga_kv (fun hp1 hw => ?_))
  refine g_aload_n V dX2_layOrigin_5 rfl rfl ?_
  refine g_iconst V (Int32.ofInt 0) dX2_layOrigin_6 rfl rfl ?_
  obtain ⟨hb, hw⟩ := hw
  obtain ⟨fb, hb⟩ := hb
  refine g_callV (C := RX2) (T := TX2) (N := 3) (st := []) V (k_X2_isMarked hst hw) ww_3_158 ww_3_160 wp_2_0 ww_1_2 ww_3_161 hd_X2_isMarked ⟨by decide, by decide⟩ rfl (by decide) hb rfl rfl (ga_cat rfl) dX2_layOrigin_7 (Nat.zero_le _) (Nat.zero_le _) rfl (gaX_all hT V) (ga_ki (fun r4 hp3 hw => ?_))
  obtain ⟨hx0, hw⟩ := hw
  refine gi_if_ne V dX2_layOrigin_10 rfl rfl hx0 (fun q => ?_) (fun q => ?_)
  · have hw := ga_f q hw
    refine g_aload_n V dX2_layOrigin_15 rfl rfl ?_
    obtain ⟨hb, hw⟩ := hw
    obtain ⟨fb, hb⟩ := hb
    refine g_callV (C := RX4) (T := TX4) (N := 2) (st := []) V (k_X4_clear hst hw) ww_2_43 ww_1_86 ww_1_87 ww_1_3 ww_1_88 hd_X4_clear ⟨by decide, by decide⟩ rfl (by decide) hb rfl rfl (ga_cat rfl) dX2_layOrigin_16 (Nat.zero_le _) (Nat.zero_le _) rfl (gaX_all hT V) (ga_kv (fun hp5 hw => ?_))
    refine g_iconst V (Int32.ofInt 0) dX2_layOrigin_19 rfl rfl ?_
    refine g_istore_n (lv2 := [some (.ref a0), some (.ref a1), some (.ref a2), some (gi 0), none, none]) V dX2_layOrigin_20 (by decide) rfl rfl rfl ?_
    refine g_iconst V (Int32.ofInt 0) dX2_layOrigin_21 rfl rfl ?_
    refine g_istore (lv2 := [some (.ref a0), some (.ref a1), some (.ref a2), some (gi 0), some (gi 0), none]) V dX2_layOrigin_22 (by decide) rfl rfl rfl ?_
    obtain ⟨z, hw⟩ := hw
    exact h_X2_layOrigin_L24 z a0 a1 a2 0 0 hp5 hw
  · have hw := ga_t q hw
    refine g_iconst V (Int32.ofInt 0) dX2_layOrigin_13 rfl rfl ?_
    exact g_iret V rfl rfl dX2_layOrigin_14 ⟨_, rfl, hw⟩
def w_X6_init (a0 : Nat) (h : gaH) (Q : gaH → Prop) : Prop := Q h
abbrev rm_X6_init : Room := { frames := 2, cells := 0, slots := 0, locals := 60 }
theorem hd_X6_init : (yX6_init.cls ≠ "java/lang/invoke/MethodHandle" ∧ yX6_init.cls ≠ "java/lang/invoke/VarHandle" ∧ (parseMethodDescriptor yX6_init.desc).map (fun d => d.parameters.length) = some 0) := by decide +kernel
theorem k_X6_init {l : Launch} (hst : l.stackTraces = false) {G : gaG} {X : String → gaH → Prop} {a0 : Nat} {h : gaH} {Q : gaH → Prop} (hw : w_X6_init a0 h Q) : gaC l G yX6_init (gaM yX6_init cX6_init 1 ((none : Option Jvm.ClassFile.FieldType))) rm_X6_init [.ref a0] h (gQv Q) X := by
  refine g_start (lv := [some (.ref a0)]) hpl_RX6 hst (Nat.le_of_ble_eq_true rfl) (gaArgs_pad (z := 0) rfl) ww_2_196 ?_
  intro p e s m args below meth c V hT
  unfold w_X6_init at hw
  refine g_aload_n V dX6_init_0 rfl rfl ?_
  refine g_objInit V ww_2_197 ww_1_32 ww_1_33 dX6_init_1 (by decide) (by decide) (ga_cat rfl) rfl ?_
  exact g_vret V rfl dX6_init_4 ⟨rfl, hw⟩
def w_X5_growthOf_J13 (X : String → gaH → Prop) (Q : Nat → gaH → Prop)  (h : gaH) (kc ks : Nat) : Prop := 1 ≤ kc ∧ 6 ≤ ks ∧ X "java/lang/IndexOutOfBoundsException" h
def w_X5_growthOf (X : String → gaH → Prop) (a0 : Nat) (a1 : Int) (h : gaH) (Q : Nat → gaH → Prop) : Prop := gR a1 ∧ (if a1 < 0 then w_X5_growthOf_J13 X Q h 1 6 else gA h a0 5 1 (fun r1 => gAL h r1 111 (fun r2 => gR a1 ∧ gR r2 ∧ (if a1 < r2 then gA h a0 5 1 (fun r3 => gLA h r3 111 a1 (fun r4 => Q r4 h)) else w_X5_growthOf_J13 X Q h 1 6))))
abbrev rm_X5_growthOf : Room := { frames := 8, cells := 1, slots := 6, locals := 200 }
theorem hd_X5_growthOf : yX5_growthOf.cls = RX5 ∧ (yX5_growthOf.cls ≠ "java/lang/invoke/MethodHandle" ∧ yX5_growthOf.cls ≠ "java/lang/invoke/VarHandle" ∧ (parseMethodDescriptor yX5_growthOf.desc).map (fun d => d.parameters.length) = some 1) := by decide +kernel
theorem k_X5_growthOf {l : Launch} (hst : l.stackTraces = false) {G : gaG} {X : String → gaH → Prop} {a0 : Nat} {a1 : Int} {h : gaH} {Q : Nat → gaH → Prop} (hw : w_X5_growthOf X a0 a1 h Q) : gaC l G yX5_growthOf (gaM yX5_growthOf cX5_growthOf 2 ((some (.object "Wordgarden$Growth")))) rm_X5_growthOf [.ref a0, gi a1] h (gQa Q) X := by
  refine g_start (lv := [some (.ref a0), some (gi a1)]) hpl_RX5 hst (Nat.le_of_ble_eq_true rfl) (gaArgs_pad (z := 0) rfl) ww_2_16 ?_
  intro p e s m args below meth c V hT
  have h_X5_growthOf_J13 : ∀  (h : gaH) (kc ks : Nat), w_X5_growthOf_J13 X Q h kc ks → gaP p l e rm_X5_growthOf s m args below meth c G 2 (gaZ below G (gQa Q) X args s rm_X5_growthOf) 13 [none, none] [] h kc ks := by
    intro h kc ks hw
    unfold w_X5_growthOf_J13 at hw
    exact g_throw (names := gxNames) hT V hfit_O hfit_N ww_1_154 ww_1_10 gs_1 hat1_O hat2_O hgood_O dX5_growthOf_13 dX5_growthOf_16 dX5_growthOf_17 dX5_growthOf_20 dX5_growthOf_23 (by decide) (Nat.le_of_ble_eq_true rfl) hw.1 hw.2.1 hw.2.2
  show gaP p l e rm_X5_growthOf s m args below meth c G 2 (gaZ below G (gQa Q) X args s rm_X5_growthOf) 0 [some (.ref a0), some (gi a1)] [] h 1 6
  unfold w_X5_growthOf at hw
  refine g_iload_n V dX5_growthOf_0 rfl rfl ?_
  obtain ⟨hx0, hw⟩ := hw
  refine gi_if_lt V dX5_growthOf_1 rfl rfl hx0 (fun q => ?_) (fun q => ?_)
  · have hw := ga_t q hw
    refine g_less (bs := [false, false]) (lv2 := [none, none]) rfl ?_
    exact h_X5_growthOf_J13 h 1 6 hw
  · have hw := ga_f q hw
    refine g_iload_n V dX5_growthOf_4 rfl rfl ?_
    refine g_aload_n V dX5_growthOf_5 rfl rfl ?_
    obtain ⟨fs, r1, ha, hv, hw⟩ := hw
    refine g_get (C := RX5) (T := TX5) (N := 9) V 1 rfl hin_RX5 (by decide) (by decide) ww_1_111 rfl ha hv dX5_growthOf_6 rfl ?_
    obtain ⟨t9, vs, ha, ht, hw⟩ := hw
    refine gi_arraylength (t0 := 111) V (by simp [gaT]) ha ht dX5_growthOf_9 rfl ?_
    generalize (vs.length : Int) = r2 at hw ⊢
    obtain ⟨hx0, hx1, hw⟩ := hw
    refine gi_icmp_lt V dX5_growthOf_10 rfl rfl hx0 hx1 (fun q => ?_) (fun q => ?_)
    · have hw := ga_t q hw
      refine g_aload_n V dX5_growthOf_24 rfl rfl ?_
      obtain ⟨fs, r3, ha, hv, hw⟩ := hw
      refine g_get (C := RX5) (T := TX5) (N := 9) V 1 rfl hin_RX5 (by decide) (by decide) ww_1_111 rfl ha hv dX5_growthOf_25 rfl ?_
      refine g_iload_n V dX5_growthOf_28 rfl rfl ?_
      obtain ⟨vs, r4, ha, h0, h9, hv, hw⟩ := hw
      refine gi_aaload V ha (by decide) h0 h9 hv dX5_growthOf_29 rfl ?_
      exact g_aret V rfl (by first | exact Or.inl ⟨_, rfl⟩ | exact Or.inr ⟨_, rfl⟩) dX5_growthOf_30 ⟨_, rfl, hw⟩
    · have hw := ga_f q hw
      refine g_less (bs := [false, false]) (lv2 := [none, none]) rfl ?_
      exact h_X5_growthOf_J13 h 1 6 hw
def w_X5_alike (X : String → gaH → Prop) (a0 : Nat) (a1 : Int) (h : gaH) (Q : Int → gaH → Prop) : Prop := gHas h a0 5 ∧ gCall 1 6 1 6 (fun c3 s4 => w_X5_growthOf X a0 a1 h (fun r2 hp1 => gA hp1 r2 2 3 (fun r5 => gA hp1 r2 2 2 (fun r6 => w_X1_firstUnlikeJoined r5 r6 hp1 (fun r8 hp7 => Q r8 hp7)))))
abbrev rm_X5_alike : Room := { frames := 9, cells := 1, slots := 6, locals := 221 }
theorem hd_X5_alike : yX5_alike.cls = RX5 ∧ (yX5_alike.cls ≠ "java/lang/invoke/MethodHandle" ∧ yX5_alike.cls ≠ "java/lang/invoke/VarHandle" ∧ (parseMethodDescriptor yX5_alike.desc).map (fun d => d.parameters.length) = some 1) := by decide +kernel
theorem k_X5_alike {l : Launch} (hst : l.stackTraces = false) {G : gaG} {X : String → gaH → Prop} {a0 : Nat} {a1 : Int} {h : gaH} {Q : Int → gaH → Prop} (hw : w_X5_alike X a0 a1 h Q) : gaC l G yX5_alike (gaM yX5_alike cX5_alike 3 ((some .int))) rm_X5_alike [.ref a0, gi a1] h (gQi Q) X := by
  refine g_start (lv := [some (.ref a0), some (gi a1), none]) hpl_RX5 hst (Nat.le_of_ble_eq_true rfl) (gaArgs_pad (z := 1) rfl) ww_2_75 ?_
  intro p e s m args below meth c V hT
  show gaP p l e rm_X5_alike s m args below meth c G 3 (gaZ below G (gQi Q) X args s rm_X5_alike) 0 [some (.ref a0), some (gi a1), none] [] h 1 6
  unfold w_X5_alike at hw
  refine g_aload_n V dX5_alike_0 rfl rfl ?_
  refine g_iload_n V dX5_alike_1 rfl rfl ?_
  obtain ⟨hb, hw⟩ := hw
  obtain ⟨fb, hb⟩ := hb
  obtain ⟨hk, hj, c3, s4, ec, es, hw⟩ := hw
  refine g_callV (C := RX5) (T := TX5) (N := 9) (st := []) V (k_X5_growthOf hst hw) ww_2_13 ww_2_15 wp_1_4 ww_1_1 ww_2_16 hd_X5_growthOf ⟨by decide, by decide⟩ rfl (by decide) hb rfl rfl (ga_cat rfl) dX5_alike_2 hk hj rfl (gaX_all hT V) (ga_ka (fun r2 hp1 hw => ?_))
  refine ga_re ec es ?_
  refine g_astore_n (lv2 := [some (.ref a0), some (gi a1), some (.ref r2)]) V dX5_alike_5 (by decide) rfl rfl rfl ?_
  refine g_aload_n V dX5_alike_6 rfl rfl ?_
  obtain ⟨fs, r5, ha, hv, hw⟩ := hw
  refine g_getN (C := RX0) (T := TX0) (N := 4) (host := "Wordgarden") V 3 rfl hin_RX0 (by decide) (by decide) gn_11 rfl ha hv dX5_alike_7 rfl ?_
  refine g_aload_n V dX5_alike_10 rfl rfl ?_
  obtain ⟨fs, r6, ha, hv, hw⟩ := hw
  refine g_getN (C := RX0) (T := TX0) (N := 4) (host := "Wordgarden") V 2 rfl hin_RX0 (by decide) (by decide) gn_10 rfl ha hv dX5_alike_11 rfl ?_
  refine g_callS (st := []) V (k_X1_firstUnlikeJoined hst hw) ww_2_76 ww_2_77 ww_1_12 ww_2_78 hd_X1_firstUnlikeJoined ⟨by decide, by decide⟩ rfl rfl (ga_cat rfl) dX5_alike_14 (Nat.zero_le _) (Nat.zero_le _) rfl (gaX_all hT V) (ga_ki (fun r8 hp7 hw => ?_))
  exact g_iret V rfl rfl dX5_alike_17 ⟨_, rfl, hw⟩
def w_X5_wordOf_J13 (X : String → gaH → Prop) (Q : Nat → gaH → Prop)  (h : gaH) (kc ks : Nat) : Prop := 1 ≤ kc ∧ 6 ≤ ks ∧ X "java/lang/IndexOutOfBoundsException" h
def w_X5_wordOf (X : String → gaH → Prop) (a0 : Nat) (a1 : Int) (h : gaH) (Q : Nat → gaH → Prop) : Prop := gR a1 ∧ (if a1 < 0 then w_X5_wordOf_J13 X Q h 1 6 else gA h a0 5 0 (fun r1 => gAL h r1 110 (fun r2 => gR a1 ∧ gR r2 ∧ (if a1 < r2 then gA h a0 5 0 (fun r3 => gLA h r3 110 a1 (fun r4 => Q r4 h)) else w_X5_wordOf_J13 X Q h 1 6))))
abbrev rm_X5_wordOf : Room := { frames := 8, cells := 1, slots := 6, locals := 200 }
theorem hd_X5_wordOf : yX5_wordOf.cls = RX5 ∧ (yX5_wordOf.cls ≠ "java/lang/invoke/MethodHandle" ∧ yX5_wordOf.cls ≠ "java/lang/invoke/VarHandle" ∧ (parseMethodDescriptor yX5_wordOf.desc).map (fun d => d.parameters.length) = some 1) := by decide +kernel
theorem k_X5_wordOf {l : Launch} (hst : l.stackTraces = false) {G : gaG} {X : String → gaH → Prop} {a0 : Nat} {a1 : Int} {h : gaH} {Q : Nat → gaH → Prop} (hw : w_X5_wordOf X a0 a1 h Q) : gaC l G yX5_wordOf (gaM yX5_wordOf cX5_wordOf 2 ((some (.object "Wordgarden$Word")))) rm_X5_wordOf [.ref a0, gi a1] h (gQa Q) X := by
  refine g_start (lv := [some (.ref a0), some (gi a1)]) hpl_RX5 hst (Nat.le_of_ble_eq_true rfl) (gaArgs_pad (z := 0) rfl) ww_1_153 ?_
  intro p e s m args below meth c V hT
  have h_X5_wordOf_J13 : ∀  (h : gaH) (kc ks : Nat), w_X5_wordOf_J13 X Q h kc ks → gaP p l e rm_X5_wordOf s m args below meth c G 2 (gaZ below G (gQa Q) X args s rm_X5_wordOf) 13 [none, none] [] h kc ks := by
    intro h kc ks hw
    unfold w_X5_wordOf_J13 at hw
    exact g_throw (names := gxNames) hT V hfit_O hfit_N ww_1_154 ww_1_10 gs_0 hat1_O hat2_O hgood_O dX5_wordOf_13 dX5_wordOf_16 dX5_wordOf_17 dX5_wordOf_20 dX5_wordOf_23 (by decide) (Nat.le_of_ble_eq_true rfl) hw.1 hw.2.1 hw.2.2
  show gaP p l e rm_X5_wordOf s m args below meth c G 2 (gaZ below G (gQa Q) X args s rm_X5_wordOf) 0 [some (.ref a0), some (gi a1)] [] h 1 6
  unfold w_X5_wordOf at hw
  refine g_iload_n V dX5_wordOf_0 rfl rfl ?_
  obtain ⟨hx0, hw⟩ := hw
  refine gi_if_lt V dX5_wordOf_1 rfl rfl hx0 (fun q => ?_) (fun q => ?_)
  · have hw := ga_t q hw
    refine g_less (bs := [false, false]) (lv2 := [none, none]) rfl ?_
    exact h_X5_wordOf_J13 h 1 6 hw
  · have hw := ga_f q hw
    refine g_iload_n V dX5_wordOf_4 rfl rfl ?_
    refine g_aload_n V dX5_wordOf_5 rfl rfl ?_
    obtain ⟨fs, r1, ha, hv, hw⟩ := hw
    refine g_get (C := RX5) (T := TX5) (N := 9) V 0 rfl hin_RX5 (by decide) (by decide) ww_1_110 rfl ha hv dX5_wordOf_6 rfl ?_
    obtain ⟨t9, vs, ha, ht, hw⟩ := hw
    refine gi_arraylength (t0 := 110) V (by simp [gaT]) ha ht dX5_wordOf_9 rfl ?_
    generalize (vs.length : Int) = r2 at hw ⊢
    obtain ⟨hx0, hx1, hw⟩ := hw
    refine gi_icmp_lt V dX5_wordOf_10 rfl rfl hx0 hx1 (fun q => ?_) (fun q => ?_)
    · have hw := ga_t q hw
      refine g_aload_n V dX5_wordOf_24 rfl rfl ?_
      obtain ⟨fs, r3, ha, hv, hw⟩ := hw
      refine g_get (C := RX5) (T := TX5) (N := 9) V 0 rfl hin_RX5 (by decide) (by decide) ww_1_110 rfl ha hv dX5_wordOf_25 rfl ?_
      refine g_iload_n V dX5_wordOf_28 rfl rfl ?_
      obtain ⟨vs, r4, ha, h0, h9, hv, hw⟩ := hw
      refine gi_aaload V ha (by decide) h0 h9 hv dX5_wordOf_29 rfl ?_
      exact g_aret V rfl (by first | exact Or.inl ⟨_, rfl⟩ | exact Or.inr ⟨_, rfl⟩) dX5_wordOf_30 ⟨_, rfl, hw⟩
    · have hw := ga_f q hw
      refine g_less (bs := [false, false]) (lv2 := [none, none]) rfl ?_
      exact h_X5_wordOf_J13 h 1 6 hw
def w_X5_refuse (a0 : Nat) (h : gaH) (Q : Int → gaH → Prop) : Prop := gI h a0 5 7 (fun r1 => gPF h a0 5 7 (gi (r1 + 1)) (fun hp2 => Q (-9) hp2))
abbrev rm_X5_refuse : Room := { frames := 0, cells := 0, slots := 0, locals := 0 }
theorem hd_X5_refuse : yX5_refuse.cls = RX5 ∧ (yX5_refuse.cls ≠ "java/lang/invoke/MethodHandle" ∧ yX5_refuse.cls ≠ "java/lang/invoke/VarHandle" ∧ (parseMethodDescriptor yX5_refuse.desc).map (fun d => d.parameters.length) = some 0) := by decide +kernel
theorem k_X5_refuse {l : Launch} (hst : l.stackTraces = false) {G : gaG} {X : String → gaH → Prop} {a0 : Nat} {h : gaH} {Q : Int → gaH → Prop} (hw : w_X5_refuse a0 h Q) : gaC l G yX5_refuse (gaM yX5_refuse cX5_refuse 1 ((some .int))) rm_X5_refuse [.ref a0] h (gQi Q) X := by
  refine g_start (lv := [some (.ref a0)]) hpl_RX5 hst (Nat.le_of_ble_eq_true rfl) (gaArgs_pad (z := 0) rfl) ww_2_234 ?_
  intro p e s m args below meth c V hT
  unfold w_X5_refuse at hw
  refine g_aload_n V dX5_refuse_0 rfl rfl ?_
  refine g_dup V dX5_refuse_1 rfl rfl ?_
  obtain ⟨fs, r1, ha, hv, hw⟩ := hw
  refine g_get (C := RX5) (T := TX5) (N := 9) V 7 rfl hin_RX5 (by decide) (by decide) ww_1_117 rfl ha hv dX5_refuse_2 rfl ?_
  refine g_iconst V (Int32.ofInt 1) dX5_refuse_5 rfl rfl ?_
  refine gi_iadd V dX5_refuse_6 rfl ?_
  obtain ⟨fs, ha, hl, hw⟩ := hw
  refine g_put (C := RX5) (T := TX5) (N := 9) V 7 tyX5 tyX5_ok nmX5 rfl hin_RX5 (by decide) (by decide) ww_1_117 rfl rfl rfl rfl ha hl dX5_refuse_7 rfl ?_
  generalize gaUp h a0 _ = hp2 at hw ⊢
  refine g_bipush V (Int32.ofInt (-9)) dX5_refuse_10 rfl rfl ?_
  exact g_iret V rfl rfl dX5_refuse_12 ⟨_, rfl, hw⟩
def w_X5_sheetActDone (a0 : Nat) (a1 : Int) (h : gaH) (Q : Int → gaH → Prop) : Prop := gI h a0 5 5 (fun r1 => gPF h a0 5 5 (gi (r1 + 1)) (fun hp2 => Q a1 hp2))
abbrev rm_X5_sheetActDone : Room := { frames := 0, cells := 0, slots := 0, locals := 0 }
theorem hd_X5_sheetActDone : yX5_sheetActDone.cls = RX5 ∧ (yX5_sheetActDone.cls ≠ "java/lang/invoke/MethodHandle" ∧ yX5_sheetActDone.cls ≠ "java/lang/invoke/VarHandle" ∧ (parseMethodDescriptor yX5_sheetActDone.desc).map (fun d => d.parameters.length) = some 1) := by decide +kernel
theorem k_X5_sheetActDone {l : Launch} (hst : l.stackTraces = false) {G : gaG} {X : String → gaH → Prop} {a0 : Nat} {a1 : Int} {h : gaH} {Q : Int → gaH → Prop} (hw : w_X5_sheetActDone a0 a1 h Q) : gaC l G yX5_sheetActDone (gaM yX5_sheetActDone cX5_sheetActDone 2 ((some .int))) rm_X5_sheetActDone [.ref a0, gi a1] h (gQi Q) X := by
  refine g_start (lv := [some (.ref a0), some (gi a1)]) hpl_RX5 hst (Nat.le_of_ble_eq_true rfl) (gaArgs_pad (z := 0) rfl) ww_2_219 ?_
  intro p e s m args below meth c V hT
  unfold w_X5_sheetActDone at hw
  refine g_aload_n V dX5_sheetActDone_0 rfl rfl ?_
  refine g_dup V dX5_sheetActDone_1 rfl rfl ?_
  obtain ⟨fs, r1, ha, hv, hw⟩ := hw
  refine g_get (C := RX5) (T := TX5) (N := 9) V 5 rfl hin_RX5 (by decide) (by decide) ww_1_115 rfl ha hv dX5_sheetActDone_2 rfl ?_
  refine g_iconst V (Int32.ofInt 1) dX5_sheetActDone_5 rfl rfl ?_
  refine gi_iadd V dX5_sheetActDone_6 rfl ?_
  obtain ⟨fs, ha, hl, hw⟩ := hw
  refine g_put (C := RX5) (T := TX5) (N := 9) V 5 tyX5 tyX5_ok nmX5 rfl hin_RX5 (by decide) (by decide) ww_1_115 rfl rfl rfl rfl ha hl dX5_sheetActDone_7 rfl ?_
  generalize gaUp h a0 _ = hp2 at hw ⊢
  refine g_iload_n V dX5_sheetActDone_10 rfl rfl ?_
  exact g_iret V rfl rfl dX5_sheetActDone_11 ⟨_, rfl, hw⟩
def w_X5_exchangePart (a0 : Nat) (a1 : Nat) (a2 : Int) (a3 : Int) (a4 : Nat) (h : gaH) (Q : Int → gaH → Prop) : Prop := gI h a1 4 1 (fun r1 => gI h a4 4 1 (fun r2 => gR ((r1 - (a3 - a2)) + r2) ∧ (if ((r1 - (a3 - a2)) + r2) ≤ 64 then gA h a0 5 3 (fun r3 => gHas h r3 4 ∧ w_X4_clear r3 h (fun hp4 => gA hp4 a0 5 3 (fun r6 => gHas hp4 r6 4 ∧ w_X4_addPart r6 a1 0 a2 hp4 (fun hp7 => gA hp7 a0 5 3 (fun r9 => gI hp7 a4 4 1 (fun r10 => gHas hp7 r9 4 ∧ w_X4_addPart r9 a4 0 r10 hp7 (fun hp11 => gA hp11 a0 5 3 (fun r13 => gI hp11 a1 4 1 (fun r14 => gHas hp11 r13 4 ∧ w_X4_addPart r13 a1 a3 r14 hp11 (fun hp15 => gA hp15 a0 5 3 (fun r17 => gHas hp15 a1 4 ∧ w_X4_take a1 r17 hp15 (fun hp18 => gI hp18 a1 4 1 (fun r20 => gHas hp18 a0 5 ∧ w_X5_sheetActDone a0 r20 hp18 (fun r22 hp21 => Q r22 hp21)))))))))))))) else gHas h a0 5 ∧ w_X5_refuse a0 h (fun r24 hp23 => Q r24 hp23))))
abbrev rm_X5_exchangePart : Room := { frames := 2, cells := 0, slots := 0, locals := 45 }
theorem hd_X5_exchangePart : yX5_exchangePart.cls = RX5 ∧ (yX5_exchangePart.cls ≠ "java/lang/invoke/MethodHandle" ∧ yX5_exchangePart.cls ≠ "java/lang/invoke/VarHandle" ∧ (parseMethodDescriptor yX5_exchangePart.desc).map (fun d => d.parameters.length) = some 4) := by decide +kernel
theorem k_X5_exchangePart {l : Launch} (hst : l.stackTraces = false) {G : gaG} {X : String → gaH → Prop} {a0 : Nat} {a1 : Nat} {a2 : Int} {a3 : Int} {a4 : Nat} {h : gaH} {Q : Int → gaH → Prop} (hw : w_X5_exchangePart a0 a1 a2 a3 a4 h Q) : gaC l G yX5_exchangePart (gaM yX5_exchangePart cX5_exchangePart 5 ((some .int))) rm_X5_exchangePart [.ref a0, .ref a1, gi a2, gi a3, .ref a4] h (gQi Q) X := by
  refine g_start (lv := [some (.ref a0), some (.ref a1), some (gi a2), some (gi a3), some (.ref a4)]) hpl_RX5 hst (Nat.le_of_ble_eq_true rfl) (gaArgs_pad (z := 0) rfl) ww_2_230 ?_
  intro p e s m args below meth c V hT
  unfold w_X5_exchangePart at hw
  refine g_aload_n V dX5_exchangePart_0 rfl rfl ?_
  obtain ⟨fs, r1, ha, hv, hw⟩ := hw
  refine g_getN (C := RX4) (T := TX4) (N := 2) (host := "Wordgarden") V 1 rfl hin_RX4 (by decide) (by decide) gn_3 rfl ha hv dX5_exchangePart_1 rfl ?_
  refine g_iload_n V dX5_exchangePart_4 rfl rfl ?_
  refine g_iload_n V dX5_exchangePart_5 rfl rfl ?_
  refine gi_isub V dX5_exchangePart_6 rfl ?_
  refine gi_isub V dX5_exchangePart_7 rfl ?_
  refine g_aload V dX5_exchangePart_8 rfl rfl ?_
  obtain ⟨fs, r2, ha, hv, hw⟩ := hw
  refine g_getN (C := RX4) (T := TX4) (N := 2) (host := "Wordgarden") V 1 rfl hin_RX4 (by decide) (by decide) gn_3 rfl ha hv dX5_exchangePart_10 rfl ?_
  refine gi_iadd V dX5_exchangePart_13 rfl ?_
  refine g_bipush V (Int32.ofInt 64) dX5_exchangePart_14 rfl rfl ?_
  obtain ⟨hx0, hw⟩ := hw
  refine gi_icmp_le V dX5_exchangePart_16 rfl rfl hx0 (by decide) (fun q => ?_) (fun q => ?_)
  · have hw := ga_t q hw
    refine g_aload_n V dX5_exchangePart_24 rfl rfl ?_
    obtain ⟨fs, r3, ha, hv, hw⟩ := hw
    refine g_get (C := RX5) (T := TX5) (N := 9) V 3 rfl hin_RX5 (by decide) (by decide) ww_1_113 rfl ha hv dX5_exchangePart_25 rfl ?_
    obtain ⟨hb, hw⟩ := hw
    obtain ⟨fb, hb⟩ := hb
    refine g_callV (C := RX4) (T := TX4) (N := 2) (st := []) V (k_X4_clear hst hw) ww_2_235 ww_1_86 ww_1_87 ww_1_3 ww_1_88 hd_X4_clear ⟨by decide, by decide⟩ rfl (by decide) hb rfl rfl (ga_cat rfl) dX5_exchangePart_28 (Nat.zero_le _) (Nat.zero_le _) rfl (gaX_all hT V) (ga_kv (fun hp4 hw => ?_))
    refine g_aload_n V dX5_exchangePart_31 rfl rfl ?_
    obtain ⟨fs, r6, ha, hv, hw⟩ := hw
    refine g_get (C := RX5) (T := TX5) (N := 9) V 3 rfl hin_RX5 (by decide) (by decide) ww_1_113 rfl ha hv dX5_exchangePart_32 rfl ?_
    refine g_aload_n V dX5_exchangePart_35 rfl rfl ?_
    refine g_iconst V (Int32.ofInt 0) dX5_exchangePart_36 rfl rfl ?_
    refine g_iload_n V dX5_exchangePart_37 rfl rfl ?_
    obtain ⟨hb, hw⟩ := hw
    obtain ⟨fb, hb⟩ := hb
    refine g_callV (C := RX4) (T := TX4) (N := 2) (st := []) V (k_X4_addPart hst hw) ww_2_236 ww_2_46 ww_2_47 ww_1_3 ww_2_48 hd_X4_addPart ⟨by decide, by decide⟩ rfl (by decide) hb rfl rfl (ga_cat rfl) dX5_exchangePart_38 (Nat.zero_le _) (Nat.zero_le _) rfl (gaX_all hT V) (ga_kv (fun hp7 hw => ?_))
    refine g_aload_n V dX5_exchangePart_41 rfl rfl ?_
    obtain ⟨fs, r9, ha, hv, hw⟩ := hw
    refine g_get (C := RX5) (T := TX5) (N := 9) V 3 rfl hin_RX5 (by decide) (by decide) ww_1_113 rfl ha hv dX5_exchangePart_42 rfl ?_
    refine g_aload V dX5_exchangePart_45 rfl rfl ?_
    refine g_iconst V (Int32.ofInt 0) dX5_exchangePart_47 rfl rfl ?_
    refine g_aload V dX5_exchangePart_48 rfl rfl ?_
    obtain ⟨fs, r10, ha, hv, hw⟩ := hw
    refine g_getN (C := RX4) (T := TX4) (N := 2) (host := "Wordgarden") V 1 rfl hin_RX4 (by decide) (by decide) gn_3 rfl ha hv dX5_exchangePart_50 rfl ?_
    obtain ⟨hb, hw⟩ := hw
    obtain ⟨fb, hb⟩ := hb
    refine g_callV (C := RX4) (T := TX4) (N := 2) (st := []) V (k_X4_addPart hst hw) ww_2_236 ww_2_46 ww_2_47 ww_1_3 ww_2_48 hd_X4_addPart ⟨by decide, by decide⟩ rfl (by decide) hb rfl rfl (ga_cat rfl) dX5_exchangePart_53 (Nat.zero_le _) (Nat.zero_le _) rfl (gaX_all hT V) (ga_kv (fun hp11 hw => ?_))
    refine g_aload_n V dX5_exchangePart_56 rfl rfl ?_
    obtain ⟨fs, r13, ha, hv, hw⟩ := hw
    refine g_get (C := RX5) (T := TX5) (N := 9) V 3 rfl hin_RX5 (by decide) (by decide) ww_1_113 rfl ha hv dX5_exchangePart_57 rfl ?_
    refine g_aload_n V dX5_exchangePart_60 rfl rfl ?_
    refine g_iload_n V dX5_exchangePart_61 rfl rfl ?_
    refine g_aload_n V dX5_exchangePart_62 rfl rfl ?_
    obtain ⟨fs, r14, ha, hv, hw⟩ := hw
    refine g_getN (C := RX4) (T := TX4) (N := 2) (host := "Wordgarden") V 1 rfl hin_RX4 (by decide) (by decide) gn_3 rfl ha hv dX5_exchangePart_63 rfl ?_
    obtain ⟨hb, hw⟩ := hw
    obtain ⟨fb, hb⟩ := hb
    refine g_callV (C := RX4) (T := TX4) (N := 2) (st := []) V (k_X4_addPart hst hw) ww_2_236 ww_2_46 ww_2_47 ww_1_3 ww_2_48 hd_X4_addPart ⟨by decide, by decide⟩ rfl (by decide) hb rfl rfl (ga_cat rfl) dX5_exchangePart_66 (Nat.zero_le _) (Nat.zero_le _) rfl (gaX_all hT V) (ga_kv (fun hp15 hw => ?_))
    refine g_aload_n V dX5_exchangePart_69 rfl rfl ?_
    refine g_aload_n V dX5_exchangePart_70 rfl rfl ?_
    obtain ⟨fs, r17, ha, hv, hw⟩ := hw
    refine g_get (C := RX5) (T := TX5) (N := 9) V 3 rfl hin_RX5 (by decide) (by decide) ww_1_113 rfl ha hv dX5_exchangePart_71 rfl ?_
    obtain ⟨hb, hw⟩ := hw
    obtain ⟨fb, hb⟩ := hb
    refine g_callV (C := RX4) (T := TX4) (N := 2) (st := []) V (k_X4_take hst hw) ww_2_237 ww_2_50 ww_2_51 ww_1_3 ww_2_52 hd_X4_take ⟨by decide, by decide⟩ rfl (by decide) hb rfl rfl (ga_cat rfl) dX5_exchangePart_74 (Nat.zero_le _) (Nat.zero_le _) rfl (gaX_all hT V) (ga_kv (fun hp18 hw => ?_))
    refine g_aload_n V dX5_exchangePart_77 rfl rfl ?_
    refine g_aload_n V dX5_exchangePart_78 rfl rfl ?_
    obtain ⟨fs, r20, ha, hv, hw⟩ := hw
    refine g_getN (C := RX4) (T := TX4) (N := 2) (host := "Wordgarden") V 1 rfl hin_RX4 (by decide) (by decide) gn_3 rfl ha hv dX5_exchangePart_79 rfl ?_
    obtain ⟨hb, hw⟩ := hw
    obtain ⟨fb, hb⟩ := hb
    refine g_callV (C := RX5) (T := TX5) (N := 9) (st := []) V (k_X5_sheetActDone hst hw) ww_2_216 ww_2_218 wp_1_8 ww_1_1 ww_2_219 hd_X5_sheetActDone ⟨by decide, by decide⟩ rfl (by decide) hb rfl rfl (ga_cat rfl) dX5_exchangePart_82 (Nat.zero_le _) (Nat.zero_le _) rfl (gaX_all hT V) (ga_ki (fun r22 hp21 hw => ?_))
    exact g_iret V rfl rfl dX5_exchangePart_85 ⟨_, rfl, hw⟩
  · have hw := ga_f q hw
    refine g_aload_n V dX5_exchangePart_19 rfl rfl ?_
    obtain ⟨hb, hw⟩ := hw
    obtain ⟨fb, hb⟩ := hb
    refine g_callV (C := RX5) (T := TX5) (N := 9) (st := []) V (k_X5_refuse hst hw) ww_2_231 ww_2_233 wp_1_10 ww_1_1 ww_2_234 hd_X5_refuse ⟨by decide, by decide⟩ rfl (by decide) hb rfl rfl (ga_cat rfl) dX5_exchangePart_20 (Nat.zero_le _) (Nat.zero_le _) rfl (gaX_all hT V) (ga_ki (fun r24 hp23 hw => ?_))
    exact g_iret V rfl rfl dX5_exchangePart_23 ⟨_, rfl, hw⟩
def w_X5_append (X : String → gaH → Prop) (a0 : Nat) (a1 : Int) (a2 : Int) (h : gaH) (Q : Int → gaH → Prop) : Prop := gHas h a0 5 ∧ gCall 1 6 2 12 (fun c3 s4 => w_X5_wordOf X a0 a1 h (fun r2 hp1 => gI hp1 r2 4 1 (fun r5 => gI hp1 r2 4 1 (fun r6 => gHas hp1 a0 5 ∧ gCall 1 6 c3 s4 (fun c9 s10 => w_X5_wordOf X a0 a2 hp1 (fun r8 hp7 => gHas hp7 a0 5 ∧ w_X5_exchangePart a0 r2 r5 r6 r8 hp7 (fun r12 hp11 => Q r12 hp11)))))))
abbrev rm_X5_append : Room := { frames := 9, cells := 2, slots := 12, locals := 221 }
theorem hd_X5_append : yX5_append.cls = RX5 ∧ (yX5_append.cls ≠ "java/lang/invoke/MethodHandle" ∧ yX5_append.cls ≠ "java/lang/invoke/VarHandle" ∧ (parseMethodDescriptor yX5_append.desc).map (fun d => d.parameters.length) = some 2) := by decide +kernel
theorem k_X5_append {l : Launch} (hst : l.stackTraces = false) {G : gaG} {X : String → gaH → Prop} {a0 : Nat} {a1 : Int} {a2 : Int} {h : gaH} {Q : Int → gaH → Prop} (hw : w_X5_append X a0 a1 a2 h Q) : gaC l G yX5_append (gaM yX5_append cX5_append 4 ((some .int))) rm_X5_append [.ref a0, gi a1, gi a2] h (gQi Q) X := by
  refine g_start (lv := [some (.ref a0), some (gi a1), some (gi a2), none]) hpl_RX5 hst (Nat.le_of_ble_eq_true rfl) (gaArgs_pad (z := 1) rfl) ww_2_226 ?_
  intro p e s m args below meth c V hT
  show gaP p l e rm_X5_append s m args below meth c G 4 (gaZ below G (gQi Q) X args s rm_X5_append) 0 [some (.ref a0), some (gi a1), some (gi a2), none] [] h 2 12
  unfold w_X5_append at hw
  refine g_aload_n V dX5_append_0 rfl rfl ?_
  refine g_iload_n V dX5_append_1 rfl rfl ?_
  obtain ⟨hb, hw⟩ := hw
  obtain ⟨fb, hb⟩ := hb
  obtain ⟨hk, hj, c3, s4, ec, es, hw⟩ := hw
  refine g_callV (C := RX5) (T := TX5) (N := 9) (st := []) V (k_X5_wordOf hst hw) ww_1_150 ww_1_152 wp_1_1 ww_1_1 ww_1_153 hd_X5_wordOf ⟨by decide, by decide⟩ rfl (by decide) hb rfl rfl (ga_cat rfl) dX5_append_2 hk hj rfl (gaX_all hT V) (ga_ka (fun r2 hp1 hw => ?_))
  refine ga_re ec es ?_
  refine g_astore_n (lv2 := [some (.ref a0), some (gi a1), some (gi a2), some (.ref r2)]) V dX5_append_5 (by decide) rfl rfl rfl ?_
  refine g_aload_n V dX5_append_6 rfl rfl ?_
  refine g_aload_n V dX5_append_7 rfl rfl ?_
  refine g_aload_n V dX5_append_8 rfl rfl ?_
  obtain ⟨fs, r5, ha, hv, hw⟩ := hw
  refine g_getN (C := RX4) (T := TX4) (N := 2) (host := "Wordgarden") V 1 rfl hin_RX4 (by decide) (by decide) gn_3 rfl ha hv dX5_append_9 rfl ?_
  refine g_aload_n V dX5_append_12 rfl rfl ?_
  obtain ⟨fs, r6, ha, hv, hw⟩ := hw
  refine g_getN (C := RX4) (T := TX4) (N := 2) (host := "Wordgarden") V 1 rfl hin_RX4 (by decide) (by decide) gn_3 rfl ha hv dX5_append_13 rfl ?_
  refine g_aload_n V dX5_append_16 rfl rfl ?_
  refine g_iload_n V dX5_append_17 rfl rfl ?_
  obtain ⟨hb, hw⟩ := hw
  obtain ⟨fb, hb⟩ := hb
  obtain ⟨hk, hj, c9, s10, ec, es, hw⟩ := hw
  refine g_callV (C := RX5) (T := TX5) (N := 9) (st := [gi r6, gi r5, .ref r2, .ref a0]) V (k_X5_wordOf hst hw) ww_1_150 ww_1_152 wp_1_1 ww_1_1 ww_1_153 hd_X5_wordOf ⟨by decide, by decide⟩ rfl (by decide) hb rfl rfl (ga_cat rfl) dX5_append_18 hk hj rfl (gaX_all hT V) (ga_ka (fun r8 hp7 hw => ?_))
  refine ga_re ec es ?_
  obtain ⟨hb, hw⟩ := hw
  obtain ⟨fb, hb⟩ := hb
  refine g_callV (C := RX5) (T := TX5) (N := 9) (st := []) V (k_X5_exchangePart hst hw) ww_2_227 ww_2_229 wp_1_9 ww_1_1 ww_2_230 hd_X5_exchangePart ⟨by decide, by decide⟩ rfl (by decide) hb rfl rfl (ga_cat rfl) dX5_append_21 (Nat.zero_le _) (Nat.zero_le _) rfl (gaX_all hT V) (ga_ki (fun r12 hp11 hw => ?_))
  exact g_iret V rfl rfl dX5_append_24 ⟨_, rfl, hw⟩
def w_X5_needArgument (X : String → gaH → Prop) (a0 : Int) (h : gaH) (Q : gaH → Prop) : Prop := gR a0 ∧ (if a0 = 0 then 1 ≤ 1 ∧ 6 ≤ 6 ∧ X "java/lang/IllegalArgumentException" h else Q h)
abbrev rm_X5_needArgument : Room := { frames := 8, cells := 1, slots := 6, locals := 200 }
theorem hd_X5_needArgument : (yX5_needArgument.cls ≠ "java/lang/invoke/MethodHandle" ∧ yX5_needArgument.cls ≠ "java/lang/invoke/VarHandle" ∧ (parseMethodDescriptor yX5_needArgument.desc).map (fun d => d.parameters.length) = some 1) := by decide +kernel
theorem k_X5_needArgument {l : Launch} (hst : l.stackTraces = false) {G : gaG} {X : String → gaH → Prop} {a0 : Int} {h : gaH} {Q : gaH → Prop} (hw : w_X5_needArgument X a0 h Q) : gaC l G yX5_needArgument (gaM yX5_needArgument cX5_needArgument 1 ((none : Option Jvm.ClassFile.FieldType))) rm_X5_needArgument [gi a0] h (gQv Q) X := by
  refine g_start (lv := [some (gi a0)]) hpl_RX5 hst (Nat.le_of_ble_eq_true rfl) (gaArgs_pad (z := 0) rfl) ww_2_174 ?_
  intro p e s m args below meth c V hT
  show gaP p l e rm_X5_needArgument s m args below meth c G 1 (gaZ below G (gQv Q) X args s rm_X5_needArgument) 0 [some (gi a0)] [] h 1 6
  unfold w_X5_needArgument at hw
  refine g_iload_n V dX5_needArgument_0 rfl rfl ?_
  obtain ⟨hx0, hw⟩ := hw
  refine gi_if_ne V dX5_needArgument_1 rfl rfl hx0 (fun q => ?_) (fun q => ?_)
  · have hw := ga_f q hw
    exact g_vret V rfl dX5_needArgument_15 ⟨rfl, hw⟩
  · have hw := ga_t q hw
    exact g_throw (names := gxNames) hT V hfit_A hfit_N ww_2_175 ww_1_11 gs_2 hat1_A hat2_A hgood_A dX5_needArgument_4 dX5_needArgument_7 dX5_needArgument_8 dX5_needArgument_11 dX5_needArgument_14 (by decide) (Nat.le_of_ble_eq_true rfl) hw.1 hw.2.1 hw.2.2
def w_X5_takeRule_J35 (X : String → gaH → Prop) (Q : gaH → Prop) (v0 : Nat) (v1 : Int) (v2 : Int) (t0 : Int) (h : gaH) (kc ks : Nat) : Prop := gCall 1 6 kc ks (fun c3 s4 => w_X5_needArgument X t0 h (fun hp1 => gA hp1 v0 5 2 (fun r5 => gHas hp1 r5 3 ∧ w_X2_take r5 v1 v2 hp1 (fun hp6 => Q hp6))))
def w_X5_takeRule_J34 (X : String → gaH → Prop) (Q : gaH → Prop) (v0 : Nat) (v1 : Int) (v2 : Int) (h : gaH) (kc ks : Nat) : Prop := w_X5_takeRule_J35 X Q v0 v1 v2 0 h kc ks
def w_X5_takeRule_J16 (X : String → gaH → Prop) (Q : gaH → Prop) (v0 : Nat) (v1 : Int) (v2 : Int) (t0 : Int) (h : gaH) (kc ks : Nat) : Prop := gCall 1 6 kc ks (fun c3 s4 => w_X5_needArgument X t0 h (fun hp1 => gR v2 ∧ (if v2 < 2 then w_X5_takeRule_J34 X Q v0 v1 v2 hp1 c3 s4 else gR v2 ∧ (if 31 < v2 then w_X5_takeRule_J34 X Q v0 v1 v2 hp1 c3 s4 else w_X5_takeRule_J35 X Q v0 v1 v2 1 hp1 c3 s4))))
def w_X5_takeRule_J15 (X : String → gaH → Prop) (Q : gaH → Prop) (v0 : Nat) (v1 : Int) (v2 : Int) (h : gaH) (kc ks : Nat) : Prop := w_X5_takeRule_J16 X Q v0 v1 v2 0 h kc ks
def w_X5_takeRule (X : String → gaH → Prop) (a0 : Nat) (a1 : Int) (a2 : Int) (h : gaH) (Q : gaH → Prop) : Prop := gR a1 ∧ (if a1 < 2 then w_X5_takeRule_J15 X Q a0 a1 a2 h 2 12 else gR a1 ∧ (if 31 < a1 then w_X5_takeRule_J15 X Q a0 a1 a2 h 2 12 else w_X5_takeRule_J16 X Q a0 a1 a2 1 h 2 12))
abbrev rm_X5_takeRule : Room := { frames := 9, cells := 2, slots := 12, locals := 220 }
theorem hd_X5_takeRule : yX5_takeRule.cls = RX5 ∧ (yX5_takeRule.cls ≠ "java/lang/invoke/MethodHandle" ∧ yX5_takeRule.cls ≠ "java/lang/invoke/VarHandle" ∧ (parseMethodDescriptor yX5_takeRule.desc).map (fun d => d.parameters.length) = some 2) := by decide +kernel
theorem k_X5_takeRule {l : Launch} (hst : l.stackTraces = false) {G : gaG} {X : String → gaH → Prop} {a0 : Nat} {a1 : Int} {a2 : Int} {h : gaH} {Q : gaH → Prop} (hw : w_X5_takeRule X a0 a1 a2 h Q) : gaC l G yX5_takeRule (gaM yX5_takeRule cX5_takeRule 3 ((none : Option Jvm.ClassFile.FieldType))) rm_X5_takeRule [.ref a0, gi a1, gi a2] h (gQv Q) X := by
  refine g_start (lv := [some (.ref a0), some (gi a1), some (gi a2)]) hpl_RX5 hst (Nat.le_of_ble_eq_true rfl) (gaArgs_pad (z := 0) rfl) ww_3_103 ?_
  intro p e s m args below meth c V hT
  have h_X5_takeRule_J35 : ∀ (v0 : Nat) (v1 : Int) (v2 : Int) (t0 : Int) (h : gaH) (kc ks : Nat), w_X5_takeRule_J35 X Q v0 v1 v2 t0 h kc ks → gaP p l e rm_X5_takeRule s m args below meth c G 3 (gaZ below G (gQv Q) X args s rm_X5_takeRule) 35 [some (.ref v0), some (gi v1), some (gi v2)] [gi t0] h kc ks := by
    intro v0 v1 v2 t0 h kc ks hw
    unfold w_X5_takeRule_J35 at hw
    obtain ⟨hk, hj, c3, s4, ec, es, hw⟩ := hw
    refine g_callS (st := []) V (k_X5_needArgument hst hw) ww_2_172 ww_2_173 ww_1_1 ww_2_174 hd_X5_needArgument ⟨by decide, by decide⟩ rfl rfl (ga_cat rfl) dX5_takeRule_35 hk hj rfl (gaX_all hT V) (ga_kv (fun hp1 hw => ?_))
    refine ga_re ec es ?_
    refine g_aload_n V dX5_takeRule_38 rfl rfl ?_
    obtain ⟨fs, r5, ha, hv, hw⟩ := hw
    refine g_get (C := RX5) (T := TX5) (N := 9) V 2 rfl hin_RX5 (by decide) (by decide) ww_1_112 rfl ha hv dX5_takeRule_39 rfl ?_
    refine g_iload_n V dX5_takeRule_42 rfl rfl ?_
    refine g_iload_n V dX5_takeRule_43 rfl rfl ?_
    obtain ⟨hb, hw⟩ := hw
    obtain ⟨fb, hb⟩ := hb
    refine g_callV (C := RX2) (T := TX2) (N := 3) (st := []) V (k_X2_take hst hw) ww_3_104 ww_2_32 ww_2_33 ww_1_2 ww_2_34 hd_X2_take ⟨by decide, by decide⟩ rfl (by decide) hb rfl rfl (ga_cat rfl) dX5_takeRule_44 (Nat.zero_le _) (Nat.zero_le _) rfl (gaX_all hT V) (ga_kv (fun hp6 hw => ?_))
    exact g_vret V rfl dX5_takeRule_47 ⟨rfl, hw⟩
  have h_X5_takeRule_J34 : ∀ (v0 : Nat) (v1 : Int) (v2 : Int) (h : gaH) (kc ks : Nat), w_X5_takeRule_J34 X Q v0 v1 v2 h kc ks → gaP p l e rm_X5_takeRule s m args below meth c G 3 (gaZ below G (gQv Q) X args s rm_X5_takeRule) 34 [some (.ref v0), some (gi v1), some (gi v2)] [] h kc ks := by
    intro v0 v1 v2 h kc ks hw
    unfold w_X5_takeRule_J34 at hw
    refine g_iconst V (Int32.ofInt 0) dX5_takeRule_34 rfl rfl ?_
    exact h_X5_takeRule_J35 v0 v1 v2 0 h kc ks hw
  have h_X5_takeRule_J16 : ∀ (v0 : Nat) (v1 : Int) (v2 : Int) (t0 : Int) (h : gaH) (kc ks : Nat), w_X5_takeRule_J16 X Q v0 v1 v2 t0 h kc ks → gaP p l e rm_X5_takeRule s m args below meth c G 3 (gaZ below G (gQv Q) X args s rm_X5_takeRule) 16 [some (.ref v0), some (gi v1), some (gi v2)] [gi t0] h kc ks := by
    intro v0 v1 v2 t0 h kc ks hw
    unfold w_X5_takeRule_J16 at hw
    obtain ⟨hk, hj, c3, s4, ec, es, hw⟩ := hw
    refine g_callS (st := []) V (k_X5_needArgument hst hw) ww_2_172 ww_2_173 ww_1_1 ww_2_174 hd_X5_needArgument ⟨by decide, by decide⟩ rfl rfl (ga_cat rfl) dX5_takeRule_16 hk hj rfl (gaX_all hT V) (ga_kv (fun hp1 hw => ?_))
    refine ga_re ec es ?_
    refine g_iload_n V dX5_takeRule_19 rfl rfl ?_
    refine g_iconst V (Int32.ofInt 2) dX5_takeRule_20 rfl rfl ?_
    obtain ⟨hx0, hw⟩ := hw
    refine gi_icmp_lt V dX5_takeRule_21 rfl rfl hx0 (by decide) (fun q => ?_) (fun q => ?_)
    · have hw := ga_t q hw
      exact h_X5_takeRule_J34 v0 v1 v2 hp1 c3 s4 hw
    · have hw := ga_f q hw
      refine g_iload_n V dX5_takeRule_24 rfl rfl ?_
      refine g_bipush V (Int32.ofInt 31) dX5_takeRule_25 rfl rfl ?_
      obtain ⟨hx0, hw⟩ := hw
      refine gi_icmp_gt V dX5_takeRule_27 rfl rfl hx0 (by decide) (fun q => ?_) (fun q => ?_)
      · have hw := ga_t q hw
        exact h_X5_takeRule_J34 v0 v1 v2 hp1 c3 s4 hw
      · have hw := ga_f q hw
        refine g_iconst V (Int32.ofInt 1) dX5_takeRule_30 rfl rfl ?_
        refine g_goto V dX5_takeRule_31 rfl ?_
        exact h_X5_takeRule_J35 v0 v1 v2 1 hp1 c3 s4 hw
  have h_X5_takeRule_J15 : ∀ (v0 : Nat) (v1 : Int) (v2 : Int) (h : gaH) (kc ks : Nat), w_X5_takeRule_J15 X Q v0 v1 v2 h kc ks → gaP p l e rm_X5_takeRule s m args below meth c G 3 (gaZ below G (gQv Q) X args s rm_X5_takeRule) 15 [some (.ref v0), some (gi v1), some (gi v2)] [] h kc ks := by
    intro v0 v1 v2 h kc ks hw
    unfold w_X5_takeRule_J15 at hw
    refine g_iconst V (Int32.ofInt 0) dX5_takeRule_15 rfl rfl ?_
    exact h_X5_takeRule_J16 v0 v1 v2 0 h kc ks hw
  show gaP p l e rm_X5_takeRule s m args below meth c G 3 (gaZ below G (gQv Q) X args s rm_X5_takeRule) 0 [some (.ref a0), some (gi a1), some (gi a2)] [] h 2 12
  unfold w_X5_takeRule at hw
  refine g_iload_n V dX5_takeRule_0 rfl rfl ?_
  refine g_iconst V (Int32.ofInt 2) dX5_takeRule_1 rfl rfl ?_
  obtain ⟨hx0, hw⟩ := hw
  refine gi_icmp_lt V dX5_takeRule_2 rfl rfl hx0 (by decide) (fun q => ?_) (fun q => ?_)
  · have hw := ga_t q hw
    exact h_X5_takeRule_J15 a0 a1 a2 h 2 12 hw
  · have hw := ga_f q hw
    refine g_iload_n V dX5_takeRule_5 rfl rfl ?_
    refine g_bipush V (Int32.ofInt 31) dX5_takeRule_6 rfl rfl ?_
    obtain ⟨hx0, hw⟩ := hw
    refine gi_icmp_gt V dX5_takeRule_8 rfl rfl hx0 (by decide) (fun q => ?_) (fun q => ?_)
    · have hw := ga_t q hw
      exact h_X5_takeRule_J15 a0 a1 a2 h 2 12 hw
    · have hw := ga_f q hw
      refine g_iconst V (Int32.ofInt 1) dX5_takeRule_11 rfl rfl ?_
      refine g_goto V dX5_takeRule_12 rfl ?_
      exact h_X5_takeRule_J16 a0 a1 a2 1 h 2 12 hw
def w_X5_apply (X : String → gaH → Prop) (a0 : Nat) (a1 : Int) (a2 : Int) (a3 : Int) (h : gaH) (Q : Int → gaH → Prop) : Prop := gHas h a0 5 ∧ gCall 1 6 3 18 (fun c3 s4 => w_X5_wordOf X a0 a1 h (fun r2 hp1 => gHas hp1 a0 5 ∧ gCall 2 12 c3 s4 (fun c7 s8 => w_X5_takeRule X a0 a2 a3 hp1 (fun hp5 => gA hp5 a0 5 2 (fun r9 => gHas hp5 r9 3 ∧ w_X2_imageLength r9 r2 hp5 (fun r11 hp10 => gR r11 ∧ (if r11 ≤ 64 then gA hp10 a0 5 2 (fun r12 => gA hp10 a0 5 3 (fun r13 => gHas hp10 r12 3 ∧ w_X2_layImage r12 r2 r13 hp10 (fun hp14 => gA hp14 a0 5 3 (fun r16 => gHas hp14 r2 4 ∧ w_X4_take r2 r16 hp14 (fun hp17 => gI hp17 r2 4 1 (fun r19 => gHas hp17 a0 5 ∧ w_X5_sheetActDone a0 r19 hp17 (fun r21 hp20 => Q r21 hp20))))))) else gHas hp10 a0 5 ∧ w_X5_refuse a0 hp10 (fun r23 hp22 => Q r23 hp22))))))))
abbrev rm_X5_apply : Room := { frames := 10, cells := 3, slots := 18, locals := 242 }
theorem hd_X5_apply : yX5_apply.cls = RX5 ∧ (yX5_apply.cls ≠ "java/lang/invoke/MethodHandle" ∧ yX5_apply.cls ≠ "java/lang/invoke/VarHandle" ∧ (parseMethodDescriptor yX5_apply.desc).map (fun d => d.parameters.length) = some 3) := by decide +kernel
theorem k_X5_apply {l : Launch} (hst : l.stackTraces = false) {G : gaG} {X : String → gaH → Prop} {a0 : Nat} {a1 : Int} {a2 : Int} {a3 : Int} {h : gaH} {Q : Int → gaH → Prop} (hw : w_X5_apply X a0 a1 a2 a3 h Q) : gaC l G yX5_apply (gaM yX5_apply cX5_apply 5 ((some .int))) rm_X5_apply [.ref a0, gi a1, gi a2, gi a3] h (gQi Q) X := by
  refine g_start (lv := [some (.ref a0), some (gi a1), some (gi a2), some (gi a3), none]) hpl_RX5 hst (Nat.le_of_ble_eq_true rfl) (gaArgs_pad (z := 1) rfl) ww_3_99 ?_
  intro p e s m args below meth c V hT
  show gaP p l e rm_X5_apply s m args below meth c G 5 (gaZ below G (gQi Q) X args s rm_X5_apply) 0 [some (.ref a0), some (gi a1), some (gi a2), some (gi a3), none] [] h 3 18
  unfold w_X5_apply at hw
  refine g_aload_n V dX5_apply_0 rfl rfl ?_
  refine g_iload_n V dX5_apply_1 rfl rfl ?_
  obtain ⟨hb, hw⟩ := hw
  obtain ⟨fb, hb⟩ := hb
  obtain ⟨hk, hj, c3, s4, ec, es, hw⟩ := hw
  refine g_callV (C := RX5) (T := TX5) (N := 9) (st := []) V (k_X5_wordOf hst hw) ww_1_150 ww_1_152 wp_1_1 ww_1_1 ww_1_153 hd_X5_wordOf ⟨by decide, by decide⟩ rfl (by decide) hb rfl rfl (ga_cat rfl) dX5_apply_2 hk hj rfl (gaX_all hT V) (ga_ka (fun r2 hp1 hw => ?_))
  refine ga_re ec es ?_
  refine g_astore (lv2 := [some (.ref a0), some (gi a1), some (gi a2), some (gi a3), some (.ref r2)]) V dX5_apply_5 (by decide) rfl rfl rfl ?_
  refine g_aload_n V dX5_apply_7 rfl rfl ?_
  refine g_iload_n V dX5_apply_8 rfl rfl ?_
  refine g_iload_n V dX5_apply_9 rfl rfl ?_
  obtain ⟨hb, hw⟩ := hw
  obtain ⟨fb, hb⟩ := hb
  obtain ⟨hk, hj, c7, s8, ec, es, hw⟩ := hw
  refine g_callV (C := RX5) (T := TX5) (N := 9) (st := []) V (k_X5_takeRule hst hw) ww_3_100 ww_3_102 wp_1_13 ww_1_1 ww_3_103 hd_X5_takeRule ⟨by decide, by decide⟩ rfl (by decide) hb rfl rfl (ga_cat rfl) dX5_apply_10 hk hj rfl (gaX_all hT V) (ga_kv (fun hp5 hw => ?_))
  refine ga_re ec es ?_
  refine g_aload_n V dX5_apply_13 rfl rfl ?_
  obtain ⟨fs, r9, ha, hv, hw⟩ := hw
  refine g_get (C := RX5) (T := TX5) (N := 9) V 2 rfl hin_RX5 (by decide) (by decide) ww_1_112 rfl ha hv dX5_apply_14 rfl ?_
  refine g_aload V dX5_apply_17 rfl rfl ?_
  obtain ⟨hb, hw⟩ := hw
  obtain ⟨fb, hb⟩ := hb
  refine g_callV (C := RX2) (T := TX2) (N := 3) (st := []) V (k_X2_imageLength hst hw) ww_3_105 ww_3_106 ww_3_107 ww_1_2 ww_3_108 hd_X2_imageLength ⟨by decide, by decide⟩ rfl (by decide) hb rfl rfl (ga_cat rfl) dX5_apply_19 (Nat.zero_le _) (Nat.zero_le _) rfl (gaX_all hT V) (ga_ki (fun r11 hp10 hw => ?_))
  refine g_bipush V (Int32.ofInt 64) dX5_apply_22 rfl rfl ?_
  obtain ⟨hx0, hw⟩ := hw
  refine gi_icmp_le V dX5_apply_24 rfl rfl hx0 (by decide) (fun q => ?_) (fun q => ?_)
  · have hw := ga_t q hw
    refine g_aload_n V dX5_apply_32 rfl rfl ?_
    obtain ⟨fs, r12, ha, hv, hw⟩ := hw
    refine g_get (C := RX5) (T := TX5) (N := 9) V 2 rfl hin_RX5 (by decide) (by decide) ww_1_112 rfl ha hv dX5_apply_33 rfl ?_
    refine g_aload V dX5_apply_36 rfl rfl ?_
    refine g_aload_n V dX5_apply_38 rfl rfl ?_
    obtain ⟨fs, r13, ha, hv, hw⟩ := hw
    refine g_get (C := RX5) (T := TX5) (N := 9) V 3 rfl hin_RX5 (by decide) (by decide) ww_1_113 rfl ha hv dX5_apply_39 rfl ?_
    obtain ⟨hb, hw⟩ := hw
    obtain ⟨fb, hb⟩ := hb
    refine g_callV (C := RX2) (T := TX2) (N := 3) (st := []) V (k_X2_layImage hst hw) ww_3_110 ww_2_40 ww_2_41 ww_1_2 ww_2_42 hd_X2_layImage ⟨by decide, by decide⟩ rfl (by decide) hb rfl rfl (ga_cat rfl) dX5_apply_42 (Nat.zero_le _) (Nat.zero_le _) rfl (gaX_all hT V) (ga_kv (fun hp14 hw => ?_))
    refine g_aload V dX5_apply_45 rfl rfl ?_
    refine g_aload_n V dX5_apply_47 rfl rfl ?_
    obtain ⟨fs, r16, ha, hv, hw⟩ := hw
    refine g_get (C := RX5) (T := TX5) (N := 9) V 3 rfl hin_RX5 (by decide) (by decide) ww_1_113 rfl ha hv dX5_apply_48 rfl ?_
    obtain ⟨hb, hw⟩ := hw
    obtain ⟨fb, hb⟩ := hb
    refine g_callV (C := RX4) (T := TX4) (N := 2) (st := []) V (k_X4_take hst hw) ww_2_237 ww_2_50 ww_2_51 ww_1_3 ww_2_52 hd_X4_take ⟨by decide, by decide⟩ rfl (by decide) hb rfl rfl (ga_cat rfl) dX5_apply_51 (Nat.zero_le _) (Nat.zero_le _) rfl (gaX_all hT V) (ga_kv (fun hp17 hw => ?_))
    refine g_aload_n V dX5_apply_54 rfl rfl ?_
    refine g_aload V dX5_apply_55 rfl rfl ?_
    obtain ⟨fs, r19, ha, hv, hw⟩ := hw
    refine g_getN (C := RX4) (T := TX4) (N := 2) (host := "Wordgarden") V 1 rfl hin_RX4 (by decide) (by decide) gn_3 rfl ha hv dX5_apply_57 rfl ?_
    obtain ⟨hb, hw⟩ := hw
    obtain ⟨fb, hb⟩ := hb
    refine g_callV (C := RX5) (T := TX5) (N := 9) (st := []) V (k_X5_sheetActDone hst hw) ww_2_216 ww_2_218 wp_1_8 ww_1_1 ww_2_219 hd_X5_sheetActDone ⟨by decide, by decide⟩ rfl (by decide) hb rfl rfl (ga_cat rfl) dX5_apply_60 (Nat.zero_le _) (Nat.zero_le _) rfl (gaX_all hT V) (ga_ki (fun r21 hp20 hw => ?_))
    exact g_iret V rfl rfl dX5_apply_63 ⟨_, rfl, hw⟩
  · have hw := ga_f q hw
    refine g_aload_n V dX5_apply_27 rfl rfl ?_
    obtain ⟨hb, hw⟩ := hw
    obtain ⟨fb, hb⟩ := hb
    refine g_callV (C := RX5) (T := TX5) (N := 9) (st := []) V (k_X5_refuse hst hw) ww_2_231 ww_2_233 wp_1_10 ww_1_1 ww_2_234 hd_X5_refuse ⟨by decide, by decide⟩ rfl (by decide) hb rfl rfl (ga_cat rfl) dX5_apply_28 (Nat.zero_le _) (Nat.zero_le _) rfl (gaX_all hT V) (ga_ki (fun r23 hp22 hw => ?_))
    exact g_iret V rfl rfl dX5_apply_31 ⟨_, rfl, hw⟩
def w_X5_oneIf (a0 : Int) (h : gaH) (Q : Int → gaH → Prop) : Prop := gR a0 ∧ (if a0 = 0 then Q 0 h else Q 1 h)
abbrev rm_X5_oneIf : Room := { frames := 0, cells := 0, slots := 0, locals := 0 }
theorem hd_X5_oneIf : (yX5_oneIf.cls ≠ "java/lang/invoke/MethodHandle" ∧ yX5_oneIf.cls ≠ "java/lang/invoke/VarHandle" ∧ (parseMethodDescriptor yX5_oneIf.desc).map (fun d => d.parameters.length) = some 1) := by decide +kernel
theorem k_X5_oneIf {l : Launch} (hst : l.stackTraces = false) {G : gaG} {X : String → gaH → Prop} {a0 : Int} {h : gaH} {Q : Int → gaH → Prop} (hw : w_X5_oneIf a0 h Q) : gaC l G yX5_oneIf (gaM yX5_oneIf cX5_oneIf 1 ((some .int))) rm_X5_oneIf [gi a0] h (gQi Q) X := by
  refine g_start (lv := [some (gi a0)]) hpl_RX5 hst (Nat.le_of_ble_eq_true rfl) (gaArgs_pad (z := 0) rfl) ww_2_106 ?_
  intro p e s m args below meth c V hT
  unfold w_X5_oneIf at hw
  refine g_iload_n V dX5_oneIf_0 rfl rfl ?_
  obtain ⟨hx0, hw⟩ := hw
  refine gi_if_eq V dX5_oneIf_1 rfl rfl hx0 (fun q => ?_) (fun q => ?_)
  · have hw := ga_t q hw
    refine g_iconst V (Int32.ofInt 0) dX5_oneIf_8 rfl rfl ?_
    exact g_iret V rfl rfl dX5_oneIf_9 ⟨_, rfl, hw⟩
  · have hw := ga_f q hw
    refine g_iconst V (Int32.ofInt 1) dX5_oneIf_4 rfl rfl ?_
    refine g_goto V dX5_oneIf_5 rfl ?_
    exact g_iret V rfl rfl dX5_oneIf_9 ⟨_, rfl, hw⟩
def w_X5_settle_J29 (Q : Int → gaH → Prop) (t0 : Nat) (t1 : Int) (h : gaH) : Prop := w_X5_oneIf t1 h (fun r2 hp1 => gHas hp1 t0 5 ∧ w_X5_sheetActDone t0 r2 hp1 (fun r4 hp3 => Q r4 hp3))
def w_X5_settle_J13 (Q : Int → gaH → Prop) (v0 : Nat) (v1 : Nat) (v2 : Nat) (t0 : Int) (h : gaH) : Prop := gHas h v1 4 ∧ w_X4_take v1 v2 h (fun hp1 => gR t0 ∧ (if t0 = 0 then w_X5_settle_J29 Q v0 1 hp1 else w_X5_settle_J29 Q v0 0 hp1))
def w_X5_settle (a0 : Nat) (a1 : Nat) (a2 : Nat) (h : gaH) (Q : Int → gaH → Prop) : Prop := w_X1_orderOf a1 a2 h (fun r2 hp1 => gR r2 ∧ (if r2 = 0 then w_X5_settle_J13 Q a0 a1 a2 1 hp1 else w_X5_settle_J13 Q a0 a1 a2 0 hp1))
abbrev rm_X5_settle : Room := { frames := 3, cells := 0, slots := 0, locals := 83 }
theorem hd_X5_settle : yX5_settle.cls = RX5 ∧ (yX5_settle.cls ≠ "java/lang/invoke/MethodHandle" ∧ yX5_settle.cls ≠ "java/lang/invoke/VarHandle" ∧ (parseMethodDescriptor yX5_settle.desc).map (fun d => d.parameters.length) = some 2) := by decide +kernel
theorem k_X5_settle {l : Launch} (hst : l.stackTraces = false) {G : gaG} {X : String → gaH → Prop} {a0 : Nat} {a1 : Nat} {a2 : Nat} {h : gaH} {Q : Int → gaH → Prop} (hw : w_X5_settle a0 a1 a2 h Q) : gaC l G yX5_settle (gaM yX5_settle cX5_settle 4 ((some .int))) rm_X5_settle [.ref a0, .ref a1, .ref a2] h (gQi Q) X := by
  refine g_start (lv := [some (.ref a0), some (.ref a1), some (.ref a2), none]) hpl_RX5 hst (Nat.le_of_ble_eq_true rfl) (gaArgs_pad (z := 1) rfl) ww_3_71 ?_
  intro p e s m args below meth c V hT
  have h_X5_settle_J29 : ∀ (t0 : Nat) (t1 : Int) (h : gaH), w_X5_settle_J29 Q t0 t1 h → gaP p l e rm_X5_settle s m args below meth c G 4 (gaZ below G (gQi Q) X args s rm_X5_settle) 29 [none, none, none, none] [gi t1, .ref t0] h 0 0 := by
    intro t0 t1 h hw
    unfold w_X5_settle_J29 at hw
    refine g_callS (st := [.ref t0]) V (k_X5_oneIf hst hw) ww_2_104 ww_2_105 ww_1_1 ww_2_106 hd_X5_oneIf ⟨by decide, by decide⟩ rfl rfl (ga_cat rfl) dX5_settle_29 (Nat.zero_le _) (Nat.zero_le _) rfl (gaX_all hT V) (ga_ki (fun r2 hp1 hw => ?_))
    obtain ⟨hb, hw⟩ := hw
    obtain ⟨fb, hb⟩ := hb
    refine g_callV (C := RX5) (T := TX5) (N := 9) (st := []) V (k_X5_sheetActDone hst hw) ww_2_216 ww_2_218 wp_1_8 ww_1_1 ww_2_219 hd_X5_sheetActDone ⟨by decide, by decide⟩ rfl (by decide) hb rfl rfl (ga_cat rfl) dX5_settle_32 (Nat.zero_le _) (Nat.zero_le _) rfl (gaX_all hT V) (ga_ki (fun r4 hp3 hw => ?_))
    exact g_iret V rfl rfl dX5_settle_35 ⟨_, rfl, hw⟩
  have h_X5_settle_J13 : ∀ (v0 : Nat) (v1 : Nat) (v2 : Nat) (t0 : Int) (h : gaH), w_X5_settle_J13 Q v0 v1 v2 t0 h → gaP p l e rm_X5_settle s m args below meth c G 4 (gaZ below G (gQi Q) X args s rm_X5_settle) 13 [some (.ref v0), some (.ref v1), some (.ref v2), none] [gi t0] h 0 0 := by
    intro v0 v1 v2 t0 h hw
    unfold w_X5_settle_J13 at hw
    refine g_istore_n (lv2 := [some (.ref v0), some (.ref v1), some (.ref v2), some (gi t0)]) V dX5_settle_13 (by decide) rfl rfl rfl ?_
    refine g_aload_n V dX5_settle_14 rfl rfl ?_
    refine g_aload_n V dX5_settle_15 rfl rfl ?_
    obtain ⟨hb, hw⟩ := hw
    obtain ⟨fb, hb⟩ := hb
    refine g_callV (C := RX4) (T := TX4) (N := 2) (st := []) V (k_X4_take hst hw) ww_2_237 ww_2_50 ww_2_51 ww_1_3 ww_2_52 hd_X4_take ⟨by decide, by decide⟩ rfl (by decide) hb rfl rfl (ga_cat rfl) dX5_settle_16 (Nat.zero_le _) (Nat.zero_le _) rfl (gaX_all hT V) (ga_kv (fun hp1 hw => ?_))
    refine g_aload_n V dX5_settle_19 rfl rfl ?_
    refine g_iload_n V dX5_settle_20 rfl rfl ?_
    obtain ⟨hx0, hw⟩ := hw
    refine gi_if_ne V dX5_settle_21 rfl rfl hx0 (fun q => ?_) (fun q => ?_)
    · have hw := ga_f q hw
      refine g_iconst V (Int32.ofInt 0) dX5_settle_28 rfl rfl ?_
      refine g_less (bs := [false, false, false, false]) (lv2 := [none, none, none, none]) rfl ?_
      exact h_X5_settle_J29 v0 0 hp1 hw
    · have hw := ga_t q hw
      refine g_iconst V (Int32.ofInt 1) dX5_settle_24 rfl rfl ?_
      refine g_goto V dX5_settle_25 rfl ?_
      refine g_less (bs := [false, false, false, false]) (lv2 := [none, none, none, none]) rfl ?_
      exact h_X5_settle_J29 v0 1 hp1 hw
  unfold w_X5_settle at hw
  refine g_aload_n V dX5_settle_0 rfl rfl ?_
  refine g_aload_n V dX5_settle_1 rfl rfl ?_
  refine g_callS (st := []) V (k_X1_orderOf hst hw) ww_2_0 ww_2_1 ww_1_12 ww_2_2 hd_X1_orderOf ⟨by decide, by decide⟩ rfl rfl (ga_cat rfl) dX5_settle_2 (Nat.zero_le _) (Nat.zero_le _) rfl (gaX_all hT V) (ga_ki (fun r2 hp1 hw => ?_))
  obtain ⟨hx0, hw⟩ := hw
  refine gi_if_ne V dX5_settle_5 rfl rfl hx0 (fun q => ?_) (fun q => ?_)
  · have hw := ga_f q hw
    refine g_iconst V (Int32.ofInt 0) dX5_settle_12 rfl rfl ?_
    exact h_X5_settle_J13 a0 a1 a2 0 hp1 hw
  · have hw := ga_t q hw
    refine g_iconst V (Int32.ofInt 1) dX5_settle_8 rfl rfl ?_
    refine g_goto V dX5_settle_9 rfl ?_
    exact h_X5_settle_J13 a0 a1 a2 1 hp1 hw
def w_X5_copy (X : String → gaH → Prop) (a0 : Nat) (a1 : Int) (a2 : Int) (h : gaH) (Q : Int → gaH → Prop) : Prop := gHas h a0 5 ∧ gCall 1 6 2 12 (fun c3 s4 => w_X5_wordOf X a0 a1 h (fun r2 hp1 => gHas hp1 a0 5 ∧ gCall 1 6 c3 s4 (fun c7 s8 => w_X5_wordOf X a0 a2 hp1 (fun r6 hp5 => gHas hp5 a0 5 ∧ w_X5_settle a0 r6 r2 hp5 (fun r10 hp9 => Q r10 hp9)))))
abbrev rm_X5_copy : Room := { frames := 9, cells := 2, slots := 12, locals := 221 }
theorem hd_X5_copy : yX5_copy.cls = RX5 ∧ (yX5_copy.cls ≠ "java/lang/invoke/MethodHandle" ∧ yX5_copy.cls ≠ "java/lang/invoke/VarHandle" ∧ (parseMethodDescriptor yX5_copy.desc).map (fun d => d.parameters.length) = some 2) := by decide +kernel
theorem k_X5_copy {l : Launch} (hst : l.stackTraces = false) {G : gaG} {X : String → gaH → Prop} {a0 : Nat} {a1 : Int} {a2 : Int} {h : gaH} {Q : Int → gaH → Prop} (hw : w_X5_copy X a0 a1 a2 h Q) : gaC l G yX5_copy (gaM yX5_copy cX5_copy 4 ((some .int))) rm_X5_copy [.ref a0, gi a1, gi a2] h (gQi Q) X := by
  refine g_start (lv := [some (.ref a0), some (gi a1), some (gi a2), none]) hpl_RX5 hst (Nat.le_of_ble_eq_true rfl) (gaArgs_pad (z := 1) rfl) ww_3_92 ?_
  intro p e s m args below meth c V hT
  show gaP p l e rm_X5_copy s m args below meth c G 4 (gaZ below G (gQi Q) X args s rm_X5_copy) 0 [some (.ref a0), some (gi a1), some (gi a2), none] [] h 2 12
  unfold w_X5_copy at hw
  refine g_aload_n V dX5_copy_0 rfl rfl ?_
  refine g_iload_n V dX5_copy_1 rfl rfl ?_
  obtain ⟨hb, hw⟩ := hw
  obtain ⟨fb, hb⟩ := hb
  obtain ⟨hk, hj, c3, s4, ec, es, hw⟩ := hw
  refine g_callV (C := RX5) (T := TX5) (N := 9) (st := []) V (k_X5_wordOf hst hw) ww_1_150 ww_1_152 wp_1_1 ww_1_1 ww_1_153 hd_X5_wordOf ⟨by decide, by decide⟩ rfl (by decide) hb rfl rfl (ga_cat rfl) dX5_copy_2 hk hj rfl (gaX_all hT V) (ga_ka (fun r2 hp1 hw => ?_))
  refine ga_re ec es ?_
  refine g_astore_n (lv2 := [some (.ref a0), some (gi a1), some (gi a2), some (.ref r2)]) V dX5_copy_5 (by decide) rfl rfl rfl ?_
  refine g_aload_n V dX5_copy_6 rfl rfl ?_
  refine g_aload_n V dX5_copy_7 rfl rfl ?_
  refine g_iload_n V dX5_copy_8 rfl rfl ?_
  obtain ⟨hb, hw⟩ := hw
  obtain ⟨fb, hb⟩ := hb
  obtain ⟨hk, hj, c7, s8, ec, es, hw⟩ := hw
  refine g_callV (C := RX5) (T := TX5) (N := 9) (st := [.ref a0]) V (k_X5_wordOf hst hw) ww_1_150 ww_1_152 wp_1_1 ww_1_1 ww_1_153 hd_X5_wordOf ⟨by decide, by decide⟩ rfl (by decide) hb rfl rfl (ga_cat rfl) dX5_copy_9 hk hj rfl (gaX_all hT V) (ga_ka (fun r6 hp5 hw => ?_))
  refine ga_re ec es ?_
  refine g_aload_n V dX5_copy_12 rfl rfl ?_
  obtain ⟨hb, hw⟩ := hw
  obtain ⟨fb, hb⟩ := hb
  refine g_callV (C := RX5) (T := TX5) (N := 9) (st := []) V (k_X5_settle hst hw) ww_3_68 ww_3_70 wp_1_12 ww_1_1 ww_3_71 hd_X5_settle ⟨by decide, by decide⟩ rfl (by decide) hb rfl rfl (ga_cat rfl) dX5_copy_13 (Nat.zero_le _) (Nat.zero_le _) rfl (gaX_all hT V) (ga_ki (fun r10 hp9 hw => ?_))
  exact g_iret V rfl rfl dX5_copy_16 ⟨_, rfl, hw⟩
def w_X5_count (X : String → gaH → Prop) (a0 : Nat) (a1 : Int) (a2 : Int) (h : gaH) (Q : Int → gaH → Prop) : Prop := gHas h a0 5 ∧ gCall 1 6 1 6 (fun c3 s4 => w_X5_wordOf X a0 a1 h (fun r2 hp1 => w_X1_upsOf r2 hp1 (fun r6 hp5 => gR a2 ∧ (if a2 = 0 then gI hp5 r2 4 1 (fun r7 => Q (r7 - r6) hp5) else Q r6 hp5))))
abbrev rm_X5_count : Room := { frames := 9, cells := 1, slots := 6, locals := 221 }
theorem hd_X5_count : yX5_count.cls = RX5 ∧ (yX5_count.cls ≠ "java/lang/invoke/MethodHandle" ∧ yX5_count.cls ≠ "java/lang/invoke/VarHandle" ∧ (parseMethodDescriptor yX5_count.desc).map (fun d => d.parameters.length) = some 2) := by decide +kernel
theorem k_X5_count {l : Launch} (hst : l.stackTraces = false) {G : gaG} {X : String → gaH → Prop} {a0 : Nat} {a1 : Int} {a2 : Int} {h : gaH} {Q : Int → gaH → Prop} (hw : w_X5_count X a0 a1 a2 h Q) : gaC l G yX5_count (gaM yX5_count cX5_count 5 ((some .int))) rm_X5_count [.ref a0, gi a1, gi a2] h (gQi Q) X := by
  refine g_start (lv := [some (.ref a0), some (gi a1), some (gi a2), none, none]) hpl_RX5 hst (Nat.le_of_ble_eq_true rfl) (gaArgs_pad (z := 2) rfl) ww_1_235 ?_
  intro p e s m args below meth c V hT
  show gaP p l e rm_X5_count s m args below meth c G 5 (gaZ below G (gQi Q) X args s rm_X5_count) 0 [some (.ref a0), some (gi a1), some (gi a2), none, none] [] h 1 6
  unfold w_X5_count at hw
  refine g_aload_n V dX5_count_0 rfl rfl ?_
  refine g_iload_n V dX5_count_1 rfl rfl ?_
  obtain ⟨hb, hw⟩ := hw
  obtain ⟨fb, hb⟩ := hb
  obtain ⟨hk, hj, c3, s4, ec, es, hw⟩ := hw
  refine g_callV (C := RX5) (T := TX5) (N := 9) (st := []) V (k_X5_wordOf hst hw) ww_1_150 ww_1_152 wp_1_1 ww_1_1 ww_1_153 hd_X5_wordOf ⟨by decide, by decide⟩ rfl (by decide) hb rfl rfl (ga_cat rfl) dX5_count_2 hk hj rfl (gaX_all hT V) (ga_ka (fun r2 hp1 hw => ?_))
  refine ga_re ec es ?_
  refine g_astore_n (lv2 := [some (.ref a0), some (gi a1), some (gi a2), some (.ref r2), none]) V dX5_count_5 (by decide) rfl rfl rfl ?_
  refine g_aload_n V dX5_count_6 rfl rfl ?_
  refine g_callS (st := []) V (k_X1_upsOf hst hw) ww_1_236 ww_1_237 ww_1_12 ww_1_238 hd_X1_upsOf ⟨by decide, by decide⟩ rfl rfl (ga_cat rfl) dX5_count_7 (Nat.zero_le _) (Nat.zero_le _) rfl (gaX_all hT V) (ga_ki (fun r6 hp5 hw => ?_))
  refine g_istore (lv2 := [some (.ref a0), some (gi a1), some (gi a2), some (.ref r2), some (gi r6)]) V dX5_count_10 (by decide) rfl rfl rfl ?_
  refine g_iload_n V dX5_count_12 rfl rfl ?_
  obtain ⟨hx0, hw⟩ := hw
  refine gi_if_eq V dX5_count_13 rfl rfl hx0 (fun q => ?_) (fun q => ?_)
  · have hw := ga_t q hw
    refine g_aload_n V dX5_count_21 rfl rfl ?_
    obtain ⟨fs, r7, ha, hv, hw⟩ := hw
    refine g_getN (C := RX4) (T := TX4) (N := 2) (host := "Wordgarden") V 1 rfl hin_RX4 (by decide) (by decide) gn_3 rfl ha hv dX5_count_22 rfl ?_
    refine g_iload V dX5_count_25 rfl rfl ?_
    refine gi_isub V dX5_count_27 rfl ?_
    exact g_iret V rfl rfl dX5_count_28 ⟨_, rfl, hw⟩
  · have hw := ga_f q hw
    refine g_iload V dX5_count_16 rfl rfl ?_
    refine g_goto V dX5_count_18 rfl ?_
    exact g_iret V rfl rfl dX5_count_28 ⟨_, rfl, hw⟩
def w_X5_cross (X : String → gaH → Prop) (a0 : Nat) (a1 : Int) (h : gaH) (Q : Int → gaH → Prop) : Prop := gHas h a0 5 ∧ gCall 1 6 1 6 (fun c3 s4 => w_X5_growthOf X a0 a1 h (fun r2 hp1 => gA hp1 r2 2 3 (fun r5 => gI hp1 r5 4 1 (fun r6 => gA hp1 r2 2 2 (fun r7 => w_X1_upsOf r7 hp1 (fun r9 hp8 => gA hp8 r2 2 2 (fun r10 => gI hp8 r10 4 1 (fun r11 => gA hp8 r2 2 3 (fun r12 => w_X1_upsOf r12 hp8 (fun r14 hp13 => Q ((r6 * r9) - (r11 * r14)) hp13))))))))))
abbrev rm_X5_cross : Room := { frames := 9, cells := 1, slots := 6, locals := 221 }
theorem hd_X5_cross : yX5_cross.cls = RX5 ∧ (yX5_cross.cls ≠ "java/lang/invoke/MethodHandle" ∧ yX5_cross.cls ≠ "java/lang/invoke/VarHandle" ∧ (parseMethodDescriptor yX5_cross.desc).map (fun d => d.parameters.length) = some 1) := by decide +kernel
theorem k_X5_cross {l : Launch} (hst : l.stackTraces = false) {G : gaG} {X : String → gaH → Prop} {a0 : Nat} {a1 : Int} {h : gaH} {Q : Int → gaH → Prop} (hw : w_X5_cross X a0 a1 h Q) : gaC l G yX5_cross (gaM yX5_cross cX5_cross 3 ((some .int))) rm_X5_cross [.ref a0, gi a1] h (gQi Q) X := by
  refine g_start (lv := [some (.ref a0), some (gi a1), none]) hpl_RX5 hst (Nat.le_of_ble_eq_true rfl) (gaArgs_pad (z := 1) rfl) ww_2_71 ?_
  intro p e s m args below meth c V hT
  show gaP p l e rm_X5_cross s m args below meth c G 3 (gaZ below G (gQi Q) X args s rm_X5_cross) 0 [some (.ref a0), some (gi a1), none] [] h 1 6
  unfold w_X5_cross at hw
  refine g_aload_n V dX5_cross_0 rfl rfl ?_
  refine g_iload_n V dX5_cross_1 rfl rfl ?_
  obtain ⟨hb, hw⟩ := hw
  obtain ⟨fb, hb⟩ := hb
  obtain ⟨hk, hj, c3, s4, ec, es, hw⟩ := hw
  refine g_callV (C := RX5) (T := TX5) (N := 9) (st := []) V (k_X5_growthOf hst hw) ww_2_13 ww_2_15 wp_1_4 ww_1_1 ww_2_16 hd_X5_growthOf ⟨by decide, by decide⟩ rfl (by decide) hb rfl rfl (ga_cat rfl) dX5_cross_2 hk hj rfl (gaX_all hT V) (ga_ka (fun r2 hp1 hw => ?_))
  refine ga_re ec es ?_
  refine g_astore_n (lv2 := [some (.ref a0), some (gi a1), some (.ref r2)]) V dX5_cross_5 (by decide) rfl rfl rfl ?_
  refine g_aload_n V dX5_cross_6 rfl rfl ?_
  obtain ⟨fs, r5, ha, hv, hw⟩ := hw
  refine g_getN (C := RX0) (T := TX0) (N := 4) (host := "Wordgarden") V 3 rfl hin_RX0 (by decide) (by decide) gn_11 rfl ha hv dX5_cross_7 rfl ?_
  obtain ⟨fs, r6, ha, hv, hw⟩ := hw
  refine g_getN (C := RX4) (T := TX4) (N := 2) (host := "Wordgarden") V 1 rfl hin_RX4 (by decide) (by decide) gn_3 rfl ha hv dX5_cross_10 rfl ?_
  refine g_aload_n V dX5_cross_13 rfl rfl ?_
  obtain ⟨fs, r7, ha, hv, hw⟩ := hw
  refine g_getN (C := RX0) (T := TX0) (N := 4) (host := "Wordgarden") V 2 rfl hin_RX0 (by decide) (by decide) gn_10 rfl ha hv dX5_cross_14 rfl ?_
  refine g_callS (st := [gi r6]) V (k_X1_upsOf hst hw) ww_1_236 ww_1_237 ww_1_12 ww_1_238 hd_X1_upsOf ⟨by decide, by decide⟩ rfl rfl (ga_cat rfl) dX5_cross_17 (Nat.zero_le _) (Nat.zero_le _) rfl (gaX_all hT V) (ga_ki (fun r9 hp8 hw => ?_))
  refine gi_imul V dX5_cross_20 rfl ?_
  refine g_aload_n V dX5_cross_21 rfl rfl ?_
  obtain ⟨fs, r10, ha, hv, hw⟩ := hw
  refine g_getN (C := RX0) (T := TX0) (N := 4) (host := "Wordgarden") V 2 rfl hin_RX0 (by decide) (by decide) gn_10 rfl ha hv dX5_cross_22 rfl ?_
  obtain ⟨fs, r11, ha, hv, hw⟩ := hw
  refine g_getN (C := RX4) (T := TX4) (N := 2) (host := "Wordgarden") V 1 rfl hin_RX4 (by decide) (by decide) gn_3 rfl ha hv dX5_cross_25 rfl ?_
  refine g_aload_n V dX5_cross_28 rfl rfl ?_
  obtain ⟨fs, r12, ha, hv, hw⟩ := hw
  refine g_getN (C := RX0) (T := TX0) (N := 4) (host := "Wordgarden") V 3 rfl hin_RX0 (by decide) (by decide) gn_11 rfl ha hv dX5_cross_29 rfl ?_
  refine g_callS (st := [gi r11, gi (r6 * r9)]) V (k_X1_upsOf hst hw) ww_1_236 ww_1_237 ww_1_12 ww_1_238 hd_X1_upsOf ⟨by decide, by decide⟩ rfl rfl (ga_cat rfl) dX5_cross_32 (Nat.zero_le _) (Nat.zero_le _) rfl (gaX_all hT V) (ga_ki (fun r14 hp13 hw => ?_))
  refine gi_imul V dX5_cross_35 rfl ?_
  refine gi_isub V dX5_cross_36 rfl ?_
  exact g_iret V rfl rfl dX5_cross_37 ⟨_, rfl, hw⟩
def w_X5_cutTo_L56 (X : String → gaH → Prop) (Q : Int → gaH → Prop) : Nat → (Nat → Int → Nat → Int → Int → gaH → Nat → Nat → Prop)
  | 0 => fun _ _ _ _ _ _ _ _ => False
  | n + 1 => fun v0 v2 v3 v4 v5 h kc ks => gR v5 ∧ gR v2 ∧ (if v2 ≤ v5 then gA h v0 5 3 (fun r1 => gHas h v3 4 ∧ w_X4_take v3 r1 h (fun hp2 => gHas hp2 v0 5 ∧ w_X5_sheetActDone v0 v4 hp2 (fun r5 hp4 => Q r5 hp4))) else gA h v0 5 3 (fun r6 => gHas h r6 4 ∧ w_X4_add r6 0 h (fun hp7 => w_X5_cutTo_L56 X Q n v0 v2 v3 v4 (v5 + 1) hp7 kc ks)))
def w_X5_cutTo_J21 (X : String → gaH → Prop) (Q : Int → gaH → Prop) (v0 : Nat) (v2 : Int) (v3 : Nat) (t0 : Int) (h : gaH) (kc ks : Nat) : Prop := gCall 1 6 kc ks (fun c3 s4 => w_X5_needArgument X t0 h (fun hp1 => gI hp1 v3 4 1 (fun r5 => gA hp1 v0 5 3 (fun r6 => gHas hp1 r6 4 ∧ w_X4_clear r6 hp1 (fun hp7 => gA hp7 v0 5 3 (fun r9 => gR r5 ∧ gR v2 ∧ (gHas hp7 r9 4 ∧ w_X4_addPart r9 v3 0 (min r5 v2) hp7 (fun hp10 => ∃ z, w_X5_cutTo_L56 X Q z v0 v2 v3 r5 r5 hp10 c3 s4))))))))
def w_X5_cutTo_J20 (X : String → gaH → Prop) (Q : Int → gaH → Prop) (v0 : Nat) (v2 : Int) (v3 : Nat) (h : gaH) (kc ks : Nat) : Prop := w_X5_cutTo_J21 X Q v0 v2 v3 0 h kc ks
def w_X5_cutTo (X : String → gaH → Prop) (a0 : Nat) (a1 : Int) (a2 : Int) (h : gaH) (Q : Int → gaH → Prop) : Prop := gHas h a0 5 ∧ gCall 1 6 2 12 (fun c3 s4 => w_X5_wordOf X a0 a1 h (fun r2 hp1 => gR a2 ∧ (if a2 < 0 then w_X5_cutTo_J20 X Q a0 a2 r2 hp1 c3 s4 else gR a2 ∧ (if 64 < a2 then w_X5_cutTo_J20 X Q a0 a2 r2 hp1 c3 s4 else w_X5_cutTo_J21 X Q a0 a2 r2 1 hp1 c3 s4))))
abbrev rm_X5_cutTo : Room := { frames := 9, cells := 2, slots := 12, locals := 221 }
theorem hd_X5_cutTo : yX5_cutTo.cls = RX5 ∧ (yX5_cutTo.cls ≠ "java/lang/invoke/MethodHandle" ∧ yX5_cutTo.cls ≠ "java/lang/invoke/VarHandle" ∧ (parseMethodDescriptor yX5_cutTo.desc).map (fun d => d.parameters.length) = some 2) := by decide +kernel
theorem k_X5_cutTo {l : Launch} (hst : l.stackTraces = false) {G : gaG} {X : String → gaH → Prop} {a0 : Nat} {a1 : Int} {a2 : Int} {h : gaH} {Q : Int → gaH → Prop} (hw : w_X5_cutTo X a0 a1 a2 h Q) : gaC l G yX5_cutTo (gaM yX5_cutTo cX5_cutTo 6 ((some .int))) rm_X5_cutTo [.ref a0, gi a1, gi a2] h (gQi Q) X := by
  refine g_start (lv := [some (.ref a0), some (gi a1), some (gi a2), none, none, none]) hpl_RX5 hst (Nat.le_of_ble_eq_true rfl) (gaArgs_pad (z := 3) rfl) ww_3_59 ?_
  intro p e s m args below meth c V hT
  have h_X5_cutTo_L56 : ∀ (n : Nat), ∀ (v0 : Nat) (v2 : Int) (v3 : Nat) (v4 : Int) (v5 : Int) (h : gaH) (kc ks : Nat), w_X5_cutTo_L56 X Q n v0 v2 v3 v4 v5 h kc ks → gaP p l e rm_X5_cutTo s m args below meth c G 6 (gaZ below G (gQi Q) X args s rm_X5_cutTo) 56 [some (.ref v0), none, some (gi v2), some (.ref v3), some (gi v4), some (gi v5)] [] h kc ks := by
    intro n
    induction n with
    | zero =>
      intro v0 v2 v3 v4 v5 h kc ks hw
      exact hw.elim
    | succ n ih =>
      intro v0 v2 v3 v4 v5 h kc ks hw
      unfold w_X5_cutTo_L56 at hw
      refine g_iload V dX5_cutTo_56 rfl rfl ?_
      refine g_iload_n V dX5_cutTo_58 rfl rfl ?_
      obtain ⟨hx0, hx1, hw⟩ := hw
      refine gi_icmp_ge V dX5_cutTo_59 rfl rfl hx0 hx1 (fun q => ?_) (fun q => ?_)
      · have hw := ga_t q hw
        refine g_aload_n V dX5_cutTo_76 rfl rfl ?_
        refine g_aload_n V dX5_cutTo_77 rfl rfl ?_
        obtain ⟨fs, r1, ha, hv, hw⟩ := hw
        refine g_get (C := RX5) (T := TX5) (N := 9) V 3 rfl hin_RX5 (by decide) (by decide) ww_1_113 rfl ha hv dX5_cutTo_78 rfl ?_
        obtain ⟨hb, hw⟩ := hw
        obtain ⟨fb, hb⟩ := hb
        refine g_callV (C := RX4) (T := TX4) (N := 2) (st := []) V (k_X4_take hst hw) ww_2_237 ww_2_50 ww_2_51 ww_1_3 ww_2_52 hd_X4_take ⟨by decide, by decide⟩ rfl (by decide) hb rfl rfl (ga_cat rfl) dX5_cutTo_81 (Nat.zero_le _) (Nat.zero_le _) rfl (gaX_all hT V) (ga_kv (fun hp2 hw => ?_))
        refine g_aload_n V dX5_cutTo_84 rfl rfl ?_
        refine g_iload V dX5_cutTo_85 rfl rfl ?_
        obtain ⟨hb, hw⟩ := hw
        obtain ⟨fb, hb⟩ := hb
        refine g_callV (C := RX5) (T := TX5) (N := 9) (st := []) V (k_X5_sheetActDone hst hw) ww_2_216 ww_2_218 wp_1_8 ww_1_1 ww_2_219 hd_X5_sheetActDone ⟨by decide, by decide⟩ rfl (by decide) hb rfl rfl (ga_cat rfl) dX5_cutTo_87 (Nat.zero_le _) (Nat.zero_le _) rfl (gaX_all hT V) (ga_ki (fun r5 hp4 hw => ?_))
        exact g_iret V rfl rfl dX5_cutTo_90 ⟨_, rfl, hw⟩
      · have hw := ga_f q hw
        refine g_aload_n V dX5_cutTo_62 rfl rfl ?_
        obtain ⟨fs, r6, ha, hv, hw⟩ := hw
        refine g_get (C := RX5) (T := TX5) (N := 9) V 3 rfl hin_RX5 (by decide) (by decide) ww_1_113 rfl ha hv dX5_cutTo_63 rfl ?_
        refine g_iconst V (Int32.ofInt 0) dX5_cutTo_66 rfl rfl ?_
        obtain ⟨hb, hw⟩ := hw
        obtain ⟨fb, hb⟩ := hb
        refine g_callV (C := RX4) (T := TX4) (N := 2) (st := []) V (k_X4_add hst hw) ww_3_9 ww_1_90 ww_1_91 ww_1_3 ww_1_92 hd_X4_add ⟨by decide, by decide⟩ rfl (by decide) hb rfl rfl (ga_cat rfl) dX5_cutTo_67 (Nat.zero_le _) (Nat.zero_le _) rfl (gaX_all hT V) (ga_kv (fun hp7 hw => ?_))
        refine gi_iinc (lv2 := [some (.ref v0), none, some (gi v2), some (.ref v3), some (gi v4), some (gi (v5 + 1))]) V dX5_cutTo_70 (by decide) rfl rfl rfl rfl ?_
        refine g_goto V dX5_cutTo_73 rfl ?_
        exact ih v0 v2 v3 v4 (v5 + 1) hp7 kc ks hw
  have h_X5_cutTo_J21 : ∀ (v0 : Nat) (v2 : Int) (v3 : Nat) (t0 : Int) (h : gaH) (kc ks : Nat), w_X5_cutTo_J21 X Q v0 v2 v3 t0 h kc ks → gaP p l e rm_X5_cutTo s m args below meth c G 6 (gaZ below G (gQi Q) X args s rm_X5_cutTo) 21 [some (.ref v0), none, some (gi v2), some (.ref v3), none, none] [gi t0] h kc ks := by
    intro v0 v2 v3 t0 h kc ks hw
    unfold w_X5_cutTo_J21 at hw
    obtain ⟨hk, hj, c3, s4, ec, es, hw⟩ := hw
    refine g_callS (st := []) V (k_X5_needArgument hst hw) ww_2_172 ww_2_173 ww_1_1 ww_2_174 hd_X5_needArgument ⟨by decide, by decide⟩ rfl rfl (ga_cat rfl) dX5_cutTo_21 hk hj rfl (gaX_all hT V) (ga_kv (fun hp1 hw => ?_))
    refine ga_re ec es ?_
    refine g_aload_n V dX5_cutTo_24 rfl rfl ?_
    obtain ⟨fs, r5, ha, hv, hw⟩ := hw
    refine g_getN (C := RX4) (T := TX4) (N := 2) (host := "Wordgarden") V 1 rfl hin_RX4 (by decide) (by decide) gn_3 rfl ha hv dX5_cutTo_25 rfl ?_
    refine g_istore (lv2 := [some (.ref v0), none, some (gi v2), some (.ref v3), some (gi r5), none]) V dX5_cutTo_28 (by decide) rfl rfl rfl ?_
    refine g_aload_n V dX5_cutTo_30 rfl rfl ?_
    obtain ⟨fs, r6, ha, hv, hw⟩ := hw
    refine g_get (C := RX5) (T := TX5) (N := 9) V 3 rfl hin_RX5 (by decide) (by decide) ww_1_113 rfl ha hv dX5_cutTo_31 rfl ?_
    obtain ⟨hb, hw⟩ := hw
    obtain ⟨fb, hb⟩ := hb
    refine g_callV (C := RX4) (T := TX4) (N := 2) (st := []) V (k_X4_clear hst hw) ww_2_235 ww_1_86 ww_1_87 ww_1_3 ww_1_88 hd_X4_clear ⟨by decide, by decide⟩ rfl (by decide) hb rfl rfl (ga_cat rfl) dX5_cutTo_34 (Nat.zero_le _) (Nat.zero_le _) rfl (gaX_all hT V) (ga_kv (fun hp7 hw => ?_))
    refine g_aload_n V dX5_cutTo_37 rfl rfl ?_
    obtain ⟨fs, r9, ha, hv, hw⟩ := hw
    refine g_get (C := RX5) (T := TX5) (N := 9) V 3 rfl hin_RX5 (by decide) (by decide) ww_1_113 rfl ha hv dX5_cutTo_38 rfl ?_
    refine g_aload_n V dX5_cutTo_41 rfl rfl ?_
    refine g_iconst V (Int32.ofInt 0) dX5_cutTo_42 rfl rfl ?_
    refine g_iload V dX5_cutTo_43 rfl rfl ?_
    refine g_iload_n V dX5_cutTo_45 rfl rfl ?_
    obtain ⟨hx0, hx1, hw⟩ := hw
    refine gi_mmin V ww_3_60 ww_2_4 ww_1_13 ww_2_5 (by decide) (by decide) (ga_cat rfl) hx0 hx1 dX5_cutTo_46 rfl ?_
    obtain ⟨hb, hw⟩ := hw
    obtain ⟨fb, hb⟩ := hb
    refine g_callV (C := RX4) (T := TX4) (N := 2) (st := []) V (k_X4_addPart hst hw) ww_2_236 ww_2_46 ww_2_47 ww_1_3 ww_2_48 hd_X4_addPart ⟨by decide, by decide⟩ rfl (by decide) hb rfl rfl (ga_cat rfl) dX5_cutTo_49 (Nat.zero_le _) (Nat.zero_le _) rfl (gaX_all hT V) (ga_kv (fun hp10 hw => ?_))
    refine g_iload V dX5_cutTo_52 rfl rfl ?_
    refine g_istore (lv2 := [some (.ref v0), none, some (gi v2), some (.ref v3), some (gi r5), some (gi r5)]) V dX5_cutTo_54 (by decide) rfl rfl rfl ?_
    obtain ⟨z, hw⟩ := hw
    exact h_X5_cutTo_L56 z v0 v2 v3 r5 r5 hp10 c3 s4 hw
  have h_X5_cutTo_J20 : ∀ (v0 : Nat) (v2 : Int) (v3 : Nat) (h : gaH) (kc ks : Nat), w_X5_cutTo_J20 X Q v0 v2 v3 h kc ks → gaP p l e rm_X5_cutTo s m args below meth c G 6 (gaZ below G (gQi Q) X args s rm_X5_cutTo) 20 [some (.ref v0), none, some (gi v2), some (.ref v3), none, none] [] h kc ks := by
    intro v0 v2 v3 h kc ks hw
    unfold w_X5_cutTo_J20 at hw
    refine g_iconst V (Int32.ofInt 0) dX5_cutTo_20 rfl rfl ?_
    exact h_X5_cutTo_J21 v0 v2 v3 0 h kc ks hw
  show gaP p l e rm_X5_cutTo s m args below meth c G 6 (gaZ below G (gQi Q) X args s rm_X5_cutTo) 0 [some (.ref a0), some (gi a1), some (gi a2), none, none, none] [] h 2 12
  unfold w_X5_cutTo at hw
  refine g_aload_n V dX5_cutTo_0 rfl rfl ?_
  refine g_iload_n V dX5_cutTo_1 rfl rfl ?_
  obtain ⟨hb, hw⟩ := hw
  obtain ⟨fb, hb⟩ := hb
  obtain ⟨hk, hj, c3, s4, ec, es, hw⟩ := hw
  refine g_callV (C := RX5) (T := TX5) (N := 9) (st := []) V (k_X5_wordOf hst hw) ww_1_150 ww_1_152 wp_1_1 ww_1_1 ww_1_153 hd_X5_wordOf ⟨by decide, by decide⟩ rfl (by decide) hb rfl rfl (ga_cat rfl) dX5_cutTo_2 hk hj rfl (gaX_all hT V) (ga_ka (fun r2 hp1 hw => ?_))
  refine ga_re ec es ?_
  refine g_astore_n (lv2 := [some (.ref a0), some (gi a1), some (gi a2), some (.ref r2), none, none]) V dX5_cutTo_5 (by decide) rfl rfl rfl ?_
  refine g_iload_n V dX5_cutTo_6 rfl rfl ?_
  obtain ⟨hx0, hw⟩ := hw
  refine gi_if_lt V dX5_cutTo_7 rfl rfl hx0 (fun q => ?_) (fun q => ?_)
  · have hw := ga_t q hw
    refine g_less (bs := [true, false, true, true, true, true]) (lv2 := [some (.ref a0), none, some (gi a2), some (.ref r2), none, none]) rfl ?_
    exact h_X5_cutTo_J20 a0 a2 r2 hp1 c3 s4 hw
  · have hw := ga_f q hw
    refine g_iload_n V dX5_cutTo_10 rfl rfl ?_
    refine g_bipush V (Int32.ofInt 64) dX5_cutTo_11 rfl rfl ?_
    obtain ⟨hx0, hw⟩ := hw
    refine gi_icmp_gt V dX5_cutTo_13 rfl rfl hx0 (by decide) (fun q => ?_) (fun q => ?_)
    · have hw := ga_t q hw
      refine g_less (bs := [true, false, true, true, true, true]) (lv2 := [some (.ref a0), none, some (gi a2), some (.ref r2), none, none]) rfl ?_
      exact h_X5_cutTo_J20 a0 a2 r2 hp1 c3 s4 hw
    · have hw := ga_f q hw
      refine g_iconst V (Int32.ofInt 1) dX5_cutTo_16 rfl rfl ?_
      refine g_goto V dX5_cutTo_17 rfl ?_
      refine g_less (bs := [true, false, true, true, true, true]) (lv2 := [some (.ref a0), none, some (gi a2), some (.ref r2), none, none]) rfl ?_
      exact h_X5_cutTo_J21 a0 a2 r2 1 hp1 c3 s4 hw
def w_X5_digestWith (a0 : Int64) (a2 : Int64) (h : gaH) (Q : Int64 → gaH → Prop) : Prop := Q ((a0 * (31 : Int64)) + a2) h
abbrev rm_X5_digestWith : Room := { frames := 0, cells := 0, slots := 0, locals := 0 }
theorem hd_X5_digestWith : (yX5_digestWith.cls ≠ "java/lang/invoke/MethodHandle" ∧ yX5_digestWith.cls ≠ "java/lang/invoke/VarHandle" ∧ (parseMethodDescriptor yX5_digestWith.desc).map (fun d => d.parameters.length) = some 2) := by decide +kernel
theorem k_X5_digestWith {l : Launch} (hst : l.stackTraces = false) {G : gaG} {X : String → gaH → Prop} {a0 : Int64} {a2 : Int64} {h : gaH} {Q : Int64 → gaH → Prop} (hw : w_X5_digestWith a0 a2 h Q) : gaC l G yX5_digestWith (gaM yX5_digestWith cX5_digestWith 4 ((some .long))) rm_X5_digestWith [.long a0, .long a2] h (gQl Q) X := by
  refine g_start (lv := [some (.long a0), none, some (.long a2), none]) hpl_RX5 hst (Nat.le_of_ble_eq_true rfl) (gaArgs_pad (z := 0) rfl) ww_2_93 ?_
  intro p e s m args below meth c V hT
  unfold w_X5_digestWith at hw
  refine g_lload_n V dX5_digestWith_0 rfl rfl ?_
  refine g_ldc2 V (31 : Int64) dX5_digestWith_1 ww_2_94 rfl ?_
  refine g_lmul V dX5_digestWith_4 rfl ?_
  refine g_lload_n V dX5_digestWith_5 rfl rfl ?_
  refine g_ladd V dX5_digestWith_6 rfl ?_
  exact g_lret V rfl dX5_digestWith_7 ⟨_, rfl, hw⟩
def w_X5_isMirrored (X : String → gaH → Prop) (a0 : Nat) (a1 : Int) (h : gaH) (Q : Int → gaH → Prop) : Prop := gHas h a0 5 ∧ gCall 1 6 1 6 (fun c3 s4 => w_X5_wordOf X a0 a1 h (fun r2 hp1 => gI hp1 r2 4 1 (fun r5 => w_X1_isMirroredPart r2 0 r5 hp1 (fun r7 hp6 => narrow .boolean (gi r7) = gi r7 ∧ Q r7 hp6))))
abbrev rm_X5_isMirrored : Room := { frames := 9, cells := 1, slots := 6, locals := 221 }
theorem hd_X5_isMirrored : yX5_isMirrored.cls = RX5 ∧ (yX5_isMirrored.cls ≠ "java/lang/invoke/MethodHandle" ∧ yX5_isMirrored.cls ≠ "java/lang/invoke/VarHandle" ∧ (parseMethodDescriptor yX5_isMirrored.desc).map (fun d => d.parameters.length) = some 1) := by decide +kernel
theorem k_X5_isMirrored {l : Launch} (hst : l.stackTraces = false) {G : gaG} {X : String → gaH → Prop} {a0 : Nat} {a1 : Int} {h : gaH} {Q : Int → gaH → Prop} (hw : w_X5_isMirrored X a0 a1 h Q) : gaC l G yX5_isMirrored (gaM yX5_isMirrored cX5_isMirrored 3 ((some .boolean))) rm_X5_isMirrored [.ref a0, gi a1] h (gQi Q) X := by
  refine g_start (lv := [some (.ref a0), some (gi a1), none]) hpl_RX5 hst (Nat.le_of_ble_eq_true rfl) (gaArgs_pad (z := 1) rfl) ww_2_100 ?_
  intro p e s m args below meth c V hT
  show gaP p l e rm_X5_isMirrored s m args below meth c G 3 (gaZ below G (gQi Q) X args s rm_X5_isMirrored) 0 [some (.ref a0), some (gi a1), none] [] h 1 6
  unfold w_X5_isMirrored at hw
  refine g_aload_n V dX5_isMirrored_0 rfl rfl ?_
  refine g_iload_n V dX5_isMirrored_1 rfl rfl ?_
  obtain ⟨hb, hw⟩ := hw
  obtain ⟨fb, hb⟩ := hb
  obtain ⟨hk, hj, c3, s4, ec, es, hw⟩ := hw
  refine g_callV (C := RX5) (T := TX5) (N := 9) (st := []) V (k_X5_wordOf hst hw) ww_1_150 ww_1_152 wp_1_1 ww_1_1 ww_1_153 hd_X5_wordOf ⟨by decide, by decide⟩ rfl (by decide) hb rfl rfl (ga_cat rfl) dX5_isMirrored_2 hk hj rfl (gaX_all hT V) (ga_ka (fun r2 hp1 hw => ?_))
  refine ga_re ec es ?_
  refine g_astore_n (lv2 := [some (.ref a0), some (gi a1), some (.ref r2)]) V dX5_isMirrored_5 (by decide) rfl rfl rfl ?_
  refine g_aload_n V dX5_isMirrored_6 rfl rfl ?_
  refine g_iconst V (Int32.ofInt 0) dX5_isMirrored_7 rfl rfl ?_
  refine g_aload_n V dX5_isMirrored_8 rfl rfl ?_
  obtain ⟨fs, r5, ha, hv, hw⟩ := hw
  refine g_getN (C := RX4) (T := TX4) (N := 2) (host := "Wordgarden") V 1 rfl hin_RX4 (by decide) (by decide) gn_3 rfl ha hv dX5_isMirrored_9 rfl ?_
  refine g_callS (st := []) V (k_X1_isMirroredPart hst hw) ww_2_101 ww_2_102 ww_1_12 ww_2_103 hd_X1_isMirroredPart ⟨by decide, by decide⟩ rfl rfl (ga_cat rfl) dX5_isMirrored_12 (Nat.zero_le _) (Nat.zero_le _) rfl (gaX_all hT V) (ga_ki (fun r7 hp6 hw => ?_))
  exact g_iret V rfl hw.1 dX5_isMirrored_15 ⟨_, rfl, hw.2⟩
def w_X5_times (X : String → gaH → Prop) (a0 : Nat) (a1 : Int) (h : gaH) (Q : Int → gaH → Prop) : Prop := gHas h a0 5 ∧ gCall 1 6 1 6 (fun c3 s4 => w_X5_wordOf X a0 a1 h (fun r2 hp1 => w_X1_timesOf r2 hp1 (fun r6 hp5 => Q r6 hp5)))
abbrev rm_X5_times : Room := { frames := 9, cells := 1, slots := 6, locals := 221 }
theorem hd_X5_times : yX5_times.cls = RX5 ∧ (yX5_times.cls ≠ "java/lang/invoke/MethodHandle" ∧ yX5_times.cls ≠ "java/lang/invoke/VarHandle" ∧ (parseMethodDescriptor yX5_times.desc).map (fun d => d.parameters.length) = some 1) := by decide +kernel
theorem k_X5_times {l : Launch} (hst : l.stackTraces = false) {G : gaG} {X : String → gaH → Prop} {a0 : Nat} {a1 : Int} {h : gaH} {Q : Int → gaH → Prop} (hw : w_X5_times X a0 a1 h Q) : gaC l G yX5_times (gaM yX5_times cX5_times 2 ((some .int))) rm_X5_times [.ref a0, gi a1] h (gQi Q) X := by
  refine g_start (lv := [some (.ref a0), some (gi a1)]) hpl_RX5 hst (Nat.le_of_ble_eq_true rfl) (gaArgs_pad (z := 0) rfl) ww_2_110 ?_
  intro p e s m args below meth c V hT
  show gaP p l e rm_X5_times s m args below meth c G 2 (gaZ below G (gQi Q) X args s rm_X5_times) 0 [some (.ref a0), some (gi a1)] [] h 1 6
  unfold w_X5_times at hw
  refine g_aload_n V dX5_times_0 rfl rfl ?_
  refine g_iload_n V dX5_times_1 rfl rfl ?_
  obtain ⟨hb, hw⟩ := hw
  obtain ⟨fb, hb⟩ := hb
  obtain ⟨hk, hj, c3, s4, ec, es, hw⟩ := hw
  refine g_callV (C := RX5) (T := TX5) (N := 9) (st := []) V (k_X5_wordOf hst hw) ww_1_150 ww_1_152 wp_1_1 ww_1_1 ww_1_153 hd_X5_wordOf ⟨by decide, by decide⟩ rfl (by decide) hb rfl rfl (ga_cat rfl) dX5_times_2 hk hj rfl (gaX_all hT V) (ga_ka (fun r2 hp1 hw => ?_))
  refine ga_re ec es ?_
  refine g_callS (st := []) V (k_X1_timesOf hst hw) ww_2_111 ww_2_112 ww_1_12 ww_2_113 hd_X1_timesOf ⟨by decide, by decide⟩ rfl rfl (ga_cat rfl) dX5_times_5 (Nat.zero_le _) (Nat.zero_le _) rfl (gaX_all hT V) (ga_ki (fun r6 hp5 hw => ?_))
  exact g_iret V rfl rfl dX5_times_8 ⟨_, rfl, hw⟩
def w_X5_overlaps (X : String → gaH → Prop) (a0 : Nat) (a1 : Int) (h : gaH) (Q : Int → gaH → Prop) : Prop := gHas h a0 5 ∧ gCall 1 6 1 6 (fun c3 s4 => w_X5_wordOf X a0 a1 h (fun r2 hp1 => w_X1_overlapsOf r2 hp1 (fun r6 hp5 => Q r6 hp5)))
abbrev rm_X5_overlaps : Room := { frames := 9, cells := 1, slots := 6, locals := 221 }
theorem hd_X5_overlaps : yX5_overlaps.cls = RX5 ∧ (yX5_overlaps.cls ≠ "java/lang/invoke/MethodHandle" ∧ yX5_overlaps.cls ≠ "java/lang/invoke/VarHandle" ∧ (parseMethodDescriptor yX5_overlaps.desc).map (fun d => d.parameters.length) = some 1) := by decide +kernel
theorem k_X5_overlaps {l : Launch} (hst : l.stackTraces = false) {G : gaG} {X : String → gaH → Prop} {a0 : Nat} {a1 : Int} {h : gaH} {Q : Int → gaH → Prop} (hw : w_X5_overlaps X a0 a1 h Q) : gaC l G yX5_overlaps (gaM yX5_overlaps cX5_overlaps 2 ((some .int))) rm_X5_overlaps [.ref a0, gi a1] h (gQi Q) X := by
  refine g_start (lv := [some (.ref a0), some (gi a1)]) hpl_RX5 hst (Nat.le_of_ble_eq_true rfl) (gaArgs_pad (z := 0) rfl) ww_2_123 ?_
  intro p e s m args below meth c V hT
  show gaP p l e rm_X5_overlaps s m args below meth c G 2 (gaZ below G (gQi Q) X args s rm_X5_overlaps) 0 [some (.ref a0), some (gi a1)] [] h 1 6
  unfold w_X5_overlaps at hw
  refine g_aload_n V dX5_overlaps_0 rfl rfl ?_
  refine g_iload_n V dX5_overlaps_1 rfl rfl ?_
  obtain ⟨hb, hw⟩ := hw
  obtain ⟨fb, hb⟩ := hb
  obtain ⟨hk, hj, c3, s4, ec, es, hw⟩ := hw
  refine g_callV (C := RX5) (T := TX5) (N := 9) (st := []) V (k_X5_wordOf hst hw) ww_1_150 ww_1_152 wp_1_1 ww_1_1 ww_1_153 hd_X5_wordOf ⟨by decide, by decide⟩ rfl (by decide) hb rfl rfl (ga_cat rfl) dX5_overlaps_2 hk hj rfl (gaX_all hT V) (ga_ka (fun r2 hp1 hw => ?_))
  refine ga_re ec es ?_
  refine g_callS (st := []) V (k_X1_overlapsOf hst hw) ww_2_124 ww_2_125 ww_1_12 ww_2_126 hd_X1_overlapsOf ⟨by decide, by decide⟩ rfl rfl (ga_cat rfl) dX5_overlaps_5 (Nat.zero_le _) (Nat.zero_le _) rfl (gaX_all hT V) (ga_ki (fun r6 hp5 hw => ?_))
  exact g_iret V rfl rfl dX5_overlaps_8 ⟨_, rfl, hw⟩
def w_X5_folds (X : String → gaH → Prop) (a0 : Nat) (a1 : Int) (h : gaH) (Q : Int → gaH → Prop) : Prop := gHas h a0 5 ∧ gCall 1 6 1 6 (fun c3 s4 => w_X5_wordOf X a0 a1 h (fun r2 hp1 => w_X1_foldsOf r2 hp1 (fun r6 hp5 => Q r6 hp5)))
abbrev rm_X5_folds : Room := { frames := 9, cells := 1, slots := 6, locals := 221 }
theorem hd_X5_folds : yX5_folds.cls = RX5 ∧ (yX5_folds.cls ≠ "java/lang/invoke/MethodHandle" ∧ yX5_folds.cls ≠ "java/lang/invoke/VarHandle" ∧ (parseMethodDescriptor yX5_folds.desc).map (fun d => d.parameters.length) = some 1) := by decide +kernel
theorem k_X5_folds {l : Launch} (hst : l.stackTraces = false) {G : gaG} {X : String → gaH → Prop} {a0 : Nat} {a1 : Int} {h : gaH} {Q : Int → gaH → Prop} (hw : w_X5_folds X a0 a1 h Q) : gaC l G yX5_folds (gaM yX5_folds cX5_folds 2 ((some .int))) rm_X5_folds [.ref a0, gi a1] h (gQi Q) X := by
  refine g_start (lv := [some (.ref a0), some (gi a1)]) hpl_RX5 hst (Nat.le_of_ble_eq_true rfl) (gaArgs_pad (z := 0) rfl) ww_2_133 ?_
  intro p e s m args below meth c V hT
  show gaP p l e rm_X5_folds s m args below meth c G 2 (gaZ below G (gQi Q) X args s rm_X5_folds) 0 [some (.ref a0), some (gi a1)] [] h 1 6
  unfold w_X5_folds at hw
  refine g_aload_n V dX5_folds_0 rfl rfl ?_
  refine g_iload_n V dX5_folds_1 rfl rfl ?_
  obtain ⟨hb, hw⟩ := hw
  obtain ⟨fb, hb⟩ := hb
  obtain ⟨hk, hj, c3, s4, ec, es, hw⟩ := hw
  refine g_callV (C := RX5) (T := TX5) (N := 9) (st := []) V (k_X5_wordOf hst hw) ww_1_150 ww_1_152 wp_1_1 ww_1_1 ww_1_153 hd_X5_wordOf ⟨by decide, by decide⟩ rfl (by decide) hb rfl rfl (ga_cat rfl) dX5_folds_2 hk hj rfl (gaX_all hT V) (ga_ka (fun r2 hp1 hw => ?_))
  refine ga_re ec es ?_
  refine g_callS (st := []) V (k_X1_foldsOf hst hw) ww_2_134 ww_2_135 ww_1_12 ww_2_136 hd_X1_foldsOf ⟨by decide, by decide⟩ rfl rfl (ga_cat rfl) dX5_folds_5 (Nat.zero_le _) (Nat.zero_le _) rfl (gaX_all hT V) (ga_ki (fun r6 hp5 hw => ?_))
  exact g_iret V rfl rfl dX5_folds_8 ⟨_, rfl, hw⟩
def w_X5_least (X : String → gaH → Prop) (a0 : Nat) (a1 : Int) (h : gaH) (Q : Int → gaH → Prop) : Prop := gHas h a0 5 ∧ gCall 1 6 1 6 (fun c3 s4 => w_X5_wordOf X a0 a1 h (fun r2 hp1 => w_X1_leastOf r2 hp1 (fun r6 hp5 => Q r6 hp5)))
abbrev rm_X5_least : Room := { frames := 9, cells := 1, slots := 6, locals := 221 }
theorem hd_X5_least : yX5_least.cls = RX5 ∧ (yX5_least.cls ≠ "java/lang/invoke/MethodHandle" ∧ yX5_least.cls ≠ "java/lang/invoke/VarHandle" ∧ (parseMethodDescriptor yX5_least.desc).map (fun d => d.parameters.length) = some 1) := by decide +kernel
theorem k_X5_least {l : Launch} (hst : l.stackTraces = false) {G : gaG} {X : String → gaH → Prop} {a0 : Nat} {a1 : Int} {h : gaH} {Q : Int → gaH → Prop} (hw : w_X5_least X a0 a1 h Q) : gaC l G yX5_least (gaM yX5_least cX5_least 2 ((some .int))) rm_X5_least [.ref a0, gi a1] h (gQi Q) X := by
  refine g_start (lv := [some (.ref a0), some (gi a1)]) hpl_RX5 hst (Nat.le_of_ble_eq_true rfl) (gaArgs_pad (z := 0) rfl) ww_2_141 ?_
  intro p e s m args below meth c V hT
  show gaP p l e rm_X5_least s m args below meth c G 2 (gaZ below G (gQi Q) X args s rm_X5_least) 0 [some (.ref a0), some (gi a1)] [] h 1 6
  unfold w_X5_least at hw
  refine g_aload_n V dX5_least_0 rfl rfl ?_
  refine g_iload_n V dX5_least_1 rfl rfl ?_
  obtain ⟨hb, hw⟩ := hw
  obtain ⟨fb, hb⟩ := hb
  obtain ⟨hk, hj, c3, s4, ec, es, hw⟩ := hw
  refine g_callV (C := RX5) (T := TX5) (N := 9) (st := []) V (k_X5_wordOf hst hw) ww_1_150 ww_1_152 wp_1_1 ww_1_1 ww_1_153 hd_X5_wordOf ⟨by decide, by decide⟩ rfl (by decide) hb rfl rfl (ga_cat rfl) dX5_least_2 hk hj rfl (gaX_all hT V) (ga_ka (fun r2 hp1 hw => ?_))
  refine ga_re ec es ?_
  refine g_callS (st := []) V (k_X1_leastOf hst hw) ww_2_142 ww_2_143 ww_1_12 ww_2_144 hd_X1_leastOf ⟨by decide, by decide⟩ rfl rfl (ga_cat rfl) dX5_least_5 (Nat.zero_le _) (Nat.zero_le _) rfl (gaX_all hT V) (ga_ki (fun r6 hp5 hw => ?_))
  exact g_iret V rfl rfl dX5_least_8 ⟨_, rfl, hw⟩
def w_X5_digestSheet_J51 (X : String → gaH → Prop) (Q : Int64 → gaH → Prop) (K22 : Nat → Int → Nat → Int64 → Int → gaH → Nat → Nat → Prop) (v0 : Nat) (v3 : Int) (v4 : Nat) (v7 : Int) (t0 : Int64) (t1 : Int64) (h : gaH) (kc ks : Nat) : Prop := w_X5_digestWith t0 t1 h (fun r2 hp1 => K22 v0 v3 v4 r2 (v7 + 1) hp1 kc ks)
def w_X5_digestSheet_L22 (X : String → gaH → Prop) (Q : Int64 → gaH → Prop) : Nat → (Nat → Int → Nat → Int64 → Int → gaH → Nat → Nat → Prop)
  | 0 => fun _ _ _ _ _ _ _ _ => False
  | n + 1 => fun v0 v3 v4 v5 v7 h kc ks => gI h v4 4 1 (fun r1 => gR v7 ∧ gR r1 ∧ (if r1 ≤ v7 then gHas h v0 5 ∧ gCall 1 6 kc ks (fun c4 s5 => w_X5_count X v0 v3 1 h (fun r3 hp2 => w_X5_digestWith v5 (gI2l r3) hp2 (fun r7 hp6 => gHas hp6 v0 5 ∧ gCall 1 6 c4 s5 (fun c10 s11 => w_X5_isMirrored X v0 v3 hp6 (fun r9 hp8 => w_X5_oneIf r9 hp8 (fun r13 hp12 => w_X5_digestWith r7 (gI2l r13) hp12 (fun r15 hp14 => gHas hp14 v0 5 ∧ gCall 1 6 c10 s11 (fun c18 s19 => w_X5_times X v0 v3 hp14 (fun r17 hp16 => w_X5_digestWith r15 (gI2l r17) hp16 (fun r21 hp20 => gHas hp20 v0 5 ∧ gCall 1 6 c18 s19 (fun c24 s25 => w_X5_overlaps X v0 v3 hp20 (fun r23 hp22 => w_X5_digestWith r21 (gI2l r23) hp22 (fun r27 hp26 => gHas hp26 v0 5 ∧ gCall 1 6 c24 s25 (fun c30 s31 => w_X5_folds X v0 v3 hp26 (fun r29 hp28 => w_X5_digestWith r27 (gI2l r29) hp28 (fun r33 hp32 => gHas hp32 v0 5 ∧ gCall 1 6 c30 s31 (fun c36 s37 => w_X5_least X v0 v3 hp32 (fun r35 hp34 => w_X5_digestWith r33 (gI2l r35) hp34 (fun r39 hp38 => Q r39 hp38))))))))))))))))))) else gHas h v4 4 ∧ w_X4_isUp v4 v7 h (fun r41 hp40 => gR r41 ∧ (if r41 = 0 then w_X5_digestSheet_J51 X Q (w_X5_digestSheet_L22 X Q n) v0 v3 v4 v7 v5 (1 : Int64) hp40 kc ks else w_X5_digestSheet_J51 X Q (w_X5_digestSheet_L22 X Q n) v0 v3 v4 v7 v5 (2 : Int64) hp40 kc ks))))
def w_X5_digestSheet (X : String → gaH → Prop) (a0 : Nat) (a1 : Int64) (a3 : Int) (h : gaH) (Q : Int64 → gaH → Prop) : Prop := gHas h a0 5 ∧ gCall 1 6 7 42 (fun c3 s4 => w_X5_wordOf X a0 a3 h (fun r2 hp1 => gI hp1 r2 4 1 (fun r5 => w_X5_digestWith a1 (gI2l r5) hp1 (fun r7 hp6 => ∃ z, w_X5_digestSheet_L22 X Q z a0 a3 r2 r7 0 hp6 c3 s4))))
abbrev rm_X5_digestSheet : Room := { frames := 10, cells := 7, slots := 42, locals := 245 }
theorem hd_X5_digestSheet : yX5_digestSheet.cls = RX5 ∧ (yX5_digestSheet.cls ≠ "java/lang/invoke/MethodHandle" ∧ yX5_digestSheet.cls ≠ "java/lang/invoke/VarHandle" ∧ (parseMethodDescriptor yX5_digestSheet.desc).map (fun d => d.parameters.length) = some 2) := by decide +kernel
theorem k_X5_digestSheet {l : Launch} (hst : l.stackTraces = false) {G : gaG} {X : String → gaH → Prop} {a0 : Nat} {a1 : Int64} {a3 : Int} {h : gaH} {Q : Int64 → gaH → Prop} (hw : w_X5_digestSheet X a0 a1 a3 h Q) : gaC l G yX5_digestSheet (gaM yX5_digestSheet cX5_digestSheet 8 ((some .long))) rm_X5_digestSheet [.ref a0, .long a1, gi a3] h (gQl Q) X := by
  refine g_start (lv := [some (.ref a0), some (.long a1), none, some (gi a3), none, none, none, none]) hpl_RX5 hst (Nat.le_of_ble_eq_true rfl) (gaArgs_pad (z := 4) rfl) ww_2_90 ?_
  intro p e s m args below meth c V hT
  have h_X5_digestSheet_J51 : ∀ (K22 : Nat → Int → Nat → Int64 → Int → gaH → Nat → Nat → Prop), ∀ (hK22 : ∀ (v0 : Nat) (v3 : Int) (v4 : Nat) (v5 : Int64) (v7 : Int) (h : gaH) (kc ks : Nat), K22 v0 v3 v4 v5 v7 h kc ks → gaP p l e rm_X5_digestSheet s m args below meth c G 8 (gaZ below G (gQl Q) X args s rm_X5_digestSheet) 22 [some (.ref v0), none, none, some (gi v3), some (.ref v4), some (.long v5), none, some (gi v7)] [] h kc ks), ∀ (v0 : Nat) (v3 : Int) (v4 : Nat) (v7 : Int) (t0 : Int64) (t1 : Int64) (h : gaH) (kc ks : Nat), w_X5_digestSheet_J51 X Q K22 v0 v3 v4 v7 t0 t1 h kc ks → gaP p l e rm_X5_digestSheet s m args below meth c G 8 (gaZ below G (gQl Q) X args s rm_X5_digestSheet) 51 [some (.ref v0), none, none, some (gi v3), some (.ref v4), none, none, some (gi v7)] [.long t1, .long t0] h kc ks := by
    intro K22 hK22
    intro v0 v3 v4 v7 t0 t1 h kc ks hw
    unfold w_X5_digestSheet_J51 at hw
    refine g_callS (st := []) V (k_X5_digestWith hst hw) ww_2_91 ww_2_92 ww_1_1 ww_2_93 hd_X5_digestWith ⟨by decide, by decide⟩ rfl rfl (ga_cat rfl) dX5_digestSheet_51 (Nat.zero_le _) (Nat.zero_le _) rfl (gaX_all hT V) (ga_kl (fun r2 hp1 hw => ?_))
    refine g_lstore (lv2 := [some (.ref v0), none, none, some (gi v3), some (.ref v4), some (.long r2), none, some (gi v7)]) V dX5_digestSheet_54 (by decide) rfl rfl rfl ?_
    refine gi_iinc (lv2 := [some (.ref v0), none, none, some (gi v3), some (.ref v4), some (.long r2), none, some (gi (v7 + 1))]) V dX5_digestSheet_56 (by decide) rfl rfl rfl rfl ?_
    refine g_goto V dX5_digestSheet_59 rfl ?_
    exact hK22 v0 v3 v4 r2 (v7 + 1) hp1 kc ks hw
  have h_X5_digestSheet_L22 : ∀ (n : Nat), ∀ (v0 : Nat) (v3 : Int) (v4 : Nat) (v5 : Int64) (v7 : Int) (h : gaH) (kc ks : Nat), w_X5_digestSheet_L22 X Q n v0 v3 v4 v5 v7 h kc ks → gaP p l e rm_X5_digestSheet s m args below meth c G 8 (gaZ below G (gQl Q) X args s rm_X5_digestSheet) 22 [some (.ref v0), none, none, some (gi v3), some (.ref v4), some (.long v5), none, some (gi v7)] [] h kc ks := by
    intro n
    induction n with
    | zero =>
      intro v0 v3 v4 v5 v7 h kc ks hw
      exact hw.elim
    | succ n ih =>
      intro v0 v3 v4 v5 v7 h kc ks hw
      unfold w_X5_digestSheet_L22 at hw
      refine g_iload V dX5_digestSheet_22 rfl rfl ?_
      refine g_aload V dX5_digestSheet_24 rfl rfl ?_
      obtain ⟨fs, r1, ha, hv, hw⟩ := hw
      refine g_getN (C := RX4) (T := TX4) (N := 2) (host := "Wordgarden") V 1 rfl hin_RX4 (by decide) (by decide) gn_3 rfl ha hv dX5_digestSheet_26 rfl ?_
      obtain ⟨hx0, hx1, hw⟩ := hw
      refine gi_icmp_ge V dX5_digestSheet_29 rfl rfl hx0 hx1 (fun q => ?_) (fun q => ?_)
      · have hw := ga_t q hw
        refine g_lload V dX5_digestSheet_62 rfl rfl ?_
        refine g_aload_n V dX5_digestSheet_64 rfl rfl ?_
        refine g_iload_n V dX5_digestSheet_65 rfl rfl ?_
        refine g_iconst V (Int32.ofInt 1) dX5_digestSheet_66 rfl rfl ?_
        obtain ⟨hb, hw⟩ := hw
        obtain ⟨fb, hb⟩ := hb
        obtain ⟨hk, hj, c4, s5, ec, es, hw⟩ := hw
        refine g_callV (C := RX5) (T := TX5) (N := 9) (st := [.long v5]) V (k_X5_count hst hw) ww_1_232 ww_1_233 ww_1_234 ww_1_1 ww_1_235 hd_X5_count ⟨by decide, by decide⟩ rfl (by decide) hb rfl rfl (ga_cat rfl) dX5_digestSheet_67 hk hj rfl (gaX_all hT V) (ga_ki (fun r3 hp2 hw => ?_))
        refine ga_re ec es ?_
        refine gi_i2l V dX5_digestSheet_70 rfl ?_
        refine g_callS (st := []) V (k_X5_digestWith hst hw) ww_2_91 ww_2_92 ww_1_1 ww_2_93 hd_X5_digestWith ⟨by decide, by decide⟩ rfl rfl (ga_cat rfl) dX5_digestSheet_71 (Nat.zero_le _) (Nat.zero_le _) rfl (gaX_all hT V) (ga_kl (fun r7 hp6 hw => ?_))
        refine g_lstore (lv2 := [some (.ref v0), none, none, some (gi v3), some (.ref v4), some (.long r7), none, some (gi v7)]) V dX5_digestSheet_74 (by decide) rfl rfl rfl ?_
        refine g_lload V dX5_digestSheet_76 rfl rfl ?_
        refine g_aload_n V dX5_digestSheet_78 rfl rfl ?_
        refine g_iload_n V dX5_digestSheet_79 rfl rfl ?_
        obtain ⟨hb, hw⟩ := hw
        obtain ⟨fb, hb⟩ := hb
        obtain ⟨hk, hj, c10, s11, ec, es, hw⟩ := hw
        refine g_callV (C := RX5) (T := TX5) (N := 9) (st := [.long r7]) V (k_X5_isMirrored hst hw) ww_2_97 ww_2_98 ww_2_99 ww_1_1 ww_2_100 hd_X5_isMirrored ⟨by decide, by decide⟩ rfl (by decide) hb rfl rfl (ga_cat rfl) dX5_digestSheet_80 hk hj rfl (gaX_all hT V) (ga_ki (fun r9 hp8 hw => ?_))
        refine ga_re ec es ?_
        refine g_callS (st := [.long r7]) V (k_X5_oneIf hst hw) ww_2_104 ww_2_105 ww_1_1 ww_2_106 hd_X5_oneIf ⟨by decide, by decide⟩ rfl rfl (ga_cat rfl) dX5_digestSheet_83 (Nat.zero_le _) (Nat.zero_le _) rfl (gaX_all hT V) (ga_ki (fun r13 hp12 hw => ?_))
        refine gi_i2l V dX5_digestSheet_86 rfl ?_
        refine g_callS (st := []) V (k_X5_digestWith hst hw) ww_2_91 ww_2_92 ww_1_1 ww_2_93 hd_X5_digestWith ⟨by decide, by decide⟩ rfl rfl (ga_cat rfl) dX5_digestSheet_87 (Nat.zero_le _) (Nat.zero_le _) rfl (gaX_all hT V) (ga_kl (fun r15 hp14 hw => ?_))
        refine g_lstore (lv2 := [some (.ref v0), none, none, some (gi v3), some (.ref v4), some (.long r15), none, some (gi v7)]) V dX5_digestSheet_90 (by decide) rfl rfl rfl ?_
        refine g_lload V dX5_digestSheet_92 rfl rfl ?_
        refine g_aload_n V dX5_digestSheet_94 rfl rfl ?_
        refine g_iload_n V dX5_digestSheet_95 rfl rfl ?_
        obtain ⟨hb, hw⟩ := hw
        obtain ⟨fb, hb⟩ := hb
        obtain ⟨hk, hj, c18, s19, ec, es, hw⟩ := hw
        refine g_callV (C := RX5) (T := TX5) (N := 9) (st := [.long r15]) V (k_X5_times hst hw) ww_2_107 ww_2_108 ww_2_109 ww_1_1 ww_2_110 hd_X5_times ⟨by decide, by decide⟩ rfl (by decide) hb rfl rfl (ga_cat rfl) dX5_digestSheet_96 hk hj rfl (gaX_all hT V) (ga_ki (fun r17 hp16 hw => ?_))
        refine ga_re ec es ?_
        refine gi_i2l V dX5_digestSheet_99 rfl ?_
        refine g_callS (st := []) V (k_X5_digestWith hst hw) ww_2_91 ww_2_92 ww_1_1 ww_2_93 hd_X5_digestWith ⟨by decide, by decide⟩ rfl rfl (ga_cat rfl) dX5_digestSheet_100 (Nat.zero_le _) (Nat.zero_le _) rfl (gaX_all hT V) (ga_kl (fun r21 hp20 hw => ?_))
        refine g_lstore (lv2 := [some (.ref v0), none, none, some (gi v3), some (.ref v4), some (.long r21), none, some (gi v7)]) V dX5_digestSheet_103 (by decide) rfl rfl rfl ?_
        refine g_lload V dX5_digestSheet_105 rfl rfl ?_
        refine g_aload_n V dX5_digestSheet_107 rfl rfl ?_
        refine g_iload_n V dX5_digestSheet_108 rfl rfl ?_
        obtain ⟨hb, hw⟩ := hw
        obtain ⟨fb, hb⟩ := hb
        obtain ⟨hk, hj, c24, s25, ec, es, hw⟩ := hw
        refine g_callV (C := RX5) (T := TX5) (N := 9) (st := [.long r21]) V (k_X5_overlaps hst hw) ww_2_120 ww_2_121 ww_2_122 ww_1_1 ww_2_123 hd_X5_overlaps ⟨by decide, by decide⟩ rfl (by decide) hb rfl rfl (ga_cat rfl) dX5_digestSheet_109 hk hj rfl (gaX_all hT V) (ga_ki (fun r23 hp22 hw => ?_))
        refine ga_re ec es ?_
        refine gi_i2l V dX5_digestSheet_112 rfl ?_
        refine g_callS (st := []) V (k_X5_digestWith hst hw) ww_2_91 ww_2_92 ww_1_1 ww_2_93 hd_X5_digestWith ⟨by decide, by decide⟩ rfl rfl (ga_cat rfl) dX5_digestSheet_113 (Nat.zero_le _) (Nat.zero_le _) rfl (gaX_all hT V) (ga_kl (fun r27 hp26 hw => ?_))
        refine g_lstore (lv2 := [some (.ref v0), none, none, some (gi v3), some (.ref v4), some (.long r27), none, some (gi v7)]) V dX5_digestSheet_116 (by decide) rfl rfl rfl ?_
        refine g_lload V dX5_digestSheet_118 rfl rfl ?_
        refine g_aload_n V dX5_digestSheet_120 rfl rfl ?_
        refine g_iload_n V dX5_digestSheet_121 rfl rfl ?_
        obtain ⟨hb, hw⟩ := hw
        obtain ⟨fb, hb⟩ := hb
        obtain ⟨hk, hj, c30, s31, ec, es, hw⟩ := hw
        refine g_callV (C := RX5) (T := TX5) (N := 9) (st := [.long r27]) V (k_X5_folds hst hw) ww_2_130 ww_2_131 ww_2_132 ww_1_1 ww_2_133 hd_X5_folds ⟨by decide, by decide⟩ rfl (by decide) hb rfl rfl (ga_cat rfl) dX5_digestSheet_122 hk hj rfl (gaX_all hT V) (ga_ki (fun r29 hp28 hw => ?_))
        refine ga_re ec es ?_
        refine gi_i2l V dX5_digestSheet_125 rfl ?_
        refine g_callS (st := []) V (k_X5_digestWith hst hw) ww_2_91 ww_2_92 ww_1_1 ww_2_93 hd_X5_digestWith ⟨by decide, by decide⟩ rfl rfl (ga_cat rfl) dX5_digestSheet_126 (Nat.zero_le _) (Nat.zero_le _) rfl (gaX_all hT V) (ga_kl (fun r33 hp32 hw => ?_))
        refine g_lstore (lv2 := [some (.ref v0), none, none, some (gi v3), some (.ref v4), some (.long r33), none, some (gi v7)]) V dX5_digestSheet_129 (by decide) rfl rfl rfl ?_
        refine g_lload V dX5_digestSheet_131 rfl rfl ?_
        refine g_aload_n V dX5_digestSheet_133 rfl rfl ?_
        refine g_iload_n V dX5_digestSheet_134 rfl rfl ?_
        obtain ⟨hb, hw⟩ := hw
        obtain ⟨fb, hb⟩ := hb
        obtain ⟨hk, hj, c36, s37, ec, es, hw⟩ := hw
        refine g_callV (C := RX5) (T := TX5) (N := 9) (st := [.long r33]) V (k_X5_least hst hw) ww_2_138 ww_2_139 ww_2_140 ww_1_1 ww_2_141 hd_X5_least ⟨by decide, by decide⟩ rfl (by decide) hb rfl rfl (ga_cat rfl) dX5_digestSheet_135 hk hj rfl (gaX_all hT V) (ga_ki (fun r35 hp34 hw => ?_))
        refine ga_re ec es ?_
        refine gi_i2l V dX5_digestSheet_138 rfl ?_
        refine g_callS (st := []) V (k_X5_digestWith hst hw) ww_2_91 ww_2_92 ww_1_1 ww_2_93 hd_X5_digestWith ⟨by decide, by decide⟩ rfl rfl (ga_cat rfl) dX5_digestSheet_139 (Nat.zero_le _) (Nat.zero_le _) rfl (gaX_all hT V) (ga_kl (fun r39 hp38 hw => ?_))
        exact g_lret V rfl dX5_digestSheet_142 ⟨_, rfl, hw⟩
      · have hw := ga_f q hw
        refine g_lload V dX5_digestSheet_32 rfl rfl ?_
        refine g_aload V dX5_digestSheet_34 rfl rfl ?_
        refine g_iload V dX5_digestSheet_36 rfl rfl ?_
        obtain ⟨hb, hw⟩ := hw
        obtain ⟨fb, hb⟩ := hb
        refine g_callV (C := RX4) (T := TX4) (N := 2) (st := [.long v5]) V (k_X4_isUp hst hw) ww_2_95 ww_1_228 ww_1_229 ww_1_3 ww_1_230 hd_X4_isUp ⟨by decide, by decide⟩ rfl (by decide) hb rfl rfl (ga_cat rfl) dX5_digestSheet_38 (Nat.zero_le _) (Nat.zero_le _) rfl (gaX_all hT V) (ga_ki (fun r41 hp40 hw => ?_))
        obtain ⟨hx0, hw⟩ := hw
        refine gi_if_eq V dX5_digestSheet_41 rfl rfl hx0 (fun q => ?_) (fun q => ?_)
        · have hw := ga_t q hw
          refine g_lconst V (1 : Int64) dX5_digestSheet_50 rfl rfl ?_
          refine g_less (bs := [true, true, true, true, true, false, true, true]) (lv2 := [some (.ref v0), none, none, some (gi v3), some (.ref v4), none, none, some (gi v7)]) rfl ?_
          exact h_X5_digestSheet_J51 (w_X5_digestSheet_L22 X Q n) ih v0 v3 v4 v7 v5 (1 : Int64) hp40 kc ks hw
        · have hw := ga_f q hw
          refine g_ldc2 V (2 : Int64) dX5_digestSheet_44 ww_2_96 rfl ?_
          refine g_goto V dX5_digestSheet_47 rfl ?_
          refine g_less (bs := [true, true, true, true, true, false, true, true]) (lv2 := [some (.ref v0), none, none, some (gi v3), some (.ref v4), none, none, some (gi v7)]) rfl ?_
          exact h_X5_digestSheet_J51 (w_X5_digestSheet_L22 X Q n) ih v0 v3 v4 v7 v5 (2 : Int64) hp40 kc ks hw
  show gaP p l e rm_X5_digestSheet s m args below meth c G 8 (gaZ below G (gQl Q) X args s rm_X5_digestSheet) 0 [some (.ref a0), some (.long a1), none, some (gi a3), none, none, none, none] [] h 7 42
  unfold w_X5_digestSheet at hw
  refine g_aload_n V dX5_digestSheet_0 rfl rfl ?_
  refine g_iload_n V dX5_digestSheet_1 rfl rfl ?_
  obtain ⟨hb, hw⟩ := hw
  obtain ⟨fb, hb⟩ := hb
  obtain ⟨hk, hj, c3, s4, ec, es, hw⟩ := hw
  refine g_callV (C := RX5) (T := TX5) (N := 9) (st := []) V (k_X5_wordOf hst hw) ww_1_150 ww_1_152 wp_1_1 ww_1_1 ww_1_153 hd_X5_wordOf ⟨by decide, by decide⟩ rfl (by decide) hb rfl rfl (ga_cat rfl) dX5_digestSheet_2 hk hj rfl (gaX_all hT V) (ga_ka (fun r2 hp1 hw => ?_))
  refine ga_re ec es ?_
  refine g_astore (lv2 := [some (.ref a0), some (.long a1), none, some (gi a3), some (.ref r2), none, none, none]) V dX5_digestSheet_5 (by decide) rfl rfl rfl ?_
  refine g_lload_n V dX5_digestSheet_7 rfl rfl ?_
  refine g_aload V dX5_digestSheet_8 rfl rfl ?_
  obtain ⟨fs, r5, ha, hv, hw⟩ := hw
  refine g_getN (C := RX4) (T := TX4) (N := 2) (host := "Wordgarden") V 1 rfl hin_RX4 (by decide) (by decide) gn_3 rfl ha hv dX5_digestSheet_10 rfl ?_
  refine gi_i2l V dX5_digestSheet_13 rfl ?_
  refine g_callS (st := []) V (k_X5_digestWith hst hw) ww_2_91 ww_2_92 ww_1_1 ww_2_93 hd_X5_digestWith ⟨by decide, by decide⟩ rfl rfl (ga_cat rfl) dX5_digestSheet_14 (Nat.zero_le _) (Nat.zero_le _) rfl (gaX_all hT V) (ga_kl (fun r7 hp6 hw => ?_))
  refine g_lstore (lv2 := [some (.ref a0), some (.long a1), none, some (gi a3), some (.ref r2), some (.long r7), none, none]) V dX5_digestSheet_17 (by decide) rfl rfl rfl ?_
  refine g_iconst V (Int32.ofInt 0) dX5_digestSheet_19 rfl rfl ?_
  refine g_istore (lv2 := [some (.ref a0), some (.long a1), none, some (gi a3), some (.ref r2), some (.long r7), none, some (gi 0)]) V dX5_digestSheet_20 (by decide) rfl rfl rfl ?_
  refine g_less (bs := [true, false, true, true, true, true, true, true]) (lv2 := [some (.ref a0), none, none, some (gi a3), some (.ref r2), some (.long r7), none, some (gi 0)]) rfl ?_
  obtain ⟨z, hw⟩ := hw
  exact h_X5_digestSheet_L22 z a0 a3 r2 r7 0 hp6 c3 s4 hw
def w_X5_size (X : String → gaH → Prop) (a0 : Nat) (a1 : Int) (a2 : Int) (h : gaH) (Q : Int → gaH → Prop) : Prop := gHas h a0 5 ∧ gCall 1 6 1 6 (fun c3 s4 => w_X5_growthOf X a0 a1 h (fun r2 hp1 => gHas hp1 r2 2 ∧ w_X0_wordBy r2 a2 hp1 (fun r6 hp5 => gI hp5 r6 4 1 (fun r7 => Q r7 hp5))))
abbrev rm_X5_size : Room := { frames := 9, cells := 1, slots := 6, locals := 221 }
theorem hd_X5_size : yX5_size.cls = RX5 ∧ (yX5_size.cls ≠ "java/lang/invoke/MethodHandle" ∧ yX5_size.cls ≠ "java/lang/invoke/VarHandle" ∧ (parseMethodDescriptor yX5_size.desc).map (fun d => d.parameters.length) = some 2) := by decide +kernel
theorem k_X5_size {l : Launch} (hst : l.stackTraces = false) {G : gaG} {X : String → gaH → Prop} {a0 : Nat} {a1 : Int} {a2 : Int} {h : gaH} {Q : Int → gaH → Prop} (hw : w_X5_size X a0 a1 a2 h Q) : gaC l G yX5_size (gaM yX5_size cX5_size 3 ((some .int))) rm_X5_size [.ref a0, gi a1, gi a2] h (gQi Q) X := by
  refine g_start (lv := [some (.ref a0), some (gi a1), some (gi a2)]) hpl_RX5 hst (Nat.le_of_ble_eq_true rfl) (gaArgs_pad (z := 0) rfl) ww_2_159 ?_
  intro p e s m args below meth c V hT
  show gaP p l e rm_X5_size s m args below meth c G 3 (gaZ below G (gQi Q) X args s rm_X5_size) 0 [some (.ref a0), some (gi a1), some (gi a2)] [] h 1 6
  unfold w_X5_size at hw
  refine g_aload_n V dX5_size_0 rfl rfl ?_
  refine g_iload_n V dX5_size_1 rfl rfl ?_
  obtain ⟨hb, hw⟩ := hw
  obtain ⟨fb, hb⟩ := hb
  obtain ⟨hk, hj, c3, s4, ec, es, hw⟩ := hw
  refine g_callV (C := RX5) (T := TX5) (N := 9) (st := []) V (k_X5_growthOf hst hw) ww_2_13 ww_2_15 wp_1_4 ww_1_1 ww_2_16 hd_X5_growthOf ⟨by decide, by decide⟩ rfl (by decide) hb rfl rfl (ga_cat rfl) dX5_size_2 hk hj rfl (gaX_all hT V) (ga_ka (fun r2 hp1 hw => ?_))
  refine ga_re ec es ?_
  refine g_iload_n V dX5_size_5 rfl rfl ?_
  obtain ⟨hb, hw⟩ := hw
  obtain ⟨fb, hb⟩ := hb
  refine g_callV (C := RX0) (T := TX0) (N := 4) (st := []) V (k_X0_wordBy hst hw) ww_2_160 ww_2_161 ww_2_162 ww_1_4 ww_2_163 hd_X0_wordBy ⟨by decide, by decide⟩ rfl (by decide) hb rfl rfl (ga_cat rfl) dX5_size_6 (Nat.zero_le _) (Nat.zero_le _) rfl (gaX_all hT V) (ga_ka (fun r6 hp5 hw => ?_))
  obtain ⟨fs, r7, ha, hv, hw⟩ := hw
  refine g_getN (C := RX4) (T := TX4) (N := 2) (host := "Wordgarden") V 1 rfl hin_RX4 (by decide) (by decide) gn_3 rfl ha hv dX5_size_9 rfl ?_
  exact g_iret V rfl rfl dX5_size_12 ⟨_, rfl, hw⟩
def w_X5_ups (X : String → gaH → Prop) (a0 : Nat) (a1 : Int) (a2 : Int) (h : gaH) (Q : Int → gaH → Prop) : Prop := gHas h a0 5 ∧ gCall 1 6 1 6 (fun c3 s4 => w_X5_growthOf X a0 a1 h (fun r2 hp1 => gHas hp1 r2 2 ∧ w_X0_wordBy r2 a2 hp1 (fun r6 hp5 => w_X1_upsOf r6 hp5 (fun r8 hp7 => Q r8 hp7))))
abbrev rm_X5_ups : Room := { frames := 9, cells := 1, slots := 6, locals := 221 }
theorem hd_X5_ups : yX5_ups.cls = RX5 ∧ (yX5_ups.cls ≠ "java/lang/invoke/MethodHandle" ∧ yX5_ups.cls ≠ "java/lang/invoke/VarHandle" ∧ (parseMethodDescriptor yX5_ups.desc).map (fun d => d.parameters.length) = some 2) := by decide +kernel
theorem k_X5_ups {l : Launch} (hst : l.stackTraces = false) {G : gaG} {X : String → gaH → Prop} {a0 : Nat} {a1 : Int} {a2 : Int} {h : gaH} {Q : Int → gaH → Prop} (hw : w_X5_ups X a0 a1 a2 h Q) : gaC l G yX5_ups (gaM yX5_ups cX5_ups 3 ((some .int))) rm_X5_ups [.ref a0, gi a1, gi a2] h (gQi Q) X := by
  refine g_start (lv := [some (.ref a0), some (gi a1), some (gi a2)]) hpl_RX5 hst (Nat.le_of_ble_eq_true rfl) (gaArgs_pad (z := 0) rfl) ww_2_167 ?_
  intro p e s m args below meth c V hT
  show gaP p l e rm_X5_ups s m args below meth c G 3 (gaZ below G (gQi Q) X args s rm_X5_ups) 0 [some (.ref a0), some (gi a1), some (gi a2)] [] h 1 6
  unfold w_X5_ups at hw
  refine g_aload_n V dX5_ups_0 rfl rfl ?_
  refine g_iload_n V dX5_ups_1 rfl rfl ?_
  obtain ⟨hb, hw⟩ := hw
  obtain ⟨fb, hb⟩ := hb
  obtain ⟨hk, hj, c3, s4, ec, es, hw⟩ := hw
  refine g_callV (C := RX5) (T := TX5) (N := 9) (st := []) V (k_X5_growthOf hst hw) ww_2_13 ww_2_15 wp_1_4 ww_1_1 ww_2_16 hd_X5_growthOf ⟨by decide, by decide⟩ rfl (by decide) hb rfl rfl (ga_cat rfl) dX5_ups_2 hk hj rfl (gaX_all hT V) (ga_ka (fun r2 hp1 hw => ?_))
  refine ga_re ec es ?_
  refine g_iload_n V dX5_ups_5 rfl rfl ?_
  obtain ⟨hb, hw⟩ := hw
  obtain ⟨fb, hb⟩ := hb
  refine g_callV (C := RX0) (T := TX0) (N := 4) (st := []) V (k_X0_wordBy hst hw) ww_2_160 ww_2_161 ww_2_162 ww_1_4 ww_2_163 hd_X0_wordBy ⟨by decide, by decide⟩ rfl (by decide) hb rfl rfl (ga_cat rfl) dX5_ups_6 (Nat.zero_le _) (Nat.zero_le _) rfl (gaX_all hT V) (ga_ka (fun r6 hp5 hw => ?_))
  refine g_callS (st := []) V (k_X1_upsOf hst hw) ww_1_236 ww_1_237 ww_1_12 ww_1_238 hd_X1_upsOf ⟨by decide, by decide⟩ rfl rfl (ga_cat rfl) dX5_ups_9 (Nat.zero_le _) (Nat.zero_le _) rfl (gaX_all hT V) (ga_ki (fun r8 hp7 hw => ?_))
  exact g_iret V rfl rfl dX5_ups_12 ⟨_, rfl, hw⟩
def w_X5_digestGrowth_L22 (X : String → gaH → Prop) (Q : Int64 → gaH → Prop) : Nat → (Nat → Int → Nat → Int64 → Int → gaH → Nat → Nat → Prop)
  | 0 => fun _ _ _ _ _ _ _ _ => False
  | n + 1 => fun v0 v3 v4 v5 v7 h kc ks => gI h v4 2 1 (fun r1 => gR v7 ∧ gR r1 ∧ (if r1 ≤ v7 then gHas h v0 5 ∧ gCall 1 6 kc ks (fun c4 s5 => w_X5_size X v0 v3 0 h (fun r3 hp2 => w_X5_digestWith v5 (gI2l r3) hp2 (fun r7 hp6 => gHas hp6 v0 5 ∧ gCall 1 6 c4 s5 (fun c10 s11 => w_X5_size X v0 v3 1 hp6 (fun r9 hp8 => w_X5_digestWith r7 (gI2l r9) hp8 (fun r13 hp12 => gHas hp12 v0 5 ∧ gCall 1 6 c10 s11 (fun c16 s17 => w_X5_ups X v0 v3 0 hp12 (fun r15 hp14 => w_X5_digestWith r13 (gI2l r15) hp14 (fun r19 hp18 => gHas hp18 v0 5 ∧ gCall 1 6 c16 s17 (fun c22 s23 => w_X5_ups X v0 v3 1 hp18 (fun r21 hp20 => w_X5_digestWith r19 (gI2l r21) hp20 (fun r25 hp24 => gHas hp24 v0 5 ∧ gCall 1 6 c22 s23 (fun c28 s29 => w_X5_cross X v0 v3 hp24 (fun r27 hp26 => w_X5_digestWith r25 (gI2l r27) hp26 (fun r31 hp30 => gHas hp30 v0 5 ∧ gCall 1 6 c28 s29 (fun c34 s35 => w_X5_alike X v0 v3 hp30 (fun r33 hp32 => w_X5_digestWith r31 (gI2l r33) hp32 (fun r37 hp36 => Q r37 hp36)))))))))))))))))) else gHas h v4 2 ∧ w_X0_turnAt v4 v7 h (fun r39 hp38 => w_X5_digestWith v5 (gI2l r39) hp38 (fun r41 hp40 => w_X5_digestGrowth_L22 X Q n v0 v3 v4 r41 (v7 + 1) hp40 kc ks))))
def w_X5_digestGrowth (X : String → gaH → Prop) (a0 : Nat) (a1 : Int64) (a3 : Int) (h : gaH) (Q : Int64 → gaH → Prop) : Prop := gHas h a0 5 ∧ gCall 1 6 7 42 (fun c3 s4 => w_X5_growthOf X a0 a3 h (fun r2 hp1 => gI hp1 r2 2 1 (fun r5 => w_X5_digestWith a1 (gI2l r5) hp1 (fun r7 hp6 => ∃ z, w_X5_digestGrowth_L22 X Q z a0 a3 r2 r7 0 hp6 c3 s4))))
abbrev rm_X5_digestGrowth : Room := { frames := 10, cells := 7, slots := 42, locals := 243 }
theorem hd_X5_digestGrowth : yX5_digestGrowth.cls = RX5 ∧ (yX5_digestGrowth.cls ≠ "java/lang/invoke/MethodHandle" ∧ yX5_digestGrowth.cls ≠ "java/lang/invoke/VarHandle" ∧ (parseMethodDescriptor yX5_digestGrowth.desc).map (fun d => d.parameters.length) = some 2) := by decide +kernel
theorem k_X5_digestGrowth {l : Launch} (hst : l.stackTraces = false) {G : gaG} {X : String → gaH → Prop} {a0 : Nat} {a1 : Int64} {a3 : Int} {h : gaH} {Q : Int64 → gaH → Prop} (hw : w_X5_digestGrowth X a0 a1 a3 h Q) : gaC l G yX5_digestGrowth (gaM yX5_digestGrowth cX5_digestGrowth 8 ((some .long))) rm_X5_digestGrowth [.ref a0, .long a1, gi a3] h (gQl Q) X := by
  refine g_start (lv := [some (.ref a0), some (.long a1), none, some (gi a3), none, none, none, none]) hpl_RX5 hst (Nat.le_of_ble_eq_true rfl) (gaArgs_pad (z := 4) rfl) ww_2_154 ?_
  intro p e s m args below meth c V hT
  have h_X5_digestGrowth_L22 : ∀ (n : Nat), ∀ (v0 : Nat) (v3 : Int) (v4 : Nat) (v5 : Int64) (v7 : Int) (h : gaH) (kc ks : Nat), w_X5_digestGrowth_L22 X Q n v0 v3 v4 v5 v7 h kc ks → gaP p l e rm_X5_digestGrowth s m args below meth c G 8 (gaZ below G (gQl Q) X args s rm_X5_digestGrowth) 22 [some (.ref v0), none, none, some (gi v3), some (.ref v4), some (.long v5), none, some (gi v7)] [] h kc ks := by
    intro n
    induction n with
    | zero =>
      intro v0 v3 v4 v5 v7 h kc ks hw
      exact hw.elim
    | succ n ih =>
      intro v0 v3 v4 v5 v7 h kc ks hw
      unfold w_X5_digestGrowth_L22 at hw
      refine g_iload V dX5_digestGrowth_22 rfl rfl ?_
      refine g_aload V dX5_digestGrowth_24 rfl rfl ?_
      obtain ⟨fs, r1, ha, hv, hw⟩ := hw
      refine g_getN (C := RX0) (T := TX0) (N := 4) (host := "Wordgarden") V 1 rfl hin_RX0 (by decide) (by decide) gn_9 rfl ha hv dX5_digestGrowth_26 rfl ?_
      obtain ⟨hx0, hx1, hw⟩ := hw
      refine gi_icmp_ge V dX5_digestGrowth_29 rfl rfl hx0 hx1 (fun q => ?_) (fun q => ?_)
      · have hw := ga_t q hw
        refine g_lload V dX5_digestGrowth_53 rfl rfl ?_
        refine g_aload_n V dX5_digestGrowth_55 rfl rfl ?_
        refine g_iload_n V dX5_digestGrowth_56 rfl rfl ?_
        refine g_iconst V (Int32.ofInt 0) dX5_digestGrowth_57 rfl rfl ?_
        obtain ⟨hb, hw⟩ := hw
        obtain ⟨fb, hb⟩ := hb
        obtain ⟨hk, hj, c4, s5, ec, es, hw⟩ := hw
        refine g_callV (C := RX5) (T := TX5) (N := 9) (st := [.long v5]) V (k_X5_size hst hw) ww_2_156 ww_2_157 ww_2_158 ww_1_1 ww_2_159 hd_X5_size ⟨by decide, by decide⟩ rfl (by decide) hb rfl rfl (ga_cat rfl) dX5_digestGrowth_58 hk hj rfl (gaX_all hT V) (ga_ki (fun r3 hp2 hw => ?_))
        refine ga_re ec es ?_
        refine gi_i2l V dX5_digestGrowth_61 rfl ?_
        refine g_callS (st := []) V (k_X5_digestWith hst hw) ww_2_91 ww_2_92 ww_1_1 ww_2_93 hd_X5_digestWith ⟨by decide, by decide⟩ rfl rfl (ga_cat rfl) dX5_digestGrowth_62 (Nat.zero_le _) (Nat.zero_le _) rfl (gaX_all hT V) (ga_kl (fun r7 hp6 hw => ?_))
        refine g_lstore (lv2 := [some (.ref v0), none, none, some (gi v3), some (.ref v4), some (.long r7), none, some (gi v7)]) V dX5_digestGrowth_65 (by decide) rfl rfl rfl ?_
        refine g_lload V dX5_digestGrowth_67 rfl rfl ?_
        refine g_aload_n V dX5_digestGrowth_69 rfl rfl ?_
        refine g_iload_n V dX5_digestGrowth_70 rfl rfl ?_
        refine g_iconst V (Int32.ofInt 1) dX5_digestGrowth_71 rfl rfl ?_
        obtain ⟨hb, hw⟩ := hw
        obtain ⟨fb, hb⟩ := hb
        obtain ⟨hk, hj, c10, s11, ec, es, hw⟩ := hw
        refine g_callV (C := RX5) (T := TX5) (N := 9) (st := [.long r7]) V (k_X5_size hst hw) ww_2_156 ww_2_157 ww_2_158 ww_1_1 ww_2_159 hd_X5_size ⟨by decide, by decide⟩ rfl (by decide) hb rfl rfl (ga_cat rfl) dX5_digestGrowth_72 hk hj rfl (gaX_all hT V) (ga_ki (fun r9 hp8 hw => ?_))
        refine ga_re ec es ?_
        refine gi_i2l V dX5_digestGrowth_75 rfl ?_
        refine g_callS (st := []) V (k_X5_digestWith hst hw) ww_2_91 ww_2_92 ww_1_1 ww_2_93 hd_X5_digestWith ⟨by decide, by decide⟩ rfl rfl (ga_cat rfl) dX5_digestGrowth_76 (Nat.zero_le _) (Nat.zero_le _) rfl (gaX_all hT V) (ga_kl (fun r13 hp12 hw => ?_))
        refine g_lstore (lv2 := [some (.ref v0), none, none, some (gi v3), some (.ref v4), some (.long r13), none, some (gi v7)]) V dX5_digestGrowth_79 (by decide) rfl rfl rfl ?_
        refine g_lload V dX5_digestGrowth_81 rfl rfl ?_
        refine g_aload_n V dX5_digestGrowth_83 rfl rfl ?_
        refine g_iload_n V dX5_digestGrowth_84 rfl rfl ?_
        refine g_iconst V (Int32.ofInt 0) dX5_digestGrowth_85 rfl rfl ?_
        obtain ⟨hb, hw⟩ := hw
        obtain ⟨fb, hb⟩ := hb
        obtain ⟨hk, hj, c16, s17, ec, es, hw⟩ := hw
        refine g_callV (C := RX5) (T := TX5) (N := 9) (st := [.long r13]) V (k_X5_ups hst hw) ww_2_164 ww_2_165 ww_2_166 ww_1_1 ww_2_167 hd_X5_ups ⟨by decide, by decide⟩ rfl (by decide) hb rfl rfl (ga_cat rfl) dX5_digestGrowth_86 hk hj rfl (gaX_all hT V) (ga_ki (fun r15 hp14 hw => ?_))
        refine ga_re ec es ?_
        refine gi_i2l V dX5_digestGrowth_89 rfl ?_
        refine g_callS (st := []) V (k_X5_digestWith hst hw) ww_2_91 ww_2_92 ww_1_1 ww_2_93 hd_X5_digestWith ⟨by decide, by decide⟩ rfl rfl (ga_cat rfl) dX5_digestGrowth_90 (Nat.zero_le _) (Nat.zero_le _) rfl (gaX_all hT V) (ga_kl (fun r19 hp18 hw => ?_))
        refine g_lstore (lv2 := [some (.ref v0), none, none, some (gi v3), some (.ref v4), some (.long r19), none, some (gi v7)]) V dX5_digestGrowth_93 (by decide) rfl rfl rfl ?_
        refine g_lload V dX5_digestGrowth_95 rfl rfl ?_
        refine g_aload_n V dX5_digestGrowth_97 rfl rfl ?_
        refine g_iload_n V dX5_digestGrowth_98 rfl rfl ?_
        refine g_iconst V (Int32.ofInt 1) dX5_digestGrowth_99 rfl rfl ?_
        obtain ⟨hb, hw⟩ := hw
        obtain ⟨fb, hb⟩ := hb
        obtain ⟨hk, hj, c22, s23, ec, es, hw⟩ := hw
        refine g_callV (C := RX5) (T := TX5) (N := 9) (st := [.long r19]) V (k_X5_ups hst hw) ww_2_164 ww_2_165 ww_2_166 ww_1_1 ww_2_167 hd_X5_ups ⟨by decide, by decide⟩ rfl (by decide) hb rfl rfl (ga_cat rfl) dX5_digestGrowth_100 hk hj rfl (gaX_all hT V) (ga_ki (fun r21 hp20 hw => ?_))
        refine ga_re ec es ?_
        refine gi_i2l V dX5_digestGrowth_103 rfl ?_
        refine g_callS (st := []) V (k_X5_digestWith hst hw) ww_2_91 ww_2_92 ww_1_1 ww_2_93 hd_X5_digestWith ⟨by decide, by decide⟩ rfl rfl (ga_cat rfl) dX5_digestGrowth_104 (Nat.zero_le _) (Nat.zero_le _) rfl (gaX_all hT V) (ga_kl (fun r25 hp24 hw => ?_))
        refine g_lstore (lv2 := [some (.ref v0), none, none, some (gi v3), some (.ref v4), some (.long r25), none, some (gi v7)]) V dX5_digestGrowth_107 (by decide) rfl rfl rfl ?_
        refine g_lload V dX5_digestGrowth_109 rfl rfl ?_
        refine g_aload_n V dX5_digestGrowth_111 rfl rfl ?_
        refine g_iload_n V dX5_digestGrowth_112 rfl rfl ?_
        obtain ⟨hb, hw⟩ := hw
        obtain ⟨fb, hb⟩ := hb
        obtain ⟨hk, hj, c28, s29, ec, es, hw⟩ := hw
        refine g_callV (C := RX5) (T := TX5) (N := 9) (st := [.long r25]) V (k_X5_cross hst hw) ww_2_68 ww_2_69 ww_2_70 ww_1_1 ww_2_71 hd_X5_cross ⟨by decide, by decide⟩ rfl (by decide) hb rfl rfl (ga_cat rfl) dX5_digestGrowth_113 hk hj rfl (gaX_all hT V) (ga_ki (fun r27 hp26 hw => ?_))
        refine ga_re ec es ?_
        refine gi_i2l V dX5_digestGrowth_116 rfl ?_
        refine g_callS (st := []) V (k_X5_digestWith hst hw) ww_2_91 ww_2_92 ww_1_1 ww_2_93 hd_X5_digestWith ⟨by decide, by decide⟩ rfl rfl (ga_cat rfl) dX5_digestGrowth_117 (Nat.zero_le _) (Nat.zero_le _) rfl (gaX_all hT V) (ga_kl (fun r31 hp30 hw => ?_))
        refine g_lstore (lv2 := [some (.ref v0), none, none, some (gi v3), some (.ref v4), some (.long r31), none, some (gi v7)]) V dX5_digestGrowth_120 (by decide) rfl rfl rfl ?_
        refine g_lload V dX5_digestGrowth_122 rfl rfl ?_
        refine g_aload_n V dX5_digestGrowth_124 rfl rfl ?_
        refine g_iload_n V dX5_digestGrowth_125 rfl rfl ?_
        obtain ⟨hb, hw⟩ := hw
        obtain ⟨fb, hb⟩ := hb
        obtain ⟨hk, hj, c34, s35, ec, es, hw⟩ := hw
        refine g_callV (C := RX5) (T := TX5) (N := 9) (st := [.long r31]) V (k_X5_alike hst hw) ww_2_72 ww_2_73 ww_2_74 ww_1_1 ww_2_75 hd_X5_alike ⟨by decide, by decide⟩ rfl (by decide) hb rfl rfl (ga_cat rfl) dX5_digestGrowth_126 hk hj rfl (gaX_all hT V) (ga_ki (fun r33 hp32 hw => ?_))
        refine ga_re ec es ?_
        refine gi_i2l V dX5_digestGrowth_129 rfl ?_
        refine g_callS (st := []) V (k_X5_digestWith hst hw) ww_2_91 ww_2_92 ww_1_1 ww_2_93 hd_X5_digestWith ⟨by decide, by decide⟩ rfl rfl (ga_cat rfl) dX5_digestGrowth_130 (Nat.zero_le _) (Nat.zero_le _) rfl (gaX_all hT V) (ga_kl (fun r37 hp36 hw => ?_))
        exact g_lret V rfl dX5_digestGrowth_133 ⟨_, rfl, hw⟩
      · have hw := ga_f q hw
        refine g_lload V dX5_digestGrowth_32 rfl rfl ?_
        refine g_aload V dX5_digestGrowth_34 rfl rfl ?_
        refine g_iload V dX5_digestGrowth_36 rfl rfl ?_
        obtain ⟨hb, hw⟩ := hw
        obtain ⟨fb, hb⟩ := hb
        refine g_callV (C := RX0) (T := TX0) (N := 4) (st := [.long v5]) V (k_X0_turnAt hst hw) ww_2_155 ww_2_23 ww_2_24 ww_1_4 ww_2_25 hd_X0_turnAt ⟨by decide, by decide⟩ rfl (by decide) hb rfl rfl (ga_cat rfl) dX5_digestGrowth_38 (Nat.zero_le _) (Nat.zero_le _) rfl (gaX_all hT V) (ga_ki (fun r39 hp38 hw => ?_))
        refine gi_i2l V dX5_digestGrowth_41 rfl ?_
        refine g_callS (st := []) V (k_X5_digestWith hst hw) ww_2_91 ww_2_92 ww_1_1 ww_2_93 hd_X5_digestWith ⟨by decide, by decide⟩ rfl rfl (ga_cat rfl) dX5_digestGrowth_42 (Nat.zero_le _) (Nat.zero_le _) rfl (gaX_all hT V) (ga_kl (fun r41 hp40 hw => ?_))
        refine g_lstore (lv2 := [some (.ref v0), none, none, some (gi v3), some (.ref v4), some (.long r41), none, some (gi v7)]) V dX5_digestGrowth_45 (by decide) rfl rfl rfl ?_
        refine gi_iinc (lv2 := [some (.ref v0), none, none, some (gi v3), some (.ref v4), some (.long r41), none, some (gi (v7 + 1))]) V dX5_digestGrowth_47 (by decide) rfl rfl rfl rfl ?_
        refine g_goto V dX5_digestGrowth_50 rfl ?_
        exact ih v0 v3 v4 r41 (v7 + 1) hp40 kc ks hw
  show gaP p l e rm_X5_digestGrowth s m args below meth c G 8 (gaZ below G (gQl Q) X args s rm_X5_digestGrowth) 0 [some (.ref a0), some (.long a1), none, some (gi a3), none, none, none, none] [] h 7 42
  unfold w_X5_digestGrowth at hw
  refine g_aload_n V dX5_digestGrowth_0 rfl rfl ?_
  refine g_iload_n V dX5_digestGrowth_1 rfl rfl ?_
  obtain ⟨hb, hw⟩ := hw
  obtain ⟨fb, hb⟩ := hb
  obtain ⟨hk, hj, c3, s4, ec, es, hw⟩ := hw
  refine g_callV (C := RX5) (T := TX5) (N := 9) (st := []) V (k_X5_growthOf hst hw) ww_2_13 ww_2_15 wp_1_4 ww_1_1 ww_2_16 hd_X5_growthOf ⟨by decide, by decide⟩ rfl (by decide) hb rfl rfl (ga_cat rfl) dX5_digestGrowth_2 hk hj rfl (gaX_all hT V) (ga_ka (fun r2 hp1 hw => ?_))
  refine ga_re ec es ?_
  refine g_astore (lv2 := [some (.ref a0), some (.long a1), none, some (gi a3), some (.ref r2), none, none, none]) V dX5_digestGrowth_5 (by decide) rfl rfl rfl ?_
  refine g_lload_n V dX5_digestGrowth_7 rfl rfl ?_
  refine g_aload V dX5_digestGrowth_8 rfl rfl ?_
  obtain ⟨fs, r5, ha, hv, hw⟩ := hw
  refine g_getN (C := RX0) (T := TX0) (N := 4) (host := "Wordgarden") V 1 rfl hin_RX0 (by decide) (by decide) gn_9 rfl ha hv dX5_digestGrowth_10 rfl ?_
  refine gi_i2l V dX5_digestGrowth_13 rfl ?_
  refine g_callS (st := []) V (k_X5_digestWith hst hw) ww_2_91 ww_2_92 ww_1_1 ww_2_93 hd_X5_digestWith ⟨by decide, by decide⟩ rfl rfl (ga_cat rfl) dX5_digestGrowth_14 (Nat.zero_le _) (Nat.zero_le _) rfl (gaX_all hT V) (ga_kl (fun r7 hp6 hw => ?_))
  refine g_lstore (lv2 := [some (.ref a0), some (.long a1), none, some (gi a3), some (.ref r2), some (.long r7), none, none]) V dX5_digestGrowth_17 (by decide) rfl rfl rfl ?_
  refine g_iconst V (Int32.ofInt 0) dX5_digestGrowth_19 rfl rfl ?_
  refine g_istore (lv2 := [some (.ref a0), some (.long a1), none, some (gi a3), some (.ref r2), some (.long r7), none, some (gi 0)]) V dX5_digestGrowth_20 (by decide) rfl rfl rfl ?_
  refine g_less (bs := [true, false, true, true, true, true, true, true]) (lv2 := [some (.ref a0), none, none, some (gi a3), some (.ref r2), some (.long r7), none, some (gi 0)]) rfl ?_
  obtain ⟨z, hw⟩ := hw
  exact h_X5_digestGrowth_L22 z a0 a3 r2 r7 0 hp6 c3 s4 hw
def w_X5_house_J14 (X : String → gaH → Prop) (Q : Int → gaH → Prop) (v0 : Nat) (v1 : Int) (t0 : Int) (h : gaH) (kc ks : Nat) : Prop := gCall 1 6 kc ks (fun c3 s4 => w_X5_needArgument X t0 h (fun hp1 => gR v1 ∧ (if v1 = 0 then gI hp1 v0 5 5 (fun r8 => Q r8 hp1) else gR v1 ∧ (if v1 = 1 then gI hp1 v0 5 6 (fun r7 => Q r7 hp1) else gR v1 ∧ (if v1 = 2 then gI hp1 v0 5 7 (fun r6 => Q r6 hp1) else gI hp1 v0 5 8 (fun r5 => Q r5 hp1))))))
def w_X5_house_J13 (X : String → gaH → Prop) (Q : Int → gaH → Prop) (v0 : Nat) (v1 : Int) (h : gaH) (kc ks : Nat) : Prop := w_X5_house_J14 X Q v0 v1 0 h kc ks
def w_X5_house (X : String → gaH → Prop) (a0 : Nat) (a1 : Int) (h : gaH) (Q : Int → gaH → Prop) : Prop := gR a1 ∧ (if a1 < 0 then w_X5_house_J13 X Q a0 a1 h 1 6 else gR a1 ∧ (if 3 < a1 then w_X5_house_J13 X Q a0 a1 h 1 6 else w_X5_house_J14 X Q a0 a1 1 h 1 6))
abbrev rm_X5_house : Room := { frames := 9, cells := 1, slots := 6, locals := 220 }
theorem hd_X5_house : yX5_house.cls = RX5 ∧ (yX5_house.cls ≠ "java/lang/invoke/MethodHandle" ∧ yX5_house.cls ≠ "java/lang/invoke/VarHandle" ∧ (parseMethodDescriptor yX5_house.desc).map (fun d => d.parameters.length) = some 1) := by decide +kernel
theorem k_X5_house {l : Launch} (hst : l.stackTraces = false) {G : gaG} {X : String → gaH → Prop} {a0 : Nat} {a1 : Int} {h : gaH} {Q : Int → gaH → Prop} (hw : w_X5_house X a0 a1 h Q) : gaC l G yX5_house (gaM yX5_house cX5_house 2 ((some .int))) rm_X5_house [.ref a0, gi a1] h (gQi Q) X := by
  refine g_start (lv := [some (.ref a0), some (gi a1)]) hpl_RX5 hst (Nat.le_of_ble_eq_true rfl) (gaArgs_pad (z := 0) rfl) ww_2_171 ?_
  intro p e s m args below meth c V hT
  have h_X5_house_J14 : ∀ (v0 : Nat) (v1 : Int) (t0 : Int) (h : gaH) (kc ks : Nat), w_X5_house_J14 X Q v0 v1 t0 h kc ks → gaP p l e rm_X5_house s m args below meth c G 2 (gaZ below G (gQi Q) X args s rm_X5_house) 14 [some (.ref v0), some (gi v1)] [gi t0] h kc ks := by
    intro v0 v1 t0 h kc ks hw
    unfold w_X5_house_J14 at hw
    obtain ⟨hk, hj, c3, s4, ec, es, hw⟩ := hw
    refine g_callS (st := []) V (k_X5_needArgument hst hw) ww_2_172 ww_2_173 ww_1_1 ww_2_174 hd_X5_needArgument ⟨by decide, by decide⟩ rfl rfl (ga_cat rfl) dX5_house_14 hk hj rfl (gaX_all hT V) (ga_kv (fun hp1 hw => ?_))
    refine ga_re ec es ?_
    refine g_iload_n V dX5_house_17 rfl rfl ?_
    obtain ⟨hx0, hw⟩ := hw
    refine gi_if_ne V dX5_house_18 rfl rfl hx0 (fun q => ?_) (fun q => ?_)
    · have hw := ga_f q hw
      refine g_iload_n V dX5_house_26 rfl rfl ?_
      refine g_iconst V (Int32.ofInt 1) dX5_house_27 rfl rfl ?_
      obtain ⟨hx0, hw⟩ := hw
      refine gi_icmp_ne V dX5_house_28 rfl rfl hx0 (by decide) (fun q => ?_) (fun q => ?_)
      · have hw := ga_f q hw
        refine g_iload_n V dX5_house_36 rfl rfl ?_
        refine g_iconst V (Int32.ofInt 2) dX5_house_37 rfl rfl ?_
        obtain ⟨hx0, hw⟩ := hw
        refine gi_icmp_ne V dX5_house_38 rfl rfl hx0 (by decide) (fun q => ?_) (fun q => ?_)
        · have hw := ga_f q hw
          refine g_aload_n V dX5_house_48 rfl rfl ?_
          obtain ⟨fs, r5, ha, hv, hw⟩ := hw
          refine g_get (C := RX5) (T := TX5) (N := 9) V 8 rfl hin_RX5 (by decide) (by decide) ww_1_118 rfl ha hv dX5_house_49 rfl ?_
          exact g_iret V rfl rfl dX5_house_52 ⟨_, rfl, hw⟩
        · have hw := ga_t q hw
          refine g_aload_n V dX5_house_41 rfl rfl ?_
          obtain ⟨fs, r6, ha, hv, hw⟩ := hw
          refine g_get (C := RX5) (T := TX5) (N := 9) V 7 rfl hin_RX5 (by decide) (by decide) ww_1_117 rfl ha hv dX5_house_42 rfl ?_
          refine g_goto V dX5_house_45 rfl ?_
          exact g_iret V rfl rfl dX5_house_52 ⟨_, rfl, hw⟩
      · have hw := ga_t q hw
        refine g_aload_n V dX5_house_31 rfl rfl ?_
        obtain ⟨fs, r7, ha, hv, hw⟩ := hw
        refine g_get (C := RX5) (T := TX5) (N := 9) V 6 rfl hin_RX5 (by decide) (by decide) ww_1_116 rfl ha hv dX5_house_32 rfl ?_
        exact g_iret V rfl rfl dX5_house_35 ⟨_, rfl, hw⟩
    · have hw := ga_t q hw
      refine g_aload_n V dX5_house_21 rfl rfl ?_
      obtain ⟨fs, r8, ha, hv, hw⟩ := hw
      refine g_get (C := RX5) (T := TX5) (N := 9) V 5 rfl hin_RX5 (by decide) (by decide) ww_1_115 rfl ha hv dX5_house_22 rfl ?_
      exact g_iret V rfl rfl dX5_house_25 ⟨_, rfl, hw⟩
  have h_X5_house_J13 : ∀ (v0 : Nat) (v1 : Int) (h : gaH) (kc ks : Nat), w_X5_house_J13 X Q v0 v1 h kc ks → gaP p l e rm_X5_house s m args below meth c G 2 (gaZ below G (gQi Q) X args s rm_X5_house) 13 [some (.ref v0), some (gi v1)] [] h kc ks := by
    intro v0 v1 h kc ks hw
    unfold w_X5_house_J13 at hw
    refine g_iconst V (Int32.ofInt 0) dX5_house_13 rfl rfl ?_
    exact h_X5_house_J14 v0 v1 0 h kc ks hw
  show gaP p l e rm_X5_house s m args below meth c G 2 (gaZ below G (gQi Q) X args s rm_X5_house) 0 [some (.ref a0), some (gi a1)] [] h 1 6
  unfold w_X5_house at hw
  refine g_iload_n V dX5_house_0 rfl rfl ?_
  obtain ⟨hx0, hw⟩ := hw
  refine gi_if_lt V dX5_house_1 rfl rfl hx0 (fun q => ?_) (fun q => ?_)
  · have hw := ga_t q hw
    exact h_X5_house_J13 a0 a1 h 1 6 hw
  · have hw := ga_f q hw
    refine g_iload_n V dX5_house_4 rfl rfl ?_
    refine g_iconst V (Int32.ofInt 3) dX5_house_5 rfl rfl ?_
    obtain ⟨hx0, hw⟩ := hw
    refine gi_icmp_gt V dX5_house_6 rfl rfl hx0 (by decide) (fun q => ?_) (fun q => ?_)
    · have hw := ga_t q hw
      exact h_X5_house_J13 a0 a1 h 1 6 hw
    · have hw := ga_f q hw
      refine g_iconst V (Int32.ofInt 1) dX5_house_9 rfl rfl ?_
      refine g_goto V dX5_house_10 rfl ?_
      exact h_X5_house_J14 a0 a1 1 h 1 6 hw
def w_X5_isSheetSound (X : String → gaH → Prop) (a0 : Nat) (a1 : Int) (h : gaH) (Q : Int → gaH → Prop) : Prop := gHas h a0 5 ∧ gCall 1 6 3 18 (fun c3 s4 => w_X5_wordOf X a0 a1 h (fun r2 hp1 => gA hp1 a0 5 3 (fun r5 => gHas hp1 r5 4 ∧ w_X4_takeTurned r5 r2 hp1 (fun hp6 => gA hp6 a0 5 4 (fun r8 => gA hp6 a0 5 3 (fun r9 => gHas hp6 r8 4 ∧ w_X4_takeTurned r8 r9 hp6 (fun hp10 => gI hp10 r2 4 1 (fun r12 => gR r12 ∧ (if 64 < r12 then Q 0 hp10 else gHas hp10 a0 5 ∧ gCall 1 6 c3 s4 (fun c15 s16 => w_X5_count X a0 a1 0 hp10 (fun r14 hp13 => gHas hp13 a0 5 ∧ gCall 1 6 c15 s16 (fun c19 s20 => w_X5_count X a0 a1 1 hp13 (fun r18 hp17 => gI hp17 r2 4 1 (fun r21 => gR (r14 + r18) ∧ gR r21 ∧ (if (r14 + r18) = r21 then gA hp17 a0 5 4 (fun r22 => w_X1_orderOf r2 r22 hp17 (fun r24 hp23 => gR r24 ∧ (if r24 = 0 then Q 1 hp23 else Q 0 hp23))) else Q 0 hp17)))))))))))))))
abbrev rm_X5_isSheetSound : Room := { frames := 10, cells := 3, slots := 18, locals := 245 }
theorem hd_X5_isSheetSound : yX5_isSheetSound.cls = RX5 ∧ (yX5_isSheetSound.cls ≠ "java/lang/invoke/MethodHandle" ∧ yX5_isSheetSound.cls ≠ "java/lang/invoke/VarHandle" ∧ (parseMethodDescriptor yX5_isSheetSound.desc).map (fun d => d.parameters.length) = some 1) := by decide +kernel
theorem k_X5_isSheetSound {l : Launch} (hst : l.stackTraces = false) {G : gaG} {X : String → gaH → Prop} {a0 : Nat} {a1 : Int} {h : gaH} {Q : Int → gaH → Prop} (hw : w_X5_isSheetSound X a0 a1 h Q) : gaC l G yX5_isSheetSound (gaM yX5_isSheetSound cX5_isSheetSound 3 ((some .boolean))) rm_X5_isSheetSound [.ref a0, gi a1] h (gQi Q) X := by
  refine g_start (lv := [some (.ref a0), some (gi a1), none]) hpl_RX5 hst (Nat.le_of_ble_eq_true rfl) (gaArgs_pad (z := 1) rfl) ww_1_149 ?_
  intro p e s m args below meth c V hT
  show gaP p l e rm_X5_isSheetSound s m args below meth c G 3 (gaZ below G (gQi Q) X args s rm_X5_isSheetSound) 0 [some (.ref a0), some (gi a1), none] [] h 3 18
  unfold w_X5_isSheetSound at hw
  refine g_aload_n V dX5_isSheetSound_0 rfl rfl ?_
  refine g_iload_n V dX5_isSheetSound_1 rfl rfl ?_
  obtain ⟨hb, hw⟩ := hw
  obtain ⟨fb, hb⟩ := hb
  obtain ⟨hk, hj, c3, s4, ec, es, hw⟩ := hw
  refine g_callV (C := RX5) (T := TX5) (N := 9) (st := []) V (k_X5_wordOf hst hw) ww_1_150 ww_1_152 wp_1_1 ww_1_1 ww_1_153 hd_X5_wordOf ⟨by decide, by decide⟩ rfl (by decide) hb rfl rfl (ga_cat rfl) dX5_isSheetSound_2 hk hj rfl (gaX_all hT V) (ga_ka (fun r2 hp1 hw => ?_))
  refine ga_re ec es ?_
  refine g_astore_n (lv2 := [some (.ref a0), some (gi a1), some (.ref r2)]) V dX5_isSheetSound_5 (by decide) rfl rfl rfl ?_
  refine g_aload_n V dX5_isSheetSound_6 rfl rfl ?_
  obtain ⟨fs, r5, ha, hv, hw⟩ := hw
  refine g_get (C := RX5) (T := TX5) (N := 9) V 3 rfl hin_RX5 (by decide) (by decide) ww_1_113 rfl ha hv dX5_isSheetSound_7 rfl ?_
  refine g_aload_n V dX5_isSheetSound_10 rfl rfl ?_
  obtain ⟨hb, hw⟩ := hw
  obtain ⟨fb, hb⟩ := hb
  refine g_callV (C := RX4) (T := TX4) (N := 2) (st := []) V (k_X4_takeTurned hst hw) ww_1_222 ww_1_223 ww_1_224 ww_1_3 ww_1_225 hd_X4_takeTurned ⟨by decide, by decide⟩ rfl (by decide) hb rfl rfl (ga_cat rfl) dX5_isSheetSound_11 (Nat.zero_le _) (Nat.zero_le _) rfl (gaX_all hT V) (ga_kv (fun hp6 hw => ?_))
  refine g_aload_n V dX5_isSheetSound_14 rfl rfl ?_
  obtain ⟨fs, r8, ha, hv, hw⟩ := hw
  refine g_get (C := RX5) (T := TX5) (N := 9) V 4 rfl hin_RX5 (by decide) (by decide) ww_1_114 rfl ha hv dX5_isSheetSound_15 rfl ?_
  refine g_aload_n V dX5_isSheetSound_18 rfl rfl ?_
  obtain ⟨fs, r9, ha, hv, hw⟩ := hw
  refine g_get (C := RX5) (T := TX5) (N := 9) V 3 rfl hin_RX5 (by decide) (by decide) ww_1_113 rfl ha hv dX5_isSheetSound_19 rfl ?_
  obtain ⟨hb, hw⟩ := hw
  obtain ⟨fb, hb⟩ := hb
  refine g_callV (C := RX4) (T := TX4) (N := 2) (st := []) V (k_X4_takeTurned hst hw) ww_1_222 ww_1_223 ww_1_224 ww_1_3 ww_1_225 hd_X4_takeTurned ⟨by decide, by decide⟩ rfl (by decide) hb rfl rfl (ga_cat rfl) dX5_isSheetSound_22 (Nat.zero_le _) (Nat.zero_le _) rfl (gaX_all hT V) (ga_kv (fun hp10 hw => ?_))
  refine g_aload_n V dX5_isSheetSound_25 rfl rfl ?_
  obtain ⟨fs, r12, ha, hv, hw⟩ := hw
  refine g_getN (C := RX4) (T := TX4) (N := 2) (host := "Wordgarden") V 1 rfl hin_RX4 (by decide) (by decide) gn_3 rfl ha hv dX5_isSheetSound_26 rfl ?_
  refine g_bipush V (Int32.ofInt 64) dX5_isSheetSound_29 rfl rfl ?_
  obtain ⟨hx0, hw⟩ := hw
  refine gi_icmp_gt V dX5_isSheetSound_31 rfl rfl hx0 (by decide) (fun q => ?_) (fun q => ?_)
  · have hw := ga_t q hw
    refine g_iconst V (Int32.ofInt 0) dX5_isSheetSound_69 rfl rfl ?_
    exact g_iret V rfl rfl dX5_isSheetSound_70 ⟨_, rfl, hw⟩
  · have hw := ga_f q hw
    refine g_aload_n V dX5_isSheetSound_34 rfl rfl ?_
    refine g_iload_n V dX5_isSheetSound_35 rfl rfl ?_
    refine g_iconst V (Int32.ofInt 0) dX5_isSheetSound_36 rfl rfl ?_
    obtain ⟨hb, hw⟩ := hw
    obtain ⟨fb, hb⟩ := hb
    obtain ⟨hk, hj, c15, s16, ec, es, hw⟩ := hw
    refine g_callV (C := RX5) (T := TX5) (N := 9) (st := []) V (k_X5_count hst hw) ww_1_232 ww_1_233 ww_1_234 ww_1_1 ww_1_235 hd_X5_count ⟨by decide, by decide⟩ rfl (by decide) hb rfl rfl (ga_cat rfl) dX5_isSheetSound_37 hk hj rfl (gaX_all hT V) (ga_ki (fun r14 hp13 hw => ?_))
    refine ga_re ec es ?_
    refine g_aload_n V dX5_isSheetSound_40 rfl rfl ?_
    refine g_iload_n V dX5_isSheetSound_41 rfl rfl ?_
    refine g_iconst V (Int32.ofInt 1) dX5_isSheetSound_42 rfl rfl ?_
    obtain ⟨hb, hw⟩ := hw
    obtain ⟨fb, hb⟩ := hb
    obtain ⟨hk, hj, c19, s20, ec, es, hw⟩ := hw
    refine g_callV (C := RX5) (T := TX5) (N := 9) (st := [gi r14]) V (k_X5_count hst hw) ww_1_232 ww_1_233 ww_1_234 ww_1_1 ww_1_235 hd_X5_count ⟨by decide, by decide⟩ rfl (by decide) hb rfl rfl (ga_cat rfl) dX5_isSheetSound_43 hk hj rfl (gaX_all hT V) (ga_ki (fun r18 hp17 hw => ?_))
    refine ga_re ec es ?_
    refine gi_iadd V dX5_isSheetSound_46 rfl ?_
    refine g_aload_n V dX5_isSheetSound_47 rfl rfl ?_
    obtain ⟨fs, r21, ha, hv, hw⟩ := hw
    refine g_getN (C := RX4) (T := TX4) (N := 2) (host := "Wordgarden") V 1 rfl hin_RX4 (by decide) (by decide) gn_3 rfl ha hv dX5_isSheetSound_48 rfl ?_
    obtain ⟨hx0, hx1, hw⟩ := hw
    refine gi_icmp_ne V dX5_isSheetSound_51 rfl rfl hx0 hx1 (fun q => ?_) (fun q => ?_)
    · have hw := ga_f q hw
      refine g_iconst V (Int32.ofInt 0) dX5_isSheetSound_69 rfl rfl ?_
      exact g_iret V rfl rfl dX5_isSheetSound_70 ⟨_, rfl, hw⟩
    · have hw := ga_t q hw
      refine g_aload_n V dX5_isSheetSound_54 rfl rfl ?_
      refine g_aload_n V dX5_isSheetSound_55 rfl rfl ?_
      obtain ⟨fs, r22, ha, hv, hw⟩ := hw
      refine g_get (C := RX5) (T := TX5) (N := 9) V 4 rfl hin_RX5 (by decide) (by decide) ww_1_114 rfl ha hv dX5_isSheetSound_56 rfl ?_
      refine g_callS (st := []) V (k_X1_orderOf hst hw) ww_2_0 ww_2_1 ww_1_12 ww_2_2 hd_X1_orderOf ⟨by decide, by decide⟩ rfl rfl (ga_cat rfl) dX5_isSheetSound_59 (Nat.zero_le _) (Nat.zero_le _) rfl (gaX_all hT V) (ga_ki (fun r24 hp23 hw => ?_))
      obtain ⟨hx0, hw⟩ := hw
      refine gi_if_ne V dX5_isSheetSound_62 rfl rfl hx0 (fun q => ?_) (fun q => ?_)
      · have hw := ga_f q hw
        refine g_iconst V (Int32.ofInt 0) dX5_isSheetSound_69 rfl rfl ?_
        exact g_iret V rfl rfl dX5_isSheetSound_70 ⟨_, rfl, hw⟩
      · have hw := ga_t q hw
        refine g_iconst V (Int32.ofInt 1) dX5_isSheetSound_65 rfl rfl ?_
        refine g_goto V dX5_isSheetSound_66 rfl ?_
        exact g_iret V rfl rfl dX5_isSheetSound_70 ⟨_, rfl, hw⟩
def w_X5_isGrowthSound_J104 (G : gaG) (X : String → gaH → Prop) (Q : Int → gaH → Prop) (v0 : Nat) (v1 : Int) (v3 : Int) (v4 : Int) (v5 : Int) (t0 : Int) (h : gaH) (kc ks : Nat) : Prop := gR v5 ∧ (if v5 = 0 then Q 0 h else gR t0 ∧ (if t0 = 0 then Q 0 h else gHas h v0 5 ∧ gCall 1 6 kc ks (fun c3 s4 => w_X5_cross X v0 v1 h (fun r2 hp1 => gR r2 ∧ gR v3 ∧ (if r2 = v3 then gHas hp1 v0 5 ∧ gCall 1 6 c3 s4 (fun c7 s8 => w_X5_alike X v0 v1 hp1 (fun r6 hp5 => gR r6 ∧ gR v4 ∧ (if r6 = v4 then Q 1 hp5 else Q 0 hp5))) else Q 0 hp1)))))
def w_X5_isGrowthSound_J75 (G : gaG) (X : String → gaH → Prop) (Q : Int → gaH → Prop) (v0 : Nat) (v1 : Int) (v2 : Nat) (v3 : Int) (v4 : Int) (t0 : Int) (h : gaH) (kc ks : Nat) : Prop := gA h v0 5 4 (fun r1 => gHas h v2 2 ∧ w_X0_layByLine v2 r1 h (fun hp2 => gA hp2 v2 2 3 (fun r4 => gA hp2 v0 5 4 (fun r5 => w_X1_orderOf r4 r5 hp2 (fun r7 hp6 => gR r7 ∧ (if r7 = 0 then w_X5_isGrowthSound_J104 G X Q v0 v1 v3 v4 t0 1 hp6 kc ks else w_X5_isGrowthSound_J104 G X Q v0 v1 v3 v4 t0 0 hp6 kc ks))))))
def w_X5_isGrowthSound_J20 (G : gaG) (X : String → gaH → Prop) (Q : Int → gaH → Prop) (v0 : Nat) (v1 : Int) (v2 : Nat) (t0 : Int) (h : gaH) (kc ks : Nat) : Prop := gA h v2 2 3 (fun r1 => gI h r1 4 1 (fun r2 => gA h v2 2 2 (fun r3 => gI h r3 4 1 (fun r4 => gA h v0 5 4 (fun r5 => gA h v0 5 3 (fun r6 => gA h v0 5 2 (fun r7 => gHas h v2 2 ∧ w_X0_layByRules G v2 r5 r6 r7 h (fun hp8 => gA hp8 v2 2 3 (fun r10 => gA hp8 v0 5 4 (fun r11 => w_X1_orderOf r10 r11 hp8 (fun r13 hp12 => gR r13 ∧ (if r13 = 0 then w_X5_isGrowthSound_J75 G X Q v0 v1 v2 t0 ((r2 + r4) - 2) 1 hp12 kc ks else w_X5_isGrowthSound_J75 G X Q v0 v1 v2 t0 ((r2 + r4) - 2) 0 hp12 kc ks))))))))))))
def w_X5_isGrowthSound (G : gaG) (X : String → gaH → Prop) (a0 : Nat) (a1 : Int) (h : gaH) (Q : Int → gaH → Prop) : Prop := gHas h a0 5 ∧ gCall 1 6 3 18 (fun c3 s4 => w_X5_growthOf X a0 a1 h (fun r2 hp1 => gI hp1 r2 2 1 (fun r5 => gR (gRem r5 2) ∧ (if (gRem r5 2) = 0 then w_X5_isGrowthSound_J20 G X Q a0 a1 r2 1 hp1 c3 s4 else w_X5_isGrowthSound_J20 G X Q a0 a1 r2 (-1) hp1 c3 s4))))
abbrev rm_X5_isGrowthSound : Room := { frames := 10, cells := 3, slots := 18, locals := 243 }
theorem hd_X5_isGrowthSound : yX5_isGrowthSound.cls = RX5 ∧ (yX5_isGrowthSound.cls ≠ "java/lang/invoke/MethodHandle" ∧ yX5_isGrowthSound.cls ≠ "java/lang/invoke/VarHandle" ∧ (parseMethodDescriptor yX5_isGrowthSound.desc).map (fun d => d.parameters.length) = some 1) := by decide +kernel
theorem k_X5_isGrowthSound {l : Launch} (hst : l.stackTraces = false) {G : gaG} {X : String → gaH → Prop} {a0 : Nat} {a1 : Int} {h : gaH} {Q : Int → gaH → Prop} (hw : w_X5_isGrowthSound G X a0 a1 h Q) : gaC l G yX5_isGrowthSound (gaM yX5_isGrowthSound cX5_isGrowthSound 7 ((some .boolean))) rm_X5_isGrowthSound [.ref a0, gi a1] h (gQi Q) X := by
  refine g_start (lv := [some (.ref a0), some (gi a1), none, none, none, none, none]) hpl_RX5 hst (Nat.le_of_ble_eq_true rfl) (gaArgs_pad (z := 5) rfl) ww_2_12 ?_
  intro p e s m args below meth c V hT
  have h_X5_isGrowthSound_J104 : ∀ (v0 : Nat) (v1 : Int) (v3 : Int) (v4 : Int) (v5 : Int) (t0 : Int) (h : gaH) (kc ks : Nat), w_X5_isGrowthSound_J104 G X Q v0 v1 v3 v4 v5 t0 h kc ks → gaP p l e rm_X5_isGrowthSound s m args below meth c G 7 (gaZ below G (gQi Q) X args s rm_X5_isGrowthSound) 104 [some (.ref v0), some (gi v1), none, some (gi v3), some (gi v4), some (gi v5), none] [gi t0] h kc ks := by
    intro v0 v1 v3 v4 v5 t0 h kc ks hw
    unfold w_X5_isGrowthSound_J104 at hw
    refine g_istore (lv2 := [some (.ref v0), some (gi v1), none, some (gi v3), some (gi v4), some (gi v5), some (gi t0)]) V dX5_isGrowthSound_104 (by decide) rfl rfl rfl ?_
    refine g_iload V dX5_isGrowthSound_106 rfl rfl ?_
    obtain ⟨hx0, hw⟩ := hw
    refine gi_if_eq V dX5_isGrowthSound_108 rfl rfl hx0 (fun q => ?_) (fun q => ?_)
    · have hw := ga_t q hw
      refine g_iconst V (Int32.ofInt 0) dX5_isGrowthSound_139 rfl rfl ?_
      exact g_iret V rfl rfl dX5_isGrowthSound_140 ⟨_, rfl, hw⟩
    · have hw := ga_f q hw
      refine g_iload V dX5_isGrowthSound_111 rfl rfl ?_
      obtain ⟨hx0, hw⟩ := hw
      refine gi_if_eq V dX5_isGrowthSound_113 rfl rfl hx0 (fun q => ?_) (fun q => ?_)
      · have hw := ga_t q hw
        refine g_iconst V (Int32.ofInt 0) dX5_isGrowthSound_139 rfl rfl ?_
        exact g_iret V rfl rfl dX5_isGrowthSound_140 ⟨_, rfl, hw⟩
      · have hw := ga_f q hw
        refine g_aload_n V dX5_isGrowthSound_116 rfl rfl ?_
        refine g_iload_n V dX5_isGrowthSound_117 rfl rfl ?_
        obtain ⟨hb, hw⟩ := hw
        obtain ⟨fb, hb⟩ := hb
        obtain ⟨hk, hj, c3, s4, ec, es, hw⟩ := hw
        refine g_callV (C := RX5) (T := TX5) (N := 9) (st := []) V (k_X5_cross hst hw) ww_2_68 ww_2_69 ww_2_70 ww_1_1 ww_2_71 hd_X5_cross ⟨by decide, by decide⟩ rfl (by decide) hb rfl rfl (ga_cat rfl) dX5_isGrowthSound_118 hk hj rfl (gaX_all hT V) (ga_ki (fun r2 hp1 hw => ?_))
        refine ga_re ec es ?_
        refine g_iload_n V dX5_isGrowthSound_121 rfl rfl ?_
        obtain ⟨hx0, hx1, hw⟩ := hw
        refine gi_icmp_ne V dX5_isGrowthSound_122 rfl rfl hx0 hx1 (fun q => ?_) (fun q => ?_)
        · have hw := ga_f q hw
          refine g_iconst V (Int32.ofInt 0) dX5_isGrowthSound_139 rfl rfl ?_
          exact g_iret V rfl rfl dX5_isGrowthSound_140 ⟨_, rfl, hw⟩
        · have hw := ga_t q hw
          refine g_aload_n V dX5_isGrowthSound_125 rfl rfl ?_
          refine g_iload_n V dX5_isGrowthSound_126 rfl rfl ?_
          obtain ⟨hb, hw⟩ := hw
          obtain ⟨fb, hb⟩ := hb
          obtain ⟨hk, hj, c7, s8, ec, es, hw⟩ := hw
          refine g_callV (C := RX5) (T := TX5) (N := 9) (st := []) V (k_X5_alike hst hw) ww_2_72 ww_2_73 ww_2_74 ww_1_1 ww_2_75 hd_X5_alike ⟨by decide, by decide⟩ rfl (by decide) hb rfl rfl (ga_cat rfl) dX5_isGrowthSound_127 hk hj rfl (gaX_all hT V) (ga_ki (fun r6 hp5 hw => ?_))
          refine ga_re ec es ?_
          refine g_iload V dX5_isGrowthSound_130 rfl rfl ?_
          obtain ⟨hx0, hx1, hw⟩ := hw
          refine gi_icmp_ne V dX5_isGrowthSound_132 rfl rfl hx0 hx1 (fun q => ?_) (fun q => ?_)
          · have hw := ga_f q hw
            refine g_iconst V (Int32.ofInt 0) dX5_isGrowthSound_139 rfl rfl ?_
            exact g_iret V rfl rfl dX5_isGrowthSound_140 ⟨_, rfl, hw⟩
          · have hw := ga_t q hw
            refine g_iconst V (Int32.ofInt 1) dX5_isGrowthSound_135 rfl rfl ?_
            refine g_goto V dX5_isGrowthSound_136 rfl ?_
            exact g_iret V rfl rfl dX5_isGrowthSound_140 ⟨_, rfl, hw⟩
  have h_X5_isGrowthSound_J75 : ∀ (v0 : Nat) (v1 : Int) (v2 : Nat) (v3 : Int) (v4 : Int) (t0 : Int) (h : gaH) (kc ks : Nat), w_X5_isGrowthSound_J75 G X Q v0 v1 v2 v3 v4 t0 h kc ks → gaP p l e rm_X5_isGrowthSound s m args below meth c G 7 (gaZ below G (gQi Q) X args s rm_X5_isGrowthSound) 75 [some (.ref v0), some (gi v1), some (.ref v2), some (gi v3), some (gi v4), none, none] [gi t0] h kc ks := by
    intro v0 v1 v2 v3 v4 t0 h kc ks hw
    unfold w_X5_isGrowthSound_J75 at hw
    refine g_istore (lv2 := [some (.ref v0), some (gi v1), some (.ref v2), some (gi v3), some (gi v4), some (gi t0), none]) V dX5_isGrowthSound_75 (by decide) rfl rfl rfl ?_
    refine g_aload_n V dX5_isGrowthSound_77 rfl rfl ?_
    refine g_aload_n V dX5_isGrowthSound_78 rfl rfl ?_
    obtain ⟨fs, r1, ha, hv, hw⟩ := hw
    refine g_get (C := RX5) (T := TX5) (N := 9) V 4 rfl hin_RX5 (by decide) (by decide) ww_1_114 rfl ha hv dX5_isGrowthSound_79 rfl ?_
    obtain ⟨hb, hw⟩ := hw
    obtain ⟨fb, hb⟩ := hb
    refine g_callV (C := RX0) (T := TX0) (N := 4) (st := []) V (k_X0_layByLine hst hw) ww_2_57 ww_2_58 ww_2_59 ww_1_4 ww_2_60 hd_X0_layByLine ⟨by decide, by decide⟩ rfl (by decide) hb rfl rfl (ga_cat rfl) dX5_isGrowthSound_82 (Nat.zero_le _) (Nat.zero_le _) rfl (gaX_all hT V) (ga_kv (fun hp2 hw => ?_))
    refine g_aload_n V dX5_isGrowthSound_85 rfl rfl ?_
    obtain ⟨fs, r4, ha, hv, hw⟩ := hw
    refine g_getN (C := RX0) (T := TX0) (N := 4) (host := "Wordgarden") V 3 rfl hin_RX0 (by decide) (by decide) gn_11 rfl ha hv dX5_isGrowthSound_86 rfl ?_
    refine g_aload_n V dX5_isGrowthSound_89 rfl rfl ?_
    obtain ⟨fs, r5, ha, hv, hw⟩ := hw
    refine g_get (C := RX5) (T := TX5) (N := 9) V 4 rfl hin_RX5 (by decide) (by decide) ww_1_114 rfl ha hv dX5_isGrowthSound_90 rfl ?_
    refine g_callS (st := []) V (k_X1_orderOf hst hw) ww_2_0 ww_2_1 ww_1_12 ww_2_2 hd_X1_orderOf ⟨by decide, by decide⟩ rfl rfl (ga_cat rfl) dX5_isGrowthSound_93 (Nat.zero_le _) (Nat.zero_le _) rfl (gaX_all hT V) (ga_ki (fun r7 hp6 hw => ?_))
    obtain ⟨hx0, hw⟩ := hw
    refine gi_if_ne V dX5_isGrowthSound_96 rfl rfl hx0 (fun q => ?_) (fun q => ?_)
    · have hw := ga_f q hw
      refine g_iconst V (Int32.ofInt 0) dX5_isGrowthSound_103 rfl rfl ?_
      refine g_less (bs := [true, true, false, true, true, true, true]) (lv2 := [some (.ref v0), some (gi v1), none, some (gi v3), some (gi v4), some (gi t0), none]) rfl ?_
      exact h_X5_isGrowthSound_J104 v0 v1 v3 v4 t0 0 hp6 kc ks hw
    · have hw := ga_t q hw
      refine g_iconst V (Int32.ofInt 1) dX5_isGrowthSound_99 rfl rfl ?_
      refine g_goto V dX5_isGrowthSound_100 rfl ?_
      refine g_less (bs := [true, true, false, true, true, true, true]) (lv2 := [some (.ref v0), some (gi v1), none, some (gi v3), some (gi v4), some (gi t0), none]) rfl ?_
      exact h_X5_isGrowthSound_J104 v0 v1 v3 v4 t0 1 hp6 kc ks hw
  have h_X5_isGrowthSound_J20 : ∀ (v0 : Nat) (v1 : Int) (v2 : Nat) (t0 : Int) (h : gaH) (kc ks : Nat), w_X5_isGrowthSound_J20 G X Q v0 v1 v2 t0 h kc ks → gaP p l e rm_X5_isGrowthSound s m args below meth c G 7 (gaZ below G (gQi Q) X args s rm_X5_isGrowthSound) 20 [some (.ref v0), some (gi v1), some (.ref v2), none, none, none, none] [gi t0] h kc ks := by
    intro v0 v1 v2 t0 h kc ks hw
    unfold w_X5_isGrowthSound_J20 at hw
    refine g_istore_n (lv2 := [some (.ref v0), some (gi v1), some (.ref v2), some (gi t0), none, none, none]) V dX5_isGrowthSound_20 (by decide) rfl rfl rfl ?_
    refine g_aload_n V dX5_isGrowthSound_21 rfl rfl ?_
    obtain ⟨fs, r1, ha, hv, hw⟩ := hw
    refine g_getN (C := RX0) (T := TX0) (N := 4) (host := "Wordgarden") V 3 rfl hin_RX0 (by decide) (by decide) gn_11 rfl ha hv dX5_isGrowthSound_22 rfl ?_
    obtain ⟨fs, r2, ha, hv, hw⟩ := hw
    refine g_getN (C := RX4) (T := TX4) (N := 2) (host := "Wordgarden") V 1 rfl hin_RX4 (by decide) (by decide) gn_3 rfl ha hv dX5_isGrowthSound_25 rfl ?_
    refine g_aload_n V dX5_isGrowthSound_28 rfl rfl ?_
    obtain ⟨fs, r3, ha, hv, hw⟩ := hw
    refine g_getN (C := RX0) (T := TX0) (N := 4) (host := "Wordgarden") V 2 rfl hin_RX0 (by decide) (by decide) gn_10 rfl ha hv dX5_isGrowthSound_29 rfl ?_
    obtain ⟨fs, r4, ha, hv, hw⟩ := hw
    refine g_getN (C := RX4) (T := TX4) (N := 2) (host := "Wordgarden") V 1 rfl hin_RX4 (by decide) (by decide) gn_3 rfl ha hv dX5_isGrowthSound_32 rfl ?_
    refine gi_iadd V dX5_isGrowthSound_35 rfl ?_
    refine g_iconst V (Int32.ofInt 2) dX5_isGrowthSound_36 rfl rfl ?_
    refine gi_isub V dX5_isGrowthSound_37 rfl ?_
    refine g_istore (lv2 := [some (.ref v0), some (gi v1), some (.ref v2), some (gi t0), some (gi ((r2 + r4) - 2)), none, none]) V dX5_isGrowthSound_38 (by decide) rfl rfl rfl ?_
    refine g_aload_n V dX5_isGrowthSound_40 rfl rfl ?_
    refine g_aload_n V dX5_isGrowthSound_41 rfl rfl ?_
    obtain ⟨fs, r5, ha, hv, hw⟩ := hw
    refine g_get (C := RX5) (T := TX5) (N := 9) V 4 rfl hin_RX5 (by decide) (by decide) ww_1_114 rfl ha hv dX5_isGrowthSound_42 rfl ?_
    refine g_aload_n V dX5_isGrowthSound_45 rfl rfl ?_
    obtain ⟨fs, r6, ha, hv, hw⟩ := hw
    refine g_get (C := RX5) (T := TX5) (N := 9) V 3 rfl hin_RX5 (by decide) (by decide) ww_1_113 rfl ha hv dX5_isGrowthSound_46 rfl ?_
    refine g_aload_n V dX5_isGrowthSound_49 rfl rfl ?_
    obtain ⟨fs, r7, ha, hv, hw⟩ := hw
    refine g_get (C := RX5) (T := TX5) (N := 9) V 2 rfl hin_RX5 (by decide) (by decide) ww_1_112 rfl ha hv dX5_isGrowthSound_50 rfl ?_
    obtain ⟨hb, hw⟩ := hw
    obtain ⟨fb, hb⟩ := hb
    refine g_callV (C := RX0) (T := TX0) (N := 4) (st := []) V (k_X0_layByRules hst hw) ww_2_18 ww_2_19 ww_2_20 ww_1_4 ww_2_21 hd_X0_layByRules ⟨by decide, by decide⟩ rfl (by decide) hb rfl rfl (ga_cat rfl) dX5_isGrowthSound_53 (Nat.zero_le _) (Nat.zero_le _) rfl (gaX_all hT V) (ga_kv (fun hp8 hw => ?_))
    refine g_aload_n V dX5_isGrowthSound_56 rfl rfl ?_
    obtain ⟨fs, r10, ha, hv, hw⟩ := hw
    refine g_getN (C := RX0) (T := TX0) (N := 4) (host := "Wordgarden") V 3 rfl hin_RX0 (by decide) (by decide) gn_11 rfl ha hv dX5_isGrowthSound_57 rfl ?_
    refine g_aload_n V dX5_isGrowthSound_60 rfl rfl ?_
    obtain ⟨fs, r11, ha, hv, hw⟩ := hw
    refine g_get (C := RX5) (T := TX5) (N := 9) V 4 rfl hin_RX5 (by decide) (by decide) ww_1_114 rfl ha hv dX5_isGrowthSound_61 rfl ?_
    refine g_callS (st := []) V (k_X1_orderOf hst hw) ww_2_0 ww_2_1 ww_1_12 ww_2_2 hd_X1_orderOf ⟨by decide, by decide⟩ rfl rfl (ga_cat rfl) dX5_isGrowthSound_64 (Nat.zero_le _) (Nat.zero_le _) rfl (gaX_all hT V) (ga_ki (fun r13 hp12 hw => ?_))
    obtain ⟨hx0, hw⟩ := hw
    refine gi_if_ne V dX5_isGrowthSound_67 rfl rfl hx0 (fun q => ?_) (fun q => ?_)
    · have hw := ga_f q hw
      refine g_iconst V (Int32.ofInt 0) dX5_isGrowthSound_74 rfl rfl ?_
      exact h_X5_isGrowthSound_J75 v0 v1 v2 t0 ((r2 + r4) - 2) 0 hp12 kc ks hw
    · have hw := ga_t q hw
      refine g_iconst V (Int32.ofInt 1) dX5_isGrowthSound_70 rfl rfl ?_
      refine g_goto V dX5_isGrowthSound_71 rfl ?_
      exact h_X5_isGrowthSound_J75 v0 v1 v2 t0 ((r2 + r4) - 2) 1 hp12 kc ks hw
  show gaP p l e rm_X5_isGrowthSound s m args below meth c G 7 (gaZ below G (gQi Q) X args s rm_X5_isGrowthSound) 0 [some (.ref a0), some (gi a1), none, none, none, none, none] [] h 3 18
  unfold w_X5_isGrowthSound at hw
  refine g_aload_n V dX5_isGrowthSound_0 rfl rfl ?_
  refine g_iload_n V dX5_isGrowthSound_1 rfl rfl ?_
  obtain ⟨hb, hw⟩ := hw
  obtain ⟨fb, hb⟩ := hb
  obtain ⟨hk, hj, c3, s4, ec, es, hw⟩ := hw
  refine g_callV (C := RX5) (T := TX5) (N := 9) (st := []) V (k_X5_growthOf hst hw) ww_2_13 ww_2_15 wp_1_4 ww_1_1 ww_2_16 hd_X5_growthOf ⟨by decide, by decide⟩ rfl (by decide) hb rfl rfl (ga_cat rfl) dX5_isGrowthSound_2 hk hj rfl (gaX_all hT V) (ga_ka (fun r2 hp1 hw => ?_))
  refine ga_re ec es ?_
  refine g_astore_n (lv2 := [some (.ref a0), some (gi a1), some (.ref r2), none, none, none, none]) V dX5_isGrowthSound_5 (by decide) rfl rfl rfl ?_
  refine g_aload_n V dX5_isGrowthSound_6 rfl rfl ?_
  obtain ⟨fs, r5, ha, hv, hw⟩ := hw
  refine g_getN (C := RX0) (T := TX0) (N := 4) (host := "Wordgarden") V 1 rfl hin_RX0 (by decide) (by decide) gn_9 rfl ha hv dX5_isGrowthSound_7 rfl ?_
  refine g_iconst V (Int32.ofInt 2) dX5_isGrowthSound_10 rfl rfl ?_
  refine gi_irem V dX5_isGrowthSound_11 (by decide) (by decide) rfl ?_
  obtain ⟨hx0, hw⟩ := hw
  refine gi_if_ne V dX5_isGrowthSound_12 rfl rfl hx0 (fun q => ?_) (fun q => ?_)
  · have hw := ga_f q hw
    refine g_iconst V (Int32.ofInt (-1)) dX5_isGrowthSound_19 rfl rfl ?_
    exact h_X5_isGrowthSound_J20 a0 a1 r2 (-1) hp1 c3 s4 hw
  · have hw := ga_t q hw
    refine g_iconst V (Int32.ofInt 1) dX5_isGrowthSound_15 rfl rfl ?_
    refine g_goto V dX5_isGrowthSound_16 rfl ?_
    exact h_X5_isGrowthSound_J20 a0 a1 r2 1 hp1 c3 s4 hw
def w_X5_isSound_L25 (G : gaG) (X : String → gaH → Prop) (Q : Int → gaH → Prop) : Nat → (Nat → Int → gaH → Nat → Nat → Prop)
  | 0 => fun _ _ _ _ _ => False
  | n + 1 => fun v0 v1 h kc ks => gR v1 ∧ (if 2 ≤ v1 then Q 1 h else gHas h v0 5 ∧ gCall 3 18 kc ks (fun c3 s4 => w_X5_isGrowthSound G X v0 v1 h (fun r2 hp1 => gR r2 ∧ (if r2 = 0 then Q 0 hp1 else w_X5_isSound_L25 G X Q n v0 (v1 + 1) hp1 c3 s4))))
def w_X5_isSound_L2 (G : gaG) (X : String → gaH → Prop) (Q : Int → gaH → Prop) : Nat → (Nat → Int → gaH → Nat → Nat → Prop)
  | 0 => fun _ _ _ _ _ => False
  | n + 1 => fun v0 v1 h kc ks => gR v1 ∧ (if 3 ≤ v1 then ∃ z, w_X5_isSound_L25 G X Q z v0 0 h kc ks else gHas h v0 5 ∧ gCall 3 18 kc ks (fun c3 s4 => w_X5_isSheetSound X v0 v1 h (fun r2 hp1 => gR r2 ∧ (if r2 = 0 then Q 0 hp1 else w_X5_isSound_L2 G X Q n v0 (v1 + 1) hp1 c3 s4))))
def w_X5_isSound (G : gaG) (X : String → gaH → Prop) (a0 : Nat) (h : gaH) (Q : Int → gaH → Prop) : Prop := ∃ z, w_X5_isSound_L2 G X Q z a0 0 h 18 108
abbrev rm_X5_isSound : Room := { frames := 11, cells := 18, slots := 108, locals := 269 }
theorem hd_X5_isSound : yX5_isSound.cls = RX5 ∧ (yX5_isSound.cls ≠ "java/lang/invoke/MethodHandle" ∧ yX5_isSound.cls ≠ "java/lang/invoke/VarHandle" ∧ (parseMethodDescriptor yX5_isSound.desc).map (fun d => d.parameters.length) = some 0) := by decide +kernel
theorem k_X5_isSound {l : Launch} (hst : l.stackTraces = false) {G : gaG} {X : String → gaH → Prop} {a0 : Nat} {h : gaH} {Q : Int → gaH → Prop} (hw : w_X5_isSound G X a0 h Q) : gaC l G yX5_isSound (gaM yX5_isSound cX5_isSound 2 ((some .boolean))) rm_X5_isSound [.ref a0] h (gQi Q) X := by
  refine g_start (lv := [some (.ref a0), none]) hpl_RX5 hst (Nat.le_of_ble_eq_true rfl) (gaArgs_pad (z := 1) rfl) ww_1_145 ?_
  intro p e s m args below meth c V hT
  have h_X5_isSound_L25 : ∀ (n : Nat), ∀ (v0 : Nat) (v1 : Int) (h : gaH) (kc ks : Nat), w_X5_isSound_L25 G X Q n v0 v1 h kc ks → gaP p l e rm_X5_isSound s m args below meth c G 2 (gaZ below G (gQi Q) X args s rm_X5_isSound) 25 [some (.ref v0), some (gi v1)] [] h kc ks := by
    intro n
    induction n with
    | zero =>
      intro v0 v1 h kc ks hw
      exact hw.elim
    | succ n ih =>
      intro v0 v1 h kc ks hw
      unfold w_X5_isSound_L25 at hw
      refine g_iload_n V dX5_isSound_25 rfl rfl ?_
      refine g_iconst V (Int32.ofInt 2) dX5_isSound_26 rfl rfl ?_
      obtain ⟨hx0, hw⟩ := hw
      refine gi_icmp_ge V dX5_isSound_27 rfl rfl hx0 (by decide) (fun q => ?_) (fun q => ?_)
      · have hw := ga_t q hw
        refine g_iconst V (Int32.ofInt 1) dX5_isSound_46 rfl rfl ?_
        exact g_iret V rfl rfl dX5_isSound_47 ⟨_, rfl, hw⟩
      · have hw := ga_f q hw
        refine g_aload_n V dX5_isSound_30 rfl rfl ?_
        refine g_iload_n V dX5_isSound_31 rfl rfl ?_
        obtain ⟨hb, hw⟩ := hw
        obtain ⟨fb, hb⟩ := hb
        obtain ⟨hk, hj, c3, s4, ec, es, hw⟩ := hw
        refine g_callV (C := RX5) (T := TX5) (N := 9) (st := []) V (k_X5_isGrowthSound hst hw) ww_2_9 ww_2_11 wp_1_3 ww_1_1 ww_2_12 hd_X5_isGrowthSound ⟨by decide, by decide⟩ rfl (by decide) hb rfl rfl (ga_cat rfl) dX5_isSound_32 hk hj rfl (gaX_all hT V) (ga_ki (fun r2 hp1 hw => ?_))
        refine ga_re ec es ?_
        obtain ⟨hx0, hw⟩ := hw
        refine gi_if_ne V dX5_isSound_35 rfl rfl hx0 (fun q => ?_) (fun q => ?_)
        · have hw := ga_f q hw
          refine gi_iinc (lv2 := [some (.ref v0), some (gi (v1 + 1))]) V dX5_isSound_40 (by decide) rfl rfl rfl rfl ?_
          refine g_goto V dX5_isSound_43 rfl ?_
          exact ih v0 (v1 + 1) hp1 c3 s4 hw
        · have hw := ga_t q hw
          refine g_iconst V (Int32.ofInt 0) dX5_isSound_38 rfl rfl ?_
          exact g_iret V rfl rfl dX5_isSound_39 ⟨_, rfl, hw⟩
  have h_X5_isSound_L2 : ∀ (n : Nat), ∀ (v0 : Nat) (v1 : Int) (h : gaH) (kc ks : Nat), w_X5_isSound_L2 G X Q n v0 v1 h kc ks → gaP p l e rm_X5_isSound s m args below meth c G 2 (gaZ below G (gQi Q) X args s rm_X5_isSound) 2 [some (.ref v0), some (gi v1)] [] h kc ks := by
    intro n
    induction n with
    | zero =>
      intro v0 v1 h kc ks hw
      exact hw.elim
    | succ n ih =>
      intro v0 v1 h kc ks hw
      unfold w_X5_isSound_L2 at hw
      refine g_iload_n V dX5_isSound_2 rfl rfl ?_
      refine g_iconst V (Int32.ofInt 3) dX5_isSound_3 rfl rfl ?_
      obtain ⟨hx0, hw⟩ := hw
      refine gi_icmp_ge V dX5_isSound_4 rfl rfl hx0 (by decide) (fun q => ?_) (fun q => ?_)
      · have hw := ga_t q hw
        refine g_iconst V (Int32.ofInt 0) dX5_isSound_23 rfl rfl ?_
        refine g_istore_n (lv2 := [some (.ref v0), some (gi 0)]) V dX5_isSound_24 (by decide) rfl rfl rfl ?_
        obtain ⟨z, hw⟩ := hw
        exact h_X5_isSound_L25 z v0 0 h kc ks hw
      · have hw := ga_f q hw
        refine g_aload_n V dX5_isSound_7 rfl rfl ?_
        refine g_iload_n V dX5_isSound_8 rfl rfl ?_
        obtain ⟨hb, hw⟩ := hw
        obtain ⟨fb, hb⟩ := hb
        obtain ⟨hk, hj, c3, s4, ec, es, hw⟩ := hw
        refine g_callV (C := RX5) (T := TX5) (N := 9) (st := []) V (k_X5_isSheetSound hst hw) ww_1_146 ww_1_148 wp_1_0 ww_1_1 ww_1_149 hd_X5_isSheetSound ⟨by decide, by decide⟩ rfl (by decide) hb rfl rfl (ga_cat rfl) dX5_isSound_9 hk hj rfl (gaX_all hT V) (ga_ki (fun r2 hp1 hw => ?_))
        refine ga_re ec es ?_
        obtain ⟨hx0, hw⟩ := hw
        refine gi_if_ne V dX5_isSound_12 rfl rfl hx0 (fun q => ?_) (fun q => ?_)
        · have hw := ga_f q hw
          refine gi_iinc (lv2 := [some (.ref v0), some (gi (v1 + 1))]) V dX5_isSound_17 (by decide) rfl rfl rfl rfl ?_
          refine g_goto V dX5_isSound_20 rfl ?_
          exact ih v0 (v1 + 1) hp1 c3 s4 hw
        · have hw := ga_t q hw
          refine g_iconst V (Int32.ofInt 0) dX5_isSound_15 rfl rfl ?_
          exact g_iret V rfl rfl dX5_isSound_16 ⟨_, rfl, hw⟩
  show gaP p l e rm_X5_isSound s m args below meth c G 2 (gaZ below G (gQi Q) X args s rm_X5_isSound) 0 [some (.ref a0), none] [] h 18 108
  unfold w_X5_isSound at hw
  refine g_iconst V (Int32.ofInt 0) dX5_isSound_0 rfl rfl ?_
  refine g_istore_n (lv2 := [some (.ref a0), some (gi 0)]) V dX5_isSound_1 (by decide) rfl rfl rfl ?_
  obtain ⟨z, hw⟩ := hw
  exact h_X5_isSound_L2 z a0 0 h 18 108 hw
def w_X5_digest_L46 (G : gaG) (X : String → gaH → Prop) (Q : Int64 → gaH → Prop) : Nat → (Nat → Int64 → Int → gaH → Nat → Nat → Prop)
  | 0 => fun _ _ _ _ _ _ => False
  | n + 1 => fun v0 v1 v3 h kc ks => gR v3 ∧ (if 3 < v3 then gHas h v0 5 ∧ gCall 18 108 kc ks (fun c3 s4 => w_X5_isSound G X v0 h (fun r2 hp1 => w_X5_oneIf r2 hp1 (fun r6 hp5 => w_X5_digestWith v1 (gI2l r6) hp5 (fun r8 hp7 => Q r8 hp7)))) else gHas h v0 5 ∧ gCall 1 6 kc ks (fun c11 s12 => w_X5_house X v0 v3 h (fun r10 hp9 => w_X5_digestWith v1 (gI2l r10) hp9 (fun r14 hp13 => w_X5_digest_L46 G X Q n v0 r14 (v3 + 1) hp13 c11 s12))))
def w_X5_digest_L26 (G : gaG) (X : String → gaH → Prop) (Q : Int64 → gaH → Prop) : Nat → (Nat → Int64 → Int → gaH → Nat → Nat → Prop)
  | 0 => fun _ _ _ _ _ _ => False
  | n + 1 => fun v0 v1 v3 h kc ks => gR v3 ∧ (if 2 ≤ v3 then ∃ z, w_X5_digest_L46 G X Q z v0 v1 0 h kc ks else gHas h v0 5 ∧ gCall 7 42 kc ks (fun c3 s4 => w_X5_digestGrowth X v0 v1 v3 h (fun r2 hp1 => w_X5_digest_L26 G X Q n v0 r2 (v3 + 1) hp1 c3 s4)))
def w_X5_digest_L6 (G : gaG) (X : String → gaH → Prop) (Q : Int64 → gaH → Prop) : Nat → (Nat → Int64 → Int → gaH → Nat → Nat → Prop)
  | 0 => fun _ _ _ _ _ _ => False
  | n + 1 => fun v0 v1 v3 h kc ks => gR v3 ∧ (if 3 ≤ v3 then ∃ z, w_X5_digest_L26 G X Q z v0 v1 0 h kc ks else gHas h v0 5 ∧ gCall 7 42 kc ks (fun c3 s4 => w_X5_digestSheet X v0 v1 v3 h (fun r2 hp1 => w_X5_digest_L6 G X Q n v0 r2 (v3 + 1) hp1 c3 s4)))
def w_X5_digest (G : gaG) (X : String → gaH → Prop) (a0 : Nat) (h : gaH) (Q : Int64 → gaH → Prop) : Prop := ∃ z, w_X5_digest_L6 G X Q z a0 (7979 : Int64) 0 h 78 468
abbrev rm_X5_digest : Room := { frames := 12, cells := 78, slots := 468, locals := 290 }
theorem hd_X5_digest : yX5_digest.cls = RX5 ∧ (yX5_digest.cls ≠ "java/lang/invoke/MethodHandle" ∧ yX5_digest.cls ≠ "java/lang/invoke/VarHandle" ∧ (parseMethodDescriptor yX5_digest.desc).map (fun d => d.parameters.length) = some 0) := by decide +kernel
theorem k_X5_digest {l : Launch} (hst : l.stackTraces = false) {G : gaG} {X : String → gaH → Prop} {a0 : Nat} {h : gaH} {Q : Int64 → gaH → Prop} (hw : w_X5_digest G X a0 h Q) : gaC l G yX5_digest (gaM yX5_digest cX5_digest 4 ((some .long))) rm_X5_digest [.ref a0] h (gQl Q) X := by
  refine g_start (lv := [some (.ref a0), none, none, none]) hpl_RX5 hst (Nat.le_of_ble_eq_true rfl) (gaArgs_pad (z := 3) rfl) ww_2_85 ?_
  intro p e s m args below meth c V hT
  have h_X5_digest_L46 : ∀ (n : Nat), ∀ (v0 : Nat) (v1 : Int64) (v3 : Int) (h : gaH) (kc ks : Nat), w_X5_digest_L46 G X Q n v0 v1 v3 h kc ks → gaP p l e rm_X5_digest s m args below meth c G 4 (gaZ below G (gQl Q) X args s rm_X5_digest) 46 [some (.ref v0), some (.long v1), none, some (gi v3)] [] h kc ks := by
    intro n
    induction n with
    | zero =>
      intro v0 v1 v3 h kc ks hw
      exact hw.elim
    | succ n ih =>
      intro v0 v1 v3 h kc ks hw
      unfold w_X5_digest_L46 at hw
      refine g_iload_n V dX5_digest_46 rfl rfl ?_
      refine g_iconst V (Int32.ofInt 3) dX5_digest_47 rfl rfl ?_
      obtain ⟨hx0, hw⟩ := hw
      refine gi_icmp_gt V dX5_digest_48 rfl rfl hx0 (by decide) (fun q => ?_) (fun q => ?_)
      · have hw := ga_t q hw
        refine g_lload_n V dX5_digest_68 rfl rfl ?_
        refine g_aload_n V dX5_digest_69 rfl rfl ?_
        obtain ⟨hb, hw⟩ := hw
        obtain ⟨fb, hb⟩ := hb
        obtain ⟨hk, hj, c3, s4, ec, es, hw⟩ := hw
        refine g_callV (C := RX5) (T := TX5) (N := 9) (st := [.long v1]) V (k_X5_isSound hst hw) ww_2_191 ww_1_143 ww_1_144 ww_1_1 ww_1_145 hd_X5_isSound ⟨by decide, by decide⟩ rfl (by decide) hb rfl rfl (ga_cat rfl) dX5_digest_70 hk hj rfl (gaX_all hT V) (ga_ki (fun r2 hp1 hw => ?_))
        refine ga_re ec es ?_
        refine g_callS (st := [.long v1]) V (k_X5_oneIf hst hw) ww_2_104 ww_2_105 ww_1_1 ww_2_106 hd_X5_oneIf ⟨by decide, by decide⟩ rfl rfl (ga_cat rfl) dX5_digest_73 (Nat.zero_le _) (Nat.zero_le _) rfl (gaX_all hT V) (ga_ki (fun r6 hp5 hw => ?_))
        refine gi_i2l V dX5_digest_76 rfl ?_
        refine g_callS (st := []) V (k_X5_digestWith hst hw) ww_2_91 ww_2_92 ww_1_1 ww_2_93 hd_X5_digestWith ⟨by decide, by decide⟩ rfl rfl (ga_cat rfl) dX5_digest_77 (Nat.zero_le _) (Nat.zero_le _) rfl (gaX_all hT V) (ga_kl (fun r8 hp7 hw => ?_))
        exact g_lret V rfl dX5_digest_80 ⟨_, rfl, hw⟩
      · have hw := ga_f q hw
        refine g_lload_n V dX5_digest_51 rfl rfl ?_
        refine g_aload_n V dX5_digest_52 rfl rfl ?_
        refine g_iload_n V dX5_digest_53 rfl rfl ?_
        obtain ⟨hb, hw⟩ := hw
        obtain ⟨fb, hb⟩ := hb
        obtain ⟨hk, hj, c11, s12, ec, es, hw⟩ := hw
        refine g_callV (C := RX5) (T := TX5) (N := 9) (st := [.long v1]) V (k_X5_house hst hw) ww_2_168 ww_2_169 ww_2_170 ww_1_1 ww_2_171 hd_X5_house ⟨by decide, by decide⟩ rfl (by decide) hb rfl rfl (ga_cat rfl) dX5_digest_54 hk hj rfl (gaX_all hT V) (ga_ki (fun r10 hp9 hw => ?_))
        refine ga_re ec es ?_
        refine gi_i2l V dX5_digest_57 rfl ?_
        refine g_callS (st := []) V (k_X5_digestWith hst hw) ww_2_91 ww_2_92 ww_1_1 ww_2_93 hd_X5_digestWith ⟨by decide, by decide⟩ rfl rfl (ga_cat rfl) dX5_digest_58 (Nat.zero_le _) (Nat.zero_le _) rfl (gaX_all hT V) (ga_kl (fun r14 hp13 hw => ?_))
        refine g_lstore_n (lv2 := [some (.ref v0), some (.long r14), none, some (gi v3)]) V dX5_digest_61 (by decide) rfl rfl rfl ?_
        refine gi_iinc (lv2 := [some (.ref v0), some (.long r14), none, some (gi (v3 + 1))]) V dX5_digest_62 (by decide) rfl rfl rfl rfl ?_
        refine g_goto V dX5_digest_65 rfl ?_
        exact ih v0 r14 (v3 + 1) hp13 c11 s12 hw
  have h_X5_digest_L26 : ∀ (n : Nat), ∀ (v0 : Nat) (v1 : Int64) (v3 : Int) (h : gaH) (kc ks : Nat), w_X5_digest_L26 G X Q n v0 v1 v3 h kc ks → gaP p l e rm_X5_digest s m args below meth c G 4 (gaZ below G (gQl Q) X args s rm_X5_digest) 26 [some (.ref v0), some (.long v1), none, some (gi v3)] [] h kc ks := by
    intro n
    induction n with
    | zero =>
      intro v0 v1 v3 h kc ks hw
      exact hw.elim
    | succ n ih =>
      intro v0 v1 v3 h kc ks hw
      unfold w_X5_digest_L26 at hw
      refine g_iload_n V dX5_digest_26 rfl rfl ?_
      refine g_iconst V (Int32.ofInt 2) dX5_digest_27 rfl rfl ?_
      obtain ⟨hx0, hw⟩ := hw
      refine gi_icmp_ge V dX5_digest_28 rfl rfl hx0 (by decide) (fun q => ?_) (fun q => ?_)
      · have hw := ga_t q hw
        refine g_iconst V (Int32.ofInt 0) dX5_digest_44 rfl rfl ?_
        refine g_istore_n (lv2 := [some (.ref v0), some (.long v1), none, some (gi 0)]) V dX5_digest_45 (by decide) rfl rfl rfl ?_
        obtain ⟨z, hw⟩ := hw
        exact h_X5_digest_L46 z v0 v1 0 h kc ks hw
      · have hw := ga_f q hw
        refine g_aload_n V dX5_digest_31 rfl rfl ?_
        refine g_lload_n V dX5_digest_32 rfl rfl ?_
        refine g_iload_n V dX5_digest_33 rfl rfl ?_
        obtain ⟨hb, hw⟩ := hw
        obtain ⟨fb, hb⟩ := hb
        obtain ⟨hk, hj, c3, s4, ec, es, hw⟩ := hw
        refine g_callV (C := RX5) (T := TX5) (N := 9) (st := []) V (k_X5_digestGrowth hst hw) ww_2_151 ww_2_153 wp_1_7 ww_1_1 ww_2_154 hd_X5_digestGrowth ⟨by decide, by decide⟩ rfl (by decide) hb rfl rfl (ga_cat rfl) dX5_digest_34 hk hj rfl (gaX_all hT V) (ga_kl (fun r2 hp1 hw => ?_))
        refine ga_re ec es ?_
        refine g_lstore_n (lv2 := [some (.ref v0), some (.long r2), none, some (gi v3)]) V dX5_digest_37 (by decide) rfl rfl rfl ?_
        refine gi_iinc (lv2 := [some (.ref v0), some (.long r2), none, some (gi (v3 + 1))]) V dX5_digest_38 (by decide) rfl rfl rfl rfl ?_
        refine g_goto V dX5_digest_41 rfl ?_
        exact ih v0 r2 (v3 + 1) hp1 c3 s4 hw
  have h_X5_digest_L6 : ∀ (n : Nat), ∀ (v0 : Nat) (v1 : Int64) (v3 : Int) (h : gaH) (kc ks : Nat), w_X5_digest_L6 G X Q n v0 v1 v3 h kc ks → gaP p l e rm_X5_digest s m args below meth c G 4 (gaZ below G (gQl Q) X args s rm_X5_digest) 6 [some (.ref v0), some (.long v1), none, some (gi v3)] [] h kc ks := by
    intro n
    induction n with
    | zero =>
      intro v0 v1 v3 h kc ks hw
      exact hw.elim
    | succ n ih =>
      intro v0 v1 v3 h kc ks hw
      unfold w_X5_digest_L6 at hw
      refine g_iload_n V dX5_digest_6 rfl rfl ?_
      refine g_iconst V (Int32.ofInt 3) dX5_digest_7 rfl rfl ?_
      obtain ⟨hx0, hw⟩ := hw
      refine gi_icmp_ge V dX5_digest_8 rfl rfl hx0 (by decide) (fun q => ?_) (fun q => ?_)
      · have hw := ga_t q hw
        refine g_iconst V (Int32.ofInt 0) dX5_digest_24 rfl rfl ?_
        refine g_istore_n (lv2 := [some (.ref v0), some (.long v1), none, some (gi 0)]) V dX5_digest_25 (by decide) rfl rfl rfl ?_
        obtain ⟨z, hw⟩ := hw
        exact h_X5_digest_L26 z v0 v1 0 h kc ks hw
      · have hw := ga_f q hw
        refine g_aload_n V dX5_digest_11 rfl rfl ?_
        refine g_lload_n V dX5_digest_12 rfl rfl ?_
        refine g_iload_n V dX5_digest_13 rfl rfl ?_
        obtain ⟨hb, hw⟩ := hw
        obtain ⟨fb, hb⟩ := hb
        obtain ⟨hk, hj, c3, s4, ec, es, hw⟩ := hw
        refine g_callV (C := RX5) (T := TX5) (N := 9) (st := []) V (k_X5_digestSheet hst hw) ww_2_87 ww_2_89 wp_1_6 ww_1_1 ww_2_90 hd_X5_digestSheet ⟨by decide, by decide⟩ rfl (by decide) hb rfl rfl (ga_cat rfl) dX5_digest_14 hk hj rfl (gaX_all hT V) (ga_kl (fun r2 hp1 hw => ?_))
        refine ga_re ec es ?_
        refine g_lstore_n (lv2 := [some (.ref v0), some (.long r2), none, some (gi v3)]) V dX5_digest_17 (by decide) rfl rfl rfl ?_
        refine gi_iinc (lv2 := [some (.ref v0), some (.long r2), none, some (gi (v3 + 1))]) V dX5_digest_18 (by decide) rfl rfl rfl rfl ?_
        refine g_goto V dX5_digest_21 rfl ?_
        exact ih v0 r2 (v3 + 1) hp1 c3 s4 hw
  show gaP p l e rm_X5_digest s m args below meth c G 4 (gaZ below G (gQl Q) X args s rm_X5_digest) 0 [some (.ref a0), none, none, none] [] h 78 468
  unfold w_X5_digest at hw
  refine g_ldc2 V (7979 : Int64) dX5_digest_0 ww_2_86 rfl ?_
  refine g_lstore_n (lv2 := [some (.ref a0), some (.long (7979 : Int64)), none, none]) V dX5_digest_3 (by decide) rfl rfl rfl ?_
  refine g_iconst V (Int32.ofInt 0) dX5_digest_4 rfl rfl ?_
  refine g_istore_n (lv2 := [some (.ref a0), some (.long (7979 : Int64)), none, some (gi 0)]) V dX5_digest_5 (by decide) rfl rfl rfl ?_
  obtain ⟨z, hw⟩ := hw
  exact h_X5_digest_L6 z a0 (7979 : Int64) 0 h 78 468 hw
def w_X5_exchange_J31 (X : String → gaH → Prop) (Q : Int → gaH → Prop) (K8 : Nat → Nat → Int → gaH → Nat → Nat → Prop) (v0 : Nat) (v2 : Nat) (v3 : Int) (t0 : Nat) (t1 : Int) (t2 : Int) (h : gaH) (kc ks : Nat) : Prop := gHas h t0 4 ∧ w_X4_put t0 t1 t2 h (fun hp1 => K8 v0 v2 (v3 + 1) hp1 kc ks)
def w_X5_exchange_L8 (X : String → gaH → Prop) (Q : Int → gaH → Prop) : Nat → (Nat → Nat → Int → gaH → Nat → Nat → Prop)
  | 0 => fun _ _ _ _ _ _ => False
  | n + 1 => fun v0 v2 v3 h kc ks => gI h v2 4 1 (fun r1 => gR v3 ∧ gR r1 ∧ (if r1 ≤ v3 then w_X1_upsOf v2 h (fun r3 hp2 => gHas hp2 v0 5 ∧ w_X5_sheetActDone v0 r3 hp2 (fun r5 hp4 => Q r5 hp4)) else gHas h v2 4 ∧ w_X4_isUp v2 v3 h (fun r7 hp6 => gR r7 ∧ (if r7 = 0 then w_X5_exchange_J31 X Q (w_X5_exchange_L8 X Q n) v0 v2 v3 v2 v3 1 hp6 kc ks else w_X5_exchange_J31 X Q (w_X5_exchange_L8 X Q n) v0 v2 v3 v2 v3 0 hp6 kc ks))))
def w_X5_exchange (X : String → gaH → Prop) (a0 : Nat) (a1 : Int) (h : gaH) (Q : Int → gaH → Prop) : Prop := gHas h a0 5 ∧ gCall 1 6 1 6 (fun c3 s4 => w_X5_wordOf X a0 a1 h (fun r2 hp1 => ∃ z, w_X5_exchange_L8 X Q z a0 r2 0 hp1 c3 s4))
abbrev rm_X5_exchange : Room := { frames := 9, cells := 1, slots := 6, locals := 221 }
theorem hd_X5_exchange : yX5_exchange.cls = RX5 ∧ (yX5_exchange.cls ≠ "java/lang/invoke/MethodHandle" ∧ yX5_exchange.cls ≠ "java/lang/invoke/VarHandle" ∧ (parseMethodDescriptor yX5_exchange.desc).map (fun d => d.parameters.length) = some 1) := by decide +kernel
theorem k_X5_exchange {l : Launch} (hst : l.stackTraces = false) {G : gaG} {X : String → gaH → Prop} {a0 : Nat} {a1 : Int} {h : gaH} {Q : Int → gaH → Prop} (hw : w_X5_exchange X a0 a1 h Q) : gaC l G yX5_exchange (gaM yX5_exchange cX5_exchange 4 ((some .int))) rm_X5_exchange [.ref a0, gi a1] h (gQi Q) X := by
  refine g_start (lv := [some (.ref a0), some (gi a1), none, none]) hpl_RX5 hst (Nat.le_of_ble_eq_true rfl) (gaArgs_pad (z := 2) rfl) ww_3_78 ?_
  intro p e s m args below meth c V hT
  have h_X5_exchange_J31 : ∀ (K8 : Nat → Nat → Int → gaH → Nat → Nat → Prop), ∀ (hK8 : ∀ (v0 : Nat) (v2 : Nat) (v3 : Int) (h : gaH) (kc ks : Nat), K8 v0 v2 v3 h kc ks → gaP p l e rm_X5_exchange s m args below meth c G 4 (gaZ below G (gQi Q) X args s rm_X5_exchange) 8 [some (.ref v0), none, some (.ref v2), some (gi v3)] [] h kc ks), ∀ (v0 : Nat) (v2 : Nat) (v3 : Int) (t0 : Nat) (t1 : Int) (t2 : Int) (h : gaH) (kc ks : Nat), w_X5_exchange_J31 X Q K8 v0 v2 v3 t0 t1 t2 h kc ks → gaP p l e rm_X5_exchange s m args below meth c G 4 (gaZ below G (gQi Q) X args s rm_X5_exchange) 31 [some (.ref v0), none, some (.ref v2), some (gi v3)] [gi t2, gi t1, .ref t0] h kc ks := by
    intro K8 hK8
    intro v0 v2 v3 t0 t1 t2 h kc ks hw
    unfold w_X5_exchange_J31 at hw
    obtain ⟨hb, hw⟩ := hw
    obtain ⟨fb, hb⟩ := hb
    refine g_callV (C := RX4) (T := TX4) (N := 2) (st := []) V (k_X4_put hst hw) ww_3_24 ww_2_54 ww_2_55 ww_1_3 ww_2_56 hd_X4_put ⟨by decide, by decide⟩ rfl (by decide) hb rfl rfl (ga_cat rfl) dX5_exchange_31 (Nat.zero_le _) (Nat.zero_le _) rfl (gaX_all hT V) (ga_kv (fun hp1 hw => ?_))
    refine gi_iinc (lv2 := [some (.ref v0), none, some (.ref v2), some (gi (v3 + 1))]) V dX5_exchange_34 (by decide) rfl rfl rfl rfl ?_
    refine g_goto V dX5_exchange_37 rfl ?_
    exact hK8 v0 v2 (v3 + 1) hp1 kc ks hw
  have h_X5_exchange_L8 : ∀ (n : Nat), ∀ (v0 : Nat) (v2 : Nat) (v3 : Int) (h : gaH) (kc ks : Nat), w_X5_exchange_L8 X Q n v0 v2 v3 h kc ks → gaP p l e rm_X5_exchange s m args below meth c G 4 (gaZ below G (gQi Q) X args s rm_X5_exchange) 8 [some (.ref v0), none, some (.ref v2), some (gi v3)] [] h kc ks := by
    intro n
    induction n with
    | zero =>
      intro v0 v2 v3 h kc ks hw
      exact hw.elim
    | succ n ih =>
      intro v0 v2 v3 h kc ks hw
      unfold w_X5_exchange_L8 at hw
      refine g_iload_n V dX5_exchange_8 rfl rfl ?_
      refine g_aload_n V dX5_exchange_9 rfl rfl ?_
      obtain ⟨fs, r1, ha, hv, hw⟩ := hw
      refine g_getN (C := RX4) (T := TX4) (N := 2) (host := "Wordgarden") V 1 rfl hin_RX4 (by decide) (by decide) gn_3 rfl ha hv dX5_exchange_10 rfl ?_
      obtain ⟨hx0, hx1, hw⟩ := hw
      refine gi_icmp_ge V dX5_exchange_13 rfl rfl hx0 hx1 (fun q => ?_) (fun q => ?_)
      · have hw := ga_t q hw
        refine g_aload_n V dX5_exchange_40 rfl rfl ?_
        refine g_aload_n V dX5_exchange_41 rfl rfl ?_
        refine g_callS (st := [.ref v0]) V (k_X1_upsOf hst hw) ww_1_236 ww_1_237 ww_1_12 ww_1_238 hd_X1_upsOf ⟨by decide, by decide⟩ rfl rfl (ga_cat rfl) dX5_exchange_42 (Nat.zero_le _) (Nat.zero_le _) rfl (gaX_all hT V) (ga_ki (fun r3 hp2 hw => ?_))
        obtain ⟨hb, hw⟩ := hw
        obtain ⟨fb, hb⟩ := hb
        refine g_callV (C := RX5) (T := TX5) (N := 9) (st := []) V (k_X5_sheetActDone hst hw) ww_2_216 ww_2_218 wp_1_8 ww_1_1 ww_2_219 hd_X5_sheetActDone ⟨by decide, by decide⟩ rfl (by decide) hb rfl rfl (ga_cat rfl) dX5_exchange_45 (Nat.zero_le _) (Nat.zero_le _) rfl (gaX_all hT V) (ga_ki (fun r5 hp4 hw => ?_))
        exact g_iret V rfl rfl dX5_exchange_48 ⟨_, rfl, hw⟩
      · have hw := ga_f q hw
        refine g_aload_n V dX5_exchange_16 rfl rfl ?_
        refine g_iload_n V dX5_exchange_17 rfl rfl ?_
        refine g_aload_n V dX5_exchange_18 rfl rfl ?_
        refine g_iload_n V dX5_exchange_19 rfl rfl ?_
        obtain ⟨hb, hw⟩ := hw
        obtain ⟨fb, hb⟩ := hb
        refine g_callV (C := RX4) (T := TX4) (N := 2) (st := [gi v3, .ref v2]) V (k_X4_isUp hst hw) ww_2_95 ww_1_228 ww_1_229 ww_1_3 ww_1_230 hd_X4_isUp ⟨by decide, by decide⟩ rfl (by decide) hb rfl rfl (ga_cat rfl) dX5_exchange_20 (Nat.zero_le _) (Nat.zero_le _) rfl (gaX_all hT V) (ga_ki (fun r7 hp6 hw => ?_))
        obtain ⟨hx0, hw⟩ := hw
        refine gi_if_ne V dX5_exchange_23 rfl rfl hx0 (fun q => ?_) (fun q => ?_)
        · have hw := ga_f q hw
          refine g_iconst V (Int32.ofInt 0) dX5_exchange_30 rfl rfl ?_
          exact h_X5_exchange_J31 (w_X5_exchange_L8 X Q n) ih v0 v2 v3 v2 v3 0 hp6 kc ks hw
        · have hw := ga_t q hw
          refine g_iconst V (Int32.ofInt 1) dX5_exchange_26 rfl rfl ?_
          refine g_goto V dX5_exchange_27 rfl ?_
          exact h_X5_exchange_J31 (w_X5_exchange_L8 X Q n) ih v0 v2 v3 v2 v3 1 hp6 kc ks hw
  show gaP p l e rm_X5_exchange s m args below meth c G 4 (gaZ below G (gQi Q) X args s rm_X5_exchange) 0 [some (.ref a0), some (gi a1), none, none] [] h 1 6
  unfold w_X5_exchange at hw
  refine g_aload_n V dX5_exchange_0 rfl rfl ?_
  refine g_iload_n V dX5_exchange_1 rfl rfl ?_
  obtain ⟨hb, hw⟩ := hw
  obtain ⟨fb, hb⟩ := hb
  obtain ⟨hk, hj, c3, s4, ec, es, hw⟩ := hw
  refine g_callV (C := RX5) (T := TX5) (N := 9) (st := []) V (k_X5_wordOf hst hw) ww_1_150 ww_1_152 wp_1_1 ww_1_1 ww_1_153 hd_X5_wordOf ⟨by decide, by decide⟩ rfl (by decide) hb rfl rfl (ga_cat rfl) dX5_exchange_2 hk hj rfl (gaX_all hT V) (ga_ka (fun r2 hp1 hw => ?_))
  refine ga_re ec es ?_
  refine g_astore_n (lv2 := [some (.ref a0), some (gi a1), some (.ref r2), none]) V dX5_exchange_5 (by decide) rfl rfl rfl ?_
  refine g_iconst V (Int32.ofInt 0) dX5_exchange_6 rfl rfl ?_
  refine g_istore_n (lv2 := [some (.ref a0), some (gi a1), some (.ref r2), some (gi 0)]) V dX5_exchange_7 (by decide) rfl rfl rfl ?_
  refine g_less (bs := [true, false, true, true]) (lv2 := [some (.ref a0), none, some (.ref r2), some (gi 0)]) rfl ?_
  obtain ⟨z, hw⟩ := hw
  exact h_X5_exchange_L8 z a0 r2 0 hp1 c3 s4 hw
def w_X5_needIndex (X : String → gaH → Prop) (a0 : Int) (h : gaH) (Q : gaH → Prop) : Prop := gR a0 ∧ (if a0 = 0 then 1 ≤ 1 ∧ 6 ≤ 6 ∧ X "java/lang/IndexOutOfBoundsException" h else Q h)
abbrev rm_X5_needIndex : Room := { frames := 8, cells := 1, slots := 6, locals := 200 }
theorem hd_X5_needIndex : (yX5_needIndex.cls ≠ "java/lang/invoke/MethodHandle" ∧ yX5_needIndex.cls ≠ "java/lang/invoke/VarHandle" ∧ (parseMethodDescriptor yX5_needIndex.desc).map (fun d => d.parameters.length) = some 1) := by decide +kernel
theorem k_X5_needIndex {l : Launch} (hst : l.stackTraces = false) {G : gaG} {X : String → gaH → Prop} {a0 : Int} {h : gaH} {Q : gaH → Prop} (hw : w_X5_needIndex X a0 h Q) : gaC l G yX5_needIndex (gaM yX5_needIndex cX5_needIndex 1 ((none : Option Jvm.ClassFile.FieldType))) rm_X5_needIndex [gi a0] h (gQv Q) X := by
  refine g_start (lv := [some (gi a0)]) hpl_RX5 hst (Nat.le_of_ble_eq_true rfl) (gaArgs_pad (z := 0) rfl) ww_3_7 ?_
  intro p e s m args below meth c V hT
  show gaP p l e rm_X5_needIndex s m args below meth c G 1 (gaZ below G (gQv Q) X args s rm_X5_needIndex) 0 [some (gi a0)] [] h 1 6
  unfold w_X5_needIndex at hw
  refine g_iload_n V dX5_needIndex_0 rfl rfl ?_
  obtain ⟨hx0, hw⟩ := hw
  refine gi_if_ne V dX5_needIndex_1 rfl rfl hx0 (fun q => ?_) (fun q => ?_)
  · have hw := ga_f q hw
    exact g_vret V rfl dX5_needIndex_15 ⟨rfl, hw⟩
  · have hw := ga_t q hw
    exact g_throw (names := gxNames) hT V hfit_O hfit_N ww_1_154 ww_1_10 gs_3 hat1_O hat2_O hgood_O dX5_needIndex_4 dX5_needIndex_7 dX5_needIndex_8 dX5_needIndex_11 dX5_needIndex_14 (by decide) (Nat.le_of_ble_eq_true rfl) hw.1 hw.2.1 hw.2.2
def w_X5_find_L38 (X : String → gaH → Prop) (Q : Int → gaH → Prop) : Nat → (Nat → Nat → Int → gaH → Nat → Nat → Prop)
  | 0 => fun _ _ _ _ _ _ => False
  | n + 1 => fun v4 v5 v6 h kc ks => gI h v4 4 1 (fun r1 => gR v6 ∧ gR r1 ∧ (if r1 < v6 then Q (-1) h else w_X1_standsAt v4 v6 v5 h (fun r3 hp2 => gR r3 ∧ (if r3 = 0 then w_X5_find_L38 X Q n v4 v5 (v6 + 1) hp2 kc ks else Q v6 hp2))))
def w_X5_find_J32 (X : String → gaH → Prop) (Q : Int → gaH → Prop) (v3 : Int) (v4 : Nat) (v5 : Nat) (t0 : Int) (h : gaH) (kc ks : Nat) : Prop := gCall 1 6 kc ks (fun c3 s4 => w_X5_needIndex X t0 h (fun hp1 => ∃ z, w_X5_find_L38 X Q z v4 v5 v3 hp1 c3 s4))
def w_X5_find_J31 (X : String → gaH → Prop) (Q : Int → gaH → Prop) (v3 : Int) (v4 : Nat) (v5 : Nat) (h : gaH) (kc ks : Nat) : Prop := w_X5_find_J32 X Q v3 v4 v5 0 h kc ks
def w_X5_find (X : String → gaH → Prop) (a0 : Nat) (a1 : Int) (a2 : Int) (a3 : Int) (h : gaH) (Q : Int → gaH → Prop) : Prop := gHas h a0 5 ∧ gCall 1 6 3 18 (fun c3 s4 => w_X5_wordOf X a0 a1 h (fun r2 hp1 => gHas hp1 a0 5 ∧ gCall 1 6 c3 s4 (fun c7 s8 => w_X5_wordOf X a0 a2 hp1 (fun r6 hp5 => gR a3 ∧ (if a3 < 0 then w_X5_find_J31 X Q a3 r2 r6 hp5 c7 s8 else gI hp5 r2 4 1 (fun r9 => gR a3 ∧ gR r9 ∧ (if r9 < a3 then w_X5_find_J31 X Q a3 r2 r6 hp5 c7 s8 else w_X5_find_J32 X Q a3 r2 r6 1 hp5 c7 s8)))))))
abbrev rm_X5_find : Room := { frames := 9, cells := 3, slots := 18, locals := 221 }
theorem hd_X5_find : yX5_find.cls = RX5 ∧ (yX5_find.cls ≠ "java/lang/invoke/MethodHandle" ∧ yX5_find.cls ≠ "java/lang/invoke/VarHandle" ∧ (parseMethodDescriptor yX5_find.desc).map (fun d => d.parameters.length) = some 3) := by decide +kernel
theorem k_X5_find {l : Launch} (hst : l.stackTraces = false) {G : gaG} {X : String → gaH → Prop} {a0 : Nat} {a1 : Int} {a2 : Int} {a3 : Int} {h : gaH} {Q : Int → gaH → Prop} (hw : w_X5_find X a0 a1 a2 a3 h Q) : gaC l G yX5_find (gaM yX5_find cX5_find 7 ((some .int))) rm_X5_find [.ref a0, gi a1, gi a2, gi a3] h (gQi Q) X := by
  refine g_start (lv := [some (.ref a0), some (gi a1), some (gi a2), some (gi a3), none, none, none]) hpl_RX5 hst (Nat.le_of_ble_eq_true rfl) (gaArgs_pad (z := 3) rfl) ww_5_55 ?_
  intro p e s m args below meth c V hT
  have h_X5_find_L38 : ∀ (n : Nat), ∀ (v4 : Nat) (v5 : Nat) (v6 : Int) (h : gaH) (kc ks : Nat), w_X5_find_L38 X Q n v4 v5 v6 h kc ks → gaP p l e rm_X5_find s m args below meth c G 7 (gaZ below G (gQi Q) X args s rm_X5_find) 38 [none, none, none, none, some (.ref v4), some (.ref v5), some (gi v6)] [] h kc ks := by
    intro n
    induction n with
    | zero =>
      intro v4 v5 v6 h kc ks hw
      exact hw.elim
    | succ n ih =>
      intro v4 v5 v6 h kc ks hw
      unfold w_X5_find_L38 at hw
      refine g_iload V dX5_find_38 rfl rfl ?_
      refine g_aload V dX5_find_40 rfl rfl ?_
      obtain ⟨fs, r1, ha, hv, hw⟩ := hw
      refine g_getN (C := RX4) (T := TX4) (N := 2) (host := "Wordgarden") V 1 rfl hin_RX4 (by decide) (by decide) gn_3 rfl ha hv dX5_find_42 rfl ?_
      obtain ⟨hx0, hx1, hw⟩ := hw
      refine gi_icmp_gt V dX5_find_45 rfl rfl hx0 hx1 (fun q => ?_) (fun q => ?_)
      · have hw := ga_t q hw
        refine g_iconst V (Int32.ofInt (-1)) dX5_find_69 rfl rfl ?_
        exact g_iret V rfl rfl dX5_find_70 ⟨_, rfl, hw⟩
      · have hw := ga_f q hw
        refine g_aload V dX5_find_48 rfl rfl ?_
        refine g_iload V dX5_find_50 rfl rfl ?_
        refine g_aload V dX5_find_52 rfl rfl ?_
        refine g_callS (st := []) V (k_X1_standsAt hst hw) ww_5_56 ww_3_156 ww_1_12 ww_3_157 hd_X1_standsAt ⟨by decide, by decide⟩ rfl rfl (ga_cat rfl) dX5_find_54 (Nat.zero_le _) (Nat.zero_le _) rfl (gaX_all hT V) (ga_ki (fun r3 hp2 hw => ?_))
        obtain ⟨hx0, hw⟩ := hw
        refine gi_if_eq V dX5_find_57 rfl rfl hx0 (fun q => ?_) (fun q => ?_)
        · have hw := ga_t q hw
          refine gi_iinc (lv2 := [none, none, none, none, some (.ref v4), some (.ref v5), some (gi (v6 + 1))]) V dX5_find_63 (by decide) rfl rfl rfl rfl ?_
          refine g_goto V dX5_find_66 rfl ?_
          exact ih v4 v5 (v6 + 1) hp2 kc ks hw
        · have hw := ga_f q hw
          refine g_iload V dX5_find_60 rfl rfl ?_
          exact g_iret V rfl rfl dX5_find_62 ⟨_, rfl, hw⟩
  have h_X5_find_J32 : ∀ (v3 : Int) (v4 : Nat) (v5 : Nat) (t0 : Int) (h : gaH) (kc ks : Nat), w_X5_find_J32 X Q v3 v4 v5 t0 h kc ks → gaP p l e rm_X5_find s m args below meth c G 7 (gaZ below G (gQi Q) X args s rm_X5_find) 32 [none, none, none, some (gi v3), some (.ref v4), some (.ref v5), none] [gi t0] h kc ks := by
    intro v3 v4 v5 t0 h kc ks hw
    unfold w_X5_find_J32 at hw
    obtain ⟨hk, hj, c3, s4, ec, es, hw⟩ := hw
    refine g_callS (st := []) V (k_X5_needIndex hst hw) ww_3_5 ww_3_6 ww_1_1 ww_3_7 hd_X5_needIndex ⟨by decide, by decide⟩ rfl rfl (ga_cat rfl) dX5_find_32 hk hj rfl (gaX_all hT V) (ga_kv (fun hp1 hw => ?_))
    refine ga_re ec es ?_
    refine g_iload_n V dX5_find_35 rfl rfl ?_
    refine g_istore (lv2 := [none, none, none, some (gi v3), some (.ref v4), some (.ref v5), some (gi v3)]) V dX5_find_36 (by decide) rfl rfl rfl ?_
    refine g_less (bs := [true, true, true, false, true, true, true]) (lv2 := [none, none, none, none, some (.ref v4), some (.ref v5), some (gi v3)]) rfl ?_
    obtain ⟨z, hw⟩ := hw
    exact h_X5_find_L38 z v4 v5 v3 hp1 c3 s4 hw
  have h_X5_find_J31 : ∀ (v3 : Int) (v4 : Nat) (v5 : Nat) (h : gaH) (kc ks : Nat), w_X5_find_J31 X Q v3 v4 v5 h kc ks → gaP p l e rm_X5_find s m args below meth c G 7 (gaZ below G (gQi Q) X args s rm_X5_find) 31 [none, none, none, some (gi v3), some (.ref v4), some (.ref v5), none] [] h kc ks := by
    intro v3 v4 v5 h kc ks hw
    unfold w_X5_find_J31 at hw
    refine g_iconst V (Int32.ofInt 0) dX5_find_31 rfl rfl ?_
    exact h_X5_find_J32 v3 v4 v5 0 h kc ks hw
  show gaP p l e rm_X5_find s m args below meth c G 7 (gaZ below G (gQi Q) X args s rm_X5_find) 0 [some (.ref a0), some (gi a1), some (gi a2), some (gi a3), none, none, none] [] h 3 18
  unfold w_X5_find at hw
  refine g_aload_n V dX5_find_0 rfl rfl ?_
  refine g_iload_n V dX5_find_1 rfl rfl ?_
  obtain ⟨hb, hw⟩ := hw
  obtain ⟨fb, hb⟩ := hb
  obtain ⟨hk, hj, c3, s4, ec, es, hw⟩ := hw
  refine g_callV (C := RX5) (T := TX5) (N := 9) (st := []) V (k_X5_wordOf hst hw) ww_1_150 ww_1_152 wp_1_1 ww_1_1 ww_1_153 hd_X5_wordOf ⟨by decide, by decide⟩ rfl (by decide) hb rfl rfl (ga_cat rfl) dX5_find_2 hk hj rfl (gaX_all hT V) (ga_ka (fun r2 hp1 hw => ?_))
  refine ga_re ec es ?_
  refine g_astore (lv2 := [some (.ref a0), some (gi a1), some (gi a2), some (gi a3), some (.ref r2), none, none]) V dX5_find_5 (by decide) rfl rfl rfl ?_
  refine g_aload_n V dX5_find_7 rfl rfl ?_
  refine g_iload_n V dX5_find_8 rfl rfl ?_
  obtain ⟨hb, hw⟩ := hw
  obtain ⟨fb, hb⟩ := hb
  obtain ⟨hk, hj, c7, s8, ec, es, hw⟩ := hw
  refine g_callV (C := RX5) (T := TX5) (N := 9) (st := []) V (k_X5_wordOf hst hw) ww_1_150 ww_1_152 wp_1_1 ww_1_1 ww_1_153 hd_X5_wordOf ⟨by decide, by decide⟩ rfl (by decide) hb rfl rfl (ga_cat rfl) dX5_find_9 hk hj rfl (gaX_all hT V) (ga_ka (fun r6 hp5 hw => ?_))
  refine ga_re ec es ?_
  refine g_astore (lv2 := [some (.ref a0), some (gi a1), some (gi a2), some (gi a3), some (.ref r2), some (.ref r6), none]) V dX5_find_12 (by decide) rfl rfl rfl ?_
  refine g_iload_n V dX5_find_14 rfl rfl ?_
  obtain ⟨hx0, hw⟩ := hw
  refine gi_if_lt V dX5_find_15 rfl rfl hx0 (fun q => ?_) (fun q => ?_)
  · have hw := ga_t q hw
    refine g_less (bs := [false, false, false, true, true, true, true]) (lv2 := [none, none, none, some (gi a3), some (.ref r2), some (.ref r6), none]) rfl ?_
    exact h_X5_find_J31 a3 r2 r6 hp5 c7 s8 hw
  · have hw := ga_f q hw
    refine g_iload_n V dX5_find_18 rfl rfl ?_
    refine g_aload V dX5_find_19 rfl rfl ?_
    obtain ⟨fs, r9, ha, hv, hw⟩ := hw
    refine g_getN (C := RX4) (T := TX4) (N := 2) (host := "Wordgarden") V 1 rfl hin_RX4 (by decide) (by decide) gn_3 rfl ha hv dX5_find_21 rfl ?_
    obtain ⟨hx0, hx1, hw⟩ := hw
    refine gi_icmp_gt V dX5_find_24 rfl rfl hx0 hx1 (fun q => ?_) (fun q => ?_)
    · have hw := ga_t q hw
      refine g_less (bs := [false, false, false, true, true, true, true]) (lv2 := [none, none, none, some (gi a3), some (.ref r2), some (.ref r6), none]) rfl ?_
      exact h_X5_find_J31 a3 r2 r6 hp5 c7 s8 hw
    · have hw := ga_f q hw
      refine g_iconst V (Int32.ofInt 1) dX5_find_27 rfl rfl ?_
      refine g_goto V dX5_find_28 rfl ?_
      refine g_less (bs := [false, false, false, true, true, true, true]) (lv2 := [none, none, none, some (gi a3), some (.ref r2), some (.ref r6), none]) rfl ?_
      exact h_X5_find_J32 a3 r2 r6 1 hp5 c7 s8 hw
def w_X5_findLast_L38 (X : String → gaH → Prop) (Q : Int → gaH → Prop) : Nat → (Nat → Nat → Int → gaH → Nat → Nat → Prop)
  | 0 => fun _ _ _ _ _ _ => False
  | n + 1 => fun v4 v5 v6 h kc ks => gR v6 ∧ (if v6 < 0 then Q (-1) h else w_X1_standsAt v4 v6 v5 h (fun r2 hp1 => gR r2 ∧ (if r2 = 0 then w_X5_findLast_L38 X Q n v4 v5 (v6 + (-1)) hp1 kc ks else Q v6 hp1)))
def w_X5_findLast_J32 (X : String → gaH → Prop) (Q : Int → gaH → Prop) (v3 : Int) (v4 : Nat) (v5 : Nat) (t0 : Int) (h : gaH) (kc ks : Nat) : Prop := gCall 1 6 kc ks (fun c3 s4 => w_X5_needIndex X t0 h (fun hp1 => ∃ z, w_X5_findLast_L38 X Q z v4 v5 v3 hp1 c3 s4))
def w_X5_findLast_J31 (X : String → gaH → Prop) (Q : Int → gaH → Prop) (v3 : Int) (v4 : Nat) (v5 : Nat) (h : gaH) (kc ks : Nat) : Prop := w_X5_findLast_J32 X Q v3 v4 v5 0 h kc ks
def w_X5_findLast (X : String → gaH → Prop) (a0 : Nat) (a1 : Int) (a2 : Int) (a3 : Int) (h : gaH) (Q : Int → gaH → Prop) : Prop := gHas h a0 5 ∧ gCall 1 6 3 18 (fun c3 s4 => w_X5_wordOf X a0 a1 h (fun r2 hp1 => gHas hp1 a0 5 ∧ gCall 1 6 c3 s4 (fun c7 s8 => w_X5_wordOf X a0 a2 hp1 (fun r6 hp5 => gR a3 ∧ (if a3 < 0 then w_X5_findLast_J31 X Q a3 r2 r6 hp5 c7 s8 else gI hp5 r2 4 1 (fun r9 => gR a3 ∧ gR r9 ∧ (if r9 < a3 then w_X5_findLast_J31 X Q a3 r2 r6 hp5 c7 s8 else w_X5_findLast_J32 X Q a3 r2 r6 1 hp5 c7 s8)))))))
abbrev rm_X5_findLast : Room := { frames := 9, cells := 3, slots := 18, locals := 221 }
theorem hd_X5_findLast : yX5_findLast.cls = RX5 ∧ (yX5_findLast.cls ≠ "java/lang/invoke/MethodHandle" ∧ yX5_findLast.cls ≠ "java/lang/invoke/VarHandle" ∧ (parseMethodDescriptor yX5_findLast.desc).map (fun d => d.parameters.length) = some 3) := by decide +kernel
theorem k_X5_findLast {l : Launch} (hst : l.stackTraces = false) {G : gaG} {X : String → gaH → Prop} {a0 : Nat} {a1 : Int} {a2 : Int} {a3 : Int} {h : gaH} {Q : Int → gaH → Prop} (hw : w_X5_findLast X a0 a1 a2 a3 h Q) : gaC l G yX5_findLast (gaM yX5_findLast cX5_findLast 7 ((some .int))) rm_X5_findLast [.ref a0, gi a1, gi a2, gi a3] h (gQi Q) X := by
  refine g_start (lv := [some (.ref a0), some (gi a1), some (gi a2), some (gi a3), none, none, none]) hpl_RX5 hst (Nat.le_of_ble_eq_true rfl) (gaArgs_pad (z := 3) rfl) ww_5_63 ?_
  intro p e s m args below meth c V hT
  have h_X5_findLast_L38 : ∀ (n : Nat), ∀ (v4 : Nat) (v5 : Nat) (v6 : Int) (h : gaH) (kc ks : Nat), w_X5_findLast_L38 X Q n v4 v5 v6 h kc ks → gaP p l e rm_X5_findLast s m args below meth c G 7 (gaZ below G (gQi Q) X args s rm_X5_findLast) 38 [none, none, none, none, some (.ref v4), some (.ref v5), some (gi v6)] [] h kc ks := by
    intro n
    induction n with
    | zero =>
      intro v4 v5 v6 h kc ks hw
      exact hw.elim
    | succ n ih =>
      intro v4 v5 v6 h kc ks hw
      unfold w_X5_findLast_L38 at hw
      refine g_iload V dX5_findLast_38 rfl rfl ?_
      obtain ⟨hx0, hw⟩ := hw
      refine gi_if_lt V dX5_findLast_40 rfl rfl hx0 (fun q => ?_) (fun q => ?_)
      · have hw := ga_t q hw
        refine g_iconst V (Int32.ofInt (-1)) dX5_findLast_64 rfl rfl ?_
        exact g_iret V rfl rfl dX5_findLast_65 ⟨_, rfl, hw⟩
      · have hw := ga_f q hw
        refine g_aload V dX5_findLast_43 rfl rfl ?_
        refine g_iload V dX5_findLast_45 rfl rfl ?_
        refine g_aload V dX5_findLast_47 rfl rfl ?_
        refine g_callS (st := []) V (k_X1_standsAt hst hw) ww_5_56 ww_3_156 ww_1_12 ww_3_157 hd_X1_standsAt ⟨by decide, by decide⟩ rfl rfl (ga_cat rfl) dX5_findLast_49 (Nat.zero_le _) (Nat.zero_le _) rfl (gaX_all hT V) (ga_ki (fun r2 hp1 hw => ?_))
        obtain ⟨hx0, hw⟩ := hw
        refine gi_if_eq V dX5_findLast_52 rfl rfl hx0 (fun q => ?_) (fun q => ?_)
        · have hw := ga_t q hw
          refine gi_iinc (lv2 := [none, none, none, none, some (.ref v4), some (.ref v5), some (gi (v6 + (-1)))]) V dX5_findLast_58 (by decide) rfl rfl rfl rfl ?_
          refine g_goto V dX5_findLast_61 rfl ?_
          exact ih v4 v5 (v6 + (-1)) hp1 kc ks hw
        · have hw := ga_f q hw
          refine g_iload V dX5_findLast_55 rfl rfl ?_
          exact g_iret V rfl rfl dX5_findLast_57 ⟨_, rfl, hw⟩
  have h_X5_findLast_J32 : ∀ (v3 : Int) (v4 : Nat) (v5 : Nat) (t0 : Int) (h : gaH) (kc ks : Nat), w_X5_findLast_J32 X Q v3 v4 v5 t0 h kc ks → gaP p l e rm_X5_findLast s m args below meth c G 7 (gaZ below G (gQi Q) X args s rm_X5_findLast) 32 [none, none, none, some (gi v3), some (.ref v4), some (.ref v5), none] [gi t0] h kc ks := by
    intro v3 v4 v5 t0 h kc ks hw
    unfold w_X5_findLast_J32 at hw
    obtain ⟨hk, hj, c3, s4, ec, es, hw⟩ := hw
    refine g_callS (st := []) V (k_X5_needIndex hst hw) ww_3_5 ww_3_6 ww_1_1 ww_3_7 hd_X5_needIndex ⟨by decide, by decide⟩ rfl rfl (ga_cat rfl) dX5_findLast_32 hk hj rfl (gaX_all hT V) (ga_kv (fun hp1 hw => ?_))
    refine ga_re ec es ?_
    refine g_iload_n V dX5_findLast_35 rfl rfl ?_
    refine g_istore (lv2 := [none, none, none, some (gi v3), some (.ref v4), some (.ref v5), some (gi v3)]) V dX5_findLast_36 (by decide) rfl rfl rfl ?_
    refine g_less (bs := [true, true, true, false, true, true, true]) (lv2 := [none, none, none, none, some (.ref v4), some (.ref v5), some (gi v3)]) rfl ?_
    obtain ⟨z, hw⟩ := hw
    exact h_X5_findLast_L38 z v4 v5 v3 hp1 c3 s4 hw
  have h_X5_findLast_J31 : ∀ (v3 : Int) (v4 : Nat) (v5 : Nat) (h : gaH) (kc ks : Nat), w_X5_findLast_J31 X Q v3 v4 v5 h kc ks → gaP p l e rm_X5_findLast s m args below meth c G 7 (gaZ below G (gQi Q) X args s rm_X5_findLast) 31 [none, none, none, some (gi v3), some (.ref v4), some (.ref v5), none] [] h kc ks := by
    intro v3 v4 v5 h kc ks hw
    unfold w_X5_findLast_J31 at hw
    refine g_iconst V (Int32.ofInt 0) dX5_findLast_31 rfl rfl ?_
    exact h_X5_findLast_J32 v3 v4 v5 0 h kc ks hw
  show gaP p l e rm_X5_findLast s m args below meth c G 7 (gaZ below G (gQi Q) X args s rm_X5_findLast) 0 [some (.ref a0), some (gi a1), some (gi a2), some (gi a3), none, none, none] [] h 3 18
  unfold w_X5_findLast at hw
  refine g_aload_n V dX5_findLast_0 rfl rfl ?_
  refine g_iload_n V dX5_findLast_1 rfl rfl ?_
  obtain ⟨hb, hw⟩ := hw
  obtain ⟨fb, hb⟩ := hb
  obtain ⟨hk, hj, c3, s4, ec, es, hw⟩ := hw
  refine g_callV (C := RX5) (T := TX5) (N := 9) (st := []) V (k_X5_wordOf hst hw) ww_1_150 ww_1_152 wp_1_1 ww_1_1 ww_1_153 hd_X5_wordOf ⟨by decide, by decide⟩ rfl (by decide) hb rfl rfl (ga_cat rfl) dX5_findLast_2 hk hj rfl (gaX_all hT V) (ga_ka (fun r2 hp1 hw => ?_))
  refine ga_re ec es ?_
  refine g_astore (lv2 := [some (.ref a0), some (gi a1), some (gi a2), some (gi a3), some (.ref r2), none, none]) V dX5_findLast_5 (by decide) rfl rfl rfl ?_
  refine g_aload_n V dX5_findLast_7 rfl rfl ?_
  refine g_iload_n V dX5_findLast_8 rfl rfl ?_
  obtain ⟨hb, hw⟩ := hw
  obtain ⟨fb, hb⟩ := hb
  obtain ⟨hk, hj, c7, s8, ec, es, hw⟩ := hw
  refine g_callV (C := RX5) (T := TX5) (N := 9) (st := []) V (k_X5_wordOf hst hw) ww_1_150 ww_1_152 wp_1_1 ww_1_1 ww_1_153 hd_X5_wordOf ⟨by decide, by decide⟩ rfl (by decide) hb rfl rfl (ga_cat rfl) dX5_findLast_9 hk hj rfl (gaX_all hT V) (ga_ka (fun r6 hp5 hw => ?_))
  refine ga_re ec es ?_
  refine g_astore (lv2 := [some (.ref a0), some (gi a1), some (gi a2), some (gi a3), some (.ref r2), some (.ref r6), none]) V dX5_findLast_12 (by decide) rfl rfl rfl ?_
  refine g_iload_n V dX5_findLast_14 rfl rfl ?_
  obtain ⟨hx0, hw⟩ := hw
  refine gi_if_lt V dX5_findLast_15 rfl rfl hx0 (fun q => ?_) (fun q => ?_)
  · have hw := ga_t q hw
    refine g_less (bs := [false, false, false, true, true, true, true]) (lv2 := [none, none, none, some (gi a3), some (.ref r2), some (.ref r6), none]) rfl ?_
    exact h_X5_findLast_J31 a3 r2 r6 hp5 c7 s8 hw
  · have hw := ga_f q hw
    refine g_iload_n V dX5_findLast_18 rfl rfl ?_
    refine g_aload V dX5_findLast_19 rfl rfl ?_
    obtain ⟨fs, r9, ha, hv, hw⟩ := hw
    refine g_getN (C := RX4) (T := TX4) (N := 2) (host := "Wordgarden") V 1 rfl hin_RX4 (by decide) (by decide) gn_3 rfl ha hv dX5_findLast_21 rfl ?_
    obtain ⟨hx0, hx1, hw⟩ := hw
    refine gi_icmp_gt V dX5_findLast_24 rfl rfl hx0 hx1 (fun q => ?_) (fun q => ?_)
    · have hw := ga_t q hw
      refine g_less (bs := [false, false, false, true, true, true, true]) (lv2 := [none, none, none, some (gi a3), some (.ref r2), some (.ref r6), none]) rfl ?_
      exact h_X5_findLast_J31 a3 r2 r6 hp5 c7 s8 hw
    · have hw := ga_f q hw
      refine g_iconst V (Int32.ofInt 1) dX5_findLast_27 rfl rfl ?_
      refine g_goto V dX5_findLast_28 rfl ?_
      refine g_less (bs := [false, false, false, true, true, true, true]) (lv2 := [none, none, none, some (gi a3), some (.ref r2), some (.ref r6), none]) rfl ?_
      exact h_X5_findLast_J32 a3 r2 r6 1 hp5 c7 s8 hw
def w_X5_growthActDone (a0 : Nat) (a1 : Int) (h : gaH) (Q : Int → gaH → Prop) : Prop := gI h a0 5 6 (fun r1 => gPF h a0 5 6 (gi (r1 + 1)) (fun hp2 => Q a1 hp2))
abbrev rm_X5_growthActDone : Room := { frames := 0, cells := 0, slots := 0, locals := 0 }
theorem hd_X5_growthActDone : yX5_growthActDone.cls = RX5 ∧ (yX5_growthActDone.cls ≠ "java/lang/invoke/MethodHandle" ∧ yX5_growthActDone.cls ≠ "java/lang/invoke/VarHandle" ∧ (parseMethodDescriptor yX5_growthActDone.desc).map (fun d => d.parameters.length) = some 1) := by decide +kernel
theorem k_X5_growthActDone {l : Launch} (hst : l.stackTraces = false) {G : gaG} {X : String → gaH → Prop} {a0 : Nat} {a1 : Int} {h : gaH} {Q : Int → gaH → Prop} (hw : w_X5_growthActDone a0 a1 h Q) : gaC l G yX5_growthActDone (gaM yX5_growthActDone cX5_growthActDone 2 ((some .int))) rm_X5_growthActDone [.ref a0, gi a1] h (gQi Q) X := by
  refine g_start (lv := [some (.ref a0), some (gi a1)]) hpl_RX5 hst (Nat.le_of_ble_eq_true rfl) (gaArgs_pad (z := 0) rfl) ww_3_221 ?_
  intro p e s m args below meth c V hT
  unfold w_X5_growthActDone at hw
  refine g_aload_n V dX5_growthActDone_0 rfl rfl ?_
  refine g_dup V dX5_growthActDone_1 rfl rfl ?_
  obtain ⟨fs, r1, ha, hv, hw⟩ := hw
  refine g_get (C := RX5) (T := TX5) (N := 9) V 6 rfl hin_RX5 (by decide) (by decide) ww_1_116 rfl ha hv dX5_growthActDone_2 rfl ?_
  refine g_iconst V (Int32.ofInt 1) dX5_growthActDone_5 rfl rfl ?_
  refine gi_iadd V dX5_growthActDone_6 rfl ?_
  obtain ⟨fs, ha, hl, hw⟩ := hw
  refine g_put (C := RX5) (T := TX5) (N := 9) V 6 tyX5 tyX5_ok nmX5 rfl hin_RX5 (by decide) (by decide) ww_1_116 rfl rfl rfl rfl ha hl dX5_growthActDone_7 rfl ?_
  generalize gaUp h a0 _ = hp2 at hw ⊢
  refine g_iload_n V dX5_growthActDone_10 rfl rfl ?_
  exact g_iret V rfl rfl dX5_growthActDone_11 ⟨_, rfl, hw⟩
def w_X5_fresh (X : String → gaH → Prop) (a0 : Nat) (a1 : Int) (h : gaH) (Q : Int → gaH → Prop) : Prop := gHas h a0 5 ∧ gCall 1 6 1 6 (fun c3 s4 => w_X5_growthOf X a0 a1 h (fun r2 hp1 => gI hp1 r2 2 1 (fun r5 => gHas hp1 r2 2 ∧ w_X0_begin r2 hp1 (fun hp6 => gHas hp6 a0 5 ∧ w_X5_growthActDone a0 r5 hp6 (fun r9 hp8 => Q r9 hp8)))))
abbrev rm_X5_fresh : Room := { frames := 9, cells := 1, slots := 6, locals := 221 }
theorem hd_X5_fresh : yX5_fresh.cls = RX5 ∧ (yX5_fresh.cls ≠ "java/lang/invoke/MethodHandle" ∧ yX5_fresh.cls ≠ "java/lang/invoke/VarHandle" ∧ (parseMethodDescriptor yX5_fresh.desc).map (fun d => d.parameters.length) = some 1) := by decide +kernel
theorem k_X5_fresh {l : Launch} (hst : l.stackTraces = false) {G : gaG} {X : String → gaH → Prop} {a0 : Nat} {a1 : Int} {h : gaH} {Q : Int → gaH → Prop} (hw : w_X5_fresh X a0 a1 h Q) : gaC l G yX5_fresh (gaM yX5_fresh cX5_fresh 4 ((some .int))) rm_X5_fresh [.ref a0, gi a1] h (gQi Q) X := by
  refine g_start (lv := [some (.ref a0), some (gi a1), none, none]) hpl_RX5 hst (Nat.le_of_ble_eq_true rfl) (gaArgs_pad (z := 2) rfl) ww_3_239 ?_
  intro p e s m args below meth c V hT
  show gaP p l e rm_X5_fresh s m args below meth c G 4 (gaZ below G (gQi Q) X args s rm_X5_fresh) 0 [some (.ref a0), some (gi a1), none, none] [] h 1 6
  unfold w_X5_fresh at hw
  refine g_aload_n V dX5_fresh_0 rfl rfl ?_
  refine g_iload_n V dX5_fresh_1 rfl rfl ?_
  obtain ⟨hb, hw⟩ := hw
  obtain ⟨fb, hb⟩ := hb
  obtain ⟨hk, hj, c3, s4, ec, es, hw⟩ := hw
  refine g_callV (C := RX5) (T := TX5) (N := 9) (st := []) V (k_X5_growthOf hst hw) ww_2_13 ww_2_15 wp_1_4 ww_1_1 ww_2_16 hd_X5_growthOf ⟨by decide, by decide⟩ rfl (by decide) hb rfl rfl (ga_cat rfl) dX5_fresh_2 hk hj rfl (gaX_all hT V) (ga_ka (fun r2 hp1 hw => ?_))
  refine ga_re ec es ?_
  refine g_astore_n (lv2 := [some (.ref a0), some (gi a1), some (.ref r2), none]) V dX5_fresh_5 (by decide) rfl rfl rfl ?_
  refine g_aload_n V dX5_fresh_6 rfl rfl ?_
  obtain ⟨fs, r5, ha, hv, hw⟩ := hw
  refine g_getN (C := RX0) (T := TX0) (N := 4) (host := "Wordgarden") V 1 rfl hin_RX0 (by decide) (by decide) gn_9 rfl ha hv dX5_fresh_7 rfl ?_
  refine g_istore_n (lv2 := [some (.ref a0), some (gi a1), some (.ref r2), some (gi r5)]) V dX5_fresh_10 (by decide) rfl rfl rfl ?_
  refine g_aload_n V dX5_fresh_11 rfl rfl ?_
  obtain ⟨hb, hw⟩ := hw
  obtain ⟨fb, hb⟩ := hb
  refine g_callV (C := RX0) (T := TX0) (N := 4) (st := []) V (k_X0_begin hst hw) ww_4_0 ww_1_82 ww_1_83 ww_1_4 ww_1_84 hd_X0_begin ⟨by decide, by decide⟩ rfl (by decide) hb rfl rfl (ga_cat rfl) dX5_fresh_12 (Nat.zero_le _) (Nat.zero_le _) rfl (gaX_all hT V) (ga_kv (fun hp6 hw => ?_))
  refine g_aload_n V dX5_fresh_15 rfl rfl ?_
  refine g_iload_n V dX5_fresh_16 rfl rfl ?_
  obtain ⟨hb, hw⟩ := hw
  obtain ⟨fb, hb⟩ := hb
  refine g_callV (C := RX5) (T := TX5) (N := 9) (st := []) V (k_X5_growthActDone hst hw) ww_3_218 ww_3_220 wp_2_1 ww_1_1 ww_3_221 hd_X5_growthActDone ⟨by decide, by decide⟩ rfl (by decide) hb rfl rfl (ga_cat rfl) dX5_fresh_17 (Nat.zero_le _) (Nat.zero_le _) rfl (gaX_all hT V) (ga_ki (fun r9 hp8 hw => ?_))
  exact g_iret V rfl rfl dX5_fresh_20 ⟨_, rfl, hw⟩
def w_X5_grow_J21 (X : String → gaH → Prop) (Q : Int → gaH → Prop) (v0 : Nat) (v2 : Int) (v3 : Nat) (t0 : Int) (h : gaH) (kc ks : Nat) : Prop := gCall 1 6 kc ks (fun c3 s4 => w_X5_needArgument X t0 h (fun hp1 => gA hp1 v0 5 3 (fun r5 => gHas hp1 v3 2 ∧ w_X0_goOn v3 v2 r5 hp1 (fun r7 hp6 => gR r7 ∧ (if r7 = 0 then gHas hp6 v0 5 ∧ w_X5_refuse v0 hp6 (fun r13 hp12 => Q r13 hp12) else gA hp6 v3 2 3 (fun r8 => gI hp6 r8 4 1 (fun r9 => gHas hp6 v0 5 ∧ w_X5_growthActDone v0 r9 hp6 (fun r11 hp10 => Q r11 hp10))))))))
def w_X5_grow_J20 (X : String → gaH → Prop) (Q : Int → gaH → Prop) (v0 : Nat) (v2 : Int) (v3 : Nat) (h : gaH) (kc ks : Nat) : Prop := w_X5_grow_J21 X Q v0 v2 v3 0 h kc ks
def w_X5_grow (X : String → gaH → Prop) (a0 : Nat) (a1 : Int) (a2 : Int) (h : gaH) (Q : Int → gaH → Prop) : Prop := gHas h a0 5 ∧ gCall 1 6 2 12 (fun c3 s4 => w_X5_growthOf X a0 a1 h (fun r2 hp1 => gR a2 ∧ (if a2 < 1 then w_X5_grow_J20 X Q a0 a2 r2 hp1 c3 s4 else gR a2 ∧ (if 3 < a2 then w_X5_grow_J20 X Q a0 a2 r2 hp1 c3 s4 else w_X5_grow_J21 X Q a0 a2 r2 1 hp1 c3 s4))))
abbrev rm_X5_grow : Room := { frames := 9, cells := 2, slots := 12, locals := 221 }
theorem hd_X5_grow : yX5_grow.cls = RX5 ∧ (yX5_grow.cls ≠ "java/lang/invoke/MethodHandle" ∧ yX5_grow.cls ≠ "java/lang/invoke/VarHandle" ∧ (parseMethodDescriptor yX5_grow.desc).map (fun d => d.parameters.length) = some 2) := by decide +kernel
theorem k_X5_grow {l : Launch} (hst : l.stackTraces = false) {G : gaG} {X : String → gaH → Prop} {a0 : Nat} {a1 : Int} {a2 : Int} {h : gaH} {Q : Int → gaH → Prop} (hw : w_X5_grow X a0 a1 a2 h Q) : gaC l G yX5_grow (gaM yX5_grow cX5_grow 4 ((some .int))) rm_X5_grow [.ref a0, gi a1, gi a2] h (gQi Q) X := by
  refine g_start (lv := [some (.ref a0), some (gi a1), some (gi a2), none]) hpl_RX5 hst (Nat.le_of_ble_eq_true rfl) (gaArgs_pad (z := 1) rfl) ww_3_212 ?_
  intro p e s m args below meth c V hT
  have h_X5_grow_J21 : ∀ (v0 : Nat) (v2 : Int) (v3 : Nat) (t0 : Int) (h : gaH) (kc ks : Nat), w_X5_grow_J21 X Q v0 v2 v3 t0 h kc ks → gaP p l e rm_X5_grow s m args below meth c G 4 (gaZ below G (gQi Q) X args s rm_X5_grow) 21 [some (.ref v0), none, some (gi v2), some (.ref v3)] [gi t0] h kc ks := by
    intro v0 v2 v3 t0 h kc ks hw
    unfold w_X5_grow_J21 at hw
    obtain ⟨hk, hj, c3, s4, ec, es, hw⟩ := hw
    refine g_callS (st := []) V (k_X5_needArgument hst hw) ww_2_172 ww_2_173 ww_1_1 ww_2_174 hd_X5_needArgument ⟨by decide, by decide⟩ rfl rfl (ga_cat rfl) dX5_grow_21 hk hj rfl (gaX_all hT V) (ga_kv (fun hp1 hw => ?_))
    refine ga_re ec es ?_
    refine g_aload_n V dX5_grow_24 rfl rfl ?_
    refine g_iload_n V dX5_grow_25 rfl rfl ?_
    refine g_aload_n V dX5_grow_26 rfl rfl ?_
    obtain ⟨fs, r5, ha, hv, hw⟩ := hw
    refine g_get (C := RX5) (T := TX5) (N := 9) V 3 rfl hin_RX5 (by decide) (by decide) ww_1_113 rfl ha hv dX5_grow_27 rfl ?_
    obtain ⟨hb, hw⟩ := hw
    obtain ⟨fb, hb⟩ := hb
    refine g_callV (C := RX0) (T := TX0) (N := 4) (st := []) V (k_X0_goOn hst hw) ww_3_213 ww_3_214 ww_3_215 ww_1_4 ww_3_216 hd_X0_goOn ⟨by decide, by decide⟩ rfl (by decide) hb rfl rfl (ga_cat rfl) dX5_grow_30 (Nat.zero_le _) (Nat.zero_le _) rfl (gaX_all hT V) (ga_ki (fun r7 hp6 hw => ?_))
    obtain ⟨hx0, hw⟩ := hw
    refine gi_if_ne V dX5_grow_33 rfl rfl hx0 (fun q => ?_) (fun q => ?_)
    · have hw := ga_f q hw
      refine g_aload_n V dX5_grow_41 rfl rfl ?_
      refine g_aload_n V dX5_grow_42 rfl rfl ?_
      obtain ⟨fs, r8, ha, hv, hw⟩ := hw
      refine g_getN (C := RX0) (T := TX0) (N := 4) (host := "Wordgarden") V 3 rfl hin_RX0 (by decide) (by decide) gn_11 rfl ha hv dX5_grow_43 rfl ?_
      obtain ⟨fs, r9, ha, hv, hw⟩ := hw
      refine g_getN (C := RX4) (T := TX4) (N := 2) (host := "Wordgarden") V 1 rfl hin_RX4 (by decide) (by decide) gn_3 rfl ha hv dX5_grow_46 rfl ?_
      obtain ⟨hb, hw⟩ := hw
      obtain ⟨fb, hb⟩ := hb
      refine g_callV (C := RX5) (T := TX5) (N := 9) (st := []) V (k_X5_growthActDone hst hw) ww_3_218 ww_3_220 wp_2_1 ww_1_1 ww_3_221 hd_X5_growthActDone ⟨by decide, by decide⟩ rfl (by decide) hb rfl rfl (ga_cat rfl) dX5_grow_49 (Nat.zero_le _) (Nat.zero_le _) rfl (gaX_all hT V) (ga_ki (fun r11 hp10 hw => ?_))
      exact g_iret V rfl rfl dX5_grow_52 ⟨_, rfl, hw⟩
    · have hw := ga_t q hw
      refine g_aload_n V dX5_grow_36 rfl rfl ?_
      obtain ⟨hb, hw⟩ := hw
      obtain ⟨fb, hb⟩ := hb
      refine g_callV (C := RX5) (T := TX5) (N := 9) (st := []) V (k_X5_refuse hst hw) ww_2_231 ww_2_233 wp_1_10 ww_1_1 ww_2_234 hd_X5_refuse ⟨by decide, by decide⟩ rfl (by decide) hb rfl rfl (ga_cat rfl) dX5_grow_37 (Nat.zero_le _) (Nat.zero_le _) rfl (gaX_all hT V) (ga_ki (fun r13 hp12 hw => ?_))
      exact g_iret V rfl rfl dX5_grow_40 ⟨_, rfl, hw⟩
  have h_X5_grow_J20 : ∀ (v0 : Nat) (v2 : Int) (v3 : Nat) (h : gaH) (kc ks : Nat), w_X5_grow_J20 X Q v0 v2 v3 h kc ks → gaP p l e rm_X5_grow s m args below meth c G 4 (gaZ below G (gQi Q) X args s rm_X5_grow) 20 [some (.ref v0), none, some (gi v2), some (.ref v3)] [] h kc ks := by
    intro v0 v2 v3 h kc ks hw
    unfold w_X5_grow_J20 at hw
    refine g_iconst V (Int32.ofInt 0) dX5_grow_20 rfl rfl ?_
    exact h_X5_grow_J21 v0 v2 v3 0 h kc ks hw
  show gaP p l e rm_X5_grow s m args below meth c G 4 (gaZ below G (gQi Q) X args s rm_X5_grow) 0 [some (.ref a0), some (gi a1), some (gi a2), none] [] h 2 12
  unfold w_X5_grow at hw
  refine g_aload_n V dX5_grow_0 rfl rfl ?_
  refine g_iload_n V dX5_grow_1 rfl rfl ?_
  obtain ⟨hb, hw⟩ := hw
  obtain ⟨fb, hb⟩ := hb
  obtain ⟨hk, hj, c3, s4, ec, es, hw⟩ := hw
  refine g_callV (C := RX5) (T := TX5) (N := 9) (st := []) V (k_X5_growthOf hst hw) ww_2_13 ww_2_15 wp_1_4 ww_1_1 ww_2_16 hd_X5_growthOf ⟨by decide, by decide⟩ rfl (by decide) hb rfl rfl (ga_cat rfl) dX5_grow_2 hk hj rfl (gaX_all hT V) (ga_ka (fun r2 hp1 hw => ?_))
  refine ga_re ec es ?_
  refine g_astore_n (lv2 := [some (.ref a0), some (gi a1), some (gi a2), some (.ref r2)]) V dX5_grow_5 (by decide) rfl rfl rfl ?_
  refine g_iload_n V dX5_grow_6 rfl rfl ?_
  refine g_iconst V (Int32.ofInt 1) dX5_grow_7 rfl rfl ?_
  obtain ⟨hx0, hw⟩ := hw
  refine gi_icmp_lt V dX5_grow_8 rfl rfl hx0 (by decide) (fun q => ?_) (fun q => ?_)
  · have hw := ga_t q hw
    refine g_less (bs := [true, false, true, true]) (lv2 := [some (.ref a0), none, some (gi a2), some (.ref r2)]) rfl ?_
    exact h_X5_grow_J20 a0 a2 r2 hp1 c3 s4 hw
  · have hw := ga_f q hw
    refine g_iload_n V dX5_grow_11 rfl rfl ?_
    refine g_iconst V (Int32.ofInt 3) dX5_grow_12 rfl rfl ?_
    obtain ⟨hx0, hw⟩ := hw
    refine gi_icmp_gt V dX5_grow_13 rfl rfl hx0 (by decide) (fun q => ?_) (fun q => ?_)
    · have hw := ga_t q hw
      refine g_less (bs := [true, false, true, true]) (lv2 := [some (.ref a0), none, some (gi a2), some (.ref r2)]) rfl ?_
      exact h_X5_grow_J20 a0 a2 r2 hp1 c3 s4 hw
    · have hw := ga_f q hw
      refine g_iconst V (Int32.ofInt 1) dX5_grow_16 rfl rfl ?_
      refine g_goto V dX5_grow_17 rfl ?_
      refine g_less (bs := [true, false, true, true]) (lv2 := [some (.ref a0), none, some (gi a2), some (.ref r2)]) rfl ?_
      exact h_X5_grow_J21 a0 a2 r2 1 hp1 c3 s4 hw
def w_X5_init_L85 (Q : gaH → Prop) : Nat → (Nat → Int → gaH → Nat → Nat → Prop)
  | 0 => fun _ _ _ _ _ => False
  | n + 1 => fun v0 v1 h kc ks => gA h v0 5 1 (fun r1 => gAL h r1 111 (fun r2 => gR v1 ∧ gR r2 ∧ (if r2 ≤ v1 then Q h else gA h v0 5 1 (fun r3 => gNO h 2 4 ([.null, gi 0, .null, .null]) kc ks (fun o4 hp5 c6 s7 => gCall 5 196 c6 s7 (fun c10 s11 => w_X0_init o4 hp5 (fun hp8 => gHas hp8 o4 2 ∧ gSI hp8 r3 111 v1 (.ref o4) (fun hp12 => w_X5_init_L85 Q n v0 (v1 + 1) hp12 c10 s11))))))))
def w_X5_init_L55 (Q : gaH → Prop) : Nat → (Nat → Int → gaH → Nat → Nat → Prop)
  | 0 => fun _ _ _ _ _ => False
  | n + 1 => fun v0 v1 h kc ks => gA h v0 5 0 (fun r1 => gAL h r1 110 (fun r2 => gR v1 ∧ gR r2 ∧ (if r2 ≤ v1 then ∃ z, w_X5_init_L85 Q z v0 0 h kc ks else gA h v0 5 0 (fun r3 => gNO h 4 2 ([.null, gi 0]) kc ks (fun o4 hp5 c6 s7 => gCall 1 64 c6 s7 (fun c10 s11 => w_X4_init o4 hp5 (fun hp8 => gHas hp8 o4 4 ∧ gSI hp8 r3 110 v1 (.ref o4) (fun hp12 => w_X5_init_L55 Q n v0 (v1 + 1) hp12 c10 s11))))))))
def w_X5_init (a0 : Nat) (h : gaH) (Q : gaH → Prop) : Prop := gNA h 110 (.null) 3 30 1058 (fun o1 hp2 c3 s4 => gPF hp2 a0 5 0 (.ref o1) (fun hp5 => gNA hp5 111 (.null) 2 c3 s4 (fun o6 hp7 c8 s9 => gPF hp7 a0 5 1 (.ref o6) (fun hp10 => gNO hp10 3 3 ([.null, .null, .null]) c8 s9 (fun o11 hp12 c13 s14 => gCall 5 197 c13 s14 (fun c17 s18 => w_X2_init o11 hp12 (fun hp15 => gPF hp15 a0 5 2 (.ref o11) (fun hp19 => gNO hp19 4 2 ([.null, gi 0]) c17 s18 (fun o20 hp21 c22 s23 => gCall 1 64 c22 s23 (fun c26 s27 => w_X4_init o20 hp21 (fun hp24 => gPF hp24 a0 5 3 (.ref o20) (fun hp28 => gNO hp28 4 2 ([.null, gi 0]) c26 s27 (fun o29 hp30 c31 s32 => gCall 1 64 c31 s32 (fun c35 s36 => w_X4_init o29 hp30 (fun hp33 => gPF hp33 a0 5 4 (.ref o29) (fun hp37 => ∃ z, w_X5_init_L55 Q z a0 0 hp37 c35 s36))))))))))))))))
abbrev rm_X5_init : Room := { frames := 4, cells := 30, slots := 1058, locals := 100 }
theorem hd_X5_init : (yX5_init.cls ≠ "java/lang/invoke/MethodHandle" ∧ yX5_init.cls ≠ "java/lang/invoke/VarHandle" ∧ (parseMethodDescriptor yX5_init.desc).map (fun d => d.parameters.length) = some 0) := by decide +kernel
theorem k_X5_init {l : Launch} (hst : l.stackTraces = false) {G : gaG} {X : String → gaH → Prop} {a0 : Nat} {h : gaH} {Q : gaH → Prop} (hw : w_X5_init a0 h Q) : gaC l G yX5_init (gaM yX5_init cX5_init 2 ((none : Option Jvm.ClassFile.FieldType))) rm_X5_init [.ref a0] h (gQv Q) X := by
  refine g_start (lv := [some (.ref a0), none]) hpl_RX5 hst (Nat.le_of_ble_eq_true rfl) (gaArgs_pad (z := 1) rfl) ww_1_30 ?_
  intro p e s m args below meth c V hT
  have h_X5_init_L85 : ∀ (n : Nat), ∀ (v0 : Nat) (v1 : Int) (h : gaH) (kc ks : Nat), w_X5_init_L85 Q n v0 v1 h kc ks → gaP p l e rm_X5_init s m args below meth c G 2 (gaZ below G (gQv Q) X args s rm_X5_init) 85 [some (.ref v0), some (gi v1)] [] h kc ks := by
    intro n
    induction n with
    | zero =>
      intro v0 v1 h kc ks hw
      exact hw.elim
    | succ n ih =>
      intro v0 v1 h kc ks hw
      unfold w_X5_init_L85 at hw
      refine g_iload_n V dX5_init_85 rfl rfl ?_
      refine g_aload_n V dX5_init_86 rfl rfl ?_
      obtain ⟨fs, r1, ha, hv, hw⟩ := hw
      refine g_get (C := RX5) (T := TX5) (N := 9) V 1 rfl hin_RX5 (by decide) (by decide) ww_1_111 rfl ha hv dX5_init_87 rfl ?_
      obtain ⟨t9, vs, ha, ht, hw⟩ := hw
      refine gi_arraylength (t0 := 111) V (by simp [gaT]) ha ht dX5_init_90 rfl ?_
      generalize (vs.length : Int) = r2 at hw ⊢
      obtain ⟨hx0, hx1, hw⟩ := hw
      refine gi_icmp_ge V dX5_init_91 rfl rfl hx0 hx1 (fun q => ?_) (fun q => ?_)
      · have hw := ga_t q hw
        exact g_vret V rfl dX5_init_113 ⟨rfl, hw⟩
      · have hw := ga_f q hw
        refine g_aload_n V dX5_init_94 rfl rfl ?_
        obtain ⟨fs, r3, ha, hv, hw⟩ := hw
        refine g_get (C := RX5) (T := TX5) (N := 9) V 1 rfl hin_RX5 (by decide) (by decide) ww_1_111 rfl ha hv dX5_init_95 rfl ?_
        refine g_iload_n V dX5_init_98 rfl rfl ?_
        obtain ⟨hk, hj, hw⟩ := hw
        refine g_new (ci := 2) (C := RX0) (T := TX0) (N := 4) (fs := [.null, gi 0, .null, .null]) V tyX0 tyX0_ok rfl hin_RX0 (by decide) ww_1_36 ww_1_74 ww_1_4 hdf_RX0 dX5_init_99 rfl hk hj (fun o4 hf => ?_)
        obtain ⟨c6, s7, ec, es, hw⟩ := hw o4 hf
        refine ga_re ec es ?_
        generalize gaUp h o4 _ = hp5 at hw ⊢
        refine g_dup V dX5_init_102 rfl rfl ?_
        obtain ⟨hk, hj, c10, s11, ec, es, hw⟩ := hw
        refine g_callI (st := [.ref o4, gi v1, .ref r3]) V (k_X0_init hst hw) ww_1_75 ww_1_76 ww_1_4 ww_1_77 rfl hd_X0_init ⟨by decide, by decide⟩ rfl rfl (ga_cat rfl) dX5_init_103 hk hj rfl (gaX_all hT V) (ga_kv (fun hp8 hw => ?_))
        refine ga_re ec es ?_
        obtain ⟨hb, hw⟩ := hw
        obtain ⟨vs, ha, h0, h9, hi, hw⟩ := hw
        refine gi_aastoreO (T := TX0) (N := 4) V (by decide) rfl (by decide) ha hb h0 h9 hi dX5_init_106 rfl ?_
        generalize gaUp hp8 r3 _ = hp12 at hw ⊢
        refine gi_iinc (lv2 := [some (.ref v0), some (gi (v1 + 1))]) V dX5_init_107 (by decide) rfl rfl rfl rfl ?_
        refine g_goto V dX5_init_110 rfl ?_
        exact ih v0 (v1 + 1) hp12 c10 s11 hw
  have h_X5_init_L55 : ∀ (n : Nat), ∀ (v0 : Nat) (v1 : Int) (h : gaH) (kc ks : Nat), w_X5_init_L55 Q n v0 v1 h kc ks → gaP p l e rm_X5_init s m args below meth c G 2 (gaZ below G (gQv Q) X args s rm_X5_init) 55 [some (.ref v0), some (gi v1)] [] h kc ks := by
    intro n
    induction n with
    | zero =>
      intro v0 v1 h kc ks hw
      exact hw.elim
    | succ n ih =>
      intro v0 v1 h kc ks hw
      unfold w_X5_init_L55 at hw
      refine g_iload_n V dX5_init_55 rfl rfl ?_
      refine g_aload_n V dX5_init_56 rfl rfl ?_
      obtain ⟨fs, r1, ha, hv, hw⟩ := hw
      refine g_get (C := RX5) (T := TX5) (N := 9) V 0 rfl hin_RX5 (by decide) (by decide) ww_1_110 rfl ha hv dX5_init_57 rfl ?_
      obtain ⟨t9, vs, ha, ht, hw⟩ := hw
      refine gi_arraylength (t0 := 110) V (by simp [gaT]) ha ht dX5_init_60 rfl ?_
      generalize (vs.length : Int) = r2 at hw ⊢
      obtain ⟨hx0, hx1, hw⟩ := hw
      refine gi_icmp_ge V dX5_init_61 rfl rfl hx0 hx1 (fun q => ?_) (fun q => ?_)
      · have hw := ga_t q hw
        refine g_iconst V (Int32.ofInt 0) dX5_init_83 rfl rfl ?_
        refine g_istore_n (lv2 := [some (.ref v0), some (gi 0)]) V dX5_init_84 (by decide) rfl rfl rfl ?_
        obtain ⟨z, hw⟩ := hw
        exact h_X5_init_L85 z v0 0 h kc ks hw
      · have hw := ga_f q hw
        refine g_aload_n V dX5_init_64 rfl rfl ?_
        obtain ⟨fs, r3, ha, hv, hw⟩ := hw
        refine g_get (C := RX5) (T := TX5) (N := 9) V 0 rfl hin_RX5 (by decide) (by decide) ww_1_110 rfl ha hv dX5_init_65 rfl ?_
        refine g_iload_n V dX5_init_68 rfl rfl ?_
        obtain ⟨hk, hj, hw⟩ := hw
        refine g_new (ci := 4) (C := RX4) (T := TX4) (N := 2) (fs := [.null, gi 0]) V tyX4 tyX4_ok rfl hin_RX4 (by decide) ww_1_34 ww_1_45 ww_1_3 hdf_RX4 dX5_init_69 rfl hk hj (fun o4 hf => ?_)
        obtain ⟨c6, s7, ec, es, hw⟩ := hw o4 hf
        refine ga_re ec es ?_
        generalize gaUp h o4 _ = hp5 at hw ⊢
        refine g_dup V dX5_init_72 rfl rfl ?_
        obtain ⟨hk, hj, c10, s11, ec, es, hw⟩ := hw
        refine g_callIN (host := "Wordgarden") (st := [.ref o4, gi v1, .ref r3]) V (k_X4_init hst hw) gn_7 ww_1_47 ww_1_3 ww_1_48 rfl hd_X4_init ⟨by decide, by decide⟩ rfl rfl (ga_cat rfl) dX5_init_73 hk hj rfl (gaX_all hT V) (ga_kv (fun hp8 hw => ?_))
        refine ga_re ec es ?_
        obtain ⟨hb, hw⟩ := hw
        obtain ⟨vs, ha, h0, h9, hi, hw⟩ := hw
        refine gi_aastoreO (T := TX4) (N := 2) V (by decide) rfl (by decide) ha hb h0 h9 hi dX5_init_76 rfl ?_
        generalize gaUp hp8 r3 _ = hp12 at hw ⊢
        refine gi_iinc (lv2 := [some (.ref v0), some (gi (v1 + 1))]) V dX5_init_77 (by decide) rfl rfl rfl rfl ?_
        refine g_goto V dX5_init_80 rfl ?_
        exact ih v0 (v1 + 1) hp12 c10 s11 hw
  show gaP p l e rm_X5_init s m args below meth c G 2 (gaZ below G (gQv Q) X args s rm_X5_init) 0 [some (.ref a0), none] [] h 30 1058
  unfold w_X5_init at hw
  refine g_aload_n V dX5_init_0 rfl rfl ?_
  refine g_objInit V ww_1_31 ww_1_32 ww_1_33 dX5_init_1 (by decide) (by decide) (ga_cat rfl) rfl ?_
  refine g_aload_n V dX5_init_4 rfl rfl ?_
  refine g_iconst V (Int32.ofInt 3) dX5_init_5 rfl rfl ?_
  obtain ⟨h0, h9, hk, hj, hw⟩ := hw
  refine gi_anewarray (t := 110) V (by decide) ww_1_34 h0 h9 dX5_init_6 rfl hk hj (fun o1 hf => ?_)
  obtain ⟨c3, s4, ec, es, hw⟩ := hw o1 hf
  refine ga_re ec es ?_
  generalize gaUp h o1 _ = hp2 at hw ⊢
  obtain ⟨fs, ha, hl, hw⟩ := hw
  refine g_putF (C := RX5) (T := TX5) (N := 9) V 0 tyX5 tyX5_ok nmX5 rfl hin_RX5 (by decide) (by decide) ww_1_110 rfl rfl rfl rfl rfl rfl ha hl dX5_init_9 rfl ?_
  generalize gaUp hp2 a0 _ = hp5 at hw ⊢
  refine g_aload_n V dX5_init_12 rfl rfl ?_
  refine g_iconst V (Int32.ofInt 2) dX5_init_13 rfl rfl ?_
  obtain ⟨h0, h9, hk, hj, hw⟩ := hw
  refine gi_anewarray (t := 111) V (by decide) ww_1_36 h0 h9 dX5_init_14 rfl hk hj (fun o6 hf => ?_)
  obtain ⟨c8, s9, ec, es, hw⟩ := hw o6 hf
  refine ga_re ec es ?_
  generalize gaUp hp5 o6 _ = hp7 at hw ⊢
  obtain ⟨fs, ha, hl, hw⟩ := hw
  refine g_putF (C := RX5) (T := TX5) (N := 9) V 1 tyX5 tyX5_ok nmX5 rfl hin_RX5 (by decide) (by decide) ww_1_111 rfl rfl rfl rfl rfl rfl ha hl dX5_init_17 rfl ?_
  generalize gaUp hp7 a0 _ = hp10 at hw ⊢
  refine g_aload_n V dX5_init_20 rfl rfl ?_
  obtain ⟨hk, hj, hw⟩ := hw
  refine g_new (ci := 3) (C := RX2) (T := TX2) (N := 3) (fs := [.null, .null, .null]) V tyX2 tyX2_ok rfl hin_RX2 (by decide) ww_1_38 ww_1_39 ww_1_2 hdf_RX2 dX5_init_21 rfl hk hj (fun o11 hf => ?_)
  obtain ⟨c13, s14, ec, es, hw⟩ := hw o11 hf
  refine ga_re ec es ?_
  generalize gaUp hp10 o11 _ = hp12 at hw ⊢
  refine g_dup V dX5_init_24 rfl rfl ?_
  obtain ⟨hk, hj, c17, s18, ec, es, hw⟩ := hw
  refine g_callIN (host := "Wordgarden") (st := [.ref o11, .ref a0]) V (k_X2_init hst hw) gn_0 ww_1_41 ww_1_2 ww_1_42 rfl hd_X2_init ⟨by decide, by decide⟩ rfl rfl (ga_cat rfl) dX5_init_25 hk hj rfl (gaX_all hT V) (ga_kv (fun hp15 hw => ?_))
  refine ga_re ec es ?_
  obtain ⟨fs, ha, hl, hw⟩ := hw
  refine g_putF (C := RX5) (T := TX5) (N := 9) V 2 tyX5 tyX5_ok nmX5 rfl hin_RX5 (by decide) (by decide) ww_1_112 rfl rfl rfl rfl rfl rfl ha hl dX5_init_28 rfl ?_
  generalize gaUp hp15 a0 _ = hp19 at hw ⊢
  refine g_aload_n V dX5_init_31 rfl rfl ?_
  obtain ⟨hk, hj, hw⟩ := hw
  refine g_new (ci := 4) (C := RX4) (T := TX4) (N := 2) (fs := [.null, gi 0]) V tyX4 tyX4_ok rfl hin_RX4 (by decide) ww_1_34 ww_1_45 ww_1_3 hdf_RX4 dX5_init_32 rfl hk hj (fun o20 hf => ?_)
  obtain ⟨c22, s23, ec, es, hw⟩ := hw o20 hf
  refine ga_re ec es ?_
  generalize gaUp hp19 o20 _ = hp21 at hw ⊢
  refine g_dup V dX5_init_35 rfl rfl ?_
  obtain ⟨hk, hj, c26, s27, ec, es, hw⟩ := hw
  refine g_callIN (host := "Wordgarden") (st := [.ref o20, .ref a0]) V (k_X4_init hst hw) gn_7 ww_1_47 ww_1_3 ww_1_48 rfl hd_X4_init ⟨by decide, by decide⟩ rfl rfl (ga_cat rfl) dX5_init_36 hk hj rfl (gaX_all hT V) (ga_kv (fun hp24 hw => ?_))
  refine ga_re ec es ?_
  obtain ⟨fs, ha, hl, hw⟩ := hw
  refine g_putF (C := RX5) (T := TX5) (N := 9) V 3 tyX5 tyX5_ok nmX5 rfl hin_RX5 (by decide) (by decide) ww_1_113 rfl rfl rfl rfl rfl rfl ha hl dX5_init_39 rfl ?_
  generalize gaUp hp24 a0 _ = hp28 at hw ⊢
  refine g_aload_n V dX5_init_42 rfl rfl ?_
  obtain ⟨hk, hj, hw⟩ := hw
  refine g_new (ci := 4) (C := RX4) (T := TX4) (N := 2) (fs := [.null, gi 0]) V tyX4 tyX4_ok rfl hin_RX4 (by decide) ww_1_34 ww_1_45 ww_1_3 hdf_RX4 dX5_init_43 rfl hk hj (fun o29 hf => ?_)
  obtain ⟨c31, s32, ec, es, hw⟩ := hw o29 hf
  refine ga_re ec es ?_
  generalize gaUp hp28 o29 _ = hp30 at hw ⊢
  refine g_dup V dX5_init_46 rfl rfl ?_
  obtain ⟨hk, hj, c35, s36, ec, es, hw⟩ := hw
  refine g_callIN (host := "Wordgarden") (st := [.ref o29, .ref a0]) V (k_X4_init hst hw) gn_7 ww_1_47 ww_1_3 ww_1_48 rfl hd_X4_init ⟨by decide, by decide⟩ rfl rfl (ga_cat rfl) dX5_init_47 hk hj rfl (gaX_all hT V) (ga_kv (fun hp33 hw => ?_))
  refine ga_re ec es ?_
  obtain ⟨fs, ha, hl, hw⟩ := hw
  refine g_putF (C := RX5) (T := TX5) (N := 9) V 4 tyX5 tyX5_ok nmX5 rfl hin_RX5 (by decide) (by decide) ww_1_114 rfl rfl rfl rfl rfl rfl ha hl dX5_init_50 rfl ?_
  generalize gaUp hp33 a0 _ = hp37 at hw ⊢
  refine g_iconst V (Int32.ofInt 0) dX5_init_53 rfl rfl ?_
  refine g_istore_n (lv2 := [some (.ref a0), some (gi 0)]) V dX5_init_54 (by decide) rfl rfl rfl ?_
  obtain ⟨z, hw⟩ := hw
  exact h_X5_init_L55 z a0 0 hp37 c35 s36 hw
def w_X5_insertSheet_J32 (X : String → gaH → Prop) (Q : Int → gaH → Prop) (v0 : Nat) (v2 : Int) (v4 : Nat) (v5 : Nat) (t0 : Int) (h : gaH) (kc ks : Nat) : Prop := gCall 1 6 kc ks (fun c3 s4 => w_X5_needIndex X t0 h (fun hp1 => gHas hp1 v0 5 ∧ w_X5_exchangePart v0 v4 v2 v2 v5 hp1 (fun r6 hp5 => Q r6 hp5)))
def w_X5_insertSheet_J31 (X : String → gaH → Prop) (Q : Int → gaH → Prop) (v0 : Nat) (v2 : Int) (v4 : Nat) (v5 : Nat) (h : gaH) (kc ks : Nat) : Prop := w_X5_insertSheet_J32 X Q v0 v2 v4 v5 0 h kc ks
def w_X5_insertSheet (X : String → gaH → Prop) (a0 : Nat) (a1 : Int) (a2 : Int) (a3 : Int) (h : gaH) (Q : Int → gaH → Prop) : Prop := gHas h a0 5 ∧ gCall 1 6 3 18 (fun c3 s4 => w_X5_wordOf X a0 a1 h (fun r2 hp1 => gHas hp1 a0 5 ∧ gCall 1 6 c3 s4 (fun c7 s8 => w_X5_wordOf X a0 a3 hp1 (fun r6 hp5 => gR a2 ∧ (if a2 < 0 then w_X5_insertSheet_J31 X Q a0 a2 r2 r6 hp5 c7 s8 else gI hp5 r2 4 1 (fun r9 => gR a2 ∧ gR r9 ∧ (if r9 < a2 then w_X5_insertSheet_J31 X Q a0 a2 r2 r6 hp5 c7 s8 else w_X5_insertSheet_J32 X Q a0 a2 r2 r6 1 hp5 c7 s8)))))))
abbrev rm_X5_insertSheet : Room := { frames := 9, cells := 3, slots := 18, locals := 221 }
theorem hd_X5_insertSheet : yX5_insertSheet.cls = RX5 ∧ (yX5_insertSheet.cls ≠ "java/lang/invoke/MethodHandle" ∧ yX5_insertSheet.cls ≠ "java/lang/invoke/VarHandle" ∧ (parseMethodDescriptor yX5_insertSheet.desc).map (fun d => d.parameters.length) = some 3) := by decide +kernel
theorem k_X5_insertSheet {l : Launch} (hst : l.stackTraces = false) {G : gaG} {X : String → gaH → Prop} {a0 : Nat} {a1 : Int} {a2 : Int} {a3 : Int} {h : gaH} {Q : Int → gaH → Prop} (hw : w_X5_insertSheet X a0 a1 a2 a3 h Q) : gaC l G yX5_insertSheet (gaM yX5_insertSheet cX5_insertSheet 6 ((some .int))) rm_X5_insertSheet [.ref a0, gi a1, gi a2, gi a3] h (gQi Q) X := by
  refine g_start (lv := [some (.ref a0), some (gi a1), some (gi a2), some (gi a3), none, none]) hpl_RX5 hst (Nat.le_of_ble_eq_true rfl) (gaArgs_pad (z := 2) rfl) ww_3_16 ?_
  intro p e s m args below meth c V hT
  have h_X5_insertSheet_J32 : ∀ (v0 : Nat) (v2 : Int) (v4 : Nat) (v5 : Nat) (t0 : Int) (h : gaH) (kc ks : Nat), w_X5_insertSheet_J32 X Q v0 v2 v4 v5 t0 h kc ks → gaP p l e rm_X5_insertSheet s m args below meth c G 6 (gaZ below G (gQi Q) X args s rm_X5_insertSheet) 32 [some (.ref v0), none, some (gi v2), none, some (.ref v4), some (.ref v5)] [gi t0] h kc ks := by
    intro v0 v2 v4 v5 t0 h kc ks hw
    unfold w_X5_insertSheet_J32 at hw
    obtain ⟨hk, hj, c3, s4, ec, es, hw⟩ := hw
    refine g_callS (st := []) V (k_X5_needIndex hst hw) ww_3_5 ww_3_6 ww_1_1 ww_3_7 hd_X5_needIndex ⟨by decide, by decide⟩ rfl rfl (ga_cat rfl) dX5_insertSheet_32 hk hj rfl (gaX_all hT V) (ga_kv (fun hp1 hw => ?_))
    refine ga_re ec es ?_
    refine g_aload_n V dX5_insertSheet_35 rfl rfl ?_
    refine g_aload V dX5_insertSheet_36 rfl rfl ?_
    refine g_iload_n V dX5_insertSheet_38 rfl rfl ?_
    refine g_iload_n V dX5_insertSheet_39 rfl rfl ?_
    refine g_aload V dX5_insertSheet_40 rfl rfl ?_
    obtain ⟨hb, hw⟩ := hw
    obtain ⟨fb, hb⟩ := hb
    refine g_callV (C := RX5) (T := TX5) (N := 9) (st := []) V (k_X5_exchangePart hst hw) ww_2_227 ww_2_229 wp_1_9 ww_1_1 ww_2_230 hd_X5_exchangePart ⟨by decide, by decide⟩ rfl (by decide) hb rfl rfl (ga_cat rfl) dX5_insertSheet_42 (Nat.zero_le _) (Nat.zero_le _) rfl (gaX_all hT V) (ga_ki (fun r6 hp5 hw => ?_))
    exact g_iret V rfl rfl dX5_insertSheet_45 ⟨_, rfl, hw⟩
  have h_X5_insertSheet_J31 : ∀ (v0 : Nat) (v2 : Int) (v4 : Nat) (v5 : Nat) (h : gaH) (kc ks : Nat), w_X5_insertSheet_J31 X Q v0 v2 v4 v5 h kc ks → gaP p l e rm_X5_insertSheet s m args below meth c G 6 (gaZ below G (gQi Q) X args s rm_X5_insertSheet) 31 [some (.ref v0), none, some (gi v2), none, some (.ref v4), some (.ref v5)] [] h kc ks := by
    intro v0 v2 v4 v5 h kc ks hw
    unfold w_X5_insertSheet_J31 at hw
    refine g_iconst V (Int32.ofInt 0) dX5_insertSheet_31 rfl rfl ?_
    exact h_X5_insertSheet_J32 v0 v2 v4 v5 0 h kc ks hw
  show gaP p l e rm_X5_insertSheet s m args below meth c G 6 (gaZ below G (gQi Q) X args s rm_X5_insertSheet) 0 [some (.ref a0), some (gi a1), some (gi a2), some (gi a3), none, none] [] h 3 18
  unfold w_X5_insertSheet at hw
  refine g_aload_n V dX5_insertSheet_0 rfl rfl ?_
  refine g_iload_n V dX5_insertSheet_1 rfl rfl ?_
  obtain ⟨hb, hw⟩ := hw
  obtain ⟨fb, hb⟩ := hb
  obtain ⟨hk, hj, c3, s4, ec, es, hw⟩ := hw
  refine g_callV (C := RX5) (T := TX5) (N := 9) (st := []) V (k_X5_wordOf hst hw) ww_1_150 ww_1_152 wp_1_1 ww_1_1 ww_1_153 hd_X5_wordOf ⟨by decide, by decide⟩ rfl (by decide) hb rfl rfl (ga_cat rfl) dX5_insertSheet_2 hk hj rfl (gaX_all hT V) (ga_ka (fun r2 hp1 hw => ?_))
  refine ga_re ec es ?_
  refine g_astore (lv2 := [some (.ref a0), some (gi a1), some (gi a2), some (gi a3), some (.ref r2), none]) V dX5_insertSheet_5 (by decide) rfl rfl rfl ?_
  refine g_aload_n V dX5_insertSheet_7 rfl rfl ?_
  refine g_iload_n V dX5_insertSheet_8 rfl rfl ?_
  obtain ⟨hb, hw⟩ := hw
  obtain ⟨fb, hb⟩ := hb
  obtain ⟨hk, hj, c7, s8, ec, es, hw⟩ := hw
  refine g_callV (C := RX5) (T := TX5) (N := 9) (st := []) V (k_X5_wordOf hst hw) ww_1_150 ww_1_152 wp_1_1 ww_1_1 ww_1_153 hd_X5_wordOf ⟨by decide, by decide⟩ rfl (by decide) hb rfl rfl (ga_cat rfl) dX5_insertSheet_9 hk hj rfl (gaX_all hT V) (ga_ka (fun r6 hp5 hw => ?_))
  refine ga_re ec es ?_
  refine g_astore (lv2 := [some (.ref a0), some (gi a1), some (gi a2), some (gi a3), some (.ref r2), some (.ref r6)]) V dX5_insertSheet_12 (by decide) rfl rfl rfl ?_
  refine g_iload_n V dX5_insertSheet_14 rfl rfl ?_
  obtain ⟨hx0, hw⟩ := hw
  refine gi_if_lt V dX5_insertSheet_15 rfl rfl hx0 (fun q => ?_) (fun q => ?_)
  · have hw := ga_t q hw
    refine g_less (bs := [true, false, true, false, true, true]) (lv2 := [some (.ref a0), none, some (gi a2), none, some (.ref r2), some (.ref r6)]) rfl ?_
    exact h_X5_insertSheet_J31 a0 a2 r2 r6 hp5 c7 s8 hw
  · have hw := ga_f q hw
    refine g_iload_n V dX5_insertSheet_18 rfl rfl ?_
    refine g_aload V dX5_insertSheet_19 rfl rfl ?_
    obtain ⟨fs, r9, ha, hv, hw⟩ := hw
    refine g_getN (C := RX4) (T := TX4) (N := 2) (host := "Wordgarden") V 1 rfl hin_RX4 (by decide) (by decide) gn_3 rfl ha hv dX5_insertSheet_21 rfl ?_
    obtain ⟨hx0, hx1, hw⟩ := hw
    refine gi_icmp_gt V dX5_insertSheet_24 rfl rfl hx0 hx1 (fun q => ?_) (fun q => ?_)
    · have hw := ga_t q hw
      refine g_less (bs := [true, false, true, false, true, true]) (lv2 := [some (.ref a0), none, some (gi a2), none, some (.ref r2), some (.ref r6)]) rfl ?_
      exact h_X5_insertSheet_J31 a0 a2 r2 r6 hp5 c7 s8 hw
    · have hw := ga_f q hw
      refine g_iconst V (Int32.ofInt 1) dX5_insertSheet_27 rfl rfl ?_
      refine g_goto V dX5_insertSheet_28 rfl ?_
      refine g_less (bs := [true, false, true, false, true, true]) (lv2 := [some (.ref a0), none, some (gi a2), none, some (.ref r2), some (.ref r6)]) rfl ?_
      exact h_X5_insertSheet_J32 a0 a2 r2 r6 1 hp5 c7 s8 hw
def w_X5_insertSign_J25 (X : String → gaH → Prop) (Q : Int → gaH → Prop) (v0 : Nat) (v2 : Int) (v3 : Int) (v4 : Nat) (t0 : Int) (h : gaH) (kc ks : Nat) : Prop := gCall 1 6 kc ks (fun c3 s4 => w_X5_needIndex X t0 h (fun hp1 => gA hp1 v0 5 4 (fun r5 => gHas hp1 r5 4 ∧ w_X4_clear r5 hp1 (fun hp6 => gA hp6 v0 5 4 (fun r8 => gHas hp6 r8 4 ∧ w_X4_add r8 v3 hp6 (fun hp9 => gA hp9 v0 5 4 (fun r11 => gHas hp9 v0 5 ∧ w_X5_exchangePart v0 v4 v2 v2 r11 hp9 (fun r13 hp12 => Q r13 hp12))))))))
def w_X5_insertSign_J24 (X : String → gaH → Prop) (Q : Int → gaH → Prop) (v0 : Nat) (v2 : Int) (v3 : Int) (v4 : Nat) (h : gaH) (kc ks : Nat) : Prop := w_X5_insertSign_J25 X Q v0 v2 v3 v4 0 h kc ks
def w_X5_insertSign (X : String → gaH → Prop) (a0 : Nat) (a1 : Int) (a2 : Int) (a3 : Int) (h : gaH) (Q : Int → gaH → Prop) : Prop := gHas h a0 5 ∧ gCall 1 6 2 12 (fun c3 s4 => w_X5_wordOf X a0 a1 h (fun r2 hp1 => gR a2 ∧ (if a2 < 0 then w_X5_insertSign_J24 X Q a0 a2 a3 r2 hp1 c3 s4 else gI hp1 r2 4 1 (fun r5 => gR a2 ∧ gR r5 ∧ (if r5 < a2 then w_X5_insertSign_J24 X Q a0 a2 a3 r2 hp1 c3 s4 else w_X5_insertSign_J25 X Q a0 a2 a3 r2 1 hp1 c3 s4)))))
abbrev rm_X5_insertSign : Room := { frames := 9, cells := 2, slots := 12, locals := 221 }
theorem hd_X5_insertSign : yX5_insertSign.cls = RX5 ∧ (yX5_insertSign.cls ≠ "java/lang/invoke/MethodHandle" ∧ yX5_insertSign.cls ≠ "java/lang/invoke/VarHandle" ∧ (parseMethodDescriptor yX5_insertSign.desc).map (fun d => d.parameters.length) = some 3) := by decide +kernel
theorem k_X5_insertSign {l : Launch} (hst : l.stackTraces = false) {G : gaG} {X : String → gaH → Prop} {a0 : Nat} {a1 : Int} {a2 : Int} {a3 : Int} {h : gaH} {Q : Int → gaH → Prop} (hw : w_X5_insertSign X a0 a1 a2 a3 h Q) : gaC l G yX5_insertSign (gaM yX5_insertSign cX5_insertSign 5 ((some .int))) rm_X5_insertSign [.ref a0, gi a1, gi a2, gi a3] h (gQi Q) X := by
  refine g_start (lv := [some (.ref a0), some (gi a1), some (gi a2), some (gi a3), none]) hpl_RX5 hst (Nat.le_of_ble_eq_true rfl) (gaArgs_pad (z := 1) rfl) ww_3_4 ?_
  intro p e s m args below meth c V hT
  have h_X5_insertSign_J25 : ∀ (v0 : Nat) (v2 : Int) (v3 : Int) (v4 : Nat) (t0 : Int) (h : gaH) (kc ks : Nat), w_X5_insertSign_J25 X Q v0 v2 v3 v4 t0 h kc ks → gaP p l e rm_X5_insertSign s m args below meth c G 5 (gaZ below G (gQi Q) X args s rm_X5_insertSign) 25 [some (.ref v0), none, some (gi v2), some (gi v3), some (.ref v4)] [gi t0] h kc ks := by
    intro v0 v2 v3 v4 t0 h kc ks hw
    unfold w_X5_insertSign_J25 at hw
    obtain ⟨hk, hj, c3, s4, ec, es, hw⟩ := hw
    refine g_callS (st := []) V (k_X5_needIndex hst hw) ww_3_5 ww_3_6 ww_1_1 ww_3_7 hd_X5_needIndex ⟨by decide, by decide⟩ rfl rfl (ga_cat rfl) dX5_insertSign_25 hk hj rfl (gaX_all hT V) (ga_kv (fun hp1 hw => ?_))
    refine ga_re ec es ?_
    refine g_aload_n V dX5_insertSign_28 rfl rfl ?_
    obtain ⟨fs, r5, ha, hv, hw⟩ := hw
    refine g_get (C := RX5) (T := TX5) (N := 9) V 4 rfl hin_RX5 (by decide) (by decide) ww_1_114 rfl ha hv dX5_insertSign_29 rfl ?_
    obtain ⟨hb, hw⟩ := hw
    obtain ⟨fb, hb⟩ := hb
    refine g_callV (C := RX4) (T := TX4) (N := 2) (st := []) V (k_X4_clear hst hw) ww_2_235 ww_1_86 ww_1_87 ww_1_3 ww_1_88 hd_X4_clear ⟨by decide, by decide⟩ rfl (by decide) hb rfl rfl (ga_cat rfl) dX5_insertSign_32 (Nat.zero_le _) (Nat.zero_le _) rfl (gaX_all hT V) (ga_kv (fun hp6 hw => ?_))
    refine g_aload_n V dX5_insertSign_35 rfl rfl ?_
    obtain ⟨fs, r8, ha, hv, hw⟩ := hw
    refine g_get (C := RX5) (T := TX5) (N := 9) V 4 rfl hin_RX5 (by decide) (by decide) ww_1_114 rfl ha hv dX5_insertSign_36 rfl ?_
    refine g_iload_n V dX5_insertSign_39 rfl rfl ?_
    obtain ⟨hb, hw⟩ := hw
    obtain ⟨fb, hb⟩ := hb
    refine g_callV (C := RX4) (T := TX4) (N := 2) (st := []) V (k_X4_add hst hw) ww_3_9 ww_1_90 ww_1_91 ww_1_3 ww_1_92 hd_X4_add ⟨by decide, by decide⟩ rfl (by decide) hb rfl rfl (ga_cat rfl) dX5_insertSign_40 (Nat.zero_le _) (Nat.zero_le _) rfl (gaX_all hT V) (ga_kv (fun hp9 hw => ?_))
    refine g_aload_n V dX5_insertSign_43 rfl rfl ?_
    refine g_aload V dX5_insertSign_44 rfl rfl ?_
    refine g_iload_n V dX5_insertSign_46 rfl rfl ?_
    refine g_iload_n V dX5_insertSign_47 rfl rfl ?_
    refine g_aload_n V dX5_insertSign_48 rfl rfl ?_
    obtain ⟨fs, r11, ha, hv, hw⟩ := hw
    refine g_get (C := RX5) (T := TX5) (N := 9) V 4 rfl hin_RX5 (by decide) (by decide) ww_1_114 rfl ha hv dX5_insertSign_49 rfl ?_
    obtain ⟨hb, hw⟩ := hw
    obtain ⟨fb, hb⟩ := hb
    refine g_callV (C := RX5) (T := TX5) (N := 9) (st := []) V (k_X5_exchangePart hst hw) ww_2_227 ww_2_229 wp_1_9 ww_1_1 ww_2_230 hd_X5_exchangePart ⟨by decide, by decide⟩ rfl (by decide) hb rfl rfl (ga_cat rfl) dX5_insertSign_52 (Nat.zero_le _) (Nat.zero_le _) rfl (gaX_all hT V) (ga_ki (fun r13 hp12 hw => ?_))
    exact g_iret V rfl rfl dX5_insertSign_55 ⟨_, rfl, hw⟩
  have h_X5_insertSign_J24 : ∀ (v0 : Nat) (v2 : Int) (v3 : Int) (v4 : Nat) (h : gaH) (kc ks : Nat), w_X5_insertSign_J24 X Q v0 v2 v3 v4 h kc ks → gaP p l e rm_X5_insertSign s m args below meth c G 5 (gaZ below G (gQi Q) X args s rm_X5_insertSign) 24 [some (.ref v0), none, some (gi v2), some (gi v3), some (.ref v4)] [] h kc ks := by
    intro v0 v2 v3 v4 h kc ks hw
    unfold w_X5_insertSign_J24 at hw
    refine g_iconst V (Int32.ofInt 0) dX5_insertSign_24 rfl rfl ?_
    exact h_X5_insertSign_J25 v0 v2 v3 v4 0 h kc ks hw
  show gaP p l e rm_X5_insertSign s m args below meth c G 5 (gaZ below G (gQi Q) X args s rm_X5_insertSign) 0 [some (.ref a0), some (gi a1), some (gi a2), some (gi a3), none] [] h 2 12
  unfold w_X5_insertSign at hw
  refine g_aload_n V dX5_insertSign_0 rfl rfl ?_
  refine g_iload_n V dX5_insertSign_1 rfl rfl ?_
  obtain ⟨hb, hw⟩ := hw
  obtain ⟨fb, hb⟩ := hb
  obtain ⟨hk, hj, c3, s4, ec, es, hw⟩ := hw
  refine g_callV (C := RX5) (T := TX5) (N := 9) (st := []) V (k_X5_wordOf hst hw) ww_1_150 ww_1_152 wp_1_1 ww_1_1 ww_1_153 hd_X5_wordOf ⟨by decide, by decide⟩ rfl (by decide) hb rfl rfl (ga_cat rfl) dX5_insertSign_2 hk hj rfl (gaX_all hT V) (ga_ka (fun r2 hp1 hw => ?_))
  refine ga_re ec es ?_
  refine g_astore (lv2 := [some (.ref a0), some (gi a1), some (gi a2), some (gi a3), some (.ref r2)]) V dX5_insertSign_5 (by decide) rfl rfl rfl ?_
  refine g_iload_n V dX5_insertSign_7 rfl rfl ?_
  obtain ⟨hx0, hw⟩ := hw
  refine gi_if_lt V dX5_insertSign_8 rfl rfl hx0 (fun q => ?_) (fun q => ?_)
  · have hw := ga_t q hw
    refine g_less (bs := [true, false, true, true, true]) (lv2 := [some (.ref a0), none, some (gi a2), some (gi a3), some (.ref r2)]) rfl ?_
    exact h_X5_insertSign_J24 a0 a2 a3 r2 hp1 c3 s4 hw
  · have hw := ga_f q hw
    refine g_iload_n V dX5_insertSign_11 rfl rfl ?_
    refine g_aload V dX5_insertSign_12 rfl rfl ?_
    obtain ⟨fs, r5, ha, hv, hw⟩ := hw
    refine g_getN (C := RX4) (T := TX4) (N := 2) (host := "Wordgarden") V 1 rfl hin_RX4 (by decide) (by decide) gn_3 rfl ha hv dX5_insertSign_14 rfl ?_
    obtain ⟨hx0, hx1, hw⟩ := hw
    refine gi_icmp_gt V dX5_insertSign_17 rfl rfl hx0 hx1 (fun q => ?_) (fun q => ?_)
    · have hw := ga_t q hw
      refine g_less (bs := [true, false, true, true, true]) (lv2 := [some (.ref a0), none, some (gi a2), some (gi a3), some (.ref r2)]) rfl ?_
      exact h_X5_insertSign_J24 a0 a2 a3 r2 hp1 c3 s4 hw
    · have hw := ga_f q hw
      refine g_iconst V (Int32.ofInt 1) dX5_insertSign_20 rfl rfl ?_
      refine g_goto V dX5_insertSign_21 rfl ?_
      refine g_less (bs := [true, false, true, true, true]) (lv2 := [some (.ref a0), none, some (gi a2), some (gi a3), some (.ref r2)]) rfl ?_
      exact h_X5_insertSign_J25 a0 a2 a3 r2 1 hp1 c3 s4 hw
def w_X5_isApart (X : String → gaH → Prop) (a0 : Nat) (a1 : Int) (a2 : Int) (h : gaH) (Q : Int → gaH → Prop) : Prop := gHas h a0 5 ∧ gCall 2 12 2 12 (fun c3 s4 => w_X5_takeRule X a0 a1 a2 h (fun hp1 => gA hp1 a0 5 2 (fun r5 => gHas hp1 r5 3 ∧ w_X2_keepsApart r5 hp1 (fun r7 hp6 => narrow .boolean (gi r7) = gi r7 ∧ Q r7 hp6))))
abbrev rm_X5_isApart : Room := { frames := 10, cells := 2, slots := 12, locals := 242 }
theorem hd_X5_isApart : yX5_isApart.cls = RX5 ∧ (yX5_isApart.cls ≠ "java/lang/invoke/MethodHandle" ∧ yX5_isApart.cls ≠ "java/lang/invoke/VarHandle" ∧ (parseMethodDescriptor yX5_isApart.desc).map (fun d => d.parameters.length) = some 2) := by decide +kernel
theorem k_X5_isApart {l : Launch} (hst : l.stackTraces = false) {G : gaG} {X : String → gaH → Prop} {a0 : Nat} {a1 : Int} {a2 : Int} {h : gaH} {Q : Int → gaH → Prop} (hw : w_X5_isApart X a0 a1 a2 h Q) : gaC l G yX5_isApart (gaM yX5_isApart cX5_isApart 3 ((some .boolean))) rm_X5_isApart [.ref a0, gi a1, gi a2] h (gQi Q) X := by
  refine g_start (lv := [some (.ref a0), some (gi a1), some (gi a2)]) hpl_RX5 hst (Nat.le_of_ble_eq_true rfl) (gaArgs_pad (z := 0) rfl) ww_5_134 ?_
  intro p e s m args below meth c V hT
  show gaP p l e rm_X5_isApart s m args below meth c G 3 (gaZ below G (gQi Q) X args s rm_X5_isApart) 0 [some (.ref a0), some (gi a1), some (gi a2)] [] h 2 12
  unfold w_X5_isApart at hw
  refine g_aload_n V dX5_isApart_0 rfl rfl ?_
  refine g_iload_n V dX5_isApart_1 rfl rfl ?_
  refine g_iload_n V dX5_isApart_2 rfl rfl ?_
  obtain ⟨hb, hw⟩ := hw
  obtain ⟨fb, hb⟩ := hb
  obtain ⟨hk, hj, c3, s4, ec, es, hw⟩ := hw
  refine g_callV (C := RX5) (T := TX5) (N := 9) (st := []) V (k_X5_takeRule hst hw) ww_3_100 ww_3_102 wp_1_13 ww_1_1 ww_3_103 hd_X5_takeRule ⟨by decide, by decide⟩ rfl (by decide) hb rfl rfl (ga_cat rfl) dX5_isApart_3 hk hj rfl (gaX_all hT V) (ga_kv (fun hp1 hw => ?_))
  refine ga_re ec es ?_
  refine g_aload_n V dX5_isApart_6 rfl rfl ?_
  obtain ⟨fs, r5, ha, hv, hw⟩ := hw
  refine g_get (C := RX5) (T := TX5) (N := 9) V 2 rfl hin_RX5 (by decide) (by decide) ww_1_112 rfl ha hv dX5_isApart_7 rfl ?_
  obtain ⟨hb, hw⟩ := hw
  obtain ⟨fb, hb⟩ := hb
  refine g_callV (C := RX2) (T := TX2) (N := 3) (st := []) V (k_X2_keepsApart hst hw) ww_3_119 ww_3_120 ww_3_121 ww_1_2 ww_3_122 hd_X2_keepsApart ⟨by decide, by decide⟩ rfl (by decide) hb rfl rfl (ga_cat rfl) dX5_isApart_10 (Nat.zero_le _) (Nat.zero_le _) rfl (gaX_all hT V) (ga_ki (fun r7 hp6 hw => ?_))
  exact g_iret V rfl hw.1 dX5_isApart_13 ⟨_, rfl, hw.2⟩
def w_X5_isB_J23 (X : String → gaH → Prop) (Q : Int → gaH → Prop) (v2 : Int) (v3 : Nat) (t0 : Int) (h : gaH) (kc ks : Nat) : Prop := gCall 1 6 kc ks (fun c3 s4 => w_X5_needIndex X t0 h (fun hp1 => gHas hp1 v3 4 ∧ w_X4_isUp v3 v2 hp1 (fun r6 hp5 => narrow .boolean (gi r6) = gi r6 ∧ Q r6 hp5)))
def w_X5_isB_J22 (X : String → gaH → Prop) (Q : Int → gaH → Prop) (v2 : Int) (v3 : Nat) (h : gaH) (kc ks : Nat) : Prop := w_X5_isB_J23 X Q v2 v3 0 h kc ks
def w_X5_isB (X : String → gaH → Prop) (a0 : Nat) (a1 : Int) (a2 : Int) (h : gaH) (Q : Int → gaH → Prop) : Prop := gHas h a0 5 ∧ gCall 1 6 2 12 (fun c3 s4 => w_X5_wordOf X a0 a1 h (fun r2 hp1 => gR a2 ∧ (if a2 < 0 then w_X5_isB_J22 X Q a2 r2 hp1 c3 s4 else gI hp1 r2 4 1 (fun r5 => gR a2 ∧ gR r5 ∧ (if r5 ≤ a2 then w_X5_isB_J22 X Q a2 r2 hp1 c3 s4 else w_X5_isB_J23 X Q a2 r2 1 hp1 c3 s4)))))
abbrev rm_X5_isB : Room := { frames := 9, cells := 2, slots := 12, locals := 221 }
theorem hd_X5_isB : yX5_isB.cls = RX5 ∧ (yX5_isB.cls ≠ "java/lang/invoke/MethodHandle" ∧ yX5_isB.cls ≠ "java/lang/invoke/VarHandle" ∧ (parseMethodDescriptor yX5_isB.desc).map (fun d => d.parameters.length) = some 2) := by decide +kernel
theorem k_X5_isB {l : Launch} (hst : l.stackTraces = false) {G : gaG} {X : String → gaH → Prop} {a0 : Nat} {a1 : Int} {a2 : Int} {h : gaH} {Q : Int → gaH → Prop} (hw : w_X5_isB X a0 a1 a2 h Q) : gaC l G yX5_isB (gaM yX5_isB cX5_isB 4 ((some .boolean))) rm_X5_isB [.ref a0, gi a1, gi a2] h (gQi Q) X := by
  refine g_start (lv := [some (.ref a0), some (gi a1), some (gi a2), none]) hpl_RX5 hst (Nat.le_of_ble_eq_true rfl) (gaArgs_pad (z := 1) rfl) ww_4_14 ?_
  intro p e s m args below meth c V hT
  have h_X5_isB_J23 : ∀ (v2 : Int) (v3 : Nat) (t0 : Int) (h : gaH) (kc ks : Nat), w_X5_isB_J23 X Q v2 v3 t0 h kc ks → gaP p l e rm_X5_isB s m args below meth c G 4 (gaZ below G (gQi Q) X args s rm_X5_isB) 23 [none, none, some (gi v2), some (.ref v3)] [gi t0] h kc ks := by
    intro v2 v3 t0 h kc ks hw
    unfold w_X5_isB_J23 at hw
    obtain ⟨hk, hj, c3, s4, ec, es, hw⟩ := hw
    refine g_callS (st := []) V (k_X5_needIndex hst hw) ww_3_5 ww_3_6 ww_1_1 ww_3_7 hd_X5_needIndex ⟨by decide, by decide⟩ rfl rfl (ga_cat rfl) dX5_isB_23 hk hj rfl (gaX_all hT V) (ga_kv (fun hp1 hw => ?_))
    refine ga_re ec es ?_
    refine g_aload_n V dX5_isB_26 rfl rfl ?_
    refine g_iload_n V dX5_isB_27 rfl rfl ?_
    obtain ⟨hb, hw⟩ := hw
    obtain ⟨fb, hb⟩ := hb
    refine g_callV (C := RX4) (T := TX4) (N := 2) (st := []) V (k_X4_isUp hst hw) ww_2_95 ww_1_228 ww_1_229 ww_1_3 ww_1_230 hd_X4_isUp ⟨by decide, by decide⟩ rfl (by decide) hb rfl rfl (ga_cat rfl) dX5_isB_28 (Nat.zero_le _) (Nat.zero_le _) rfl (gaX_all hT V) (ga_ki (fun r6 hp5 hw => ?_))
    exact g_iret V rfl hw.1 dX5_isB_31 ⟨_, rfl, hw.2⟩
  have h_X5_isB_J22 : ∀ (v2 : Int) (v3 : Nat) (h : gaH) (kc ks : Nat), w_X5_isB_J22 X Q v2 v3 h kc ks → gaP p l e rm_X5_isB s m args below meth c G 4 (gaZ below G (gQi Q) X args s rm_X5_isB) 22 [none, none, some (gi v2), some (.ref v3)] [] h kc ks := by
    intro v2 v3 h kc ks hw
    unfold w_X5_isB_J22 at hw
    refine g_iconst V (Int32.ofInt 0) dX5_isB_22 rfl rfl ?_
    exact h_X5_isB_J23 v2 v3 0 h kc ks hw
  show gaP p l e rm_X5_isB s m args below meth c G 4 (gaZ below G (gQi Q) X args s rm_X5_isB) 0 [some (.ref a0), some (gi a1), some (gi a2), none] [] h 2 12
  unfold w_X5_isB at hw
  refine g_aload_n V dX5_isB_0 rfl rfl ?_
  refine g_iload_n V dX5_isB_1 rfl rfl ?_
  obtain ⟨hb, hw⟩ := hw
  obtain ⟨fb, hb⟩ := hb
  obtain ⟨hk, hj, c3, s4, ec, es, hw⟩ := hw
  refine g_callV (C := RX5) (T := TX5) (N := 9) (st := []) V (k_X5_wordOf hst hw) ww_1_150 ww_1_152 wp_1_1 ww_1_1 ww_1_153 hd_X5_wordOf ⟨by decide, by decide⟩ rfl (by decide) hb rfl rfl (ga_cat rfl) dX5_isB_2 hk hj rfl (gaX_all hT V) (ga_ka (fun r2 hp1 hw => ?_))
  refine ga_re ec es ?_
  refine g_astore_n (lv2 := [some (.ref a0), some (gi a1), some (gi a2), some (.ref r2)]) V dX5_isB_5 (by decide) rfl rfl rfl ?_
  refine g_iload_n V dX5_isB_6 rfl rfl ?_
  obtain ⟨hx0, hw⟩ := hw
  refine gi_if_lt V dX5_isB_7 rfl rfl hx0 (fun q => ?_) (fun q => ?_)
  · have hw := ga_t q hw
    refine g_less (bs := [false, false, true, true]) (lv2 := [none, none, some (gi a2), some (.ref r2)]) rfl ?_
    exact h_X5_isB_J22 a2 r2 hp1 c3 s4 hw
  · have hw := ga_f q hw
    refine g_iload_n V dX5_isB_10 rfl rfl ?_
    refine g_aload_n V dX5_isB_11 rfl rfl ?_
    obtain ⟨fs, r5, ha, hv, hw⟩ := hw
    refine g_getN (C := RX4) (T := TX4) (N := 2) (host := "Wordgarden") V 1 rfl hin_RX4 (by decide) (by decide) gn_3 rfl ha hv dX5_isB_12 rfl ?_
    obtain ⟨hx0, hx1, hw⟩ := hw
    refine gi_icmp_ge V dX5_isB_15 rfl rfl hx0 hx1 (fun q => ?_) (fun q => ?_)
    · have hw := ga_t q hw
      refine g_less (bs := [false, false, true, true]) (lv2 := [none, none, some (gi a2), some (.ref r2)]) rfl ?_
      exact h_X5_isB_J22 a2 r2 hp1 c3 s4 hw
    · have hw := ga_f q hw
      refine g_iconst V (Int32.ofInt 1) dX5_isB_18 rfl rfl ?_
      refine g_goto V dX5_isB_19 rfl ?_
      refine g_less (bs := [false, false, true, true]) (lv2 := [none, none, some (gi a2), some (.ref r2)]) rfl ?_
      exact h_X5_isB_J23 a2 r2 1 hp1 c3 s4 hw
def w_X5_kinds_J25 (X : String → gaH → Prop) (Q : Int → gaH → Prop) (v2 : Int) (v3 : Int) (v4 : Nat) (t0 : Int) (h : gaH) (kc ks : Nat) : Prop := gCall 1 6 kc ks (fun c3 s4 => w_X5_needArgument X t0 h (fun hp1 => w_X1_kindsOf v4 v2 v3 hp1 (fun r6 hp5 => Q r6 hp5)))
def w_X5_kinds_J24 (X : String → gaH → Prop) (Q : Int → gaH → Prop) (v2 : Int) (v3 : Int) (v4 : Nat) (h : gaH) (kc ks : Nat) : Prop := w_X5_kinds_J25 X Q v2 v3 v4 0 h kc ks
def w_X5_kinds (X : String → gaH → Prop) (a0 : Nat) (a1 : Int) (a2 : Int) (a3 : Int) (h : gaH) (Q : Int → gaH → Prop) : Prop := gHas h a0 5 ∧ gCall 1 6 2 12 (fun c3 s4 => w_X5_wordOf X a0 a1 h (fun r2 hp1 => gR a2 ∧ (if a2 < 0 then w_X5_kinds_J24 X Q a2 a3 r2 hp1 c3 s4 else gI hp1 r2 4 1 (fun r5 => gR a2 ∧ gR r5 ∧ (if r5 < a2 then w_X5_kinds_J24 X Q a2 a3 r2 hp1 c3 s4 else w_X5_kinds_J25 X Q a2 a3 r2 1 hp1 c3 s4)))))
abbrev rm_X5_kinds : Room := { frames := 9, cells := 2, slots := 12, locals := 221 }
theorem hd_X5_kinds : yX5_kinds.cls = RX5 ∧ (yX5_kinds.cls ≠ "java/lang/invoke/MethodHandle" ∧ yX5_kinds.cls ≠ "java/lang/invoke/VarHandle" ∧ (parseMethodDescriptor yX5_kinds.desc).map (fun d => d.parameters.length) = some 3) := by decide +kernel
theorem k_X5_kinds {l : Launch} (hst : l.stackTraces = false) {G : gaG} {X : String → gaH → Prop} {a0 : Nat} {a1 : Int} {a2 : Int} {a3 : Int} {h : gaH} {Q : Int → gaH → Prop} (hw : w_X5_kinds X a0 a1 a2 a3 h Q) : gaC l G yX5_kinds (gaM yX5_kinds cX5_kinds 5 ((some .int))) rm_X5_kinds [.ref a0, gi a1, gi a2, gi a3] h (gQi Q) X := by
  refine g_start (lv := [some (.ref a0), some (gi a1), some (gi a2), some (gi a3), none]) hpl_RX5 hst (Nat.le_of_ble_eq_true rfl) (gaArgs_pad (z := 1) rfl) ww_5_95 ?_
  intro p e s m args below meth c V hT
  have h_X5_kinds_J25 : ∀ (v2 : Int) (v3 : Int) (v4 : Nat) (t0 : Int) (h : gaH) (kc ks : Nat), w_X5_kinds_J25 X Q v2 v3 v4 t0 h kc ks → gaP p l e rm_X5_kinds s m args below meth c G 5 (gaZ below G (gQi Q) X args s rm_X5_kinds) 25 [none, none, some (gi v2), some (gi v3), some (.ref v4)] [gi t0] h kc ks := by
    intro v2 v3 v4 t0 h kc ks hw
    unfold w_X5_kinds_J25 at hw
    obtain ⟨hk, hj, c3, s4, ec, es, hw⟩ := hw
    refine g_callS (st := []) V (k_X5_needArgument hst hw) ww_2_172 ww_2_173 ww_1_1 ww_2_174 hd_X5_needArgument ⟨by decide, by decide⟩ rfl rfl (ga_cat rfl) dX5_kinds_25 hk hj rfl (gaX_all hT V) (ga_kv (fun hp1 hw => ?_))
    refine ga_re ec es ?_
    refine g_aload V dX5_kinds_28 rfl rfl ?_
    refine g_iload_n V dX5_kinds_30 rfl rfl ?_
    refine g_iload_n V dX5_kinds_31 rfl rfl ?_
    refine g_callS (st := []) V (k_X1_kindsOf hst hw) ww_5_96 ww_5_97 ww_1_12 ww_5_98 hd_X1_kindsOf ⟨by decide, by decide⟩ rfl rfl (ga_cat rfl) dX5_kinds_32 (Nat.zero_le _) (Nat.zero_le _) rfl (gaX_all hT V) (ga_ki (fun r6 hp5 hw => ?_))
    exact g_iret V rfl rfl dX5_kinds_35 ⟨_, rfl, hw⟩
  have h_X5_kinds_J24 : ∀ (v2 : Int) (v3 : Int) (v4 : Nat) (h : gaH) (kc ks : Nat), w_X5_kinds_J24 X Q v2 v3 v4 h kc ks → gaP p l e rm_X5_kinds s m args below meth c G 5 (gaZ below G (gQi Q) X args s rm_X5_kinds) 24 [none, none, some (gi v2), some (gi v3), some (.ref v4)] [] h kc ks := by
    intro v2 v3 v4 h kc ks hw
    unfold w_X5_kinds_J24 at hw
    refine g_iconst V (Int32.ofInt 0) dX5_kinds_24 rfl rfl ?_
    exact h_X5_kinds_J25 v2 v3 v4 0 h kc ks hw
  show gaP p l e rm_X5_kinds s m args below meth c G 5 (gaZ below G (gQi Q) X args s rm_X5_kinds) 0 [some (.ref a0), some (gi a1), some (gi a2), some (gi a3), none] [] h 2 12
  unfold w_X5_kinds at hw
  refine g_aload_n V dX5_kinds_0 rfl rfl ?_
  refine g_iload_n V dX5_kinds_1 rfl rfl ?_
  obtain ⟨hb, hw⟩ := hw
  obtain ⟨fb, hb⟩ := hb
  obtain ⟨hk, hj, c3, s4, ec, es, hw⟩ := hw
  refine g_callV (C := RX5) (T := TX5) (N := 9) (st := []) V (k_X5_wordOf hst hw) ww_1_150 ww_1_152 wp_1_1 ww_1_1 ww_1_153 hd_X5_wordOf ⟨by decide, by decide⟩ rfl (by decide) hb rfl rfl (ga_cat rfl) dX5_kinds_2 hk hj rfl (gaX_all hT V) (ga_ka (fun r2 hp1 hw => ?_))
  refine ga_re ec es ?_
  refine g_astore (lv2 := [some (.ref a0), some (gi a1), some (gi a2), some (gi a3), some (.ref r2)]) V dX5_kinds_5 (by decide) rfl rfl rfl ?_
  refine g_iload_n V dX5_kinds_7 rfl rfl ?_
  obtain ⟨hx0, hw⟩ := hw
  refine gi_if_lt V dX5_kinds_8 rfl rfl hx0 (fun q => ?_) (fun q => ?_)
  · have hw := ga_t q hw
    refine g_less (bs := [false, false, true, true, true]) (lv2 := [none, none, some (gi a2), some (gi a3), some (.ref r2)]) rfl ?_
    exact h_X5_kinds_J24 a2 a3 r2 hp1 c3 s4 hw
  · have hw := ga_f q hw
    refine g_iload_n V dX5_kinds_11 rfl rfl ?_
    refine g_aload V dX5_kinds_12 rfl rfl ?_
    obtain ⟨fs, r5, ha, hv, hw⟩ := hw
    refine g_getN (C := RX4) (T := TX4) (N := 2) (host := "Wordgarden") V 1 rfl hin_RX4 (by decide) (by decide) gn_3 rfl ha hv dX5_kinds_14 rfl ?_
    obtain ⟨hx0, hx1, hw⟩ := hw
    refine gi_icmp_gt V dX5_kinds_17 rfl rfl hx0 hx1 (fun q => ?_) (fun q => ?_)
    · have hw := ga_t q hw
      refine g_less (bs := [false, false, true, true, true]) (lv2 := [none, none, some (gi a2), some (gi a3), some (.ref r2)]) rfl ?_
      exact h_X5_kinds_J24 a2 a3 r2 hp1 c3 s4 hw
    · have hw := ga_f q hw
      refine g_iconst V (Int32.ofInt 1) dX5_kinds_20 rfl rfl ?_
      refine g_goto V dX5_kinds_21 rfl ?_
      refine g_less (bs := [false, false, true, true, true]) (lv2 := [none, none, some (gi a2), some (gi a3), some (.ref r2)]) rfl ?_
      exact h_X5_kinds_J25 a2 a3 r2 1 hp1 c3 s4 hw
def w_X5_knock (a0 : Nat) (h : gaH) (Q : Int → gaH → Prop) : Prop := gI h a0 5 8 (fun r1 => gPF h a0 5 8 (gi (r1 + 1)) (fun hp2 => gI hp2 a0 5 8 (fun r3 => Q r3 hp2)))
abbrev rm_X5_knock : Room := { frames := 0, cells := 0, slots := 0, locals := 0 }
theorem hd_X5_knock : yX5_knock.cls = RX5 ∧ (yX5_knock.cls ≠ "java/lang/invoke/MethodHandle" ∧ yX5_knock.cls ≠ "java/lang/invoke/VarHandle" ∧ (parseMethodDescriptor yX5_knock.desc).map (fun d => d.parameters.length) = some 0) := by decide +kernel
theorem k_X5_knock {l : Launch} (hst : l.stackTraces = false) {G : gaG} {X : String → gaH → Prop} {a0 : Nat} {h : gaH} {Q : Int → gaH → Prop} (hw : w_X5_knock a0 h Q) : gaC l G yX5_knock (gaM yX5_knock cX5_knock 1 ((some .int))) rm_X5_knock [.ref a0] h (gQi Q) X := by
  refine g_start (lv := [some (.ref a0)]) hpl_RX5 hst (Nat.le_of_ble_eq_true rfl) (gaArgs_pad (z := 0) rfl) ww_1_141 ?_
  intro p e s m args below meth c V hT
  unfold w_X5_knock at hw
  refine g_aload_n V dX5_knock_0 rfl rfl ?_
  refine g_dup V dX5_knock_1 rfl rfl ?_
  obtain ⟨fs, r1, ha, hv, hw⟩ := hw
  refine g_get (C := RX5) (T := TX5) (N := 9) V 8 rfl hin_RX5 (by decide) (by decide) ww_1_118 rfl ha hv dX5_knock_2 rfl ?_
  refine g_iconst V (Int32.ofInt 1) dX5_knock_5 rfl rfl ?_
  refine gi_iadd V dX5_knock_6 rfl ?_
  obtain ⟨fs, ha, hl, hw⟩ := hw
  refine g_put (C := RX5) (T := TX5) (N := 9) V 8 tyX5 tyX5_ok nmX5 rfl hin_RX5 (by decide) (by decide) ww_1_118 rfl rfl rfl rfl ha hl dX5_knock_7 rfl ?_
  generalize gaUp h a0 _ = hp2 at hw ⊢
  refine g_aload_n V dX5_knock_10 rfl rfl ?_
  obtain ⟨fs, r3, ha, hv, hw⟩ := hw
  refine g_get (C := RX5) (T := TX5) (N := 9) V 8 rfl hin_RX5 (by decide) (by decide) ww_1_118 rfl ha hv dX5_knock_11 rfl ?_
  exact g_iret V rfl rfl dX5_knock_14 ⟨_, rfl, hw⟩
def w_X5_lay_J78 (G : gaG) (X : String → gaH → Prop) (Q : Int → gaH → Prop) (v0 : Nat) (v5 : Nat) (h : gaH) (kc ks : Nat) : Prop := gI h v5 4 1 (fun r1 => gHas h v0 5 ∧ w_X5_sheetActDone v0 r1 h (fun r3 hp2 => Q r3 hp2))
def w_X5_lay_J28 (G : gaG) (X : String → gaH → Prop) (Q : Int → gaH → Prop) (v0 : Nat) (v3 : Int) (v4 : Nat) (v5 : Nat) (t0 : Int) (h : gaH) (kc ks : Nat) : Prop := gCall 1 6 kc ks (fun c3 s4 => w_X5_needArgument X t0 h (fun hp1 => gR v3 ∧ (if v3 = 0 then gA hp1 v4 2 3 (fun r11 => gHas hp1 v5 4 ∧ w_X4_take v5 r11 hp1 (fun hp12 => w_X5_lay_J78 G X Q v0 v5 hp12 c3 s4)) else gR v3 ∧ (if v3 = 1 then gA hp1 v0 5 3 (fun r7 => gA hp1 v0 5 2 (fun r8 => gHas hp1 v4 2 ∧ w_X0_layByRules G v4 v5 r7 r8 hp1 (fun hp9 => w_X5_lay_J78 G X Q v0 v5 hp9 c3 s4))) else gHas hp1 v4 2 ∧ w_X0_layByLine v4 v5 hp1 (fun hp5 => w_X5_lay_J78 G X Q v0 v5 hp5 c3 s4)))))
def w_X5_lay_J27 (G : gaG) (X : String → gaH → Prop) (Q : Int → gaH → Prop) (v0 : Nat) (v3 : Int) (v4 : Nat) (v5 : Nat) (h : gaH) (kc ks : Nat) : Prop := w_X5_lay_J28 G X Q v0 v3 v4 v5 0 h kc ks
def w_X5_lay (G : gaG) (X : String → gaH → Prop) (a0 : Nat) (a1 : Int) (a2 : Int) (a3 : Int) (h : gaH) (Q : Int → gaH → Prop) : Prop := gHas h a0 5 ∧ gCall 1 6 3 18 (fun c3 s4 => w_X5_growthOf X a0 a1 h (fun r2 hp1 => gHas hp1 a0 5 ∧ gCall 1 6 c3 s4 (fun c7 s8 => w_X5_wordOf X a0 a2 hp1 (fun r6 hp5 => gR a3 ∧ (if a3 < 0 then w_X5_lay_J27 G X Q a0 a3 r2 r6 hp5 c7 s8 else gR a3 ∧ (if 2 < a3 then w_X5_lay_J27 G X Q a0 a3 r2 r6 hp5 c7 s8 else w_X5_lay_J28 G X Q a0 a3 r2 r6 1 hp5 c7 s8))))))
abbrev rm_X5_lay : Room := { frames := 9, cells := 3, slots := 18, locals := 221 }
theorem hd_X5_lay : yX5_lay.cls = RX5 ∧ (yX5_lay.cls ≠ "java/lang/invoke/MethodHandle" ∧ yX5_lay.cls ≠ "java/lang/invoke/VarHandle" ∧ (parseMethodDescriptor yX5_lay.desc).map (fun d => d.parameters.length) = some 3) := by decide +kernel
theorem k_X5_lay {l : Launch} (hst : l.stackTraces = false) {G : gaG} {X : String → gaH → Prop} {a0 : Nat} {a1 : Int} {a2 : Int} {a3 : Int} {h : gaH} {Q : Int → gaH → Prop} (hw : w_X5_lay G X a0 a1 a2 a3 h Q) : gaC l G yX5_lay (gaM yX5_lay cX5_lay 6 ((some .int))) rm_X5_lay [.ref a0, gi a1, gi a2, gi a3] h (gQi Q) X := by
  refine g_start (lv := [some (.ref a0), some (gi a1), some (gi a2), some (gi a3), none, none]) hpl_RX5 hst (Nat.le_of_ble_eq_true rfl) (gaArgs_pad (z := 2) rfl) ww_3_169 ?_
  intro p e s m args below meth c V hT
  have h_X5_lay_J78 : ∀ (v0 : Nat) (v5 : Nat) (h : gaH) (kc ks : Nat), w_X5_lay_J78 G X Q v0 v5 h kc ks → gaP p l e rm_X5_lay s m args below meth c G 6 (gaZ below G (gQi Q) X args s rm_X5_lay) 78 [some (.ref v0), none, none, none, none, some (.ref v5)] [] h kc ks := by
    intro v0 v5 h kc ks hw
    unfold w_X5_lay_J78 at hw
    refine g_aload_n V dX5_lay_78 rfl rfl ?_
    refine g_aload V dX5_lay_79 rfl rfl ?_
    obtain ⟨fs, r1, ha, hv, hw⟩ := hw
    refine g_getN (C := RX4) (T := TX4) (N := 2) (host := "Wordgarden") V 1 rfl hin_RX4 (by decide) (by decide) gn_3 rfl ha hv dX5_lay_81 rfl ?_
    obtain ⟨hb, hw⟩ := hw
    obtain ⟨fb, hb⟩ := hb
    refine g_callV (C := RX5) (T := TX5) (N := 9) (st := []) V (k_X5_sheetActDone hst hw) ww_2_216 ww_2_218 wp_1_8 ww_1_1 ww_2_219 hd_X5_sheetActDone ⟨by decide, by decide⟩ rfl (by decide) hb rfl rfl (ga_cat rfl) dX5_lay_84 (Nat.zero_le _) (Nat.zero_le _) rfl (gaX_all hT V) (ga_ki (fun r3 hp2 hw => ?_))
    exact g_iret V rfl rfl dX5_lay_87 ⟨_, rfl, hw⟩
  have h_X5_lay_J28 : ∀ (v0 : Nat) (v3 : Int) (v4 : Nat) (v5 : Nat) (t0 : Int) (h : gaH) (kc ks : Nat), w_X5_lay_J28 G X Q v0 v3 v4 v5 t0 h kc ks → gaP p l e rm_X5_lay s m args below meth c G 6 (gaZ below G (gQi Q) X args s rm_X5_lay) 28 [some (.ref v0), none, none, some (gi v3), some (.ref v4), some (.ref v5)] [gi t0] h kc ks := by
    intro v0 v3 v4 v5 t0 h kc ks hw
    unfold w_X5_lay_J28 at hw
    obtain ⟨hk, hj, c3, s4, ec, es, hw⟩ := hw
    refine g_callS (st := []) V (k_X5_needArgument hst hw) ww_2_172 ww_2_173 ww_1_1 ww_2_174 hd_X5_needArgument ⟨by decide, by decide⟩ rfl rfl (ga_cat rfl) dX5_lay_28 hk hj rfl (gaX_all hT V) (ga_kv (fun hp1 hw => ?_))
    refine ga_re ec es ?_
    refine g_iload_n V dX5_lay_31 rfl rfl ?_
    obtain ⟨hx0, hw⟩ := hw
    refine gi_if_ne V dX5_lay_32 rfl rfl hx0 (fun q => ?_) (fun q => ?_)
    · have hw := ga_f q hw
      refine g_iload_n V dX5_lay_48 rfl rfl ?_
      refine g_iconst V (Int32.ofInt 1) dX5_lay_49 rfl rfl ?_
      obtain ⟨hx0, hw⟩ := hw
      refine gi_icmp_ne V dX5_lay_50 rfl rfl hx0 (by decide) (fun q => ?_) (fun q => ?_)
      · have hw := ga_f q hw
        refine g_aload V dX5_lay_71 rfl rfl ?_
        refine g_aload V dX5_lay_73 rfl rfl ?_
        obtain ⟨hb, hw⟩ := hw
        obtain ⟨fb, hb⟩ := hb
        refine g_callV (C := RX0) (T := TX0) (N := 4) (st := []) V (k_X0_layByLine hst hw) ww_2_57 ww_2_58 ww_2_59 ww_1_4 ww_2_60 hd_X0_layByLine ⟨by decide, by decide⟩ rfl (by decide) hb rfl rfl (ga_cat rfl) dX5_lay_75 (Nat.zero_le _) (Nat.zero_le _) rfl (gaX_all hT V) (ga_kv (fun hp5 hw => ?_))
        refine g_less (bs := [true, true, true, false, false, true]) (lv2 := [some (.ref v0), none, none, none, none, some (.ref v5)]) rfl ?_
        exact h_X5_lay_J78 v0 v5 hp5 c3 s4 hw
      · have hw := ga_t q hw
        refine g_aload V dX5_lay_53 rfl rfl ?_
        refine g_aload V dX5_lay_55 rfl rfl ?_
        refine g_aload_n V dX5_lay_57 rfl rfl ?_
        obtain ⟨fs, r7, ha, hv, hw⟩ := hw
        refine g_get (C := RX5) (T := TX5) (N := 9) V 3 rfl hin_RX5 (by decide) (by decide) ww_1_113 rfl ha hv dX5_lay_58 rfl ?_
        refine g_aload_n V dX5_lay_61 rfl rfl ?_
        obtain ⟨fs, r8, ha, hv, hw⟩ := hw
        refine g_get (C := RX5) (T := TX5) (N := 9) V 2 rfl hin_RX5 (by decide) (by decide) ww_1_112 rfl ha hv dX5_lay_62 rfl ?_
        obtain ⟨hb, hw⟩ := hw
        obtain ⟨fb, hb⟩ := hb
        refine g_callV (C := RX0) (T := TX0) (N := 4) (st := []) V (k_X0_layByRules hst hw) ww_2_18 ww_2_19 ww_2_20 ww_1_4 ww_2_21 hd_X0_layByRules ⟨by decide, by decide⟩ rfl (by decide) hb rfl rfl (ga_cat rfl) dX5_lay_65 (Nat.zero_le _) (Nat.zero_le _) rfl (gaX_all hT V) (ga_kv (fun hp9 hw => ?_))
        refine g_goto V dX5_lay_68 rfl ?_
        refine g_less (bs := [true, true, true, false, false, true]) (lv2 := [some (.ref v0), none, none, none, none, some (.ref v5)]) rfl ?_
        exact h_X5_lay_J78 v0 v5 hp9 c3 s4 hw
    · have hw := ga_t q hw
      refine g_aload V dX5_lay_35 rfl rfl ?_
      refine g_aload V dX5_lay_37 rfl rfl ?_
      obtain ⟨fs, r11, ha, hv, hw⟩ := hw
      refine g_getN (C := RX0) (T := TX0) (N := 4) (host := "Wordgarden") V 3 rfl hin_RX0 (by decide) (by decide) gn_11 rfl ha hv dX5_lay_39 rfl ?_
      obtain ⟨hb, hw⟩ := hw
      obtain ⟨fb, hb⟩ := hb
      refine g_callV (C := RX4) (T := TX4) (N := 2) (st := []) V (k_X4_take hst hw) ww_2_237 ww_2_50 ww_2_51 ww_1_3 ww_2_52 hd_X4_take ⟨by decide, by decide⟩ rfl (by decide) hb rfl rfl (ga_cat rfl) dX5_lay_42 (Nat.zero_le _) (Nat.zero_le _) rfl (gaX_all hT V) (ga_kv (fun hp12 hw => ?_))
      refine g_goto V dX5_lay_45 rfl ?_
      refine g_less (bs := [true, true, true, false, false, true]) (lv2 := [some (.ref v0), none, none, none, none, some (.ref v5)]) rfl ?_
      exact h_X5_lay_J78 v0 v5 hp12 c3 s4 hw
  have h_X5_lay_J27 : ∀ (v0 : Nat) (v3 : Int) (v4 : Nat) (v5 : Nat) (h : gaH) (kc ks : Nat), w_X5_lay_J27 G X Q v0 v3 v4 v5 h kc ks → gaP p l e rm_X5_lay s m args below meth c G 6 (gaZ below G (gQi Q) X args s rm_X5_lay) 27 [some (.ref v0), none, none, some (gi v3), some (.ref v4), some (.ref v5)] [] h kc ks := by
    intro v0 v3 v4 v5 h kc ks hw
    unfold w_X5_lay_J27 at hw
    refine g_iconst V (Int32.ofInt 0) dX5_lay_27 rfl rfl ?_
    exact h_X5_lay_J28 v0 v3 v4 v5 0 h kc ks hw
  show gaP p l e rm_X5_lay s m args below meth c G 6 (gaZ below G (gQi Q) X args s rm_X5_lay) 0 [some (.ref a0), some (gi a1), some (gi a2), some (gi a3), none, none] [] h 3 18
  unfold w_X5_lay at hw
  refine g_aload_n V dX5_lay_0 rfl rfl ?_
  refine g_iload_n V dX5_lay_1 rfl rfl ?_
  obtain ⟨hb, hw⟩ := hw
  obtain ⟨fb, hb⟩ := hb
  obtain ⟨hk, hj, c3, s4, ec, es, hw⟩ := hw
  refine g_callV (C := RX5) (T := TX5) (N := 9) (st := []) V (k_X5_growthOf hst hw) ww_2_13 ww_2_15 wp_1_4 ww_1_1 ww_2_16 hd_X5_growthOf ⟨by decide, by decide⟩ rfl (by decide) hb rfl rfl (ga_cat rfl) dX5_lay_2 hk hj rfl (gaX_all hT V) (ga_ka (fun r2 hp1 hw => ?_))
  refine ga_re ec es ?_
  refine g_astore (lv2 := [some (.ref a0), some (gi a1), some (gi a2), some (gi a3), some (.ref r2), none]) V dX5_lay_5 (by decide) rfl rfl rfl ?_
  refine g_aload_n V dX5_lay_7 rfl rfl ?_
  refine g_iload_n V dX5_lay_8 rfl rfl ?_
  obtain ⟨hb, hw⟩ := hw
  obtain ⟨fb, hb⟩ := hb
  obtain ⟨hk, hj, c7, s8, ec, es, hw⟩ := hw
  refine g_callV (C := RX5) (T := TX5) (N := 9) (st := []) V (k_X5_wordOf hst hw) ww_1_150 ww_1_152 wp_1_1 ww_1_1 ww_1_153 hd_X5_wordOf ⟨by decide, by decide⟩ rfl (by decide) hb rfl rfl (ga_cat rfl) dX5_lay_9 hk hj rfl (gaX_all hT V) (ga_ka (fun r6 hp5 hw => ?_))
  refine ga_re ec es ?_
  refine g_astore (lv2 := [some (.ref a0), some (gi a1), some (gi a2), some (gi a3), some (.ref r2), some (.ref r6)]) V dX5_lay_12 (by decide) rfl rfl rfl ?_
  refine g_iload_n V dX5_lay_14 rfl rfl ?_
  obtain ⟨hx0, hw⟩ := hw
  refine gi_if_lt V dX5_lay_15 rfl rfl hx0 (fun q => ?_) (fun q => ?_)
  · have hw := ga_t q hw
    refine g_less (bs := [true, false, false, true, true, true]) (lv2 := [some (.ref a0), none, none, some (gi a3), some (.ref r2), some (.ref r6)]) rfl ?_
    exact h_X5_lay_J27 a0 a3 r2 r6 hp5 c7 s8 hw
  · have hw := ga_f q hw
    refine g_iload_n V dX5_lay_18 rfl rfl ?_
    refine g_iconst V (Int32.ofInt 2) dX5_lay_19 rfl rfl ?_
    obtain ⟨hx0, hw⟩ := hw
    refine gi_icmp_gt V dX5_lay_20 rfl rfl hx0 (by decide) (fun q => ?_) (fun q => ?_)
    · have hw := ga_t q hw
      refine g_less (bs := [true, false, false, true, true, true]) (lv2 := [some (.ref a0), none, none, some (gi a3), some (.ref r2), some (.ref r6)]) rfl ?_
      exact h_X5_lay_J27 a0 a3 r2 r6 hp5 c7 s8 hw
    · have hw := ga_f q hw
      refine g_iconst V (Int32.ofInt 1) dX5_lay_23 rfl rfl ?_
      refine g_goto V dX5_lay_24 rfl ?_
      refine g_less (bs := [true, false, false, true, true, true]) (lv2 := [some (.ref a0), none, none, some (gi a3), some (.ref r2), some (.ref r6)]) rfl ?_
      exact h_X5_lay_J28 a0 a3 r2 r6 1 hp5 c7 s8 hw
def w_X5_length (X : String → gaH → Prop) (a0 : Nat) (a1 : Int) (h : gaH) (Q : Int → gaH → Prop) : Prop := gHas h a0 5 ∧ gCall 1 6 1 6 (fun c3 s4 => w_X5_wordOf X a0 a1 h (fun r2 hp1 => gI hp1 r2 4 1 (fun r5 => Q r5 hp1)))
abbrev rm_X5_length : Room := { frames := 9, cells := 1, slots := 6, locals := 221 }
theorem hd_X5_length : yX5_length.cls = RX5 ∧ (yX5_length.cls ≠ "java/lang/invoke/MethodHandle" ∧ yX5_length.cls ≠ "java/lang/invoke/VarHandle" ∧ (parseMethodDescriptor yX5_length.desc).map (fun d => d.parameters.length) = some 1) := by decide +kernel
theorem k_X5_length {l : Launch} (hst : l.stackTraces = false) {G : gaG} {X : String → gaH → Prop} {a0 : Nat} {a1 : Int} {h : gaH} {Q : Int → gaH → Prop} (hw : w_X5_length X a0 a1 h Q) : gaC l G yX5_length (gaM yX5_length cX5_length 2 ((some .int))) rm_X5_length [.ref a0, gi a1] h (gQi Q) X := by
  refine g_start (lv := [some (.ref a0), some (gi a1)]) hpl_RX5 hst (Nat.le_of_ble_eq_true rfl) (gaArgs_pad (z := 0) rfl) ww_4_7 ?_
  intro p e s m args below meth c V hT
  show gaP p l e rm_X5_length s m args below meth c G 2 (gaZ below G (gQi Q) X args s rm_X5_length) 0 [some (.ref a0), some (gi a1)] [] h 1 6
  unfold w_X5_length at hw
  refine g_aload_n V dX5_length_0 rfl rfl ?_
  refine g_iload_n V dX5_length_1 rfl rfl ?_
  obtain ⟨hb, hw⟩ := hw
  obtain ⟨fb, hb⟩ := hb
  obtain ⟨hk, hj, c3, s4, ec, es, hw⟩ := hw
  refine g_callV (C := RX5) (T := TX5) (N := 9) (st := []) V (k_X5_wordOf hst hw) ww_1_150 ww_1_152 wp_1_1 ww_1_1 ww_1_153 hd_X5_wordOf ⟨by decide, by decide⟩ rfl (by decide) hb rfl rfl (ga_cat rfl) dX5_length_2 hk hj rfl (gaX_all hT V) (ga_ka (fun r2 hp1 hw => ?_))
  refine ga_re ec es ?_
  obtain ⟨fs, r5, ha, hv, hw⟩ := hw
  refine g_getN (C := RX4) (T := TX4) (N := 2) (host := "Wordgarden") V 1 rfl hin_RX4 (by decide) (by decide) gn_3 rfl ha hv dX5_length_5 rfl ?_
  exact g_iret V rfl rfl dX5_length_8 ⟨_, rfl, hw⟩
def w_X5_line_L72 (X : String → gaH → Prop) (Q : Int → gaH → Prop) : Nat → (Nat → Int → Int → Int → Nat → Int → gaH → Nat → Nat → Prop)
  | 0 => fun _ _ _ _ _ _ _ _ _ => False
  | n + 1 => fun v0 v2 v3 v4 v5 v6 h kc ks => gR v6 ∧ gR v2 ∧ (if v2 ≤ v6 then gA h v0 5 3 (fun r1 => gHas h v0 5 ∧ w_X5_settle v0 v5 r1 h (fun r3 hp2 => Q r3 hp2)) else gA h v0 5 3 (fun r4 => w_X5_isUpOnLine v2 v3 v4 v6 h (fun r6 hp5 => gHas hp5 r4 4 ∧ w_X4_add r4 r6 hp5 (fun hp7 => w_X5_line_L72 X Q n v0 v2 v3 v4 v5 (v6 + 1) hp7 kc ks))))
def w_X5_line_J59 (X : String → gaH → Prop) (Q : Int → gaH → Prop) (v0 : Nat) (v2 : Int) (v3 : Int) (v4 : Int) (v5 : Nat) (t0 : Int) (h : gaH) (kc ks : Nat) : Prop := gCall 1 6 kc ks (fun c3 s4 => w_X5_needArgument X t0 h (fun hp1 => gA hp1 v0 5 3 (fun r5 => gHas hp1 r5 4 ∧ w_X4_clear r5 hp1 (fun hp6 => ∃ z, w_X5_line_L72 X Q z v0 v2 v3 v4 v5 0 hp6 c3 s4))))
def w_X5_line_J58 (X : String → gaH → Prop) (Q : Int → gaH → Prop) (v0 : Nat) (v2 : Int) (v3 : Int) (v4 : Int) (v5 : Nat) (h : gaH) (kc ks : Nat) : Prop := w_X5_line_J59 X Q v0 v2 v3 v4 v5 0 h kc ks
def w_X5_line_J40 (X : String → gaH → Prop) (Q : Int → gaH → Prop) (v0 : Nat) (v2 : Int) (v3 : Int) (v4 : Int) (v5 : Nat) (t0 : Int) (h : gaH) (kc ks : Nat) : Prop := gCall 1 6 kc ks (fun c3 s4 => w_X5_needArgument X t0 h (fun hp1 => gR v4 ∧ (if v4 < 0 then w_X5_line_J58 X Q v0 v2 v3 v4 v5 hp1 c3 s4 else gR v4 ∧ gR v2 ∧ (if v2 ≤ v4 then w_X5_line_J58 X Q v0 v2 v3 v4 v5 hp1 c3 s4 else w_X5_line_J59 X Q v0 v2 v3 v4 v5 1 hp1 c3 s4))))
def w_X5_line_J39 (X : String → gaH → Prop) (Q : Int → gaH → Prop) (v0 : Nat) (v2 : Int) (v3 : Int) (v4 : Int) (v5 : Nat) (h : gaH) (kc ks : Nat) : Prop := w_X5_line_J40 X Q v0 v2 v3 v4 v5 0 h kc ks
def w_X5_line_J23 (X : String → gaH → Prop) (Q : Int → gaH → Prop) (v0 : Nat) (v2 : Int) (v3 : Int) (v4 : Int) (v5 : Nat) (t0 : Int) (h : gaH) (kc ks : Nat) : Prop := gCall 1 6 kc ks (fun c3 s4 => w_X5_needArgument X t0 h (fun hp1 => gR v3 ∧ (if v3 < 0 then w_X5_line_J39 X Q v0 v2 v3 v4 v5 hp1 c3 s4 else gR v3 ∧ gR v2 ∧ (if v2 < v3 then w_X5_line_J39 X Q v0 v2 v3 v4 v5 hp1 c3 s4 else w_X5_line_J40 X Q v0 v2 v3 v4 v5 1 hp1 c3 s4))))
def w_X5_line_J22 (X : String → gaH → Prop) (Q : Int → gaH → Prop) (v0 : Nat) (v2 : Int) (v3 : Int) (v4 : Int) (v5 : Nat) (h : gaH) (kc ks : Nat) : Prop := w_X5_line_J23 X Q v0 v2 v3 v4 v5 0 h kc ks
def w_X5_line (X : String → gaH → Prop) (a0 : Nat) (a1 : Int) (a2 : Int) (a3 : Int) (a4 : Int) (h : gaH) (Q : Int → gaH → Prop) : Prop := gHas h a0 5 ∧ gCall 1 6 4 24 (fun c3 s4 => w_X5_wordOf X a0 a1 h (fun r2 hp1 => gR a2 ∧ (if a2 < 1 then w_X5_line_J22 X Q a0 a2 a3 a4 r2 hp1 c3 s4 else gR a2 ∧ (if 64 < a2 then w_X5_line_J22 X Q a0 a2 a3 a4 r2 hp1 c3 s4 else w_X5_line_J23 X Q a0 a2 a3 a4 r2 1 hp1 c3 s4))))
abbrev rm_X5_line : Room := { frames := 9, cells := 4, slots := 24, locals := 221 }
theorem hd_X5_line : yX5_line.cls = RX5 ∧ (yX5_line.cls ≠ "java/lang/invoke/MethodHandle" ∧ yX5_line.cls ≠ "java/lang/invoke/VarHandle" ∧ (parseMethodDescriptor yX5_line.desc).map (fun d => d.parameters.length) = some 4) := by decide +kernel
theorem k_X5_line {l : Launch} (hst : l.stackTraces = false) {G : gaG} {X : String → gaH → Prop} {a0 : Nat} {a1 : Int} {a2 : Int} {a3 : Int} {a4 : Int} {h : gaH} {Q : Int → gaH → Prop} (hw : w_X5_line X a0 a1 a2 a3 a4 h Q) : gaC l G yX5_line (gaM yX5_line cX5_line 7 ((some .int))) rm_X5_line [.ref a0, gi a1, gi a2, gi a3, gi a4] h (gQi Q) X := by
  refine g_start (lv := [some (.ref a0), some (gi a1), some (gi a2), some (gi a3), some (gi a4), none, none]) hpl_RX5 hst (Nat.le_of_ble_eq_true rfl) (gaArgs_pad (z := 2) rfl) ww_3_204 ?_
  intro p e s m args below meth c V hT
  have h_X5_line_L72 : ∀ (n : Nat), ∀ (v0 : Nat) (v2 : Int) (v3 : Int) (v4 : Int) (v5 : Nat) (v6 : Int) (h : gaH) (kc ks : Nat), w_X5_line_L72 X Q n v0 v2 v3 v4 v5 v6 h kc ks → gaP p l e rm_X5_line s m args below meth c G 7 (gaZ below G (gQi Q) X args s rm_X5_line) 72 [some (.ref v0), none, some (gi v2), some (gi v3), some (gi v4), some (.ref v5), some (gi v6)] [] h kc ks := by
    intro n
    induction n with
    | zero =>
      intro v0 v2 v3 v4 v5 v6 h kc ks hw
      exact hw.elim
    | succ n ih =>
      intro v0 v2 v3 v4 v5 v6 h kc ks hw
      unfold w_X5_line_L72 at hw
      refine g_iload V dX5_line_72 rfl rfl ?_
      refine g_iload_n V dX5_line_74 rfl rfl ?_
      obtain ⟨hx0, hx1, hw⟩ := hw
      refine gi_icmp_ge V dX5_line_75 rfl rfl hx0 hx1 (fun q => ?_) (fun q => ?_)
      · have hw := ga_t q hw
        refine g_aload_n V dX5_line_100 rfl rfl ?_
        refine g_aload V dX5_line_101 rfl rfl ?_
        refine g_aload_n V dX5_line_103 rfl rfl ?_
        obtain ⟨fs, r1, ha, hv, hw⟩ := hw
        refine g_get (C := RX5) (T := TX5) (N := 9) V 3 rfl hin_RX5 (by decide) (by decide) ww_1_113 rfl ha hv dX5_line_104 rfl ?_
        obtain ⟨hb, hw⟩ := hw
        obtain ⟨fb, hb⟩ := hb
        refine g_callV (C := RX5) (T := TX5) (N := 9) (st := []) V (k_X5_settle hst hw) ww_3_68 ww_3_70 wp_1_12 ww_1_1 ww_3_71 hd_X5_settle ⟨by decide, by decide⟩ rfl (by decide) hb rfl rfl (ga_cat rfl) dX5_line_107 (Nat.zero_le _) (Nat.zero_le _) rfl (gaX_all hT V) (ga_ki (fun r3 hp2 hw => ?_))
        exact g_iret V rfl rfl dX5_line_110 ⟨_, rfl, hw⟩
      · have hw := ga_f q hw
        refine g_aload_n V dX5_line_78 rfl rfl ?_
        obtain ⟨fs, r4, ha, hv, hw⟩ := hw
        refine g_get (C := RX5) (T := TX5) (N := 9) V 3 rfl hin_RX5 (by decide) (by decide) ww_1_113 rfl ha hv dX5_line_79 rfl ?_
        refine g_iload_n V dX5_line_82 rfl rfl ?_
        refine g_iload_n V dX5_line_83 rfl rfl ?_
        refine g_iload V dX5_line_84 rfl rfl ?_
        refine g_iload V dX5_line_86 rfl rfl ?_
        refine g_callS (st := [.ref r4]) V (k_X5_isUpOnLine hst hw) ww_3_205 ww_2_62 ww_1_1 ww_2_63 hd_X5_isUpOnLine ⟨by decide, by decide⟩ rfl rfl (ga_cat rfl) dX5_line_88 (Nat.zero_le _) (Nat.zero_le _) rfl (gaX_all hT V) (ga_ki (fun r6 hp5 hw => ?_))
        obtain ⟨hb, hw⟩ := hw
        obtain ⟨fb, hb⟩ := hb
        refine g_callV (C := RX4) (T := TX4) (N := 2) (st := []) V (k_X4_add hst hw) ww_3_9 ww_1_90 ww_1_91 ww_1_3 ww_1_92 hd_X4_add ⟨by decide, by decide⟩ rfl (by decide) hb rfl rfl (ga_cat rfl) dX5_line_91 (Nat.zero_le _) (Nat.zero_le _) rfl (gaX_all hT V) (ga_kv (fun hp7 hw => ?_))
        refine gi_iinc (lv2 := [some (.ref v0), none, some (gi v2), some (gi v3), some (gi v4), some (.ref v5), some (gi (v6 + 1))]) V dX5_line_94 (by decide) rfl rfl rfl rfl ?_
        refine g_goto V dX5_line_97 rfl ?_
        exact ih v0 v2 v3 v4 v5 (v6 + 1) hp7 kc ks hw
  have h_X5_line_J59 : ∀ (v0 : Nat) (v2 : Int) (v3 : Int) (v4 : Int) (v5 : Nat) (t0 : Int) (h : gaH) (kc ks : Nat), w_X5_line_J59 X Q v0 v2 v3 v4 v5 t0 h kc ks → gaP p l e rm_X5_line s m args below meth c G 7 (gaZ below G (gQi Q) X args s rm_X5_line) 59 [some (.ref v0), none, some (gi v2), some (gi v3), some (gi v4), some (.ref v5), none] [gi t0] h kc ks := by
    intro v0 v2 v3 v4 v5 t0 h kc ks hw
    unfold w_X5_line_J59 at hw
    obtain ⟨hk, hj, c3, s4, ec, es, hw⟩ := hw
    refine g_callS (st := []) V (k_X5_needArgument hst hw) ww_2_172 ww_2_173 ww_1_1 ww_2_174 hd_X5_needArgument ⟨by decide, by decide⟩ rfl rfl (ga_cat rfl) dX5_line_59 hk hj rfl (gaX_all hT V) (ga_kv (fun hp1 hw => ?_))
    refine ga_re ec es ?_
    refine g_aload_n V dX5_line_62 rfl rfl ?_
    obtain ⟨fs, r5, ha, hv, hw⟩ := hw
    refine g_get (C := RX5) (T := TX5) (N := 9) V 3 rfl hin_RX5 (by decide) (by decide) ww_1_113 rfl ha hv dX5_line_63 rfl ?_
    obtain ⟨hb, hw⟩ := hw
    obtain ⟨fb, hb⟩ := hb
    refine g_callV (C := RX4) (T := TX4) (N := 2) (st := []) V (k_X4_clear hst hw) ww_2_235 ww_1_86 ww_1_87 ww_1_3 ww_1_88 hd_X4_clear ⟨by decide, by decide⟩ rfl (by decide) hb rfl rfl (ga_cat rfl) dX5_line_66 (Nat.zero_le _) (Nat.zero_le _) rfl (gaX_all hT V) (ga_kv (fun hp6 hw => ?_))
    refine g_iconst V (Int32.ofInt 0) dX5_line_69 rfl rfl ?_
    refine g_istore (lv2 := [some (.ref v0), none, some (gi v2), some (gi v3), some (gi v4), some (.ref v5), some (gi 0)]) V dX5_line_70 (by decide) rfl rfl rfl ?_
    obtain ⟨z, hw⟩ := hw
    exact h_X5_line_L72 z v0 v2 v3 v4 v5 0 hp6 c3 s4 hw
  have h_X5_line_J58 : ∀ (v0 : Nat) (v2 : Int) (v3 : Int) (v4 : Int) (v5 : Nat) (h : gaH) (kc ks : Nat), w_X5_line_J58 X Q v0 v2 v3 v4 v5 h kc ks → gaP p l e rm_X5_line s m args below meth c G 7 (gaZ below G (gQi Q) X args s rm_X5_line) 58 [some (.ref v0), none, some (gi v2), some (gi v3), some (gi v4), some (.ref v5), none] [] h kc ks := by
    intro v0 v2 v3 v4 v5 h kc ks hw
    unfold w_X5_line_J58 at hw
    refine g_iconst V (Int32.ofInt 0) dX5_line_58 rfl rfl ?_
    exact h_X5_line_J59 v0 v2 v3 v4 v5 0 h kc ks hw
  have h_X5_line_J40 : ∀ (v0 : Nat) (v2 : Int) (v3 : Int) (v4 : Int) (v5 : Nat) (t0 : Int) (h : gaH) (kc ks : Nat), w_X5_line_J40 X Q v0 v2 v3 v4 v5 t0 h kc ks → gaP p l e rm_X5_line s m args below meth c G 7 (gaZ below G (gQi Q) X args s rm_X5_line) 40 [some (.ref v0), none, some (gi v2), some (gi v3), some (gi v4), some (.ref v5), none] [gi t0] h kc ks := by
    intro v0 v2 v3 v4 v5 t0 h kc ks hw
    unfold w_X5_line_J40 at hw
    obtain ⟨hk, hj, c3, s4, ec, es, hw⟩ := hw
    refine g_callS (st := []) V (k_X5_needArgument hst hw) ww_2_172 ww_2_173 ww_1_1 ww_2_174 hd_X5_needArgument ⟨by decide, by decide⟩ rfl rfl (ga_cat rfl) dX5_line_40 hk hj rfl (gaX_all hT V) (ga_kv (fun hp1 hw => ?_))
    refine ga_re ec es ?_
    refine g_iload V dX5_line_43 rfl rfl ?_
    obtain ⟨hx0, hw⟩ := hw
    refine gi_if_lt V dX5_line_45 rfl rfl hx0 (fun q => ?_) (fun q => ?_)
    · have hw := ga_t q hw
      exact h_X5_line_J58 v0 v2 v3 v4 v5 hp1 c3 s4 hw
    · have hw := ga_f q hw
      refine g_iload V dX5_line_48 rfl rfl ?_
      refine g_iload_n V dX5_line_50 rfl rfl ?_
      obtain ⟨hx0, hx1, hw⟩ := hw
      refine gi_icmp_ge V dX5_line_51 rfl rfl hx0 hx1 (fun q => ?_) (fun q => ?_)
      · have hw := ga_t q hw
        exact h_X5_line_J58 v0 v2 v3 v4 v5 hp1 c3 s4 hw
      · have hw := ga_f q hw
        refine g_iconst V (Int32.ofInt 1) dX5_line_54 rfl rfl ?_
        refine g_goto V dX5_line_55 rfl ?_
        exact h_X5_line_J59 v0 v2 v3 v4 v5 1 hp1 c3 s4 hw
  have h_X5_line_J39 : ∀ (v0 : Nat) (v2 : Int) (v3 : Int) (v4 : Int) (v5 : Nat) (h : gaH) (kc ks : Nat), w_X5_line_J39 X Q v0 v2 v3 v4 v5 h kc ks → gaP p l e rm_X5_line s m args below meth c G 7 (gaZ below G (gQi Q) X args s rm_X5_line) 39 [some (.ref v0), none, some (gi v2), some (gi v3), some (gi v4), some (.ref v5), none] [] h kc ks := by
    intro v0 v2 v3 v4 v5 h kc ks hw
    unfold w_X5_line_J39 at hw
    refine g_iconst V (Int32.ofInt 0) dX5_line_39 rfl rfl ?_
    exact h_X5_line_J40 v0 v2 v3 v4 v5 0 h kc ks hw
  have h_X5_line_J23 : ∀ (v0 : Nat) (v2 : Int) (v3 : Int) (v4 : Int) (v5 : Nat) (t0 : Int) (h : gaH) (kc ks : Nat), w_X5_line_J23 X Q v0 v2 v3 v4 v5 t0 h kc ks → gaP p l e rm_X5_line s m args below meth c G 7 (gaZ below G (gQi Q) X args s rm_X5_line) 23 [some (.ref v0), none, some (gi v2), some (gi v3), some (gi v4), some (.ref v5), none] [gi t0] h kc ks := by
    intro v0 v2 v3 v4 v5 t0 h kc ks hw
    unfold w_X5_line_J23 at hw
    obtain ⟨hk, hj, c3, s4, ec, es, hw⟩ := hw
    refine g_callS (st := []) V (k_X5_needArgument hst hw) ww_2_172 ww_2_173 ww_1_1 ww_2_174 hd_X5_needArgument ⟨by decide, by decide⟩ rfl rfl (ga_cat rfl) dX5_line_23 hk hj rfl (gaX_all hT V) (ga_kv (fun hp1 hw => ?_))
    refine ga_re ec es ?_
    refine g_iload_n V dX5_line_26 rfl rfl ?_
    obtain ⟨hx0, hw⟩ := hw
    refine gi_if_lt V dX5_line_27 rfl rfl hx0 (fun q => ?_) (fun q => ?_)
    · have hw := ga_t q hw
      exact h_X5_line_J39 v0 v2 v3 v4 v5 hp1 c3 s4 hw
    · have hw := ga_f q hw
      refine g_iload_n V dX5_line_30 rfl rfl ?_
      refine g_iload_n V dX5_line_31 rfl rfl ?_
      obtain ⟨hx0, hx1, hw⟩ := hw
      refine gi_icmp_gt V dX5_line_32 rfl rfl hx0 hx1 (fun q => ?_) (fun q => ?_)
      · have hw := ga_t q hw
        exact h_X5_line_J39 v0 v2 v3 v4 v5 hp1 c3 s4 hw
      · have hw := ga_f q hw
        refine g_iconst V (Int32.ofInt 1) dX5_line_35 rfl rfl ?_
        refine g_goto V dX5_line_36 rfl ?_
        exact h_X5_line_J40 v0 v2 v3 v4 v5 1 hp1 c3 s4 hw
  have h_X5_line_J22 : ∀ (v0 : Nat) (v2 : Int) (v3 : Int) (v4 : Int) (v5 : Nat) (h : gaH) (kc ks : Nat), w_X5_line_J22 X Q v0 v2 v3 v4 v5 h kc ks → gaP p l e rm_X5_line s m args below meth c G 7 (gaZ below G (gQi Q) X args s rm_X5_line) 22 [some (.ref v0), none, some (gi v2), some (gi v3), some (gi v4), some (.ref v5), none] [] h kc ks := by
    intro v0 v2 v3 v4 v5 h kc ks hw
    unfold w_X5_line_J22 at hw
    refine g_iconst V (Int32.ofInt 0) dX5_line_22 rfl rfl ?_
    exact h_X5_line_J23 v0 v2 v3 v4 v5 0 h kc ks hw
  show gaP p l e rm_X5_line s m args below meth c G 7 (gaZ below G (gQi Q) X args s rm_X5_line) 0 [some (.ref a0), some (gi a1), some (gi a2), some (gi a3), some (gi a4), none, none] [] h 4 24
  unfold w_X5_line at hw
  refine g_aload_n V dX5_line_0 rfl rfl ?_
  refine g_iload_n V dX5_line_1 rfl rfl ?_
  obtain ⟨hb, hw⟩ := hw
  obtain ⟨fb, hb⟩ := hb
  obtain ⟨hk, hj, c3, s4, ec, es, hw⟩ := hw
  refine g_callV (C := RX5) (T := TX5) (N := 9) (st := []) V (k_X5_wordOf hst hw) ww_1_150 ww_1_152 wp_1_1 ww_1_1 ww_1_153 hd_X5_wordOf ⟨by decide, by decide⟩ rfl (by decide) hb rfl rfl (ga_cat rfl) dX5_line_2 hk hj rfl (gaX_all hT V) (ga_ka (fun r2 hp1 hw => ?_))
  refine ga_re ec es ?_
  refine g_astore (lv2 := [some (.ref a0), some (gi a1), some (gi a2), some (gi a3), some (gi a4), some (.ref r2), none]) V dX5_line_5 (by decide) rfl rfl rfl ?_
  refine g_iload_n V dX5_line_7 rfl rfl ?_
  refine g_iconst V (Int32.ofInt 1) dX5_line_8 rfl rfl ?_
  obtain ⟨hx0, hw⟩ := hw
  refine gi_icmp_lt V dX5_line_9 rfl rfl hx0 (by decide) (fun q => ?_) (fun q => ?_)
  · have hw := ga_t q hw
    refine g_less (bs := [true, false, true, true, true, true, true]) (lv2 := [some (.ref a0), none, some (gi a2), some (gi a3), some (gi a4), some (.ref r2), none]) rfl ?_
    exact h_X5_line_J22 a0 a2 a3 a4 r2 hp1 c3 s4 hw
  · have hw := ga_f q hw
    refine g_iload_n V dX5_line_12 rfl rfl ?_
    refine g_bipush V (Int32.ofInt 64) dX5_line_13 rfl rfl ?_
    obtain ⟨hx0, hw⟩ := hw
    refine gi_icmp_gt V dX5_line_15 rfl rfl hx0 (by decide) (fun q => ?_) (fun q => ?_)
    · have hw := ga_t q hw
      refine g_less (bs := [true, false, true, true, true, true, true]) (lv2 := [some (.ref a0), none, some (gi a2), some (gi a3), some (gi a4), some (.ref r2), none]) rfl ?_
      exact h_X5_line_J22 a0 a2 a3 a4 r2 hp1 c3 s4 hw
    · have hw := ga_f q hw
      refine g_iconst V (Int32.ofInt 1) dX5_line_18 rfl rfl ?_
      refine g_goto V dX5_line_19 rfl ?_
      refine g_less (bs := [true, false, true, true, true, true, true]) (lv2 := [some (.ref a0), none, some (gi a2), some (gi a3), some (gi a4), some (.ref r2), none]) rfl ?_
      exact h_X5_line_J23 a0 a2 a3 a4 r2 1 hp1 c3 s4 hw
def w_X5_mirrors (X : String → gaH → Prop) (a0 : Nat) (a1 : Int) (h : gaH) (Q : Int → gaH → Prop) : Prop := gHas h a0 5 ∧ gCall 1 6 1 6 (fun c3 s4 => w_X5_wordOf X a0 a1 h (fun r2 hp1 => w_X1_mirrorsOf r2 hp1 (fun r6 hp5 => Q r6 hp5)))
abbrev rm_X5_mirrors : Room := { frames := 9, cells := 1, slots := 6, locals := 221 }
theorem hd_X5_mirrors : yX5_mirrors.cls = RX5 ∧ (yX5_mirrors.cls ≠ "java/lang/invoke/MethodHandle" ∧ yX5_mirrors.cls ≠ "java/lang/invoke/VarHandle" ∧ (parseMethodDescriptor yX5_mirrors.desc).map (fun d => d.parameters.length) = some 1) := by decide +kernel
theorem k_X5_mirrors {l : Launch} (hst : l.stackTraces = false) {G : gaG} {X : String → gaH → Prop} {a0 : Nat} {a1 : Int} {h : gaH} {Q : Int → gaH → Prop} (hw : w_X5_mirrors X a0 a1 h Q) : gaC l G yX5_mirrors (gaM yX5_mirrors cX5_mirrors 2 ((some .int))) rm_X5_mirrors [.ref a0, gi a1] h (gQi Q) X := by
  refine g_start (lv := [some (.ref a0), some (gi a1)]) hpl_RX5 hst (Nat.le_of_ble_eq_true rfl) (gaArgs_pad (z := 0) rfl) ww_5_116 ?_
  intro p e s m args below meth c V hT
  show gaP p l e rm_X5_mirrors s m args below meth c G 2 (gaZ below G (gQi Q) X args s rm_X5_mirrors) 0 [some (.ref a0), some (gi a1)] [] h 1 6
  unfold w_X5_mirrors at hw
  refine g_aload_n V dX5_mirrors_0 rfl rfl ?_
  refine g_iload_n V dX5_mirrors_1 rfl rfl ?_
  obtain ⟨hb, hw⟩ := hw
  obtain ⟨fb, hb⟩ := hb
  obtain ⟨hk, hj, c3, s4, ec, es, hw⟩ := hw
  refine g_callV (C := RX5) (T := TX5) (N := 9) (st := []) V (k_X5_wordOf hst hw) ww_1_150 ww_1_152 wp_1_1 ww_1_1 ww_1_153 hd_X5_wordOf ⟨by decide, by decide⟩ rfl (by decide) hb rfl rfl (ga_cat rfl) dX5_mirrors_2 hk hj rfl (gaX_all hT V) (ga_ka (fun r2 hp1 hw => ?_))
  refine ga_re ec es ?_
  refine g_callS (st := []) V (k_X1_mirrorsOf hst hw) ww_5_117 ww_5_118 ww_1_12 ww_5_119 hd_X1_mirrorsOf ⟨by decide, by decide⟩ rfl rfl (ga_cat rfl) dX5_mirrors_5 (Nat.zero_le _) (Nat.zero_le _) rfl (gaX_all hT V) (ga_ki (fun r6 hp5 hw => ?_))
  exact g_iret V rfl rfl dX5_mirrors_8 ⟨_, rfl, hw⟩
def w_X5_needState (X : String → gaH → Prop) (a0 : Int) (h : gaH) (Q : gaH → Prop) : Prop := gR a0 ∧ (if a0 = 0 then 1 ≤ 1 ∧ 6 ≤ 6 ∧ X "java/lang/IllegalStateException" h else Q h)
abbrev rm_X5_needState : Room := { frames := 8, cells := 1, slots := 6, locals := 200 }
theorem hd_X5_needState : (yX5_needState.cls ≠ "java/lang/invoke/MethodHandle" ∧ yX5_needState.cls ≠ "java/lang/invoke/VarHandle" ∧ (parseMethodDescriptor yX5_needState.desc).map (fun d => d.parameters.length) = some 1) := by decide +kernel
theorem k_X5_needState {l : Launch} (hst : l.stackTraces = false) {G : gaG} {X : String → gaH → Prop} {a0 : Int} {h : gaH} {Q : gaH → Prop} (hw : w_X5_needState X a0 h Q) : gaC l G yX5_needState (gaM yX5_needState cX5_needState 1 ((none : Option Jvm.ClassFile.FieldType))) rm_X5_needState [gi a0] h (gQv Q) X := by
  refine g_start (lv := [some (gi a0)]) hpl_RX5 hst (Nat.le_of_ble_eq_true rfl) (gaArgs_pad (z := 0) rfl) ww_3_126 ?_
  intro p e s m args below meth c V hT
  show gaP p l e rm_X5_needState s m args below meth c G 1 (gaZ below G (gQv Q) X args s rm_X5_needState) 0 [some (gi a0)] [] h 1 6
  unfold w_X5_needState at hw
  refine g_iload_n V dX5_needState_0 rfl rfl ?_
  obtain ⟨hx0, hw⟩ := hw
  refine gi_if_ne V dX5_needState_1 rfl rfl hx0 (fun q => ?_) (fun q => ?_)
  · have hw := ga_f q hw
    exact g_vret V rfl dX5_needState_15 ⟨rfl, hw⟩
  · have hw := ga_t q hw
    exact g_throw (names := gxNames) hT V hfit_S hfit_N ww_3_127 ww_1_15 gs_4 hat1_S hat2_S hgood_S dX5_needState_4 dX5_needState_7 dX5_needState_8 dX5_needState_11 dX5_needState_14 (by decide) (Nat.le_of_ble_eq_true rfl) hw.1 hw.2.1 hw.2.2
def w_X5_order (X : String → gaH → Prop) (a0 : Nat) (a1 : Int) (a2 : Int) (h : gaH) (Q : Int → gaH → Prop) : Prop := gHas h a0 5 ∧ gCall 1 6 2 12 (fun c3 s4 => w_X5_wordOf X a0 a1 h (fun r2 hp1 => gHas hp1 a0 5 ∧ gCall 1 6 c3 s4 (fun c7 s8 => w_X5_wordOf X a0 a2 hp1 (fun r6 hp5 => w_X1_orderOf r2 r6 hp5 (fun r10 hp9 => Q r10 hp9)))))
abbrev rm_X5_order : Room := { frames := 9, cells := 2, slots := 12, locals := 221 }
theorem hd_X5_order : yX5_order.cls = RX5 ∧ (yX5_order.cls ≠ "java/lang/invoke/MethodHandle" ∧ yX5_order.cls ≠ "java/lang/invoke/VarHandle" ∧ (parseMethodDescriptor yX5_order.desc).map (fun d => d.parameters.length) = some 2) := by decide +kernel
theorem k_X5_order {l : Launch} (hst : l.stackTraces = false) {G : gaG} {X : String → gaH → Prop} {a0 : Nat} {a1 : Int} {a2 : Int} {h : gaH} {Q : Int → gaH → Prop} (hw : w_X5_order X a0 a1 a2 h Q) : gaC l G yX5_order (gaM yX5_order cX5_order 3 ((some .int))) rm_X5_order [.ref a0, gi a1, gi a2] h (gQi Q) X := by
  refine g_start (lv := [some (.ref a0), some (gi a1), some (gi a2)]) hpl_RX5 hst (Nat.le_of_ble_eq_true rfl) (gaArgs_pad (z := 0) rfl) ww_5_70 ?_
  intro p e s m args below meth c V hT
  show gaP p l e rm_X5_order s m args below meth c G 3 (gaZ below G (gQi Q) X args s rm_X5_order) 0 [some (.ref a0), some (gi a1), some (gi a2)] [] h 2 12
  unfold w_X5_order at hw
  refine g_aload_n V dX5_order_0 rfl rfl ?_
  refine g_iload_n V dX5_order_1 rfl rfl ?_
  obtain ⟨hb, hw⟩ := hw
  obtain ⟨fb, hb⟩ := hb
  obtain ⟨hk, hj, c3, s4, ec, es, hw⟩ := hw
  refine g_callV (C := RX5) (T := TX5) (N := 9) (st := []) V (k_X5_wordOf hst hw) ww_1_150 ww_1_152 wp_1_1 ww_1_1 ww_1_153 hd_X5_wordOf ⟨by decide, by decide⟩ rfl (by decide) hb rfl rfl (ga_cat rfl) dX5_order_2 hk hj rfl (gaX_all hT V) (ga_ka (fun r2 hp1 hw => ?_))
  refine ga_re ec es ?_
  refine g_aload_n V dX5_order_5 rfl rfl ?_
  refine g_iload_n V dX5_order_6 rfl rfl ?_
  obtain ⟨hb, hw⟩ := hw
  obtain ⟨fb, hb⟩ := hb
  obtain ⟨hk, hj, c7, s8, ec, es, hw⟩ := hw
  refine g_callV (C := RX5) (T := TX5) (N := 9) (st := [.ref r2]) V (k_X5_wordOf hst hw) ww_1_150 ww_1_152 wp_1_1 ww_1_1 ww_1_153 hd_X5_wordOf ⟨by decide, by decide⟩ rfl (by decide) hb rfl rfl (ga_cat rfl) dX5_order_7 hk hj rfl (gaX_all hT V) (ga_ka (fun r6 hp5 hw => ?_))
  refine ga_re ec es ?_
  refine g_callS (st := []) V (k_X1_orderOf hst hw) ww_2_0 ww_2_1 ww_1_12 ww_2_2 hd_X1_orderOf ⟨by decide, by decide⟩ rfl rfl (ga_cat rfl) dX5_order_10 (Nat.zero_le _) (Nat.zero_le _) rfl (gaX_all hT V) (ga_ki (fun r10 hp9 hw => ?_))
  exact g_iret V rfl rfl dX5_order_13 ⟨_, rfl, hw⟩
def w_X5_takeOut (a0 : Nat) (a1 : Nat) (a2 : Int) (a3 : Int) (h : gaH) (Q : Int → gaH → Prop) : Prop := w_X1_upsInPart a1 a2 (a3 - a2) h (fun r2 hp1 => gA hp1 a0 5 3 (fun r3 => gHas hp1 r3 4 ∧ w_X4_clear r3 hp1 (fun hp4 => gA hp4 a0 5 3 (fun r6 => gHas hp4 r6 4 ∧ w_X4_addPart r6 a1 0 a2 hp4 (fun hp7 => gA hp7 a0 5 3 (fun r9 => gI hp7 a1 4 1 (fun r10 => gHas hp7 r9 4 ∧ w_X4_addPart r9 a1 a3 r10 hp7 (fun hp11 => gA hp11 a0 5 3 (fun r13 => gHas hp11 a1 4 ∧ w_X4_take a1 r13 hp11 (fun hp14 => gHas hp14 a0 5 ∧ w_X5_sheetActDone a0 r2 hp14 (fun r17 hp16 => Q r17 hp16)))))))))))
abbrev rm_X5_takeOut : Room := { frames := 3, cells := 0, slots := 0, locals := 66 }
theorem hd_X5_takeOut : yX5_takeOut.cls = RX5 ∧ (yX5_takeOut.cls ≠ "java/lang/invoke/MethodHandle" ∧ yX5_takeOut.cls ≠ "java/lang/invoke/VarHandle" ∧ (parseMethodDescriptor yX5_takeOut.desc).map (fun d => d.parameters.length) = some 3) := by decide +kernel
theorem k_X5_takeOut {l : Launch} (hst : l.stackTraces = false) {G : gaG} {X : String → gaH → Prop} {a0 : Nat} {a1 : Nat} {a2 : Int} {a3 : Int} {h : gaH} {Q : Int → gaH → Prop} (hw : w_X5_takeOut a0 a1 a2 a3 h Q) : gaC l G yX5_takeOut (gaM yX5_takeOut cX5_takeOut 5 ((some .int))) rm_X5_takeOut [.ref a0, .ref a1, gi a2, gi a3] h (gQi Q) X := by
  refine g_start (lv := [some (.ref a0), some (.ref a1), some (gi a2), some (gi a3), none]) hpl_RX5 hst (Nat.le_of_ble_eq_true rfl) (gaArgs_pad (z := 1) rfl) ww_3_35 ?_
  intro p e s m args below meth c V hT
  unfold w_X5_takeOut at hw
  refine g_aload_n V dX5_takeOut_0 rfl rfl ?_
  refine g_iload_n V dX5_takeOut_1 rfl rfl ?_
  refine g_iload_n V dX5_takeOut_2 rfl rfl ?_
  refine g_iload_n V dX5_takeOut_3 rfl rfl ?_
  refine gi_isub V dX5_takeOut_4 rfl ?_
  refine g_callS (st := []) V (k_X1_upsInPart hst hw) ww_3_36 ww_3_37 ww_1_12 ww_3_38 hd_X1_upsInPart ⟨by decide, by decide⟩ rfl rfl (ga_cat rfl) dX5_takeOut_5 (Nat.zero_le _) (Nat.zero_le _) rfl (gaX_all hT V) (ga_ki (fun r2 hp1 hw => ?_))
  refine g_istore (lv2 := [some (.ref a0), some (.ref a1), some (gi a2), some (gi a3), some (gi r2)]) V dX5_takeOut_8 (by decide) rfl rfl rfl ?_
  refine g_aload_n V dX5_takeOut_10 rfl rfl ?_
  obtain ⟨fs, r3, ha, hv, hw⟩ := hw
  refine g_get (C := RX5) (T := TX5) (N := 9) V 3 rfl hin_RX5 (by decide) (by decide) ww_1_113 rfl ha hv dX5_takeOut_11 rfl ?_
  obtain ⟨hb, hw⟩ := hw
  obtain ⟨fb, hb⟩ := hb
  refine g_callV (C := RX4) (T := TX4) (N := 2) (st := []) V (k_X4_clear hst hw) ww_2_235 ww_1_86 ww_1_87 ww_1_3 ww_1_88 hd_X4_clear ⟨by decide, by decide⟩ rfl (by decide) hb rfl rfl (ga_cat rfl) dX5_takeOut_14 (Nat.zero_le _) (Nat.zero_le _) rfl (gaX_all hT V) (ga_kv (fun hp4 hw => ?_))
  refine g_aload_n V dX5_takeOut_17 rfl rfl ?_
  obtain ⟨fs, r6, ha, hv, hw⟩ := hw
  refine g_get (C := RX5) (T := TX5) (N := 9) V 3 rfl hin_RX5 (by decide) (by decide) ww_1_113 rfl ha hv dX5_takeOut_18 rfl ?_
  refine g_aload_n V dX5_takeOut_21 rfl rfl ?_
  refine g_iconst V (Int32.ofInt 0) dX5_takeOut_22 rfl rfl ?_
  refine g_iload_n V dX5_takeOut_23 rfl rfl ?_
  obtain ⟨hb, hw⟩ := hw
  obtain ⟨fb, hb⟩ := hb
  refine g_callV (C := RX4) (T := TX4) (N := 2) (st := []) V (k_X4_addPart hst hw) ww_2_236 ww_2_46 ww_2_47 ww_1_3 ww_2_48 hd_X4_addPart ⟨by decide, by decide⟩ rfl (by decide) hb rfl rfl (ga_cat rfl) dX5_takeOut_24 (Nat.zero_le _) (Nat.zero_le _) rfl (gaX_all hT V) (ga_kv (fun hp7 hw => ?_))
  refine g_aload_n V dX5_takeOut_27 rfl rfl ?_
  obtain ⟨fs, r9, ha, hv, hw⟩ := hw
  refine g_get (C := RX5) (T := TX5) (N := 9) V 3 rfl hin_RX5 (by decide) (by decide) ww_1_113 rfl ha hv dX5_takeOut_28 rfl ?_
  refine g_aload_n V dX5_takeOut_31 rfl rfl ?_
  refine g_iload_n V dX5_takeOut_32 rfl rfl ?_
  refine g_aload_n V dX5_takeOut_33 rfl rfl ?_
  obtain ⟨fs, r10, ha, hv, hw⟩ := hw
  refine g_getN (C := RX4) (T := TX4) (N := 2) (host := "Wordgarden") V 1 rfl hin_RX4 (by decide) (by decide) gn_3 rfl ha hv dX5_takeOut_34 rfl ?_
  obtain ⟨hb, hw⟩ := hw
  obtain ⟨fb, hb⟩ := hb
  refine g_callV (C := RX4) (T := TX4) (N := 2) (st := []) V (k_X4_addPart hst hw) ww_2_236 ww_2_46 ww_2_47 ww_1_3 ww_2_48 hd_X4_addPart ⟨by decide, by decide⟩ rfl (by decide) hb rfl rfl (ga_cat rfl) dX5_takeOut_37 (Nat.zero_le _) (Nat.zero_le _) rfl (gaX_all hT V) (ga_kv (fun hp11 hw => ?_))
  refine g_aload_n V dX5_takeOut_40 rfl rfl ?_
  refine g_aload_n V dX5_takeOut_41 rfl rfl ?_
  obtain ⟨fs, r13, ha, hv, hw⟩ := hw
  refine g_get (C := RX5) (T := TX5) (N := 9) V 3 rfl hin_RX5 (by decide) (by decide) ww_1_113 rfl ha hv dX5_takeOut_42 rfl ?_
  obtain ⟨hb, hw⟩ := hw
  obtain ⟨fb, hb⟩ := hb
  refine g_callV (C := RX4) (T := TX4) (N := 2) (st := []) V (k_X4_take hst hw) ww_2_237 ww_2_50 ww_2_51 ww_1_3 ww_2_52 hd_X4_take ⟨by decide, by decide⟩ rfl (by decide) hb rfl rfl (ga_cat rfl) dX5_takeOut_45 (Nat.zero_le _) (Nat.zero_le _) rfl (gaX_all hT V) (ga_kv (fun hp14 hw => ?_))
  refine g_aload_n V dX5_takeOut_48 rfl rfl ?_
  refine g_iload V dX5_takeOut_49 rfl rfl ?_
  obtain ⟨hb, hw⟩ := hw
  obtain ⟨fb, hb⟩ := hb
  refine g_callV (C := RX5) (T := TX5) (N := 9) (st := []) V (k_X5_sheetActDone hst hw) ww_2_216 ww_2_218 wp_1_8 ww_1_1 ww_2_219 hd_X5_sheetActDone ⟨by decide, by decide⟩ rfl (by decide) hb rfl rfl (ga_cat rfl) dX5_takeOut_51 (Nat.zero_le _) (Nat.zero_le _) rfl (gaX_all hT V) (ga_ki (fun r17 hp16 hw => ?_))
  exact g_iret V rfl rfl dX5_takeOut_54 ⟨_, rfl, hw⟩
def w_X5_remove_J30 (X : String → gaH → Prop) (Q : Int → gaH → Prop) (v0 : Nat) (v2 : Int) (v3 : Int) (v4 : Nat) (t0 : Int) (h : gaH) (kc ks : Nat) : Prop := gCall 1 6 kc ks (fun c3 s4 => w_X5_needIndex X t0 h (fun hp1 => gHas hp1 v0 5 ∧ w_X5_takeOut v0 v4 v2 v3 hp1 (fun r6 hp5 => Q r6 hp5)))
def w_X5_remove_J29 (X : String → gaH → Prop) (Q : Int → gaH → Prop) (v0 : Nat) (v2 : Int) (v3 : Int) (v4 : Nat) (h : gaH) (kc ks : Nat) : Prop := w_X5_remove_J30 X Q v0 v2 v3 v4 0 h kc ks
def w_X5_remove (X : String → gaH → Prop) (a0 : Nat) (a1 : Int) (a2 : Int) (a3 : Int) (h : gaH) (Q : Int → gaH → Prop) : Prop := gHas h a0 5 ∧ gCall 1 6 2 12 (fun c3 s4 => w_X5_wordOf X a0 a1 h (fun r2 hp1 => gR a2 ∧ (if a2 < 0 then w_X5_remove_J29 X Q a0 a2 a3 r2 hp1 c3 s4 else gR a2 ∧ gR a3 ∧ (if a3 < a2 then w_X5_remove_J29 X Q a0 a2 a3 r2 hp1 c3 s4 else gI hp1 r2 4 1 (fun r5 => gR a3 ∧ gR r5 ∧ (if r5 < a3 then w_X5_remove_J29 X Q a0 a2 a3 r2 hp1 c3 s4 else w_X5_remove_J30 X Q a0 a2 a3 r2 1 hp1 c3 s4))))))
abbrev rm_X5_remove : Room := { frames := 9, cells := 2, slots := 12, locals := 221 }
theorem hd_X5_remove : yX5_remove.cls = RX5 ∧ (yX5_remove.cls ≠ "java/lang/invoke/MethodHandle" ∧ yX5_remove.cls ≠ "java/lang/invoke/VarHandle" ∧ (parseMethodDescriptor yX5_remove.desc).map (fun d => d.parameters.length) = some 3) := by decide +kernel
theorem k_X5_remove {l : Launch} (hst : l.stackTraces = false) {G : gaG} {X : String → gaH → Prop} {a0 : Nat} {a1 : Int} {a2 : Int} {a3 : Int} {h : gaH} {Q : Int → gaH → Prop} (hw : w_X5_remove X a0 a1 a2 a3 h Q) : gaC l G yX5_remove (gaM yX5_remove cX5_remove 5 ((some .int))) rm_X5_remove [.ref a0, gi a1, gi a2, gi a3] h (gQi Q) X := by
  refine g_start (lv := [some (.ref a0), some (gi a1), some (gi a2), some (gi a3), none]) hpl_RX5 hst (Nat.le_of_ble_eq_true rfl) (gaArgs_pad (z := 1) rfl) ww_3_45 ?_
  intro p e s m args below meth c V hT
  have h_X5_remove_J30 : ∀ (v0 : Nat) (v2 : Int) (v3 : Int) (v4 : Nat) (t0 : Int) (h : gaH) (kc ks : Nat), w_X5_remove_J30 X Q v0 v2 v3 v4 t0 h kc ks → gaP p l e rm_X5_remove s m args below meth c G 5 (gaZ below G (gQi Q) X args s rm_X5_remove) 30 [some (.ref v0), none, some (gi v2), some (gi v3), some (.ref v4)] [gi t0] h kc ks := by
    intro v0 v2 v3 v4 t0 h kc ks hw
    unfold w_X5_remove_J30 at hw
    obtain ⟨hk, hj, c3, s4, ec, es, hw⟩ := hw
    refine g_callS (st := []) V (k_X5_needIndex hst hw) ww_3_5 ww_3_6 ww_1_1 ww_3_7 hd_X5_needIndex ⟨by decide, by decide⟩ rfl rfl (ga_cat rfl) dX5_remove_30 hk hj rfl (gaX_all hT V) (ga_kv (fun hp1 hw => ?_))
    refine ga_re ec es ?_
    refine g_aload_n V dX5_remove_33 rfl rfl ?_
    refine g_aload V dX5_remove_34 rfl rfl ?_
    refine g_iload_n V dX5_remove_36 rfl rfl ?_
    refine g_iload_n V dX5_remove_37 rfl rfl ?_
    obtain ⟨hb, hw⟩ := hw
    obtain ⟨fb, hb⟩ := hb
    refine g_callV (C := RX5) (T := TX5) (N := 9) (st := []) V (k_X5_takeOut hst hw) ww_3_32 ww_3_34 wp_1_11 ww_1_1 ww_3_35 hd_X5_takeOut ⟨by decide, by decide⟩ rfl (by decide) hb rfl rfl (ga_cat rfl) dX5_remove_38 (Nat.zero_le _) (Nat.zero_le _) rfl (gaX_all hT V) (ga_ki (fun r6 hp5 hw => ?_))
    exact g_iret V rfl rfl dX5_remove_41 ⟨_, rfl, hw⟩
  have h_X5_remove_J29 : ∀ (v0 : Nat) (v2 : Int) (v3 : Int) (v4 : Nat) (h : gaH) (kc ks : Nat), w_X5_remove_J29 X Q v0 v2 v3 v4 h kc ks → gaP p l e rm_X5_remove s m args below meth c G 5 (gaZ below G (gQi Q) X args s rm_X5_remove) 29 [some (.ref v0), none, some (gi v2), some (gi v3), some (.ref v4)] [] h kc ks := by
    intro v0 v2 v3 v4 h kc ks hw
    unfold w_X5_remove_J29 at hw
    refine g_iconst V (Int32.ofInt 0) dX5_remove_29 rfl rfl ?_
    exact h_X5_remove_J30 v0 v2 v3 v4 0 h kc ks hw
  show gaP p l e rm_X5_remove s m args below meth c G 5 (gaZ below G (gQi Q) X args s rm_X5_remove) 0 [some (.ref a0), some (gi a1), some (gi a2), some (gi a3), none] [] h 2 12
  unfold w_X5_remove at hw
  refine g_aload_n V dX5_remove_0 rfl rfl ?_
  refine g_iload_n V dX5_remove_1 rfl rfl ?_
  obtain ⟨hb, hw⟩ := hw
  obtain ⟨fb, hb⟩ := hb
  obtain ⟨hk, hj, c3, s4, ec, es, hw⟩ := hw
  refine g_callV (C := RX5) (T := TX5) (N := 9) (st := []) V (k_X5_wordOf hst hw) ww_1_150 ww_1_152 wp_1_1 ww_1_1 ww_1_153 hd_X5_wordOf ⟨by decide, by decide⟩ rfl (by decide) hb rfl rfl (ga_cat rfl) dX5_remove_2 hk hj rfl (gaX_all hT V) (ga_ka (fun r2 hp1 hw => ?_))
  refine ga_re ec es ?_
  refine g_astore (lv2 := [some (.ref a0), some (gi a1), some (gi a2), some (gi a3), some (.ref r2)]) V dX5_remove_5 (by decide) rfl rfl rfl ?_
  refine g_iload_n V dX5_remove_7 rfl rfl ?_
  obtain ⟨hx0, hw⟩ := hw
  refine gi_if_lt V dX5_remove_8 rfl rfl hx0 (fun q => ?_) (fun q => ?_)
  · have hw := ga_t q hw
    refine g_less (bs := [true, false, true, true, true]) (lv2 := [some (.ref a0), none, some (gi a2), some (gi a3), some (.ref r2)]) rfl ?_
    exact h_X5_remove_J29 a0 a2 a3 r2 hp1 c3 s4 hw
  · have hw := ga_f q hw
    refine g_iload_n V dX5_remove_11 rfl rfl ?_
    refine g_iload_n V dX5_remove_12 rfl rfl ?_
    obtain ⟨hx0, hx1, hw⟩ := hw
    refine gi_icmp_gt V dX5_remove_13 rfl rfl hx0 hx1 (fun q => ?_) (fun q => ?_)
    · have hw := ga_t q hw
      refine g_less (bs := [true, false, true, true, true]) (lv2 := [some (.ref a0), none, some (gi a2), some (gi a3), some (.ref r2)]) rfl ?_
      exact h_X5_remove_J29 a0 a2 a3 r2 hp1 c3 s4 hw
    · have hw := ga_f q hw
      refine g_iload_n V dX5_remove_16 rfl rfl ?_
      refine g_aload V dX5_remove_17 rfl rfl ?_
      obtain ⟨fs, r5, ha, hv, hw⟩ := hw
      refine g_getN (C := RX4) (T := TX4) (N := 2) (host := "Wordgarden") V 1 rfl hin_RX4 (by decide) (by decide) gn_3 rfl ha hv dX5_remove_19 rfl ?_
      obtain ⟨hx0, hx1, hw⟩ := hw
      refine gi_icmp_gt V dX5_remove_22 rfl rfl hx0 hx1 (fun q => ?_) (fun q => ?_)
      · have hw := ga_t q hw
        refine g_less (bs := [true, false, true, true, true]) (lv2 := [some (.ref a0), none, some (gi a2), some (gi a3), some (.ref r2)]) rfl ?_
        exact h_X5_remove_J29 a0 a2 a3 r2 hp1 c3 s4 hw
      · have hw := ga_f q hw
        refine g_iconst V (Int32.ofInt 1) dX5_remove_25 rfl rfl ?_
        refine g_goto V dX5_remove_26 rfl ?_
        refine g_less (bs := [true, false, true, true, true]) (lv2 := [some (.ref a0), none, some (gi a2), some (gi a3), some (.ref r2)]) rfl ?_
        exact h_X5_remove_J30 a0 a2 a3 r2 1 hp1 c3 s4 hw
def w_X5_removeSign_J23 (X : String → gaH → Prop) (Q : Int → gaH → Prop) (v0 : Nat) (v2 : Int) (v3 : Nat) (t0 : Int) (h : gaH) (kc ks : Nat) : Prop := gCall 1 6 kc ks (fun c3 s4 => w_X5_needIndex X t0 h (fun hp1 => gHas hp1 v0 5 ∧ w_X5_takeOut v0 v3 v2 (v2 + 1) hp1 (fun r6 hp5 => Q r6 hp5)))
def w_X5_removeSign_J22 (X : String → gaH → Prop) (Q : Int → gaH → Prop) (v0 : Nat) (v2 : Int) (v3 : Nat) (h : gaH) (kc ks : Nat) : Prop := w_X5_removeSign_J23 X Q v0 v2 v3 0 h kc ks
def w_X5_removeSign (X : String → gaH → Prop) (a0 : Nat) (a1 : Int) (a2 : Int) (h : gaH) (Q : Int → gaH → Prop) : Prop := gHas h a0 5 ∧ gCall 1 6 2 12 (fun c3 s4 => w_X5_wordOf X a0 a1 h (fun r2 hp1 => gR a2 ∧ (if a2 < 0 then w_X5_removeSign_J22 X Q a0 a2 r2 hp1 c3 s4 else gI hp1 r2 4 1 (fun r5 => gR a2 ∧ gR r5 ∧ (if r5 ≤ a2 then w_X5_removeSign_J22 X Q a0 a2 r2 hp1 c3 s4 else w_X5_removeSign_J23 X Q a0 a2 r2 1 hp1 c3 s4)))))
abbrev rm_X5_removeSign : Room := { frames := 9, cells := 2, slots := 12, locals := 221 }
theorem hd_X5_removeSign : yX5_removeSign.cls = RX5 ∧ (yX5_removeSign.cls ≠ "java/lang/invoke/MethodHandle" ∧ yX5_removeSign.cls ≠ "java/lang/invoke/VarHandle" ∧ (parseMethodDescriptor yX5_removeSign.desc).map (fun d => d.parameters.length) = some 2) := by decide +kernel
theorem k_X5_removeSign {l : Launch} (hst : l.stackTraces = false) {G : gaG} {X : String → gaH → Prop} {a0 : Nat} {a1 : Int} {a2 : Int} {h : gaH} {Q : Int → gaH → Prop} (hw : w_X5_removeSign X a0 a1 a2 h Q) : gaC l G yX5_removeSign (gaM yX5_removeSign cX5_removeSign 4 ((some .int))) rm_X5_removeSign [.ref a0, gi a1, gi a2] h (gQi Q) X := by
  refine g_start (lv := [some (.ref a0), some (gi a1), some (gi a2), none]) hpl_RX5 hst (Nat.le_of_ble_eq_true rfl) (gaArgs_pad (z := 1) rfl) ww_3_31 ?_
  intro p e s m args below meth c V hT
  have h_X5_removeSign_J23 : ∀ (v0 : Nat) (v2 : Int) (v3 : Nat) (t0 : Int) (h : gaH) (kc ks : Nat), w_X5_removeSign_J23 X Q v0 v2 v3 t0 h kc ks → gaP p l e rm_X5_removeSign s m args below meth c G 4 (gaZ below G (gQi Q) X args s rm_X5_removeSign) 23 [some (.ref v0), none, some (gi v2), some (.ref v3)] [gi t0] h kc ks := by
    intro v0 v2 v3 t0 h kc ks hw
    unfold w_X5_removeSign_J23 at hw
    obtain ⟨hk, hj, c3, s4, ec, es, hw⟩ := hw
    refine g_callS (st := []) V (k_X5_needIndex hst hw) ww_3_5 ww_3_6 ww_1_1 ww_3_7 hd_X5_needIndex ⟨by decide, by decide⟩ rfl rfl (ga_cat rfl) dX5_removeSign_23 hk hj rfl (gaX_all hT V) (ga_kv (fun hp1 hw => ?_))
    refine ga_re ec es ?_
    refine g_aload_n V dX5_removeSign_26 rfl rfl ?_
    refine g_aload_n V dX5_removeSign_27 rfl rfl ?_
    refine g_iload_n V dX5_removeSign_28 rfl rfl ?_
    refine g_iload_n V dX5_removeSign_29 rfl rfl ?_
    refine g_iconst V (Int32.ofInt 1) dX5_removeSign_30 rfl rfl ?_
    refine gi_iadd V dX5_removeSign_31 rfl ?_
    obtain ⟨hb, hw⟩ := hw
    obtain ⟨fb, hb⟩ := hb
    refine g_callV (C := RX5) (T := TX5) (N := 9) (st := []) V (k_X5_takeOut hst hw) ww_3_32 ww_3_34 wp_1_11 ww_1_1 ww_3_35 hd_X5_takeOut ⟨by decide, by decide⟩ rfl (by decide) hb rfl rfl (ga_cat rfl) dX5_removeSign_32 (Nat.zero_le _) (Nat.zero_le _) rfl (gaX_all hT V) (ga_ki (fun r6 hp5 hw => ?_))
    exact g_iret V rfl rfl dX5_removeSign_35 ⟨_, rfl, hw⟩
  have h_X5_removeSign_J22 : ∀ (v0 : Nat) (v2 : Int) (v3 : Nat) (h : gaH) (kc ks : Nat), w_X5_removeSign_J22 X Q v0 v2 v3 h kc ks → gaP p l e rm_X5_removeSign s m args below meth c G 4 (gaZ below G (gQi Q) X args s rm_X5_removeSign) 22 [some (.ref v0), none, some (gi v2), some (.ref v3)] [] h kc ks := by
    intro v0 v2 v3 h kc ks hw
    unfold w_X5_removeSign_J22 at hw
    refine g_iconst V (Int32.ofInt 0) dX5_removeSign_22 rfl rfl ?_
    exact h_X5_removeSign_J23 v0 v2 v3 0 h kc ks hw
  show gaP p l e rm_X5_removeSign s m args below meth c G 4 (gaZ below G (gQi Q) X args s rm_X5_removeSign) 0 [some (.ref a0), some (gi a1), some (gi a2), none] [] h 2 12
  unfold w_X5_removeSign at hw
  refine g_aload_n V dX5_removeSign_0 rfl rfl ?_
  refine g_iload_n V dX5_removeSign_1 rfl rfl ?_
  obtain ⟨hb, hw⟩ := hw
  obtain ⟨fb, hb⟩ := hb
  obtain ⟨hk, hj, c3, s4, ec, es, hw⟩ := hw
  refine g_callV (C := RX5) (T := TX5) (N := 9) (st := []) V (k_X5_wordOf hst hw) ww_1_150 ww_1_152 wp_1_1 ww_1_1 ww_1_153 hd_X5_wordOf ⟨by decide, by decide⟩ rfl (by decide) hb rfl rfl (ga_cat rfl) dX5_removeSign_2 hk hj rfl (gaX_all hT V) (ga_ka (fun r2 hp1 hw => ?_))
  refine ga_re ec es ?_
  refine g_astore_n (lv2 := [some (.ref a0), some (gi a1), some (gi a2), some (.ref r2)]) V dX5_removeSign_5 (by decide) rfl rfl rfl ?_
  refine g_iload_n V dX5_removeSign_6 rfl rfl ?_
  obtain ⟨hx0, hw⟩ := hw
  refine gi_if_lt V dX5_removeSign_7 rfl rfl hx0 (fun q => ?_) (fun q => ?_)
  · have hw := ga_t q hw
    refine g_less (bs := [true, false, true, true]) (lv2 := [some (.ref a0), none, some (gi a2), some (.ref r2)]) rfl ?_
    exact h_X5_removeSign_J22 a0 a2 r2 hp1 c3 s4 hw
  · have hw := ga_f q hw
    refine g_iload_n V dX5_removeSign_10 rfl rfl ?_
    refine g_aload_n V dX5_removeSign_11 rfl rfl ?_
    obtain ⟨fs, r5, ha, hv, hw⟩ := hw
    refine g_getN (C := RX4) (T := TX4) (N := 2) (host := "Wordgarden") V 1 rfl hin_RX4 (by decide) (by decide) gn_3 rfl ha hv dX5_removeSign_12 rfl ?_
    obtain ⟨hx0, hx1, hw⟩ := hw
    refine gi_icmp_ge V dX5_removeSign_15 rfl rfl hx0 hx1 (fun q => ?_) (fun q => ?_)
    · have hw := ga_t q hw
      refine g_less (bs := [true, false, true, true]) (lv2 := [some (.ref a0), none, some (gi a2), some (.ref r2)]) rfl ?_
      exact h_X5_removeSign_J22 a0 a2 r2 hp1 c3 s4 hw
    · have hw := ga_f q hw
      refine g_iconst V (Int32.ofInt 1) dX5_removeSign_18 rfl rfl ?_
      refine g_goto V dX5_removeSign_19 rfl ?_
      refine g_less (bs := [true, false, true, true]) (lv2 := [some (.ref a0), none, some (gi a2), some (.ref r2)]) rfl ?_
      exact h_X5_removeSign_J23 a0 a2 r2 1 hp1 c3 s4 hw
def w_X5_replace_J38 (X : String → gaH → Prop) (Q : Int → gaH → Prop) (v0 : Nat) (v2 : Int) (v3 : Int) (v5 : Nat) (v6 : Nat) (t0 : Int) (h : gaH) (kc ks : Nat) : Prop := gCall 1 6 kc ks (fun c3 s4 => w_X5_needIndex X t0 h (fun hp1 => gHas hp1 v0 5 ∧ w_X5_exchangePart v0 v5 v2 v3 v6 hp1 (fun r6 hp5 => Q r6 hp5)))
def w_X5_replace_J37 (X : String → gaH → Prop) (Q : Int → gaH → Prop) (v0 : Nat) (v2 : Int) (v3 : Int) (v5 : Nat) (v6 : Nat) (h : gaH) (kc ks : Nat) : Prop := w_X5_replace_J38 X Q v0 v2 v3 v5 v6 0 h kc ks
def w_X5_replace (X : String → gaH → Prop) (a0 : Nat) (a1 : Int) (a2 : Int) (a3 : Int) (a4 : Int) (h : gaH) (Q : Int → gaH → Prop) : Prop := gHas h a0 5 ∧ gCall 1 6 3 18 (fun c3 s4 => w_X5_wordOf X a0 a1 h (fun r2 hp1 => gHas hp1 a0 5 ∧ gCall 1 6 c3 s4 (fun c7 s8 => w_X5_wordOf X a0 a4 hp1 (fun r6 hp5 => gR a2 ∧ (if a2 < 0 then w_X5_replace_J37 X Q a0 a2 a3 r2 r6 hp5 c7 s8 else gR a2 ∧ gR a3 ∧ (if a3 < a2 then w_X5_replace_J37 X Q a0 a2 a3 r2 r6 hp5 c7 s8 else gI hp5 r2 4 1 (fun r9 => gR a3 ∧ gR r9 ∧ (if r9 < a3 then w_X5_replace_J37 X Q a0 a2 a3 r2 r6 hp5 c7 s8 else w_X5_replace_J38 X Q a0 a2 a3 r2 r6 1 hp5 c7 s8))))))))
abbrev rm_X5_replace : Room := { frames := 9, cells := 3, slots := 18, locals := 221 }
theorem hd_X5_replace : yX5_replace.cls = RX5 ∧ (yX5_replace.cls ≠ "java/lang/invoke/MethodHandle" ∧ yX5_replace.cls ≠ "java/lang/invoke/VarHandle" ∧ (parseMethodDescriptor yX5_replace.desc).map (fun d => d.parameters.length) = some 4) := by decide +kernel
theorem k_X5_replace {l : Launch} (hst : l.stackTraces = false) {G : gaG} {X : String → gaH → Prop} {a0 : Nat} {a1 : Int} {a2 : Int} {a3 : Int} {a4 : Int} {h : gaH} {Q : Int → gaH → Prop} (hw : w_X5_replace X a0 a1 a2 a3 a4 h Q) : gaC l G yX5_replace (gaM yX5_replace cX5_replace 7 ((some .int))) rm_X5_replace [.ref a0, gi a1, gi a2, gi a3, gi a4] h (gQi Q) X := by
  refine g_start (lv := [some (.ref a0), some (gi a1), some (gi a2), some (gi a3), some (gi a4), none, none]) hpl_RX5 hst (Nat.le_of_ble_eq_true rfl) (gaArgs_pad (z := 2) rfl) ww_3_52 ?_
  intro p e s m args below meth c V hT
  have h_X5_replace_J38 : ∀ (v0 : Nat) (v2 : Int) (v3 : Int) (v5 : Nat) (v6 : Nat) (t0 : Int) (h : gaH) (kc ks : Nat), w_X5_replace_J38 X Q v0 v2 v3 v5 v6 t0 h kc ks → gaP p l e rm_X5_replace s m args below meth c G 7 (gaZ below G (gQi Q) X args s rm_X5_replace) 38 [some (.ref v0), none, some (gi v2), some (gi v3), none, some (.ref v5), some (.ref v6)] [gi t0] h kc ks := by
    intro v0 v2 v3 v5 v6 t0 h kc ks hw
    unfold w_X5_replace_J38 at hw
    obtain ⟨hk, hj, c3, s4, ec, es, hw⟩ := hw
    refine g_callS (st := []) V (k_X5_needIndex hst hw) ww_3_5 ww_3_6 ww_1_1 ww_3_7 hd_X5_needIndex ⟨by decide, by decide⟩ rfl rfl (ga_cat rfl) dX5_replace_38 hk hj rfl (gaX_all hT V) (ga_kv (fun hp1 hw => ?_))
    refine ga_re ec es ?_
    refine g_aload_n V dX5_replace_41 rfl rfl ?_
    refine g_aload V dX5_replace_42 rfl rfl ?_
    refine g_iload_n V dX5_replace_44 rfl rfl ?_
    refine g_iload_n V dX5_replace_45 rfl rfl ?_
    refine g_aload V dX5_replace_46 rfl rfl ?_
    obtain ⟨hb, hw⟩ := hw
    obtain ⟨fb, hb⟩ := hb
    refine g_callV (C := RX5) (T := TX5) (N := 9) (st := []) V (k_X5_exchangePart hst hw) ww_2_227 ww_2_229 wp_1_9 ww_1_1 ww_2_230 hd_X5_exchangePart ⟨by decide, by decide⟩ rfl (by decide) hb rfl rfl (ga_cat rfl) dX5_replace_48 (Nat.zero_le _) (Nat.zero_le _) rfl (gaX_all hT V) (ga_ki (fun r6 hp5 hw => ?_))
    exact g_iret V rfl rfl dX5_replace_51 ⟨_, rfl, hw⟩
  have h_X5_replace_J37 : ∀ (v0 : Nat) (v2 : Int) (v3 : Int) (v5 : Nat) (v6 : Nat) (h : gaH) (kc ks : Nat), w_X5_replace_J37 X Q v0 v2 v3 v5 v6 h kc ks → gaP p l e rm_X5_replace s m args below meth c G 7 (gaZ below G (gQi Q) X args s rm_X5_replace) 37 [some (.ref v0), none, some (gi v2), some (gi v3), none, some (.ref v5), some (.ref v6)] [] h kc ks := by
    intro v0 v2 v3 v5 v6 h kc ks hw
    unfold w_X5_replace_J37 at hw
    refine g_iconst V (Int32.ofInt 0) dX5_replace_37 rfl rfl ?_
    exact h_X5_replace_J38 v0 v2 v3 v5 v6 0 h kc ks hw
  show gaP p l e rm_X5_replace s m args below meth c G 7 (gaZ below G (gQi Q) X args s rm_X5_replace) 0 [some (.ref a0), some (gi a1), some (gi a2), some (gi a3), some (gi a4), none, none] [] h 3 18
  unfold w_X5_replace at hw
  refine g_aload_n V dX5_replace_0 rfl rfl ?_
  refine g_iload_n V dX5_replace_1 rfl rfl ?_
  obtain ⟨hb, hw⟩ := hw
  obtain ⟨fb, hb⟩ := hb
  obtain ⟨hk, hj, c3, s4, ec, es, hw⟩ := hw
  refine g_callV (C := RX5) (T := TX5) (N := 9) (st := []) V (k_X5_wordOf hst hw) ww_1_150 ww_1_152 wp_1_1 ww_1_1 ww_1_153 hd_X5_wordOf ⟨by decide, by decide⟩ rfl (by decide) hb rfl rfl (ga_cat rfl) dX5_replace_2 hk hj rfl (gaX_all hT V) (ga_ka (fun r2 hp1 hw => ?_))
  refine ga_re ec es ?_
  refine g_astore (lv2 := [some (.ref a0), some (gi a1), some (gi a2), some (gi a3), some (gi a4), some (.ref r2), none]) V dX5_replace_5 (by decide) rfl rfl rfl ?_
  refine g_aload_n V dX5_replace_7 rfl rfl ?_
  refine g_iload V dX5_replace_8 rfl rfl ?_
  obtain ⟨hb, hw⟩ := hw
  obtain ⟨fb, hb⟩ := hb
  obtain ⟨hk, hj, c7, s8, ec, es, hw⟩ := hw
  refine g_callV (C := RX5) (T := TX5) (N := 9) (st := []) V (k_X5_wordOf hst hw) ww_1_150 ww_1_152 wp_1_1 ww_1_1 ww_1_153 hd_X5_wordOf ⟨by decide, by decide⟩ rfl (by decide) hb rfl rfl (ga_cat rfl) dX5_replace_10 hk hj rfl (gaX_all hT V) (ga_ka (fun r6 hp5 hw => ?_))
  refine ga_re ec es ?_
  refine g_astore (lv2 := [some (.ref a0), some (gi a1), some (gi a2), some (gi a3), some (gi a4), some (.ref r2), some (.ref r6)]) V dX5_replace_13 (by decide) rfl rfl rfl ?_
  refine g_iload_n V dX5_replace_15 rfl rfl ?_
  obtain ⟨hx0, hw⟩ := hw
  refine gi_if_lt V dX5_replace_16 rfl rfl hx0 (fun q => ?_) (fun q => ?_)
  · have hw := ga_t q hw
    refine g_less (bs := [true, false, true, true, false, true, true]) (lv2 := [some (.ref a0), none, some (gi a2), some (gi a3), none, some (.ref r2), some (.ref r6)]) rfl ?_
    exact h_X5_replace_J37 a0 a2 a3 r2 r6 hp5 c7 s8 hw
  · have hw := ga_f q hw
    refine g_iload_n V dX5_replace_19 rfl rfl ?_
    refine g_iload_n V dX5_replace_20 rfl rfl ?_
    obtain ⟨hx0, hx1, hw⟩ := hw
    refine gi_icmp_gt V dX5_replace_21 rfl rfl hx0 hx1 (fun q => ?_) (fun q => ?_)
    · have hw := ga_t q hw
      refine g_less (bs := [true, false, true, true, false, true, true]) (lv2 := [some (.ref a0), none, some (gi a2), some (gi a3), none, some (.ref r2), some (.ref r6)]) rfl ?_
      exact h_X5_replace_J37 a0 a2 a3 r2 r6 hp5 c7 s8 hw
    · have hw := ga_f q hw
      refine g_iload_n V dX5_replace_24 rfl rfl ?_
      refine g_aload V dX5_replace_25 rfl rfl ?_
      obtain ⟨fs, r9, ha, hv, hw⟩ := hw
      refine g_getN (C := RX4) (T := TX4) (N := 2) (host := "Wordgarden") V 1 rfl hin_RX4 (by decide) (by decide) gn_3 rfl ha hv dX5_replace_27 rfl ?_
      obtain ⟨hx0, hx1, hw⟩ := hw
      refine gi_icmp_gt V dX5_replace_30 rfl rfl hx0 hx1 (fun q => ?_) (fun q => ?_)
      · have hw := ga_t q hw
        refine g_less (bs := [true, false, true, true, false, true, true]) (lv2 := [some (.ref a0), none, some (gi a2), some (gi a3), none, some (.ref r2), some (.ref r6)]) rfl ?_
        exact h_X5_replace_J37 a0 a2 a3 r2 r6 hp5 c7 s8 hw
      · have hw := ga_f q hw
        refine g_iconst V (Int32.ofInt 1) dX5_replace_33 rfl rfl ?_
        refine g_goto V dX5_replace_34 rfl ?_
        refine g_less (bs := [true, false, true, true, false, true, true]) (lv2 := [some (.ref a0), none, some (gi a2), some (gi a3), none, some (.ref r2), some (.ref r6)]) rfl ?_
        exact h_X5_replace_J38 a0 a2 a3 r2 r6 1 hp5 c7 s8 hw
def w_X5_rotate_J23 (X : String → gaH → Prop) (Q : Int → gaH → Prop) (v0 : Nat) (v2 : Int) (v3 : Nat) (t0 : Int) (h : gaH) (kc ks : Nat) : Prop := gCall 1 6 kc ks (fun c3 s4 => w_X5_needArgument X t0 h (fun hp1 => gA hp1 v0 5 3 (fun r5 => gHas hp1 r5 4 ∧ w_X4_clear r5 hp1 (fun hp6 => gA hp6 v0 5 3 (fun r8 => gI hp6 v3 4 1 (fun r9 => gHas hp6 r8 4 ∧ w_X4_addPart r8 v3 v2 r9 hp6 (fun hp10 => gA hp10 v0 5 3 (fun r12 => gHas hp10 r12 4 ∧ w_X4_addPart r12 v3 0 v2 hp10 (fun hp13 => gA hp13 v0 5 3 (fun r15 => gHas hp13 v0 5 ∧ w_X5_settle v0 v3 r15 hp13 (fun r17 hp16 => Q r17 hp16)))))))))))
def w_X5_rotate_J22 (X : String → gaH → Prop) (Q : Int → gaH → Prop) (v0 : Nat) (v2 : Int) (v3 : Nat) (h : gaH) (kc ks : Nat) : Prop := w_X5_rotate_J23 X Q v0 v2 v3 0 h kc ks
def w_X5_rotate (X : String → gaH → Prop) (a0 : Nat) (a1 : Int) (a2 : Int) (h : gaH) (Q : Int → gaH → Prop) : Prop := gHas h a0 5 ∧ gCall 1 6 2 12 (fun c3 s4 => w_X5_wordOf X a0 a1 h (fun r2 hp1 => gR a2 ∧ (if a2 < 0 then w_X5_rotate_J22 X Q a0 a2 r2 hp1 c3 s4 else gI hp1 r2 4 1 (fun r5 => gR a2 ∧ gR r5 ∧ (if r5 < a2 then w_X5_rotate_J22 X Q a0 a2 r2 hp1 c3 s4 else w_X5_rotate_J23 X Q a0 a2 r2 1 hp1 c3 s4)))))
abbrev rm_X5_rotate : Room := { frames := 9, cells := 2, slots := 12, locals := 221 }
theorem hd_X5_rotate : yX5_rotate.cls = RX5 ∧ (yX5_rotate.cls ≠ "java/lang/invoke/MethodHandle" ∧ yX5_rotate.cls ≠ "java/lang/invoke/VarHandle" ∧ (parseMethodDescriptor yX5_rotate.desc).map (fun d => d.parameters.length) = some 2) := by decide +kernel
theorem k_X5_rotate {l : Launch} (hst : l.stackTraces = false) {G : gaG} {X : String → gaH → Prop} {a0 : Nat} {a1 : Int} {a2 : Int} {h : gaH} {Q : Int → gaH → Prop} (hw : w_X5_rotate X a0 a1 a2 h Q) : gaC l G yX5_rotate (gaM yX5_rotate cX5_rotate 4 ((some .int))) rm_X5_rotate [.ref a0, gi a1, gi a2] h (gQi Q) X := by
  refine g_start (lv := [some (.ref a0), some (gi a1), some (gi a2), none]) hpl_RX5 hst (Nat.le_of_ble_eq_true rfl) (gaArgs_pad (z := 1) rfl) ww_3_85 ?_
  intro p e s m args below meth c V hT
  have h_X5_rotate_J23 : ∀ (v0 : Nat) (v2 : Int) (v3 : Nat) (t0 : Int) (h : gaH) (kc ks : Nat), w_X5_rotate_J23 X Q v0 v2 v3 t0 h kc ks → gaP p l e rm_X5_rotate s m args below meth c G 4 (gaZ below G (gQi Q) X args s rm_X5_rotate) 23 [some (.ref v0), none, some (gi v2), some (.ref v3)] [gi t0] h kc ks := by
    intro v0 v2 v3 t0 h kc ks hw
    unfold w_X5_rotate_J23 at hw
    obtain ⟨hk, hj, c3, s4, ec, es, hw⟩ := hw
    refine g_callS (st := []) V (k_X5_needArgument hst hw) ww_2_172 ww_2_173 ww_1_1 ww_2_174 hd_X5_needArgument ⟨by decide, by decide⟩ rfl rfl (ga_cat rfl) dX5_rotate_23 hk hj rfl (gaX_all hT V) (ga_kv (fun hp1 hw => ?_))
    refine ga_re ec es ?_
    refine g_aload_n V dX5_rotate_26 rfl rfl ?_
    obtain ⟨fs, r5, ha, hv, hw⟩ := hw
    refine g_get (C := RX5) (T := TX5) (N := 9) V 3 rfl hin_RX5 (by decide) (by decide) ww_1_113 rfl ha hv dX5_rotate_27 rfl ?_
    obtain ⟨hb, hw⟩ := hw
    obtain ⟨fb, hb⟩ := hb
    refine g_callV (C := RX4) (T := TX4) (N := 2) (st := []) V (k_X4_clear hst hw) ww_2_235 ww_1_86 ww_1_87 ww_1_3 ww_1_88 hd_X4_clear ⟨by decide, by decide⟩ rfl (by decide) hb rfl rfl (ga_cat rfl) dX5_rotate_30 (Nat.zero_le _) (Nat.zero_le _) rfl (gaX_all hT V) (ga_kv (fun hp6 hw => ?_))
    refine g_aload_n V dX5_rotate_33 rfl rfl ?_
    obtain ⟨fs, r8, ha, hv, hw⟩ := hw
    refine g_get (C := RX5) (T := TX5) (N := 9) V 3 rfl hin_RX5 (by decide) (by decide) ww_1_113 rfl ha hv dX5_rotate_34 rfl ?_
    refine g_aload_n V dX5_rotate_37 rfl rfl ?_
    refine g_iload_n V dX5_rotate_38 rfl rfl ?_
    refine g_aload_n V dX5_rotate_39 rfl rfl ?_
    obtain ⟨fs, r9, ha, hv, hw⟩ := hw
    refine g_getN (C := RX4) (T := TX4) (N := 2) (host := "Wordgarden") V 1 rfl hin_RX4 (by decide) (by decide) gn_3 rfl ha hv dX5_rotate_40 rfl ?_
    obtain ⟨hb, hw⟩ := hw
    obtain ⟨fb, hb⟩ := hb
    refine g_callV (C := RX4) (T := TX4) (N := 2) (st := []) V (k_X4_addPart hst hw) ww_2_236 ww_2_46 ww_2_47 ww_1_3 ww_2_48 hd_X4_addPart ⟨by decide, by decide⟩ rfl (by decide) hb rfl rfl (ga_cat rfl) dX5_rotate_43 (Nat.zero_le _) (Nat.zero_le _) rfl (gaX_all hT V) (ga_kv (fun hp10 hw => ?_))
    refine g_aload_n V dX5_rotate_46 rfl rfl ?_
    obtain ⟨fs, r12, ha, hv, hw⟩ := hw
    refine g_get (C := RX5) (T := TX5) (N := 9) V 3 rfl hin_RX5 (by decide) (by decide) ww_1_113 rfl ha hv dX5_rotate_47 rfl ?_
    refine g_aload_n V dX5_rotate_50 rfl rfl ?_
    refine g_iconst V (Int32.ofInt 0) dX5_rotate_51 rfl rfl ?_
    refine g_iload_n V dX5_rotate_52 rfl rfl ?_
    obtain ⟨hb, hw⟩ := hw
    obtain ⟨fb, hb⟩ := hb
    refine g_callV (C := RX4) (T := TX4) (N := 2) (st := []) V (k_X4_addPart hst hw) ww_2_236 ww_2_46 ww_2_47 ww_1_3 ww_2_48 hd_X4_addPart ⟨by decide, by decide⟩ rfl (by decide) hb rfl rfl (ga_cat rfl) dX5_rotate_53 (Nat.zero_le _) (Nat.zero_le _) rfl (gaX_all hT V) (ga_kv (fun hp13 hw => ?_))
    refine g_aload_n V dX5_rotate_56 rfl rfl ?_
    refine g_aload_n V dX5_rotate_57 rfl rfl ?_
    refine g_aload_n V dX5_rotate_58 rfl rfl ?_
    obtain ⟨fs, r15, ha, hv, hw⟩ := hw
    refine g_get (C := RX5) (T := TX5) (N := 9) V 3 rfl hin_RX5 (by decide) (by decide) ww_1_113 rfl ha hv dX5_rotate_59 rfl ?_
    obtain ⟨hb, hw⟩ := hw
    obtain ⟨fb, hb⟩ := hb
    refine g_callV (C := RX5) (T := TX5) (N := 9) (st := []) V (k_X5_settle hst hw) ww_3_68 ww_3_70 wp_1_12 ww_1_1 ww_3_71 hd_X5_settle ⟨by decide, by decide⟩ rfl (by decide) hb rfl rfl (ga_cat rfl) dX5_rotate_62 (Nat.zero_le _) (Nat.zero_le _) rfl (gaX_all hT V) (ga_ki (fun r17 hp16 hw => ?_))
    exact g_iret V rfl rfl dX5_rotate_65 ⟨_, rfl, hw⟩
  have h_X5_rotate_J22 : ∀ (v0 : Nat) (v2 : Int) (v3 : Nat) (h : gaH) (kc ks : Nat), w_X5_rotate_J22 X Q v0 v2 v3 h kc ks → gaP p l e rm_X5_rotate s m args below meth c G 4 (gaZ below G (gQi Q) X args s rm_X5_rotate) 22 [some (.ref v0), none, some (gi v2), some (.ref v3)] [] h kc ks := by
    intro v0 v2 v3 h kc ks hw
    unfold w_X5_rotate_J22 at hw
    refine g_iconst V (Int32.ofInt 0) dX5_rotate_22 rfl rfl ?_
    exact h_X5_rotate_J23 v0 v2 v3 0 h kc ks hw
  show gaP p l e rm_X5_rotate s m args below meth c G 4 (gaZ below G (gQi Q) X args s rm_X5_rotate) 0 [some (.ref a0), some (gi a1), some (gi a2), none] [] h 2 12
  unfold w_X5_rotate at hw
  refine g_aload_n V dX5_rotate_0 rfl rfl ?_
  refine g_iload_n V dX5_rotate_1 rfl rfl ?_
  obtain ⟨hb, hw⟩ := hw
  obtain ⟨fb, hb⟩ := hb
  obtain ⟨hk, hj, c3, s4, ec, es, hw⟩ := hw
  refine g_callV (C := RX5) (T := TX5) (N := 9) (st := []) V (k_X5_wordOf hst hw) ww_1_150 ww_1_152 wp_1_1 ww_1_1 ww_1_153 hd_X5_wordOf ⟨by decide, by decide⟩ rfl (by decide) hb rfl rfl (ga_cat rfl) dX5_rotate_2 hk hj rfl (gaX_all hT V) (ga_ka (fun r2 hp1 hw => ?_))
  refine ga_re ec es ?_
  refine g_astore_n (lv2 := [some (.ref a0), some (gi a1), some (gi a2), some (.ref r2)]) V dX5_rotate_5 (by decide) rfl rfl rfl ?_
  refine g_iload_n V dX5_rotate_6 rfl rfl ?_
  obtain ⟨hx0, hw⟩ := hw
  refine gi_if_lt V dX5_rotate_7 rfl rfl hx0 (fun q => ?_) (fun q => ?_)
  · have hw := ga_t q hw
    refine g_less (bs := [true, false, true, true]) (lv2 := [some (.ref a0), none, some (gi a2), some (.ref r2)]) rfl ?_
    exact h_X5_rotate_J22 a0 a2 r2 hp1 c3 s4 hw
  · have hw := ga_f q hw
    refine g_iload_n V dX5_rotate_10 rfl rfl ?_
    refine g_aload_n V dX5_rotate_11 rfl rfl ?_
    obtain ⟨fs, r5, ha, hv, hw⟩ := hw
    refine g_getN (C := RX4) (T := TX4) (N := 2) (host := "Wordgarden") V 1 rfl hin_RX4 (by decide) (by decide) gn_3 rfl ha hv dX5_rotate_12 rfl ?_
    obtain ⟨hx0, hx1, hw⟩ := hw
    refine gi_icmp_gt V dX5_rotate_15 rfl rfl hx0 hx1 (fun q => ?_) (fun q => ?_)
    · have hw := ga_t q hw
      refine g_less (bs := [true, false, true, true]) (lv2 := [some (.ref a0), none, some (gi a2), some (.ref r2)]) rfl ?_
      exact h_X5_rotate_J22 a0 a2 r2 hp1 c3 s4 hw
    · have hw := ga_f q hw
      refine g_iconst V (Int32.ofInt 1) dX5_rotate_18 rfl rfl ?_
      refine g_goto V dX5_rotate_19 rfl ?_
      refine g_less (bs := [true, false, true, true]) (lv2 := [some (.ref a0), none, some (gi a2), some (.ref r2)]) rfl ?_
      exact h_X5_rotate_J23 a0 a2 r2 1 hp1 c3 s4 hw
def w_X5_setSign_J43 (X : String → gaH → Prop) (Q : Int → gaH → Prop) (v0 : Nat) (v2 : Int) (v3 : Int) (v4 : Nat) (t0 : Int) (h : gaH) (kc ks : Nat) : Prop := gHas h v4 4 ∧ w_X4_put v4 v2 v3 h (fun hp1 => w_X5_oneIf t0 hp1 (fun r4 hp3 => gHas hp3 v0 5 ∧ w_X5_sheetActDone v0 r4 hp3 (fun r6 hp5 => Q r6 hp5)))
def w_X5_setSign_J25 (X : String → gaH → Prop) (Q : Int → gaH → Prop) (v0 : Nat) (v2 : Int) (v3 : Int) (v4 : Nat) (t0 : Int) (h : gaH) (kc ks : Nat) : Prop := gCall 1 6 kc ks (fun c3 s4 => w_X5_needIndex X t0 h (fun hp1 => gHas hp1 v4 4 ∧ w_X4_isUp v4 v2 hp1 (fun r6 hp5 => gR r6 ∧ gR v3 ∧ (if r6 = v3 then w_X5_setSign_J43 X Q v0 v2 v3 v4 0 hp5 c3 s4 else w_X5_setSign_J43 X Q v0 v2 v3 v4 1 hp5 c3 s4))))
def w_X5_setSign_J24 (X : String → gaH → Prop) (Q : Int → gaH → Prop) (v0 : Nat) (v2 : Int) (v3 : Int) (v4 : Nat) (h : gaH) (kc ks : Nat) : Prop := w_X5_setSign_J25 X Q v0 v2 v3 v4 0 h kc ks
def w_X5_setSign (X : String → gaH → Prop) (a0 : Nat) (a1 : Int) (a2 : Int) (a3 : Int) (h : gaH) (Q : Int → gaH → Prop) : Prop := gHas h a0 5 ∧ gCall 1 6 2 12 (fun c3 s4 => w_X5_wordOf X a0 a1 h (fun r2 hp1 => gR a2 ∧ (if a2 < 0 then w_X5_setSign_J24 X Q a0 a2 a3 r2 hp1 c3 s4 else gI hp1 r2 4 1 (fun r5 => gR a2 ∧ gR r5 ∧ (if r5 ≤ a2 then w_X5_setSign_J24 X Q a0 a2 a3 r2 hp1 c3 s4 else w_X5_setSign_J25 X Q a0 a2 a3 r2 1 hp1 c3 s4)))))
abbrev rm_X5_setSign : Room := { frames := 9, cells := 2, slots := 12, locals := 221 }
theorem hd_X5_setSign : yX5_setSign.cls = RX5 ∧ (yX5_setSign.cls ≠ "java/lang/invoke/MethodHandle" ∧ yX5_setSign.cls ≠ "java/lang/invoke/VarHandle" ∧ (parseMethodDescriptor yX5_setSign.desc).map (fun d => d.parameters.length) = some 3) := by decide +kernel
theorem k_X5_setSign {l : Launch} (hst : l.stackTraces = false) {G : gaG} {X : String → gaH → Prop} {a0 : Nat} {a1 : Int} {a2 : Int} {a3 : Int} {h : gaH} {Q : Int → gaH → Prop} (hw : w_X5_setSign X a0 a1 a2 a3 h Q) : gaC l G yX5_setSign (gaM yX5_setSign cX5_setSign 6 ((some .int))) rm_X5_setSign [.ref a0, gi a1, gi a2, gi a3] h (gQi Q) X := by
  refine g_start (lv := [some (.ref a0), some (gi a1), some (gi a2), some (gi a3), none, none]) hpl_RX5 hst (Nat.le_of_ble_eq_true rfl) (gaArgs_pad (z := 2) rfl) ww_3_23 ?_
  intro p e s m args below meth c V hT
  have h_X5_setSign_J43 : ∀ (v0 : Nat) (v2 : Int) (v3 : Int) (v4 : Nat) (t0 : Int) (h : gaH) (kc ks : Nat), w_X5_setSign_J43 X Q v0 v2 v3 v4 t0 h kc ks → gaP p l e rm_X5_setSign s m args below meth c G 6 (gaZ below G (gQi Q) X args s rm_X5_setSign) 43 [some (.ref v0), none, some (gi v2), some (gi v3), some (.ref v4), none] [gi t0] h kc ks := by
    intro v0 v2 v3 v4 t0 h kc ks hw
    unfold w_X5_setSign_J43 at hw
    refine g_istore (lv2 := [some (.ref v0), none, some (gi v2), some (gi v3), some (.ref v4), some (gi t0)]) V dX5_setSign_43 (by decide) rfl rfl rfl ?_
    refine g_aload V dX5_setSign_45 rfl rfl ?_
    refine g_iload_n V dX5_setSign_47 rfl rfl ?_
    refine g_iload_n V dX5_setSign_48 rfl rfl ?_
    obtain ⟨hb, hw⟩ := hw
    obtain ⟨fb, hb⟩ := hb
    refine g_callV (C := RX4) (T := TX4) (N := 2) (st := []) V (k_X4_put hst hw) ww_3_24 ww_2_54 ww_2_55 ww_1_3 ww_2_56 hd_X4_put ⟨by decide, by decide⟩ rfl (by decide) hb rfl rfl (ga_cat rfl) dX5_setSign_49 (Nat.zero_le _) (Nat.zero_le _) rfl (gaX_all hT V) (ga_kv (fun hp1 hw => ?_))
    refine g_aload_n V dX5_setSign_52 rfl rfl ?_
    refine g_iload V dX5_setSign_53 rfl rfl ?_
    refine g_callS (st := [.ref v0]) V (k_X5_oneIf hst hw) ww_2_104 ww_2_105 ww_1_1 ww_2_106 hd_X5_oneIf ⟨by decide, by decide⟩ rfl rfl (ga_cat rfl) dX5_setSign_55 (Nat.zero_le _) (Nat.zero_le _) rfl (gaX_all hT V) (ga_ki (fun r4 hp3 hw => ?_))
    obtain ⟨hb, hw⟩ := hw
    obtain ⟨fb, hb⟩ := hb
    refine g_callV (C := RX5) (T := TX5) (N := 9) (st := []) V (k_X5_sheetActDone hst hw) ww_2_216 ww_2_218 wp_1_8 ww_1_1 ww_2_219 hd_X5_sheetActDone ⟨by decide, by decide⟩ rfl (by decide) hb rfl rfl (ga_cat rfl) dX5_setSign_58 (Nat.zero_le _) (Nat.zero_le _) rfl (gaX_all hT V) (ga_ki (fun r6 hp5 hw => ?_))
    exact g_iret V rfl rfl dX5_setSign_61 ⟨_, rfl, hw⟩
  have h_X5_setSign_J25 : ∀ (v0 : Nat) (v2 : Int) (v3 : Int) (v4 : Nat) (t0 : Int) (h : gaH) (kc ks : Nat), w_X5_setSign_J25 X Q v0 v2 v3 v4 t0 h kc ks → gaP p l e rm_X5_setSign s m args below meth c G 6 (gaZ below G (gQi Q) X args s rm_X5_setSign) 25 [some (.ref v0), none, some (gi v2), some (gi v3), some (.ref v4), none] [gi t0] h kc ks := by
    intro v0 v2 v3 v4 t0 h kc ks hw
    unfold w_X5_setSign_J25 at hw
    obtain ⟨hk, hj, c3, s4, ec, es, hw⟩ := hw
    refine g_callS (st := []) V (k_X5_needIndex hst hw) ww_3_5 ww_3_6 ww_1_1 ww_3_7 hd_X5_needIndex ⟨by decide, by decide⟩ rfl rfl (ga_cat rfl) dX5_setSign_25 hk hj rfl (gaX_all hT V) (ga_kv (fun hp1 hw => ?_))
    refine ga_re ec es ?_
    refine g_aload V dX5_setSign_28 rfl rfl ?_
    refine g_iload_n V dX5_setSign_30 rfl rfl ?_
    obtain ⟨hb, hw⟩ := hw
    obtain ⟨fb, hb⟩ := hb
    refine g_callV (C := RX4) (T := TX4) (N := 2) (st := []) V (k_X4_isUp hst hw) ww_2_95 ww_1_228 ww_1_229 ww_1_3 ww_1_230 hd_X4_isUp ⟨by decide, by decide⟩ rfl (by decide) hb rfl rfl (ga_cat rfl) dX5_setSign_31 (Nat.zero_le _) (Nat.zero_le _) rfl (gaX_all hT V) (ga_ki (fun r6 hp5 hw => ?_))
    refine g_iload_n V dX5_setSign_34 rfl rfl ?_
    obtain ⟨hx0, hx1, hw⟩ := hw
    refine gi_icmp_eq V dX5_setSign_35 rfl rfl hx0 hx1 (fun q => ?_) (fun q => ?_)
    · have hw := ga_t q hw
      refine g_iconst V (Int32.ofInt 0) dX5_setSign_42 rfl rfl ?_
      exact h_X5_setSign_J43 v0 v2 v3 v4 0 hp5 c3 s4 hw
    · have hw := ga_f q hw
      refine g_iconst V (Int32.ofInt 1) dX5_setSign_38 rfl rfl ?_
      refine g_goto V dX5_setSign_39 rfl ?_
      exact h_X5_setSign_J43 v0 v2 v3 v4 1 hp5 c3 s4 hw
  have h_X5_setSign_J24 : ∀ (v0 : Nat) (v2 : Int) (v3 : Int) (v4 : Nat) (h : gaH) (kc ks : Nat), w_X5_setSign_J24 X Q v0 v2 v3 v4 h kc ks → gaP p l e rm_X5_setSign s m args below meth c G 6 (gaZ below G (gQi Q) X args s rm_X5_setSign) 24 [some (.ref v0), none, some (gi v2), some (gi v3), some (.ref v4), none] [] h kc ks := by
    intro v0 v2 v3 v4 h kc ks hw
    unfold w_X5_setSign_J24 at hw
    refine g_iconst V (Int32.ofInt 0) dX5_setSign_24 rfl rfl ?_
    exact h_X5_setSign_J25 v0 v2 v3 v4 0 h kc ks hw
  show gaP p l e rm_X5_setSign s m args below meth c G 6 (gaZ below G (gQi Q) X args s rm_X5_setSign) 0 [some (.ref a0), some (gi a1), some (gi a2), some (gi a3), none, none] [] h 2 12
  unfold w_X5_setSign at hw
  refine g_aload_n V dX5_setSign_0 rfl rfl ?_
  refine g_iload_n V dX5_setSign_1 rfl rfl ?_
  obtain ⟨hb, hw⟩ := hw
  obtain ⟨fb, hb⟩ := hb
  obtain ⟨hk, hj, c3, s4, ec, es, hw⟩ := hw
  refine g_callV (C := RX5) (T := TX5) (N := 9) (st := []) V (k_X5_wordOf hst hw) ww_1_150 ww_1_152 wp_1_1 ww_1_1 ww_1_153 hd_X5_wordOf ⟨by decide, by decide⟩ rfl (by decide) hb rfl rfl (ga_cat rfl) dX5_setSign_2 hk hj rfl (gaX_all hT V) (ga_ka (fun r2 hp1 hw => ?_))
  refine ga_re ec es ?_
  refine g_astore (lv2 := [some (.ref a0), some (gi a1), some (gi a2), some (gi a3), some (.ref r2), none]) V dX5_setSign_5 (by decide) rfl rfl rfl ?_
  refine g_iload_n V dX5_setSign_7 rfl rfl ?_
  obtain ⟨hx0, hw⟩ := hw
  refine gi_if_lt V dX5_setSign_8 rfl rfl hx0 (fun q => ?_) (fun q => ?_)
  · have hw := ga_t q hw
    refine g_less (bs := [true, false, true, true, true, true]) (lv2 := [some (.ref a0), none, some (gi a2), some (gi a3), some (.ref r2), none]) rfl ?_
    exact h_X5_setSign_J24 a0 a2 a3 r2 hp1 c3 s4 hw
  · have hw := ga_f q hw
    refine g_iload_n V dX5_setSign_11 rfl rfl ?_
    refine g_aload V dX5_setSign_12 rfl rfl ?_
    obtain ⟨fs, r5, ha, hv, hw⟩ := hw
    refine g_getN (C := RX4) (T := TX4) (N := 2) (host := "Wordgarden") V 1 rfl hin_RX4 (by decide) (by decide) gn_3 rfl ha hv dX5_setSign_14 rfl ?_
    obtain ⟨hx0, hx1, hw⟩ := hw
    refine gi_icmp_ge V dX5_setSign_17 rfl rfl hx0 hx1 (fun q => ?_) (fun q => ?_)
    · have hw := ga_t q hw
      refine g_less (bs := [true, false, true, true, true, true]) (lv2 := [some (.ref a0), none, some (gi a2), some (gi a3), some (.ref r2), none]) rfl ?_
      exact h_X5_setSign_J24 a0 a2 a3 r2 hp1 c3 s4 hw
    · have hw := ga_f q hw
      refine g_iconst V (Int32.ofInt 1) dX5_setSign_20 rfl rfl ?_
      refine g_goto V dX5_setSign_21 rfl ?_
      refine g_less (bs := [true, false, true, true, true, true]) (lv2 := [some (.ref a0), none, some (gi a2), some (gi a3), some (.ref r2), none]) rfl ?_
      exact h_X5_setSign_J25 a0 a2 a3 r2 1 hp1 c3 s4 hw
def w_X5_shrink_J18 (X : String → gaH → Prop) (Q : Int → gaH → Prop) (v0 : Nat) (v2 : Nat) (t0 : Int) (h : gaH) (kc ks : Nat) : Prop := gCall 1 6 kc ks (fun c3 s4 => w_X5_needState X t0 h (fun hp1 => gA hp1 v0 5 3 (fun r5 => gHas hp1 v2 2 ∧ w_X0_goBack v2 r5 hp1 (fun r7 hp6 => gHas hp6 v0 5 ∧ w_X5_growthActDone v0 r7 hp6 (fun r9 hp8 => Q r9 hp8)))))
def w_X5_shrink (X : String → gaH → Prop) (a0 : Nat) (a1 : Int) (h : gaH) (Q : Int → gaH → Prop) : Prop := gHas h a0 5 ∧ gCall 1 6 2 12 (fun c3 s4 => w_X5_growthOf X a0 a1 h (fun r2 hp1 => gI hp1 r2 2 1 (fun r5 => gR r5 ∧ (if r5 ≤ 0 then w_X5_shrink_J18 X Q a0 r2 0 hp1 c3 s4 else w_X5_shrink_J18 X Q a0 r2 1 hp1 c3 s4))))
abbrev rm_X5_shrink : Room := { frames := 9, cells := 2, slots := 12, locals := 221 }
theorem hd_X5_shrink : yX5_shrink.cls = RX5 ∧ (yX5_shrink.cls ≠ "java/lang/invoke/MethodHandle" ∧ yX5_shrink.cls ≠ "java/lang/invoke/VarHandle" ∧ (parseMethodDescriptor yX5_shrink.desc).map (fun d => d.parameters.length) = some 1) := by decide +kernel
theorem k_X5_shrink {l : Launch} (hst : l.stackTraces = false) {G : gaG} {X : String → gaH → Prop} {a0 : Nat} {a1 : Int} {h : gaH} {Q : Int → gaH → Prop} (hw : w_X5_shrink X a0 a1 h Q) : gaC l G yX5_shrink (gaM yX5_shrink cX5_shrink 3 ((some .int))) rm_X5_shrink [.ref a0, gi a1] h (gQi Q) X := by
  refine g_start (lv := [some (.ref a0), some (gi a1), none]) hpl_RX5 hst (Nat.le_of_ble_eq_true rfl) (gaArgs_pad (z := 1) rfl) ww_3_228 ?_
  intro p e s m args below meth c V hT
  have h_X5_shrink_J18 : ∀ (v0 : Nat) (v2 : Nat) (t0 : Int) (h : gaH) (kc ks : Nat), w_X5_shrink_J18 X Q v0 v2 t0 h kc ks → gaP p l e rm_X5_shrink s m args below meth c G 3 (gaZ below G (gQi Q) X args s rm_X5_shrink) 18 [some (.ref v0), none, some (.ref v2)] [gi t0] h kc ks := by
    intro v0 v2 t0 h kc ks hw
    unfold w_X5_shrink_J18 at hw
    obtain ⟨hk, hj, c3, s4, ec, es, hw⟩ := hw
    refine g_callS (st := []) V (k_X5_needState hst hw) ww_3_124 ww_3_125 ww_1_1 ww_3_126 hd_X5_needState ⟨by decide, by decide⟩ rfl rfl (ga_cat rfl) dX5_shrink_18 hk hj rfl (gaX_all hT V) (ga_kv (fun hp1 hw => ?_))
    refine ga_re ec es ?_
    refine g_aload_n V dX5_shrink_21 rfl rfl ?_
    refine g_aload_n V dX5_shrink_22 rfl rfl ?_
    refine g_aload_n V dX5_shrink_23 rfl rfl ?_
    obtain ⟨fs, r5, ha, hv, hw⟩ := hw
    refine g_get (C := RX5) (T := TX5) (N := 9) V 3 rfl hin_RX5 (by decide) (by decide) ww_1_113 rfl ha hv dX5_shrink_24 rfl ?_
    obtain ⟨hb, hw⟩ := hw
    obtain ⟨fb, hb⟩ := hb
    refine g_callV (C := RX0) (T := TX0) (N := 4) (st := [.ref v0]) V (k_X0_goBack hst hw) ww_3_229 ww_3_230 ww_3_231 ww_1_4 ww_3_232 hd_X0_goBack ⟨by decide, by decide⟩ rfl (by decide) hb rfl rfl (ga_cat rfl) dX5_shrink_27 (Nat.zero_le _) (Nat.zero_le _) rfl (gaX_all hT V) (ga_ki (fun r7 hp6 hw => ?_))
    obtain ⟨hb, hw⟩ := hw
    obtain ⟨fb, hb⟩ := hb
    refine g_callV (C := RX5) (T := TX5) (N := 9) (st := []) V (k_X5_growthActDone hst hw) ww_3_218 ww_3_220 wp_2_1 ww_1_1 ww_3_221 hd_X5_growthActDone ⟨by decide, by decide⟩ rfl (by decide) hb rfl rfl (ga_cat rfl) dX5_shrink_30 (Nat.zero_le _) (Nat.zero_le _) rfl (gaX_all hT V) (ga_ki (fun r9 hp8 hw => ?_))
    exact g_iret V rfl rfl dX5_shrink_33 ⟨_, rfl, hw⟩
  show gaP p l e rm_X5_shrink s m args below meth c G 3 (gaZ below G (gQi Q) X args s rm_X5_shrink) 0 [some (.ref a0), some (gi a1), none] [] h 2 12
  unfold w_X5_shrink at hw
  refine g_aload_n V dX5_shrink_0 rfl rfl ?_
  refine g_iload_n V dX5_shrink_1 rfl rfl ?_
  obtain ⟨hb, hw⟩ := hw
  obtain ⟨fb, hb⟩ := hb
  obtain ⟨hk, hj, c3, s4, ec, es, hw⟩ := hw
  refine g_callV (C := RX5) (T := TX5) (N := 9) (st := []) V (k_X5_growthOf hst hw) ww_2_13 ww_2_15 wp_1_4 ww_1_1 ww_2_16 hd_X5_growthOf ⟨by decide, by decide⟩ rfl (by decide) hb rfl rfl (ga_cat rfl) dX5_shrink_2 hk hj rfl (gaX_all hT V) (ga_ka (fun r2 hp1 hw => ?_))
  refine ga_re ec es ?_
  refine g_astore_n (lv2 := [some (.ref a0), some (gi a1), some (.ref r2)]) V dX5_shrink_5 (by decide) rfl rfl rfl ?_
  refine g_aload_n V dX5_shrink_6 rfl rfl ?_
  obtain ⟨fs, r5, ha, hv, hw⟩ := hw
  refine g_getN (C := RX0) (T := TX0) (N := 4) (host := "Wordgarden") V 1 rfl hin_RX0 (by decide) (by decide) gn_9 rfl ha hv dX5_shrink_7 rfl ?_
  obtain ⟨hx0, hw⟩ := hw
  refine gi_if_le V dX5_shrink_10 rfl rfl hx0 (fun q => ?_) (fun q => ?_)
  · have hw := ga_t q hw
    refine g_iconst V (Int32.ofInt 0) dX5_shrink_17 rfl rfl ?_
    refine g_less (bs := [true, false, true]) (lv2 := [some (.ref a0), none, some (.ref r2)]) rfl ?_
    exact h_X5_shrink_J18 a0 r2 0 hp1 c3 s4 hw
  · have hw := ga_f q hw
    refine g_iconst V (Int32.ofInt 1) dX5_shrink_13 rfl rfl ?_
    refine g_goto V dX5_shrink_14 rfl ?_
    refine g_less (bs := [true, false, true]) (lv2 := [some (.ref a0), none, some (.ref r2)]) rfl ?_
    exact h_X5_shrink_J18 a0 r2 1 hp1 c3 s4 hw
def w_X5_spread_J25 (X : String → gaH → Prop) (Q : Int → gaH → Prop) (v2 : Int) (v3 : Int) (v4 : Nat) (t0 : Int) (h : gaH) (kc ks : Nat) : Prop := gCall 1 6 kc ks (fun c3 s4 => w_X5_needArgument X t0 h (fun hp1 => w_X1_spreadOf v4 v2 v3 hp1 (fun r6 hp5 => Q r6 hp5)))
def w_X5_spread_J24 (X : String → gaH → Prop) (Q : Int → gaH → Prop) (v2 : Int) (v3 : Int) (v4 : Nat) (h : gaH) (kc ks : Nat) : Prop := w_X5_spread_J25 X Q v2 v3 v4 0 h kc ks
def w_X5_spread (X : String → gaH → Prop) (a0 : Nat) (a1 : Int) (a2 : Int) (a3 : Int) (h : gaH) (Q : Int → gaH → Prop) : Prop := gHas h a0 5 ∧ gCall 1 6 2 12 (fun c3 s4 => w_X5_wordOf X a0 a1 h (fun r2 hp1 => gR a2 ∧ (if a2 < 0 then w_X5_spread_J24 X Q a2 a3 r2 hp1 c3 s4 else gI hp1 r2 4 1 (fun r5 => gR a2 ∧ gR r5 ∧ (if r5 < a2 then w_X5_spread_J24 X Q a2 a3 r2 hp1 c3 s4 else w_X5_spread_J25 X Q a2 a3 r2 1 hp1 c3 s4)))))
abbrev rm_X5_spread : Room := { frames := 9, cells := 2, slots := 12, locals := 221 }
theorem hd_X5_spread : yX5_spread.cls = RX5 ∧ (yX5_spread.cls ≠ "java/lang/invoke/MethodHandle" ∧ yX5_spread.cls ≠ "java/lang/invoke/VarHandle" ∧ (parseMethodDescriptor yX5_spread.desc).map (fun d => d.parameters.length) = some 3) := by decide +kernel
theorem k_X5_spread {l : Launch} (hst : l.stackTraces = false) {G : gaG} {X : String → gaH → Prop} {a0 : Nat} {a1 : Int} {a2 : Int} {a3 : Int} {h : gaH} {Q : Int → gaH → Prop} (hw : w_X5_spread X a0 a1 a2 a3 h Q) : gaC l G yX5_spread (gaM yX5_spread cX5_spread 5 ((some .int))) rm_X5_spread [.ref a0, gi a1, gi a2, gi a3] h (gQi Q) X := by
  refine g_start (lv := [some (.ref a0), some (gi a1), some (gi a2), some (gi a3), none]) hpl_RX5 hst (Nat.le_of_ble_eq_true rfl) (gaArgs_pad (z := 1) rfl) ww_5_81 ?_
  intro p e s m args below meth c V hT
  have h_X5_spread_J25 : ∀ (v2 : Int) (v3 : Int) (v4 : Nat) (t0 : Int) (h : gaH) (kc ks : Nat), w_X5_spread_J25 X Q v2 v3 v4 t0 h kc ks → gaP p l e rm_X5_spread s m args below meth c G 5 (gaZ below G (gQi Q) X args s rm_X5_spread) 25 [none, none, some (gi v2), some (gi v3), some (.ref v4)] [gi t0] h kc ks := by
    intro v2 v3 v4 t0 h kc ks hw
    unfold w_X5_spread_J25 at hw
    obtain ⟨hk, hj, c3, s4, ec, es, hw⟩ := hw
    refine g_callS (st := []) V (k_X5_needArgument hst hw) ww_2_172 ww_2_173 ww_1_1 ww_2_174 hd_X5_needArgument ⟨by decide, by decide⟩ rfl rfl (ga_cat rfl) dX5_spread_25 hk hj rfl (gaX_all hT V) (ga_kv (fun hp1 hw => ?_))
    refine ga_re ec es ?_
    refine g_aload V dX5_spread_28 rfl rfl ?_
    refine g_iload_n V dX5_spread_30 rfl rfl ?_
    refine g_iload_n V dX5_spread_31 rfl rfl ?_
    refine g_callS (st := []) V (k_X1_spreadOf hst hw) ww_5_82 ww_5_83 ww_1_12 ww_5_84 hd_X1_spreadOf ⟨by decide, by decide⟩ rfl rfl (ga_cat rfl) dX5_spread_32 (Nat.zero_le _) (Nat.zero_le _) rfl (gaX_all hT V) (ga_ki (fun r6 hp5 hw => ?_))
    exact g_iret V rfl rfl dX5_spread_35 ⟨_, rfl, hw⟩
  have h_X5_spread_J24 : ∀ (v2 : Int) (v3 : Int) (v4 : Nat) (h : gaH) (kc ks : Nat), w_X5_spread_J24 X Q v2 v3 v4 h kc ks → gaP p l e rm_X5_spread s m args below meth c G 5 (gaZ below G (gQi Q) X args s rm_X5_spread) 24 [none, none, some (gi v2), some (gi v3), some (.ref v4)] [] h kc ks := by
    intro v2 v3 v4 h kc ks hw
    unfold w_X5_spread_J24 at hw
    refine g_iconst V (Int32.ofInt 0) dX5_spread_24 rfl rfl ?_
    exact h_X5_spread_J25 v2 v3 v4 0 h kc ks hw
  show gaP p l e rm_X5_spread s m args below meth c G 5 (gaZ below G (gQi Q) X args s rm_X5_spread) 0 [some (.ref a0), some (gi a1), some (gi a2), some (gi a3), none] [] h 2 12
  unfold w_X5_spread at hw
  refine g_aload_n V dX5_spread_0 rfl rfl ?_
  refine g_iload_n V dX5_spread_1 rfl rfl ?_
  obtain ⟨hb, hw⟩ := hw
  obtain ⟨fb, hb⟩ := hb
  obtain ⟨hk, hj, c3, s4, ec, es, hw⟩ := hw
  refine g_callV (C := RX5) (T := TX5) (N := 9) (st := []) V (k_X5_wordOf hst hw) ww_1_150 ww_1_152 wp_1_1 ww_1_1 ww_1_153 hd_X5_wordOf ⟨by decide, by decide⟩ rfl (by decide) hb rfl rfl (ga_cat rfl) dX5_spread_2 hk hj rfl (gaX_all hT V) (ga_ka (fun r2 hp1 hw => ?_))
  refine ga_re ec es ?_
  refine g_astore (lv2 := [some (.ref a0), some (gi a1), some (gi a2), some (gi a3), some (.ref r2)]) V dX5_spread_5 (by decide) rfl rfl rfl ?_
  refine g_iload_n V dX5_spread_7 rfl rfl ?_
  obtain ⟨hx0, hw⟩ := hw
  refine gi_if_lt V dX5_spread_8 rfl rfl hx0 (fun q => ?_) (fun q => ?_)
  · have hw := ga_t q hw
    refine g_less (bs := [false, false, true, true, true]) (lv2 := [none, none, some (gi a2), some (gi a3), some (.ref r2)]) rfl ?_
    exact h_X5_spread_J24 a2 a3 r2 hp1 c3 s4 hw
  · have hw := ga_f q hw
    refine g_iload_n V dX5_spread_11 rfl rfl ?_
    refine g_aload V dX5_spread_12 rfl rfl ?_
    obtain ⟨fs, r5, ha, hv, hw⟩ := hw
    refine g_getN (C := RX4) (T := TX4) (N := 2) (host := "Wordgarden") V 1 rfl hin_RX4 (by decide) (by decide) gn_3 rfl ha hv dX5_spread_14 rfl ?_
    obtain ⟨hx0, hx1, hw⟩ := hw
    refine gi_icmp_gt V dX5_spread_17 rfl rfl hx0 hx1 (fun q => ?_) (fun q => ?_)
    · have hw := ga_t q hw
      refine g_less (bs := [false, false, true, true, true]) (lv2 := [none, none, some (gi a2), some (gi a3), some (.ref r2)]) rfl ?_
      exact h_X5_spread_J24 a2 a3 r2 hp1 c3 s4 hw
    · have hw := ga_f q hw
      refine g_iconst V (Int32.ofInt 1) dX5_spread_20 rfl rfl ?_
      refine g_goto V dX5_spread_21 rfl ?_
      refine g_less (bs := [false, false, true, true, true]) (lv2 := [none, none, some (gi a2), some (gi a3), some (.ref r2)]) rfl ?_
      exact h_X5_spread_J25 a2 a3 r2 1 hp1 c3 s4 hw
def w_X5_turn (X : String → gaH → Prop) (a0 : Nat) (a1 : Int) (h : gaH) (Q : Int → gaH → Prop) : Prop := gHas h a0 5 ∧ gCall 1 6 1 6 (fun c3 s4 => w_X5_wordOf X a0 a1 h (fun r2 hp1 => gA hp1 a0 5 3 (fun r5 => gHas hp1 r5 4 ∧ w_X4_takeTurned r5 r2 hp1 (fun hp6 => gA hp6 a0 5 3 (fun r8 => gHas hp6 a0 5 ∧ w_X5_settle a0 r2 r8 hp6 (fun r10 hp9 => Q r10 hp9))))))
abbrev rm_X5_turn : Room := { frames := 9, cells := 1, slots := 6, locals := 221 }
theorem hd_X5_turn : yX5_turn.cls = RX5 ∧ (yX5_turn.cls ≠ "java/lang/invoke/MethodHandle" ∧ yX5_turn.cls ≠ "java/lang/invoke/VarHandle" ∧ (parseMethodDescriptor yX5_turn.desc).map (fun d => d.parameters.length) = some 1) := by decide +kernel
theorem k_X5_turn {l : Launch} (hst : l.stackTraces = false) {G : gaG} {X : String → gaH → Prop} {a0 : Nat} {a1 : Int} {h : gaH} {Q : Int → gaH → Prop} (hw : w_X5_turn X a0 a1 h Q) : gaC l G yX5_turn (gaM yX5_turn cX5_turn 3 ((some .int))) rm_X5_turn [.ref a0, gi a1] h (gQi Q) X := by
  refine g_start (lv := [some (.ref a0), some (gi a1), none]) hpl_RX5 hst (Nat.le_of_ble_eq_true rfl) (gaArgs_pad (z := 1) rfl) ww_3_67 ?_
  intro p e s m args below meth c V hT
  show gaP p l e rm_X5_turn s m args below meth c G 3 (gaZ below G (gQi Q) X args s rm_X5_turn) 0 [some (.ref a0), some (gi a1), none] [] h 1 6
  unfold w_X5_turn at hw
  refine g_aload_n V dX5_turn_0 rfl rfl ?_
  refine g_iload_n V dX5_turn_1 rfl rfl ?_
  obtain ⟨hb, hw⟩ := hw
  obtain ⟨fb, hb⟩ := hb
  obtain ⟨hk, hj, c3, s4, ec, es, hw⟩ := hw
  refine g_callV (C := RX5) (T := TX5) (N := 9) (st := []) V (k_X5_wordOf hst hw) ww_1_150 ww_1_152 wp_1_1 ww_1_1 ww_1_153 hd_X5_wordOf ⟨by decide, by decide⟩ rfl (by decide) hb rfl rfl (ga_cat rfl) dX5_turn_2 hk hj rfl (gaX_all hT V) (ga_ka (fun r2 hp1 hw => ?_))
  refine ga_re ec es ?_
  refine g_astore_n (lv2 := [some (.ref a0), some (gi a1), some (.ref r2)]) V dX5_turn_5 (by decide) rfl rfl rfl ?_
  refine g_aload_n V dX5_turn_6 rfl rfl ?_
  obtain ⟨fs, r5, ha, hv, hw⟩ := hw
  refine g_get (C := RX5) (T := TX5) (N := 9) V 3 rfl hin_RX5 (by decide) (by decide) ww_1_113 rfl ha hv dX5_turn_7 rfl ?_
  refine g_aload_n V dX5_turn_10 rfl rfl ?_
  obtain ⟨hb, hw⟩ := hw
  obtain ⟨fb, hb⟩ := hb
  refine g_callV (C := RX4) (T := TX4) (N := 2) (st := []) V (k_X4_takeTurned hst hw) ww_1_222 ww_1_223 ww_1_224 ww_1_3 ww_1_225 hd_X4_takeTurned ⟨by decide, by decide⟩ rfl (by decide) hb rfl rfl (ga_cat rfl) dX5_turn_11 (Nat.zero_le _) (Nat.zero_le _) rfl (gaX_all hT V) (ga_kv (fun hp6 hw => ?_))
  refine g_aload_n V dX5_turn_14 rfl rfl ?_
  refine g_aload_n V dX5_turn_15 rfl rfl ?_
  refine g_aload_n V dX5_turn_16 rfl rfl ?_
  obtain ⟨fs, r8, ha, hv, hw⟩ := hw
  refine g_get (C := RX5) (T := TX5) (N := 9) V 3 rfl hin_RX5 (by decide) (by decide) ww_1_113 rfl ha hv dX5_turn_17 rfl ?_
  obtain ⟨hb, hw⟩ := hw
  obtain ⟨fb, hb⟩ := hb
  refine g_callV (C := RX5) (T := TX5) (N := 9) (st := []) V (k_X5_settle hst hw) ww_3_68 ww_3_70 wp_1_12 ww_1_1 ww_3_71 hd_X5_settle ⟨by decide, by decide⟩ rfl (by decide) hb rfl rfl (ga_cat rfl) dX5_turn_20 (Nat.zero_le _) (Nat.zero_le _) rfl (gaX_all hT V) (ga_ki (fun r10 hp9 hw => ?_))
  exact g_iret V rfl rfl dX5_turn_23 ⟨_, rfl, hw⟩
def w_X5_twos_J83 (X : String → gaH → Prop) (Q : Int → gaH → Prop) (v0 : Nat) (v4 : Nat) (h : gaH) (kc ks : Nat) : Prop := gI h v4 4 1 (fun r1 => gHas h v0 5 ∧ w_X5_sheetActDone v0 r1 h (fun r3 hp2 => Q r3 hp2))
def w_X5_twos_J39 (X : String → gaH → Prop) (Q : Int → gaH → Prop) (v0 : Nat) (v2 : Int) (v3 : Int) (v4 : Nat) (t0 : Int) (h : gaH) (kc ks : Nat) : Prop := gCall 1 6 kc ks (fun c3 s4 => w_X5_needArgument X t0 h (fun hp1 => gR v3 ∧ (if v3 = 0 then gA hp1 v0 5 3 (fun r9 => gA hp1 v0 5 2 (fun r10 => w_X3_layByRule v2 v4 r9 r10 hp1 (fun hp11 => w_X5_twos_J83 X Q v0 v4 hp11 c3 s4))) else gR v3 ∧ (if v3 = 1 then w_X3_layByCopies v2 v4 hp1 (fun hp7 => w_X5_twos_J83 X Q v0 v4 hp7 c3 s4) else w_X3_laySignBySign v2 v4 hp1 (fun hp5 => w_X5_twos_J83 X Q v0 v4 hp5 c3 s4)))))
def w_X5_twos_J38 (X : String → gaH → Prop) (Q : Int → gaH → Prop) (v0 : Nat) (v2 : Int) (v3 : Int) (v4 : Nat) (h : gaH) (kc ks : Nat) : Prop := w_X5_twos_J39 X Q v0 v2 v3 v4 0 h kc ks
def w_X5_twos_J22 (X : String → gaH → Prop) (Q : Int → gaH → Prop) (v0 : Nat) (v2 : Int) (v3 : Int) (v4 : Nat) (t0 : Int) (h : gaH) (kc ks : Nat) : Prop := gCall 1 6 kc ks (fun c3 s4 => w_X5_needArgument X t0 h (fun hp1 => gR v3 ∧ (if v3 < 0 then w_X5_twos_J38 X Q v0 v2 v3 v4 hp1 c3 s4 else gR v3 ∧ (if 2 < v3 then w_X5_twos_J38 X Q v0 v2 v3 v4 hp1 c3 s4 else w_X5_twos_J39 X Q v0 v2 v3 v4 1 hp1 c3 s4))))
def w_X5_twos_J21 (X : String → gaH → Prop) (Q : Int → gaH → Prop) (v0 : Nat) (v2 : Int) (v3 : Int) (v4 : Nat) (h : gaH) (kc ks : Nat) : Prop := w_X5_twos_J22 X Q v0 v2 v3 v4 0 h kc ks
def w_X5_twos (X : String → gaH → Prop) (a0 : Nat) (a1 : Int) (a2 : Int) (a3 : Int) (h : gaH) (Q : Int → gaH → Prop) : Prop := gHas h a0 5 ∧ gCall 1 6 3 18 (fun c3 s4 => w_X5_wordOf X a0 a1 h (fun r2 hp1 => gR a2 ∧ (if a2 < 0 then w_X5_twos_J21 X Q a0 a2 a3 r2 hp1 c3 s4 else gR a2 ∧ (if 6 < a2 then w_X5_twos_J21 X Q a0 a2 a3 r2 hp1 c3 s4 else w_X5_twos_J22 X Q a0 a2 a3 r2 1 hp1 c3 s4))))
abbrev rm_X5_twos : Room := { frames := 9, cells := 3, slots := 18, locals := 221 }
theorem hd_X5_twos : yX5_twos.cls = RX5 ∧ (yX5_twos.cls ≠ "java/lang/invoke/MethodHandle" ∧ yX5_twos.cls ≠ "java/lang/invoke/VarHandle" ∧ (parseMethodDescriptor yX5_twos.desc).map (fun d => d.parameters.length) = some 3) := by decide +kernel
theorem k_X5_twos {l : Launch} (hst : l.stackTraces = false) {G : gaG} {X : String → gaH → Prop} {a0 : Nat} {a1 : Int} {a2 : Int} {a3 : Int} {h : gaH} {Q : Int → gaH → Prop} (hw : w_X5_twos X a0 a1 a2 a3 h Q) : gaC l G yX5_twos (gaM yX5_twos cX5_twos 5 ((some .int))) rm_X5_twos [.ref a0, gi a1, gi a2, gi a3] h (gQi Q) X := by
  refine g_start (lv := [some (.ref a0), some (gi a1), some (gi a2), some (gi a3), none]) hpl_RX5 hst (Nat.le_of_ble_eq_true rfl) (gaArgs_pad (z := 1) rfl) ww_3_176 ?_
  intro p e s m args below meth c V hT
  have h_X5_twos_J83 : ∀ (v0 : Nat) (v4 : Nat) (h : gaH) (kc ks : Nat), w_X5_twos_J83 X Q v0 v4 h kc ks → gaP p l e rm_X5_twos s m args below meth c G 5 (gaZ below G (gQi Q) X args s rm_X5_twos) 83 [some (.ref v0), none, none, none, some (.ref v4)] [] h kc ks := by
    intro v0 v4 h kc ks hw
    unfold w_X5_twos_J83 at hw
    refine g_aload_n V dX5_twos_83 rfl rfl ?_
    refine g_aload V dX5_twos_84 rfl rfl ?_
    obtain ⟨fs, r1, ha, hv, hw⟩ := hw
    refine g_getN (C := RX4) (T := TX4) (N := 2) (host := "Wordgarden") V 1 rfl hin_RX4 (by decide) (by decide) gn_3 rfl ha hv dX5_twos_86 rfl ?_
    obtain ⟨hb, hw⟩ := hw
    obtain ⟨fb, hb⟩ := hb
    refine g_callV (C := RX5) (T := TX5) (N := 9) (st := []) V (k_X5_sheetActDone hst hw) ww_2_216 ww_2_218 wp_1_8 ww_1_1 ww_2_219 hd_X5_sheetActDone ⟨by decide, by decide⟩ rfl (by decide) hb rfl rfl (ga_cat rfl) dX5_twos_89 (Nat.zero_le _) (Nat.zero_le _) rfl (gaX_all hT V) (ga_ki (fun r3 hp2 hw => ?_))
    exact g_iret V rfl rfl dX5_twos_92 ⟨_, rfl, hw⟩
  have h_X5_twos_J39 : ∀ (v0 : Nat) (v2 : Int) (v3 : Int) (v4 : Nat) (t0 : Int) (h : gaH) (kc ks : Nat), w_X5_twos_J39 X Q v0 v2 v3 v4 t0 h kc ks → gaP p l e rm_X5_twos s m args below meth c G 5 (gaZ below G (gQi Q) X args s rm_X5_twos) 39 [some (.ref v0), none, some (gi v2), some (gi v3), some (.ref v4)] [gi t0] h kc ks := by
    intro v0 v2 v3 v4 t0 h kc ks hw
    unfold w_X5_twos_J39 at hw
    obtain ⟨hk, hj, c3, s4, ec, es, hw⟩ := hw
    refine g_callS (st := []) V (k_X5_needArgument hst hw) ww_2_172 ww_2_173 ww_1_1 ww_2_174 hd_X5_needArgument ⟨by decide, by decide⟩ rfl rfl (ga_cat rfl) dX5_twos_39 hk hj rfl (gaX_all hT V) (ga_kv (fun hp1 hw => ?_))
    refine ga_re ec es ?_
    refine g_iload_n V dX5_twos_42 rfl rfl ?_
    obtain ⟨hx0, hw⟩ := hw
    refine gi_if_ne V dX5_twos_43 rfl rfl hx0 (fun q => ?_) (fun q => ?_)
    · have hw := ga_f q hw
      refine g_iload_n V dX5_twos_63 rfl rfl ?_
      refine g_iconst V (Int32.ofInt 1) dX5_twos_64 rfl rfl ?_
      obtain ⟨hx0, hw⟩ := hw
      refine gi_icmp_ne V dX5_twos_65 rfl rfl hx0 (by decide) (fun q => ?_) (fun q => ?_)
      · have hw := ga_f q hw
        refine g_iload_n V dX5_twos_77 rfl rfl ?_
        refine g_aload V dX5_twos_78 rfl rfl ?_
        refine g_callS (st := []) V (k_X3_laySignBySign hst hw) ww_3_189 ww_3_190 ww_1_16 ww_3_191 hd_X3_laySignBySign ⟨by decide, by decide⟩ rfl rfl (ga_cat rfl) dX5_twos_80 (Nat.zero_le _) (Nat.zero_le _) rfl (gaX_all hT V) (ga_kv (fun hp5 hw => ?_))
        refine g_less (bs := [true, true, false, false, true]) (lv2 := [some (.ref v0), none, none, none, some (.ref v4)]) rfl ?_
        exact h_X5_twos_J83 v0 v4 hp5 c3 s4 hw
      · have hw := ga_t q hw
        refine g_iload_n V dX5_twos_68 rfl rfl ?_
        refine g_aload V dX5_twos_69 rfl rfl ?_
        refine g_callS (st := []) V (k_X3_layByCopies hst hw) ww_3_185 ww_3_186 ww_1_16 ww_3_187 hd_X3_layByCopies ⟨by decide, by decide⟩ rfl rfl (ga_cat rfl) dX5_twos_71 (Nat.zero_le _) (Nat.zero_le _) rfl (gaX_all hT V) (ga_kv (fun hp7 hw => ?_))
        refine g_goto V dX5_twos_74 rfl ?_
        refine g_less (bs := [true, true, false, false, true]) (lv2 := [some (.ref v0), none, none, none, some (.ref v4)]) rfl ?_
        exact h_X5_twos_J83 v0 v4 hp7 c3 s4 hw
    · have hw := ga_t q hw
      refine g_iload_n V dX5_twos_46 rfl rfl ?_
      refine g_aload V dX5_twos_47 rfl rfl ?_
      refine g_aload_n V dX5_twos_49 rfl rfl ?_
      obtain ⟨fs, r9, ha, hv, hw⟩ := hw
      refine g_get (C := RX5) (T := TX5) (N := 9) V 3 rfl hin_RX5 (by decide) (by decide) ww_1_113 rfl ha hv dX5_twos_50 rfl ?_
      refine g_aload_n V dX5_twos_53 rfl rfl ?_
      obtain ⟨fs, r10, ha, hv, hw⟩ := hw
      refine g_get (C := RX5) (T := TX5) (N := 9) V 2 rfl hin_RX5 (by decide) (by decide) ww_1_112 rfl ha hv dX5_twos_54 rfl ?_
      refine g_callS (st := []) V (k_X3_layByRule hst hw) ww_3_177 ww_3_178 ww_1_16 ww_3_179 hd_X3_layByRule ⟨by decide, by decide⟩ rfl rfl (ga_cat rfl) dX5_twos_57 (Nat.zero_le _) (Nat.zero_le _) rfl (gaX_all hT V) (ga_kv (fun hp11 hw => ?_))
      refine g_goto V dX5_twos_60 rfl ?_
      refine g_less (bs := [true, true, false, false, true]) (lv2 := [some (.ref v0), none, none, none, some (.ref v4)]) rfl ?_
      exact h_X5_twos_J83 v0 v4 hp11 c3 s4 hw
  have h_X5_twos_J38 : ∀ (v0 : Nat) (v2 : Int) (v3 : Int) (v4 : Nat) (h : gaH) (kc ks : Nat), w_X5_twos_J38 X Q v0 v2 v3 v4 h kc ks → gaP p l e rm_X5_twos s m args below meth c G 5 (gaZ below G (gQi Q) X args s rm_X5_twos) 38 [some (.ref v0), none, some (gi v2), some (gi v3), some (.ref v4)] [] h kc ks := by
    intro v0 v2 v3 v4 h kc ks hw
    unfold w_X5_twos_J38 at hw
    refine g_iconst V (Int32.ofInt 0) dX5_twos_38 rfl rfl ?_
    exact h_X5_twos_J39 v0 v2 v3 v4 0 h kc ks hw
  have h_X5_twos_J22 : ∀ (v0 : Nat) (v2 : Int) (v3 : Int) (v4 : Nat) (t0 : Int) (h : gaH) (kc ks : Nat), w_X5_twos_J22 X Q v0 v2 v3 v4 t0 h kc ks → gaP p l e rm_X5_twos s m args below meth c G 5 (gaZ below G (gQi Q) X args s rm_X5_twos) 22 [some (.ref v0), none, some (gi v2), some (gi v3), some (.ref v4)] [gi t0] h kc ks := by
    intro v0 v2 v3 v4 t0 h kc ks hw
    unfold w_X5_twos_J22 at hw
    obtain ⟨hk, hj, c3, s4, ec, es, hw⟩ := hw
    refine g_callS (st := []) V (k_X5_needArgument hst hw) ww_2_172 ww_2_173 ww_1_1 ww_2_174 hd_X5_needArgument ⟨by decide, by decide⟩ rfl rfl (ga_cat rfl) dX5_twos_22 hk hj rfl (gaX_all hT V) (ga_kv (fun hp1 hw => ?_))
    refine ga_re ec es ?_
    refine g_iload_n V dX5_twos_25 rfl rfl ?_
    obtain ⟨hx0, hw⟩ := hw
    refine gi_if_lt V dX5_twos_26 rfl rfl hx0 (fun q => ?_) (fun q => ?_)
    · have hw := ga_t q hw
      exact h_X5_twos_J38 v0 v2 v3 v4 hp1 c3 s4 hw
    · have hw := ga_f q hw
      refine g_iload_n V dX5_twos_29 rfl rfl ?_
      refine g_iconst V (Int32.ofInt 2) dX5_twos_30 rfl rfl ?_
      obtain ⟨hx0, hw⟩ := hw
      refine gi_icmp_gt V dX5_twos_31 rfl rfl hx0 (by decide) (fun q => ?_) (fun q => ?_)
      · have hw := ga_t q hw
        exact h_X5_twos_J38 v0 v2 v3 v4 hp1 c3 s4 hw
      · have hw := ga_f q hw
        refine g_iconst V (Int32.ofInt 1) dX5_twos_34 rfl rfl ?_
        refine g_goto V dX5_twos_35 rfl ?_
        exact h_X5_twos_J39 v0 v2 v3 v4 1 hp1 c3 s4 hw
  have h_X5_twos_J21 : ∀ (v0 : Nat) (v2 : Int) (v3 : Int) (v4 : Nat) (h : gaH) (kc ks : Nat), w_X5_twos_J21 X Q v0 v2 v3 v4 h kc ks → gaP p l e rm_X5_twos s m args below meth c G 5 (gaZ below G (gQi Q) X args s rm_X5_twos) 21 [some (.ref v0), none, some (gi v2), some (gi v3), some (.ref v4)] [] h kc ks := by
    intro v0 v2 v3 v4 h kc ks hw
    unfold w_X5_twos_J21 at hw
    refine g_iconst V (Int32.ofInt 0) dX5_twos_21 rfl rfl ?_
    exact h_X5_twos_J22 v0 v2 v3 v4 0 h kc ks hw
  show gaP p l e rm_X5_twos s m args below meth c G 5 (gaZ below G (gQi Q) X args s rm_X5_twos) 0 [some (.ref a0), some (gi a1), some (gi a2), some (gi a3), none] [] h 3 18
  unfold w_X5_twos at hw
  refine g_aload_n V dX5_twos_0 rfl rfl ?_
  refine g_iload_n V dX5_twos_1 rfl rfl ?_
  obtain ⟨hb, hw⟩ := hw
  obtain ⟨fb, hb⟩ := hb
  obtain ⟨hk, hj, c3, s4, ec, es, hw⟩ := hw
  refine g_callV (C := RX5) (T := TX5) (N := 9) (st := []) V (k_X5_wordOf hst hw) ww_1_150 ww_1_152 wp_1_1 ww_1_1 ww_1_153 hd_X5_wordOf ⟨by decide, by decide⟩ rfl (by decide) hb rfl rfl (ga_cat rfl) dX5_twos_2 hk hj rfl (gaX_all hT V) (ga_ka (fun r2 hp1 hw => ?_))
  refine ga_re ec es ?_
  refine g_astore (lv2 := [some (.ref a0), some (gi a1), some (gi a2), some (gi a3), some (.ref r2)]) V dX5_twos_5 (by decide) rfl rfl rfl ?_
  refine g_iload_n V dX5_twos_7 rfl rfl ?_
  obtain ⟨hx0, hw⟩ := hw
  refine gi_if_lt V dX5_twos_8 rfl rfl hx0 (fun q => ?_) (fun q => ?_)
  · have hw := ga_t q hw
    refine g_less (bs := [true, false, true, true, true]) (lv2 := [some (.ref a0), none, some (gi a2), some (gi a3), some (.ref r2)]) rfl ?_
    exact h_X5_twos_J21 a0 a2 a3 r2 hp1 c3 s4 hw
  · have hw := ga_f q hw
    refine g_iload_n V dX5_twos_11 rfl rfl ?_
    refine g_bipush V (Int32.ofInt 6) dX5_twos_12 rfl rfl ?_
    obtain ⟨hx0, hw⟩ := hw
    refine gi_icmp_gt V dX5_twos_14 rfl rfl hx0 (by decide) (fun q => ?_) (fun q => ?_)
    · have hw := ga_t q hw
      refine g_less (bs := [true, false, true, true, true]) (lv2 := [some (.ref a0), none, some (gi a2), some (gi a3), some (.ref r2)]) rfl ?_
      exact h_X5_twos_J21 a0 a2 a3 r2 hp1 c3 s4 hw
    · have hw := ga_f q hw
      refine g_iconst V (Int32.ofInt 1) dX5_twos_17 rfl rfl ?_
      refine g_goto V dX5_twos_18 rfl ?_
      refine g_less (bs := [true, false, true, true, true]) (lv2 := [some (.ref a0), none, some (gi a2), some (gi a3), some (.ref r2)]) rfl ?_
      exact h_X5_twos_J22 a0 a2 a3 r2 1 hp1 c3 s4 hw
def w_X5_undo (X : String → gaH → Prop) (a0 : Nat) (a1 : Int) (a2 : Int) (a3 : Int) (h : gaH) (Q : Int → gaH → Prop) : Prop := gHas h a0 5 ∧ gCall 1 6 4 24 (fun c3 s4 => w_X5_wordOf X a0 a1 h (fun r2 hp1 => gHas hp1 a0 5 ∧ gCall 2 12 c3 s4 (fun c7 s8 => w_X5_takeRule X a0 a2 a3 hp1 (fun hp5 => gA hp5 a0 5 2 (fun r9 => gHas hp5 r9 3 ∧ w_X2_keepsApart r9 hp5 (fun r11 hp10 => gCall 1 6 c7 s8 (fun c14 s15 => w_X5_needState X r11 hp10 (fun hp12 => gA hp12 a0 5 2 (fun r16 => gA hp12 a0 5 3 (fun r17 => gHas hp12 r16 3 ∧ w_X2_layOrigin r16 r2 r17 hp12 (fun r19 hp18 => gR r19 ∧ (if r19 = 0 then gHas hp18 a0 5 ∧ w_X5_refuse a0 hp18 (fun r27 hp26 => Q r27 hp26) else gA hp18 a0 5 3 (fun r20 => gHas hp18 r2 4 ∧ w_X4_take r2 r20 hp18 (fun hp21 => gI hp21 r2 4 1 (fun r23 => gHas hp21 a0 5 ∧ w_X5_sheetActDone a0 r23 hp21 (fun r25 hp24 => Q r25 hp24))))))))))))))))
abbrev rm_X5_undo : Room := { frames := 10, cells := 4, slots := 24, locals := 242 }
theorem hd_X5_undo : yX5_undo.cls = RX5 ∧ (yX5_undo.cls ≠ "java/lang/invoke/MethodHandle" ∧ yX5_undo.cls ≠ "java/lang/invoke/VarHandle" ∧ (parseMethodDescriptor yX5_undo.desc).map (fun d => d.parameters.length) = some 3) := by decide +kernel
theorem k_X5_undo {l : Launch} (hst : l.stackTraces = false) {G : gaG} {X : String → gaH → Prop} {a0 : Nat} {a1 : Int} {a2 : Int} {a3 : Int} {h : gaH} {Q : Int → gaH → Prop} (hw : w_X5_undo X a0 a1 a2 a3 h Q) : gaC l G yX5_undo (gaM yX5_undo cX5_undo 5 ((some .int))) rm_X5_undo [.ref a0, gi a1, gi a2, gi a3] h (gQi Q) X := by
  refine g_start (lv := [some (.ref a0), some (gi a1), some (gi a2), some (gi a3), none]) hpl_RX5 hst (Nat.le_of_ble_eq_true rfl) (gaArgs_pad (z := 1) rfl) ww_3_118 ?_
  intro p e s m args below meth c V hT
  show gaP p l e rm_X5_undo s m args below meth c G 5 (gaZ below G (gQi Q) X args s rm_X5_undo) 0 [some (.ref a0), some (gi a1), some (gi a2), some (gi a3), none] [] h 4 24
  unfold w_X5_undo at hw
  refine g_aload_n V dX5_undo_0 rfl rfl ?_
  refine g_iload_n V dX5_undo_1 rfl rfl ?_
  obtain ⟨hb, hw⟩ := hw
  obtain ⟨fb, hb⟩ := hb
  obtain ⟨hk, hj, c3, s4, ec, es, hw⟩ := hw
  refine g_callV (C := RX5) (T := TX5) (N := 9) (st := []) V (k_X5_wordOf hst hw) ww_1_150 ww_1_152 wp_1_1 ww_1_1 ww_1_153 hd_X5_wordOf ⟨by decide, by decide⟩ rfl (by decide) hb rfl rfl (ga_cat rfl) dX5_undo_2 hk hj rfl (gaX_all hT V) (ga_ka (fun r2 hp1 hw => ?_))
  refine ga_re ec es ?_
  refine g_astore (lv2 := [some (.ref a0), some (gi a1), some (gi a2), some (gi a3), some (.ref r2)]) V dX5_undo_5 (by decide) rfl rfl rfl ?_
  refine g_aload_n V dX5_undo_7 rfl rfl ?_
  refine g_iload_n V dX5_undo_8 rfl rfl ?_
  refine g_iload_n V dX5_undo_9 rfl rfl ?_
  obtain ⟨hb, hw⟩ := hw
  obtain ⟨fb, hb⟩ := hb
  obtain ⟨hk, hj, c7, s8, ec, es, hw⟩ := hw
  refine g_callV (C := RX5) (T := TX5) (N := 9) (st := []) V (k_X5_takeRule hst hw) ww_3_100 ww_3_102 wp_1_13 ww_1_1 ww_3_103 hd_X5_takeRule ⟨by decide, by decide⟩ rfl (by decide) hb rfl rfl (ga_cat rfl) dX5_undo_10 hk hj rfl (gaX_all hT V) (ga_kv (fun hp5 hw => ?_))
  refine ga_re ec es ?_
  refine g_aload_n V dX5_undo_13 rfl rfl ?_
  obtain ⟨fs, r9, ha, hv, hw⟩ := hw
  refine g_get (C := RX5) (T := TX5) (N := 9) V 2 rfl hin_RX5 (by decide) (by decide) ww_1_112 rfl ha hv dX5_undo_14 rfl ?_
  obtain ⟨hb, hw⟩ := hw
  obtain ⟨fb, hb⟩ := hb
  refine g_callV (C := RX2) (T := TX2) (N := 3) (st := []) V (k_X2_keepsApart hst hw) ww_3_119 ww_3_120 ww_3_121 ww_1_2 ww_3_122 hd_X2_keepsApart ⟨by decide, by decide⟩ rfl (by decide) hb rfl rfl (ga_cat rfl) dX5_undo_17 (Nat.zero_le _) (Nat.zero_le _) rfl (gaX_all hT V) (ga_ki (fun r11 hp10 hw => ?_))
  obtain ⟨hk, hj, c14, s15, ec, es, hw⟩ := hw
  refine g_callS (st := []) V (k_X5_needState hst hw) ww_3_124 ww_3_125 ww_1_1 ww_3_126 hd_X5_needState ⟨by decide, by decide⟩ rfl rfl (ga_cat rfl) dX5_undo_20 hk hj rfl (gaX_all hT V) (ga_kv (fun hp12 hw => ?_))
  refine ga_re ec es ?_
  refine g_aload_n V dX5_undo_23 rfl rfl ?_
  obtain ⟨fs, r16, ha, hv, hw⟩ := hw
  refine g_get (C := RX5) (T := TX5) (N := 9) V 2 rfl hin_RX5 (by decide) (by decide) ww_1_112 rfl ha hv dX5_undo_24 rfl ?_
  refine g_aload V dX5_undo_27 rfl rfl ?_
  refine g_aload_n V dX5_undo_29 rfl rfl ?_
  obtain ⟨fs, r17, ha, hv, hw⟩ := hw
  refine g_get (C := RX5) (T := TX5) (N := 9) V 3 rfl hin_RX5 (by decide) (by decide) ww_1_113 rfl ha hv dX5_undo_30 rfl ?_
  obtain ⟨hb, hw⟩ := hw
  obtain ⟨fb, hb⟩ := hb
  refine g_callV (C := RX2) (T := TX2) (N := 3) (st := []) V (k_X2_layOrigin hst hw) ww_3_143 ww_3_144 ww_3_145 ww_1_2 ww_3_146 hd_X2_layOrigin ⟨by decide, by decide⟩ rfl (by decide) hb rfl rfl (ga_cat rfl) dX5_undo_33 (Nat.zero_le _) (Nat.zero_le _) rfl (gaX_all hT V) (ga_ki (fun r19 hp18 hw => ?_))
  obtain ⟨hx0, hw⟩ := hw
  refine gi_if_ne V dX5_undo_36 rfl rfl hx0 (fun q => ?_) (fun q => ?_)
  · have hw := ga_f q hw
    refine g_aload V dX5_undo_44 rfl rfl ?_
    refine g_aload_n V dX5_undo_46 rfl rfl ?_
    obtain ⟨fs, r20, ha, hv, hw⟩ := hw
    refine g_get (C := RX5) (T := TX5) (N := 9) V 3 rfl hin_RX5 (by decide) (by decide) ww_1_113 rfl ha hv dX5_undo_47 rfl ?_
    obtain ⟨hb, hw⟩ := hw
    obtain ⟨fb, hb⟩ := hb
    refine g_callV (C := RX4) (T := TX4) (N := 2) (st := []) V (k_X4_take hst hw) ww_2_237 ww_2_50 ww_2_51 ww_1_3 ww_2_52 hd_X4_take ⟨by decide, by decide⟩ rfl (by decide) hb rfl rfl (ga_cat rfl) dX5_undo_50 (Nat.zero_le _) (Nat.zero_le _) rfl (gaX_all hT V) (ga_kv (fun hp21 hw => ?_))
    refine g_aload_n V dX5_undo_53 rfl rfl ?_
    refine g_aload V dX5_undo_54 rfl rfl ?_
    obtain ⟨fs, r23, ha, hv, hw⟩ := hw
    refine g_getN (C := RX4) (T := TX4) (N := 2) (host := "Wordgarden") V 1 rfl hin_RX4 (by decide) (by decide) gn_3 rfl ha hv dX5_undo_56 rfl ?_
    obtain ⟨hb, hw⟩ := hw
    obtain ⟨fb, hb⟩ := hb
    refine g_callV (C := RX5) (T := TX5) (N := 9) (st := []) V (k_X5_sheetActDone hst hw) ww_2_216 ww_2_218 wp_1_8 ww_1_1 ww_2_219 hd_X5_sheetActDone ⟨by decide, by decide⟩ rfl (by decide) hb rfl rfl (ga_cat rfl) dX5_undo_59 (Nat.zero_le _) (Nat.zero_le _) rfl (gaX_all hT V) (ga_ki (fun r25 hp24 hw => ?_))
    exact g_iret V rfl rfl dX5_undo_62 ⟨_, rfl, hw⟩
  · have hw := ga_t q hw
    refine g_aload_n V dX5_undo_39 rfl rfl ?_
    obtain ⟨hb, hw⟩ := hw
    obtain ⟨fb, hb⟩ := hb
    refine g_callV (C := RX5) (T := TX5) (N := 9) (st := []) V (k_X5_refuse hst hw) ww_2_231 ww_2_233 wp_1_10 ww_1_1 ww_2_234 hd_X5_refuse ⟨by decide, by decide⟩ rfl (by decide) hb rfl rfl (ga_cat rfl) dX5_undo_40 (Nat.zero_le _) (Nat.zero_le _) rfl (gaX_all hT V) (ga_ki (fun r27 hp26 hw => ?_))
    exact g_iret V rfl rfl dX5_undo_43 ⟨_, rfl, hw⟩
def w_X5_write_J22 (X : String → gaH → Prop) (Q : Int → gaH → Prop) (v0 : Nat) (v2 : Int) (v3 : Nat) (t0 : Int) (h : gaH) (kc ks : Nat) : Prop := gCall 1 6 kc ks (fun c3 s4 => w_X5_needArgument X t0 h (fun hp1 => gHas hp1 v3 4 ∧ w_X4_takeCode v3 v2 hp1 (fun hp5 => gI hp5 v3 4 1 (fun r7 => gHas hp5 v0 5 ∧ w_X5_sheetActDone v0 r7 hp5 (fun r9 hp8 => Q r9 hp8)))))
def w_X5_write_J21 (X : String → gaH → Prop) (Q : Int → gaH → Prop) (v0 : Nat) (v2 : Int) (v3 : Nat) (h : gaH) (kc ks : Nat) : Prop := w_X5_write_J22 X Q v0 v2 v3 0 h kc ks
def w_X5_write (X : String → gaH → Prop) (a0 : Nat) (a1 : Int) (a2 : Int) (h : gaH) (Q : Int → gaH → Prop) : Prop := gHas h a0 5 ∧ gCall 1 6 2 12 (fun c3 s4 => w_X5_wordOf X a0 a1 h (fun r2 hp1 => gR a2 ∧ (if a2 < 1 then w_X5_write_J21 X Q a0 a2 r2 hp1 c3 s4 else gR a2 ∧ (if 65535 < a2 then w_X5_write_J21 X Q a0 a2 r2 hp1 c3 s4 else w_X5_write_J22 X Q a0 a2 r2 1 hp1 c3 s4))))
abbrev rm_X5_write : Room := { frames := 9, cells := 2, slots := 12, locals := 221 }
theorem hd_X5_write : yX5_write.cls = RX5 ∧ (yX5_write.cls ≠ "java/lang/invoke/MethodHandle" ∧ yX5_write.cls ≠ "java/lang/invoke/VarHandle" ∧ (parseMethodDescriptor yX5_write.desc).map (fun d => d.parameters.length) = some 2) := by decide +kernel
theorem k_X5_write {l : Launch} (hst : l.stackTraces = false) {G : gaG} {X : String → gaH → Prop} {a0 : Nat} {a1 : Int} {a2 : Int} {h : gaH} {Q : Int → gaH → Prop} (hw : w_X5_write X a0 a1 a2 h Q) : gaC l G yX5_write (gaM yX5_write cX5_write 4 ((some .int))) rm_X5_write [.ref a0, gi a1, gi a2] h (gQi Q) X := by
  refine g_start (lv := [some (.ref a0), some (gi a1), some (gi a2), none]) hpl_RX5 hst (Nat.le_of_ble_eq_true rfl) (gaArgs_pad (z := 1) rfl) ww_2_213 ?_
  intro p e s m args below meth c V hT
  have h_X5_write_J22 : ∀ (v0 : Nat) (v2 : Int) (v3 : Nat) (t0 : Int) (h : gaH) (kc ks : Nat), w_X5_write_J22 X Q v0 v2 v3 t0 h kc ks → gaP p l e rm_X5_write s m args below meth c G 4 (gaZ below G (gQi Q) X args s rm_X5_write) 22 [some (.ref v0), none, some (gi v2), some (.ref v3)] [gi t0] h kc ks := by
    intro v0 v2 v3 t0 h kc ks hw
    unfold w_X5_write_J22 at hw
    obtain ⟨hk, hj, c3, s4, ec, es, hw⟩ := hw
    refine g_callS (st := []) V (k_X5_needArgument hst hw) ww_2_172 ww_2_173 ww_1_1 ww_2_174 hd_X5_needArgument ⟨by decide, by decide⟩ rfl rfl (ga_cat rfl) dX5_write_22 hk hj rfl (gaX_all hT V) (ga_kv (fun hp1 hw => ?_))
    refine ga_re ec es ?_
    refine g_aload_n V dX5_write_25 rfl rfl ?_
    refine g_iload_n V dX5_write_26 rfl rfl ?_
    obtain ⟨hb, hw⟩ := hw
    obtain ⟨fb, hb⟩ := hb
    refine g_callV (C := RX4) (T := TX4) (N := 2) (st := []) V (k_X4_takeCode hst hw) ww_2_215 ww_2_36 ww_2_37 ww_1_3 ww_2_38 hd_X4_takeCode ⟨by decide, by decide⟩ rfl (by decide) hb rfl rfl (ga_cat rfl) dX5_write_27 (Nat.zero_le _) (Nat.zero_le _) rfl (gaX_all hT V) (ga_kv (fun hp5 hw => ?_))
    refine g_aload_n V dX5_write_30 rfl rfl ?_
    refine g_aload_n V dX5_write_31 rfl rfl ?_
    obtain ⟨fs, r7, ha, hv, hw⟩ := hw
    refine g_getN (C := RX4) (T := TX4) (N := 2) (host := "Wordgarden") V 1 rfl hin_RX4 (by decide) (by decide) gn_3 rfl ha hv dX5_write_32 rfl ?_
    obtain ⟨hb, hw⟩ := hw
    obtain ⟨fb, hb⟩ := hb
    refine g_callV (C := RX5) (T := TX5) (N := 9) (st := []) V (k_X5_sheetActDone hst hw) ww_2_216 ww_2_218 wp_1_8 ww_1_1 ww_2_219 hd_X5_sheetActDone ⟨by decide, by decide⟩ rfl (by decide) hb rfl rfl (ga_cat rfl) dX5_write_35 (Nat.zero_le _) (Nat.zero_le _) rfl (gaX_all hT V) (ga_ki (fun r9 hp8 hw => ?_))
    exact g_iret V rfl rfl dX5_write_38 ⟨_, rfl, hw⟩
  have h_X5_write_J21 : ∀ (v0 : Nat) (v2 : Int) (v3 : Nat) (h : gaH) (kc ks : Nat), w_X5_write_J21 X Q v0 v2 v3 h kc ks → gaP p l e rm_X5_write s m args below meth c G 4 (gaZ below G (gQi Q) X args s rm_X5_write) 21 [some (.ref v0), none, some (gi v2), some (.ref v3)] [] h kc ks := by
    intro v0 v2 v3 h kc ks hw
    unfold w_X5_write_J21 at hw
    refine g_iconst V (Int32.ofInt 0) dX5_write_21 rfl rfl ?_
    exact h_X5_write_J22 v0 v2 v3 0 h kc ks hw
  show gaP p l e rm_X5_write s m args below meth c G 4 (gaZ below G (gQi Q) X args s rm_X5_write) 0 [some (.ref a0), some (gi a1), some (gi a2), none] [] h 2 12
  unfold w_X5_write at hw
  refine g_aload_n V dX5_write_0 rfl rfl ?_
  refine g_iload_n V dX5_write_1 rfl rfl ?_
  obtain ⟨hb, hw⟩ := hw
  obtain ⟨fb, hb⟩ := hb
  obtain ⟨hk, hj, c3, s4, ec, es, hw⟩ := hw
  refine g_callV (C := RX5) (T := TX5) (N := 9) (st := []) V (k_X5_wordOf hst hw) ww_1_150 ww_1_152 wp_1_1 ww_1_1 ww_1_153 hd_X5_wordOf ⟨by decide, by decide⟩ rfl (by decide) hb rfl rfl (ga_cat rfl) dX5_write_2 hk hj rfl (gaX_all hT V) (ga_ka (fun r2 hp1 hw => ?_))
  refine ga_re ec es ?_
  refine g_astore_n (lv2 := [some (.ref a0), some (gi a1), some (gi a2), some (.ref r2)]) V dX5_write_5 (by decide) rfl rfl rfl ?_
  refine g_iload_n V dX5_write_6 rfl rfl ?_
  refine g_iconst V (Int32.ofInt 1) dX5_write_7 rfl rfl ?_
  obtain ⟨hx0, hw⟩ := hw
  refine gi_icmp_lt V dX5_write_8 rfl rfl hx0 (by decide) (fun q => ?_) (fun q => ?_)
  · have hw := ga_t q hw
    refine g_less (bs := [true, false, true, true]) (lv2 := [some (.ref a0), none, some (gi a2), some (.ref r2)]) rfl ?_
    exact h_X5_write_J21 a0 a2 r2 hp1 c3 s4 hw
  · have hw := ga_f q hw
    refine g_iload_n V dX5_write_11 rfl rfl ?_
    refine g_ldc V (Int32.ofInt 65535) dX5_write_12 ww_2_214 rfl ?_
    obtain ⟨hx0, hw⟩ := hw
    refine gi_icmp_gt V dX5_write_14 rfl rfl hx0 (by decide) (fun q => ?_) (fun q => ?_)
    · have hw := ga_t q hw
      refine g_less (bs := [true, false, true, true]) (lv2 := [some (.ref a0), none, some (gi a2), some (.ref r2)]) rfl ?_
      exact h_X5_write_J21 a0 a2 r2 hp1 c3 s4 hw
    · have hw := ga_f q hw
      refine g_iconst V (Int32.ofInt 1) dX5_write_17 rfl rfl ?_
      refine g_goto V dX5_write_18 rfl ?_
      refine g_less (bs := [true, false, true, true]) (lv2 := [some (.ref a0), none, some (gi a2), some (.ref r2)]) rfl ?_
      exact h_X5_write_J22 a0 a2 r2 1 hp1 c3 s4 hw
