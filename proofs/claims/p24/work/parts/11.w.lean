def w_X4_isUp (a0 : Nat) (a1 : Int) (h : gaH) (Q : Int → gaH → Prop) : Prop := gR a1 ∧ (if a1 < 0 then Q 0 h else gA h a0 4 0 (fun r1 => gAL h r1 100 (fun r2 => gR a1 ∧ gR r2 ∧ (if r2 ≤ a1 then Q 0 h else gA h a0 4 0 (fun r3 => gLI h r3 100 a1 (fun r4 => gR r4 ∧ (if r4 = 0 then Q 0 h else Q 1 h)))))))
abbrev rm_X4_isUp : Room := { frames := 0, cells := 0, slots := 0, locals := 0 }
theorem hd_X4_isUp : yX4_isUp.cls = RX4 ∧ (yX4_isUp.cls ≠ "java/lang/invoke/MethodHandle" ∧ yX4_isUp.cls ≠ "java/lang/invoke/VarHandle" ∧ (parseMethodDescriptor yX4_isUp.desc).map (fun d => d.parameters.length) = some 1) := by decide +kernel
theorem k_X4_isUp {l : Launch} (hst : l.stackTraces = false) {G : gaG} {X : String → gaH → Prop} {a0 : Nat} {a1 : Int} {h : gaH} {Q : Int → gaH → Prop} (hw : w_X4_isUp a0 a1 h Q) : gaC l G yX4_isUp (gaM yX4_isUp cX4_isUp 2 ((some .boolean))) rm_X4_isUp [.ref a0, gi a1] h (gQi Q) X := by
  refine g_start (lv := [some (.ref a0), some (gi a1)]) hpl_RX4 hst (Nat.le_of_ble_eq_true rfl) (gaArgs_pad (z := 0) rfl) ww_1_230 ?_
  intro p e s m args below meth c V hT
  unfold w_X4_isUp at hw
  refine g_iload_n V dX4_isUp_0 rfl rfl ?_
  obtain ⟨hx0, hw⟩ := hw
  refine gi_if_lt V dX4_isUp_1 rfl rfl hx0 (fun q => ?_) (fun q => ?_)
  · have hw := ga_t q hw
    refine g_iconst V (Int32.ofInt 0) dX4_isUp_26 rfl rfl ?_
    exact g_iret V rfl rfl dX4_isUp_27 ⟨_, rfl, hw⟩
  · have hw := ga_f q hw
    refine g_iload_n V dX4_isUp_4 rfl rfl ?_
    refine g_aload_n V dX4_isUp_5 rfl rfl ?_
    obtain ⟨fs, r1, ha, hv, hw⟩ := hw
    refine g_get (C := RX4) (T := TX4) (N := 2) V 0 rfl hin_RX4 (by decide) (by decide) ww_1_50 rfl ha hv dX4_isUp_6 rfl ?_
    obtain ⟨t9, vs, ha, ht, hw⟩ := hw
    refine gi_arraylength (t0 := 100) V (by simp [gaT]) ha ht dX4_isUp_9 rfl ?_
    generalize (vs.length : Int) = r2 at hw ⊢
    obtain ⟨hx0, hx1, hw⟩ := hw
    refine gi_icmp_ge V dX4_isUp_10 rfl rfl hx0 hx1 (fun q => ?_) (fun q => ?_)
    · have hw := ga_t q hw
      refine g_iconst V (Int32.ofInt 0) dX4_isUp_26 rfl rfl ?_
      exact g_iret V rfl rfl dX4_isUp_27 ⟨_, rfl, hw⟩
    · have hw := ga_f q hw
      refine g_aload_n V dX4_isUp_13 rfl rfl ?_
      obtain ⟨fs, r3, ha, hv, hw⟩ := hw
      refine g_get (C := RX4) (T := TX4) (N := 2) V 0 rfl hin_RX4 (by decide) (by decide) ww_1_50 rfl ha hv dX4_isUp_14 rfl ?_
      refine g_iload_n V dX4_isUp_17 rfl rfl ?_
      obtain ⟨t9, vs, r4, ha, ht, h0, h9, hv, hw⟩ := hw
      refine gi_baloadZ V ha ht h0 h9 hv dX4_isUp_18 rfl ?_
      obtain ⟨hx0, hw⟩ := hw
      refine gi_if_eq V dX4_isUp_19 rfl rfl hx0 (fun q => ?_) (fun q => ?_)
      · have hw := ga_t q hw
        refine g_iconst V (Int32.ofInt 0) dX4_isUp_26 rfl rfl ?_
        exact g_iret V rfl rfl dX4_isUp_27 ⟨_, rfl, hw⟩
      · have hw := ga_f q hw
        refine g_iconst V (Int32.ofInt 1) dX4_isUp_22 rfl rfl ?_
        refine g_goto V dX4_isUp_23 rfl ?_
        exact g_iret V rfl rfl dX4_isUp_27 ⟨_, rfl, hw⟩
def w_X1_isUpJoined (a0 : Nat) (a1 : Nat) (a2 : Int) (h : gaH) (Q : Int → gaH → Prop) : Prop := gI h a0 4 1 (fun r1 => gR a2 ∧ gR r1 ∧ (if r1 ≤ a2 then gI h a0 4 1 (fun r2 => gHas h a1 4 ∧ w_X4_isUp a1 (a2 - r2) h (fun r4 hp3 => narrow .boolean (gi r4) = gi r4 ∧ Q r4 hp3)) else gHas h a0 4 ∧ w_X4_isUp a0 a2 h (fun r6 hp5 => narrow .boolean (gi r6) = gi r6 ∧ Q r6 hp5)))
abbrev rm_X1_isUpJoined : Room := { frames := 1, cells := 0, slots := 0, locals := 21 }
theorem hd_X1_isUpJoined : (yX1_isUpJoined.cls ≠ "java/lang/invoke/MethodHandle" ∧ yX1_isUpJoined.cls ≠ "java/lang/invoke/VarHandle" ∧ (parseMethodDescriptor yX1_isUpJoined.desc).map (fun d => d.parameters.length) = some 3) := by decide +kernel
theorem k_X1_isUpJoined {l : Launch} (hst : l.stackTraces = false) {G : gaG} {X : String → gaH → Prop} {a0 : Nat} {a1 : Nat} {a2 : Int} {h : gaH} {Q : Int → gaH → Prop} (hw : w_X1_isUpJoined a0 a1 a2 h Q) : gaC l G yX1_isUpJoined (gaM yX1_isUpJoined cX1_isUpJoined 3 ((some .boolean))) rm_X1_isUpJoined [.ref a0, .ref a1, gi a2] h (gQi Q) X := by
  refine g_start (lv := [some (.ref a0), some (.ref a1), some (gi a2)]) hpl_RX1 hst (Nat.le_of_ble_eq_true rfl) (gaArgs_pad (z := 0) rfl) ww_2_81 ?_
  intro p e s m args below meth c V hT
  unfold w_X1_isUpJoined at hw
  refine g_iload_n V dX1_isUpJoined_0 rfl rfl ?_
  refine g_aload_n V dX1_isUpJoined_1 rfl rfl ?_
  obtain ⟨fs, r1, ha, hv, hw⟩ := hw
  refine g_getN (C := RX4) (T := TX4) (N := 2) (host := "Wordgarden") V 1 rfl hin_RX4 (by decide) (by decide) gn_2 rfl ha hv dX1_isUpJoined_2 rfl ?_
  obtain ⟨hx0, hx1, hw⟩ := hw
  refine gi_icmp_ge V dX1_isUpJoined_5 rfl rfl hx0 hx1 (fun q => ?_) (fun q => ?_)
  · have hw := ga_t q hw
    refine g_aload_n V dX1_isUpJoined_16 rfl rfl ?_
    refine g_iload_n V dX1_isUpJoined_17 rfl rfl ?_
    refine g_aload_n V dX1_isUpJoined_18 rfl rfl ?_
    obtain ⟨fs, r2, ha, hv, hw⟩ := hw
    refine g_getN (C := RX4) (T := TX4) (N := 2) (host := "Wordgarden") V 1 rfl hin_RX4 (by decide) (by decide) gn_2 rfl ha hv dX1_isUpJoined_19 rfl ?_
    refine gi_isub V dX1_isUpJoined_22 rfl ?_
    obtain ⟨hb, hw⟩ := hw
    obtain ⟨fb, hb⟩ := hb
    refine g_callV (C := RX4) (T := TX4) (N := 2) (st := []) V (k_X4_isUp hst hw) ww_1_239 ww_1_228 ww_1_229 ww_1_3 ww_1_230 hd_X4_isUp ⟨by decide, by decide⟩ rfl (by decide) hb rfl rfl (ga_cat rfl) dX1_isUpJoined_23 (Nat.zero_le _) (Nat.zero_le _) rfl (gaX_all hT V) (ga_ki (fun r4 hp3 hw => ?_))
    exact g_iret V rfl hw.1 dX1_isUpJoined_26 ⟨_, rfl, hw.2⟩
  · have hw := ga_f q hw
    refine g_aload_n V dX1_isUpJoined_8 rfl rfl ?_
    refine g_iload_n V dX1_isUpJoined_9 rfl rfl ?_
    obtain ⟨hb, hw⟩ := hw
    obtain ⟨fb, hb⟩ := hb
    refine g_callV (C := RX4) (T := TX4) (N := 2) (st := []) V (k_X4_isUp hst hw) ww_1_239 ww_1_228 ww_1_229 ww_1_3 ww_1_230 hd_X4_isUp ⟨by decide, by decide⟩ rfl (by decide) hb rfl rfl (ga_cat rfl) dX1_isUpJoined_10 (Nat.zero_le _) (Nat.zero_le _) rfl (gaX_all hT V) (ga_ki (fun r6 hp5 hw => ?_))
    refine g_goto V dX1_isUpJoined_13 rfl ?_
    exact g_iret V rfl hw.1 dX1_isUpJoined_26 ⟨_, rfl, hw.2⟩
def w_X1_firstUnlikeJoined_L2 (Q : Int → gaH → Prop) : Nat → (Nat → Nat → Int → gaH → Prop)
  | 0 => fun _ _ _ _ => False
  | n + 1 => fun v0 v1 v2 h => gI h v0 4 1 (fun r1 => gI h v1 4 1 (fun r2 => gR v2 ∧ gR (r1 + r2) ∧ (if (r1 + r2) ≤ v2 then Q (-1) h else w_X1_isUpJoined v0 v1 v2 h (fun r4 hp3 => w_X1_isUpJoined v1 v0 v2 hp3 (fun r6 hp5 => gR r4 ∧ gR r6 ∧ (if r4 = r6 then w_X1_firstUnlikeJoined_L2 Q n v0 v1 (v2 + 1) hp5 else Q v2 hp5))))))
def w_X1_firstUnlikeJoined (a0 : Nat) (a1 : Nat) (h : gaH) (Q : Int → gaH → Prop) : Prop := ∃ z, w_X1_firstUnlikeJoined_L2 Q z a0 a1 0 h
abbrev rm_X1_firstUnlikeJoined : Room := { frames := 2, cells := 0, slots := 0, locals := 43 }
theorem hd_X1_firstUnlikeJoined : (yX1_firstUnlikeJoined.cls ≠ "java/lang/invoke/MethodHandle" ∧ yX1_firstUnlikeJoined.cls ≠ "java/lang/invoke/VarHandle" ∧ (parseMethodDescriptor yX1_firstUnlikeJoined.desc).map (fun d => d.parameters.length) = some 2) := by decide +kernel
theorem k_X1_firstUnlikeJoined {l : Launch} (hst : l.stackTraces = false) {G : gaG} {X : String → gaH → Prop} {a0 : Nat} {a1 : Nat} {h : gaH} {Q : Int → gaH → Prop} (hw : w_X1_firstUnlikeJoined a0 a1 h Q) : gaC l G yX1_firstUnlikeJoined (gaM yX1_firstUnlikeJoined cX1_firstUnlikeJoined 3 ((some .int))) rm_X1_firstUnlikeJoined [.ref a0, .ref a1] h (gQi Q) X := by
  refine g_start (lv := [some (.ref a0), some (.ref a1), none]) hpl_RX1 hst (Nat.le_of_ble_eq_true rfl) (gaArgs_pad (z := 1) rfl) ww_2_78 ?_
  intro p e s m args below meth c V hT
  have h_X1_firstUnlikeJoined_L2 : ∀ (n : Nat), ∀ (v0 : Nat) (v1 : Nat) (v2 : Int) (h : gaH), w_X1_firstUnlikeJoined_L2 Q n v0 v1 v2 h → gaP p l e rm_X1_firstUnlikeJoined s m args below meth c G 3 (gaZ below G (gQi Q) X args s rm_X1_firstUnlikeJoined) 2 [some (.ref v0), some (.ref v1), some (gi v2)] [] h 0 0 := by
    intro n
    induction n with
    | zero =>
      intro v0 v1 v2 h hw
      exact hw.elim
    | succ n ih =>
      intro v0 v1 v2 h hw
      unfold w_X1_firstUnlikeJoined_L2 at hw
      refine g_iload_n V dX1_firstUnlikeJoined_2 rfl rfl ?_
      refine g_aload_n V dX1_firstUnlikeJoined_3 rfl rfl ?_
      obtain ⟨fs, r1, ha, hv, hw⟩ := hw
      refine g_getN (C := RX4) (T := TX4) (N := 2) (host := "Wordgarden") V 1 rfl hin_RX4 (by decide) (by decide) gn_2 rfl ha hv dX1_firstUnlikeJoined_4 rfl ?_
      refine g_aload_n V dX1_firstUnlikeJoined_7 rfl rfl ?_
      obtain ⟨fs, r2, ha, hv, hw⟩ := hw
      refine g_getN (C := RX4) (T := TX4) (N := 2) (host := "Wordgarden") V 1 rfl hin_RX4 (by decide) (by decide) gn_2 rfl ha hv dX1_firstUnlikeJoined_8 rfl ?_
      refine gi_iadd V dX1_firstUnlikeJoined_11 rfl ?_
      obtain ⟨hx0, hx1, hw⟩ := hw
      refine gi_icmp_ge V dX1_firstUnlikeJoined_12 rfl rfl hx0 hx1 (fun q => ?_) (fun q => ?_)
      · have hw := ga_t q hw
        refine g_iconst V (Int32.ofInt (-1)) dX1_firstUnlikeJoined_38 rfl rfl ?_
        exact g_iret V rfl rfl dX1_firstUnlikeJoined_39 ⟨_, rfl, hw⟩
      · have hw := ga_f q hw
        refine g_aload_n V dX1_firstUnlikeJoined_15 rfl rfl ?_
        refine g_aload_n V dX1_firstUnlikeJoined_16 rfl rfl ?_
        refine g_iload_n V dX1_firstUnlikeJoined_17 rfl rfl ?_
        refine g_callS (st := []) V (k_X1_isUpJoined hst hw) ww_2_79 ww_2_80 ww_1_12 ww_2_81 hd_X1_isUpJoined ⟨by decide, by decide⟩ rfl rfl (ga_cat rfl) dX1_firstUnlikeJoined_18 (Nat.zero_le _) (Nat.zero_le _) rfl (gaX_all hT V) (ga_ki (fun r4 hp3 hw => ?_))
        refine g_aload_n V dX1_firstUnlikeJoined_21 rfl rfl ?_
        refine g_aload_n V dX1_firstUnlikeJoined_22 rfl rfl ?_
        refine g_iload_n V dX1_firstUnlikeJoined_23 rfl rfl ?_
        refine g_callS (st := [gi r4]) V (k_X1_isUpJoined hst hw) ww_2_79 ww_2_80 ww_1_12 ww_2_81 hd_X1_isUpJoined ⟨by decide, by decide⟩ rfl rfl (ga_cat rfl) dX1_firstUnlikeJoined_24 (Nat.zero_le _) (Nat.zero_le _) rfl (gaX_all hT V) (ga_ki (fun r6 hp5 hw => ?_))
        obtain ⟨hx0, hx1, hw⟩ := hw
        refine gi_icmp_eq V dX1_firstUnlikeJoined_27 rfl rfl hx0 hx1 (fun q => ?_) (fun q => ?_)
        · have hw := ga_t q hw
          refine gi_iinc (lv2 := [some (.ref v0), some (.ref v1), some (gi (v2 + 1))]) V dX1_firstUnlikeJoined_32 (by decide) rfl rfl rfl rfl ?_
          refine g_goto V dX1_firstUnlikeJoined_35 rfl ?_
          exact ih v0 v1 (v2 + 1) hp5 hw
        · have hw := ga_f q hw
          refine g_iload_n V dX1_firstUnlikeJoined_30 rfl rfl ?_
          exact g_iret V rfl rfl dX1_firstUnlikeJoined_31 ⟨_, rfl, hw⟩
  unfold w_X1_firstUnlikeJoined at hw
  refine g_iconst V (Int32.ofInt 0) dX1_firstUnlikeJoined_0 rfl rfl ?_
  refine g_istore_n (lv2 := [some (.ref a0), some (.ref a1), some (gi 0)]) V dX1_firstUnlikeJoined_1 (by decide) rfl rfl rfl ?_
  obtain ⟨z, hw⟩ := hw
  exact h_X1_firstUnlikeJoined_L2 z a0 a1 0 h hw
def w_X4_clear (a0 : Nat) (h : gaH) (Q : gaH → Prop) : Prop := gPF h a0 4 1 (gi 0) (fun hp1 => Q hp1)
abbrev rm_X4_clear : Room := { frames := 0, cells := 0, slots := 0, locals := 0 }
theorem hd_X4_clear : yX4_clear.cls = RX4 ∧ (yX4_clear.cls ≠ "java/lang/invoke/MethodHandle" ∧ yX4_clear.cls ≠ "java/lang/invoke/VarHandle" ∧ (parseMethodDescriptor yX4_clear.desc).map (fun d => d.parameters.length) = some 0) := by decide +kernel
theorem k_X4_clear {l : Launch} (hst : l.stackTraces = false) {G : gaG} {X : String → gaH → Prop} {a0 : Nat} {h : gaH} {Q : gaH → Prop} (hw : w_X4_clear a0 h Q) : gaC l G yX4_clear (gaM yX4_clear cX4_clear 1 ((none : Option Jvm.ClassFile.FieldType))) rm_X4_clear [.ref a0] h (gQv Q) X := by
  refine g_start (lv := [some (.ref a0)]) hpl_RX4 hst (Nat.le_of_ble_eq_true rfl) (gaArgs_pad (z := 0) rfl) ww_1_88 ?_
  intro p e s m args below meth c V hT
  unfold w_X4_clear at hw
  refine g_aload_n V dX4_clear_0 rfl rfl ?_
  refine g_iconst V (Int32.ofInt 0) dX4_clear_1 rfl rfl ?_
  obtain ⟨fs, ha, hl, hw⟩ := hw
  refine g_put (C := RX4) (T := TX4) (N := 2) V 1 tyX4 tyX4_ok nmX4 rfl hin_RX4 (by decide) (by decide) ww_1_54 rfl rfl rfl rfl ha hl dX4_clear_2 rfl ?_
  generalize gaUp h a0 _ = hp1 at hw ⊢
  exact g_vret V rfl dX4_clear_5 ⟨rfl, hw⟩
def w_X4_add (a0 : Nat) (a1 : Int) (h : gaH) (Q : gaH → Prop) : Prop := gI h a0 4 1 (fun r1 => gR r1 ∧ (if r1 < 0 then Q h else gI h a0 4 1 (fun r2 => gA h a0 4 0 (fun r3 => gAL h r3 100 (fun r4 => gR r2 ∧ gR r4 ∧ (if r4 ≤ r2 then Q h else gA h a0 4 0 (fun r5 => gI h a0 4 1 (fun r6 => narrow .boolean (gi a1) = gi a1 ∧ gSI h r5 100 r6 (gi a1) (fun hp7 => gI hp7 a0 4 1 (fun r8 => gPF hp7 a0 4 1 (gi (r8 + 1)) (fun hp9 => Q hp9)))))))))))
abbrev rm_X4_add : Room := { frames := 0, cells := 0, slots := 0, locals := 0 }
theorem hd_X4_add : yX4_add.cls = RX4 ∧ (yX4_add.cls ≠ "java/lang/invoke/MethodHandle" ∧ yX4_add.cls ≠ "java/lang/invoke/VarHandle" ∧ (parseMethodDescriptor yX4_add.desc).map (fun d => d.parameters.length) = some 1) := by decide +kernel
theorem k_X4_add {l : Launch} (hst : l.stackTraces = false) {G : gaG} {X : String → gaH → Prop} {a0 : Nat} {a1 : Int} {h : gaH} {Q : gaH → Prop} (hw : w_X4_add a0 a1 h Q) : gaC l G yX4_add (gaM yX4_add cX4_add 2 ((none : Option Jvm.ClassFile.FieldType))) rm_X4_add [.ref a0, gi a1] h (gQv Q) X := by
  refine g_start (lv := [some (.ref a0), some (gi a1)]) hpl_RX4 hst (Nat.le_of_ble_eq_true rfl) (gaArgs_pad (z := 0) rfl) ww_1_92 ?_
  intro p e s m args below meth c V hT
  unfold w_X4_add at hw
  refine g_aload_n V dX4_add_0 rfl rfl ?_
  obtain ⟨fs, r1, ha, hv, hw⟩ := hw
  refine g_get (C := RX4) (T := TX4) (N := 2) V 1 rfl hin_RX4 (by decide) (by decide) ww_1_54 rfl ha hv dX4_add_1 rfl ?_
  obtain ⟨hx0, hw⟩ := hw
  refine gi_if_lt V dX4_add_4 rfl rfl hx0 (fun q => ?_) (fun q => ?_)
  · have hw := ga_t q hw
    exact g_vret V rfl dX4_add_39 ⟨rfl, hw⟩
  · have hw := ga_f q hw
    refine g_aload_n V dX4_add_7 rfl rfl ?_
    obtain ⟨fs, r2, ha, hv, hw⟩ := hw
    refine g_get (C := RX4) (T := TX4) (N := 2) V 1 rfl hin_RX4 (by decide) (by decide) ww_1_54 rfl ha hv dX4_add_8 rfl ?_
    refine g_aload_n V dX4_add_11 rfl rfl ?_
    obtain ⟨fs, r3, ha, hv, hw⟩ := hw
    refine g_get (C := RX4) (T := TX4) (N := 2) V 0 rfl hin_RX4 (by decide) (by decide) ww_1_50 rfl ha hv dX4_add_12 rfl ?_
    obtain ⟨t9, vs, ha, ht, hw⟩ := hw
    refine gi_arraylength (t0 := 100) V (by simp [gaT]) ha ht dX4_add_15 rfl ?_
    generalize (vs.length : Int) = r4 at hw ⊢
    obtain ⟨hx0, hx1, hw⟩ := hw
    refine gi_icmp_ge V dX4_add_16 rfl rfl hx0 hx1 (fun q => ?_) (fun q => ?_)
    · have hw := ga_t q hw
      exact g_vret V rfl dX4_add_39 ⟨rfl, hw⟩
    · have hw := ga_f q hw
      refine g_aload_n V dX4_add_19 rfl rfl ?_
      obtain ⟨fs, r5, ha, hv, hw⟩ := hw
      refine g_get (C := RX4) (T := TX4) (N := 2) V 0 rfl hin_RX4 (by decide) (by decide) ww_1_50 rfl ha hv dX4_add_20 rfl ?_
      refine g_aload_n V dX4_add_23 rfl rfl ?_
      obtain ⟨fs, r6, ha, hv, hw⟩ := hw
      refine g_get (C := RX4) (T := TX4) (N := 2) V 1 rfl hin_RX4 (by decide) (by decide) ww_1_54 rfl ha hv dX4_add_24 rfl ?_
      refine g_iload_n V dX4_add_27 rfl rfl ?_
      obtain ⟨hb, hw⟩ := hw
      obtain ⟨vs, ha, h0, h9, hi, hw⟩ := hw
      refine gi_bastoreZ V hb ha h0 h9 hi dX4_add_28 rfl ?_
      generalize gaUp h r5 _ = hp7 at hw ⊢
      refine g_aload_n V dX4_add_29 rfl rfl ?_
      refine g_dup V dX4_add_30 rfl rfl ?_
      obtain ⟨fs, r8, ha, hv, hw⟩ := hw
      refine g_get (C := RX4) (T := TX4) (N := 2) V 1 rfl hin_RX4 (by decide) (by decide) ww_1_54 rfl ha hv dX4_add_31 rfl ?_
      refine g_iconst V (Int32.ofInt 1) dX4_add_34 rfl rfl ?_
      refine gi_iadd V dX4_add_35 rfl ?_
      obtain ⟨fs, ha, hl, hw⟩ := hw
      refine g_put (C := RX4) (T := TX4) (N := 2) V 1 tyX4 tyX4_ok nmX4 rfl hin_RX4 (by decide) (by decide) ww_1_54 rfl rfl rfl rfl ha hl dX4_add_36 rfl ?_
      generalize gaUp hp7 a0 _ = hp9 at hw ⊢
      exact g_vret V rfl dX4_add_39 ⟨rfl, hw⟩
def w_X4_addPart_L3 (Q : gaH → Prop) : Nat → (Nat → Nat → Int → Int → gaH → Prop)
  | 0 => fun _ _ _ _ _ => False
  | n + 1 => fun v0 v1 v3 v4 h => gR v4 ∧ gR v3 ∧ (if v3 ≤ v4 then Q h else gHas h v1 4 ∧ w_X4_isUp v1 v4 h (fun r2 hp1 => gHas hp1 v0 4 ∧ w_X4_add v0 r2 hp1 (fun hp3 => w_X4_addPart_L3 Q n v0 v1 v3 (v4 + 1) hp3)))
def w_X4_addPart (a0 : Nat) (a1 : Nat) (a2 : Int) (a3 : Int) (h : gaH) (Q : gaH → Prop) : Prop := ∃ z, w_X4_addPart_L3 Q z a0 a1 a3 a2 h
abbrev rm_X4_addPart : Room := { frames := 1, cells := 0, slots := 0, locals := 21 }
theorem hd_X4_addPart : yX4_addPart.cls = RX4 ∧ (yX4_addPart.cls ≠ "java/lang/invoke/MethodHandle" ∧ yX4_addPart.cls ≠ "java/lang/invoke/VarHandle" ∧ (parseMethodDescriptor yX4_addPart.desc).map (fun d => d.parameters.length) = some 3) := by decide +kernel
theorem k_X4_addPart {l : Launch} (hst : l.stackTraces = false) {G : gaG} {X : String → gaH → Prop} {a0 : Nat} {a1 : Nat} {a2 : Int} {a3 : Int} {h : gaH} {Q : gaH → Prop} (hw : w_X4_addPart a0 a1 a2 a3 h Q) : gaC l G yX4_addPart (gaM yX4_addPart cX4_addPart 5 ((none : Option Jvm.ClassFile.FieldType))) rm_X4_addPart [.ref a0, .ref a1, gi a2, gi a3] h (gQv Q) X := by
  refine g_start (lv := [some (.ref a0), some (.ref a1), some (gi a2), some (gi a3), none]) hpl_RX4 hst (Nat.le_of_ble_eq_true rfl) (gaArgs_pad (z := 1) rfl) ww_2_48 ?_
  intro p e s m args below meth c V hT
  have h_X4_addPart_L3 : ∀ (n : Nat), ∀ (v0 : Nat) (v1 : Nat) (v3 : Int) (v4 : Int) (h : gaH), w_X4_addPart_L3 Q n v0 v1 v3 v4 h → gaP p l e rm_X4_addPart s m args below meth c G 5 (gaZ below G (gQv Q) X args s rm_X4_addPart) 3 [some (.ref v0), some (.ref v1), none, some (gi v3), some (gi v4)] [] h 0 0 := by
    intro n
    induction n with
    | zero =>
      intro v0 v1 v3 v4 h hw
      exact hw.elim
    | succ n ih =>
      intro v0 v1 v3 v4 h hw
      unfold w_X4_addPart_L3 at hw
      refine g_iload V dX4_addPart_3 rfl rfl ?_
      refine g_iload_n V dX4_addPart_5 rfl rfl ?_
      obtain ⟨hx0, hx1, hw⟩ := hw
      refine gi_icmp_ge V dX4_addPart_6 rfl rfl hx0 hx1 (fun q => ?_) (fun q => ?_)
      · have hw := ga_t q hw
        exact g_vret V rfl dX4_addPart_25 ⟨rfl, hw⟩
      · have hw := ga_f q hw
        refine g_aload_n V dX4_addPart_9 rfl rfl ?_
        refine g_aload_n V dX4_addPart_10 rfl rfl ?_
        refine g_iload V dX4_addPart_11 rfl rfl ?_
        obtain ⟨hb, hw⟩ := hw
        obtain ⟨fb, hb⟩ := hb
        refine g_callV (C := RX4) (T := TX4) (N := 2) (st := [.ref v0]) V (k_X4_isUp hst hw) ww_1_227 ww_1_228 ww_1_229 ww_1_3 ww_1_230 hd_X4_isUp ⟨by decide, by decide⟩ rfl (by decide) hb rfl rfl (ga_cat rfl) dX4_addPart_13 (Nat.zero_le _) (Nat.zero_le _) rfl (gaX_all hT V) (ga_ki (fun r2 hp1 hw => ?_))
        obtain ⟨hb, hw⟩ := hw
        obtain ⟨fb, hb⟩ := hb
        refine g_callV (C := RX4) (T := TX4) (N := 2) (st := []) V (k_X4_add hst hw) ww_1_231 ww_1_90 ww_1_91 ww_1_3 ww_1_92 hd_X4_add ⟨by decide, by decide⟩ rfl (by decide) hb rfl rfl (ga_cat rfl) dX4_addPart_16 (Nat.zero_le _) (Nat.zero_le _) rfl (gaX_all hT V) (ga_kv (fun hp3 hw => ?_))
        refine gi_iinc (lv2 := [some (.ref v0), some (.ref v1), none, some (gi v3), some (gi (v4 + 1))]) V dX4_addPart_19 (by decide) rfl rfl rfl rfl ?_
        refine g_goto V dX4_addPart_22 rfl ?_
        exact ih v0 v1 v3 (v4 + 1) hp3 hw
  unfold w_X4_addPart at hw
  refine g_iload_n V dX4_addPart_0 rfl rfl ?_
  refine g_istore (lv2 := [some (.ref a0), some (.ref a1), some (gi a2), some (gi a3), some (gi a2)]) V dX4_addPart_1 (by decide) rfl rfl rfl ?_
  refine g_less (bs := [true, true, false, true, true]) (lv2 := [some (.ref a0), some (.ref a1), none, some (gi a3), some (gi a2)]) rfl ?_
  obtain ⟨z, hw⟩ := hw
  exact h_X4_addPart_L3 z a0 a1 a3 a2 h hw
def w_X4_put (a0 : Nat) (a1 : Int) (a2 : Int) (h : gaH) (Q : gaH → Prop) : Prop := gR a1 ∧ (if a1 < 0 then Q h else gA h a0 4 0 (fun r1 => gAL h r1 100 (fun r2 => gR a1 ∧ gR r2 ∧ (if r2 ≤ a1 then Q h else gA h a0 4 0 (fun r3 => narrow .boolean (gi a2) = gi a2 ∧ gSI h r3 100 a1 (gi a2) (fun hp4 => Q hp4))))))
abbrev rm_X4_put : Room := { frames := 0, cells := 0, slots := 0, locals := 0 }
theorem hd_X4_put : yX4_put.cls = RX4 ∧ (yX4_put.cls ≠ "java/lang/invoke/MethodHandle" ∧ yX4_put.cls ≠ "java/lang/invoke/VarHandle" ∧ (parseMethodDescriptor yX4_put.desc).map (fun d => d.parameters.length) = some 2) := by decide +kernel
theorem k_X4_put {l : Launch} (hst : l.stackTraces = false) {G : gaG} {X : String → gaH → Prop} {a0 : Nat} {a1 : Int} {a2 : Int} {h : gaH} {Q : gaH → Prop} (hw : w_X4_put a0 a1 a2 h Q) : gaC l G yX4_put (gaM yX4_put cX4_put 3 ((none : Option Jvm.ClassFile.FieldType))) rm_X4_put [.ref a0, gi a1, gi a2] h (gQv Q) X := by
  refine g_start (lv := [some (.ref a0), some (gi a1), some (gi a2)]) hpl_RX4 hst (Nat.le_of_ble_eq_true rfl) (gaArgs_pad (z := 0) rfl) ww_2_56 ?_
  intro p e s m args below meth c V hT
  unfold w_X4_put at hw
  refine g_iload_n V dX4_put_0 rfl rfl ?_
  obtain ⟨hx0, hw⟩ := hw
  refine gi_if_lt V dX4_put_1 rfl rfl hx0 (fun q => ?_) (fun q => ?_)
  · have hw := ga_t q hw
    exact g_vret V rfl dX4_put_20 ⟨rfl, hw⟩
  · have hw := ga_f q hw
    refine g_iload_n V dX4_put_4 rfl rfl ?_
    refine g_aload_n V dX4_put_5 rfl rfl ?_
    obtain ⟨fs, r1, ha, hv, hw⟩ := hw
    refine g_get (C := RX4) (T := TX4) (N := 2) V 0 rfl hin_RX4 (by decide) (by decide) ww_1_50 rfl ha hv dX4_put_6 rfl ?_
    obtain ⟨t9, vs, ha, ht, hw⟩ := hw
    refine gi_arraylength (t0 := 100) V (by simp [gaT]) ha ht dX4_put_9 rfl ?_
    generalize (vs.length : Int) = r2 at hw ⊢
    obtain ⟨hx0, hx1, hw⟩ := hw
    refine gi_icmp_ge V dX4_put_10 rfl rfl hx0 hx1 (fun q => ?_) (fun q => ?_)
    · have hw := ga_t q hw
      exact g_vret V rfl dX4_put_20 ⟨rfl, hw⟩
    · have hw := ga_f q hw
      refine g_aload_n V dX4_put_13 rfl rfl ?_
      obtain ⟨fs, r3, ha, hv, hw⟩ := hw
      refine g_get (C := RX4) (T := TX4) (N := 2) V 0 rfl hin_RX4 (by decide) (by decide) ww_1_50 rfl ha hv dX4_put_14 rfl ?_
      refine g_iload_n V dX4_put_17 rfl rfl ?_
      refine g_iload_n V dX4_put_18 rfl rfl ?_
      obtain ⟨hb, hw⟩ := hw
      obtain ⟨vs, ha, h0, h9, hi, hw⟩ := hw
      refine gi_bastoreZ V hb ha h0 h9 hi dX4_put_19 rfl ?_
      generalize gaUp h r3 _ = hp4 at hw ⊢
      exact g_vret V rfl dX4_put_20 ⟨rfl, hw⟩
def w_X4_take_L2 (Q : gaH → Prop) : Nat → (Nat → Nat → Int → gaH → Prop)
  | 0 => fun _ _ _ _ => False
  | n + 1 => fun v0 v1 v2 h => gI h v1 4 1 (fun r1 => gR v2 ∧ gR r1 ∧ (if r1 ≤ v2 then gI h v1 4 1 (fun r2 => gPF h v0 4 1 (gi r2) (fun hp3 => Q hp3)) else gHas h v1 4 ∧ w_X4_isUp v1 v2 h (fun r5 hp4 => gHas hp4 v0 4 ∧ w_X4_put v0 v2 r5 hp4 (fun hp6 => w_X4_take_L2 Q n v0 v1 (v2 + 1) hp6))))
def w_X4_take (a0 : Nat) (a1 : Nat) (h : gaH) (Q : gaH → Prop) : Prop := ∃ z, w_X4_take_L2 Q z a0 a1 0 h
abbrev rm_X4_take : Room := { frames := 1, cells := 0, slots := 0, locals := 22 }
theorem hd_X4_take : yX4_take.cls = RX4 ∧ (yX4_take.cls ≠ "java/lang/invoke/MethodHandle" ∧ yX4_take.cls ≠ "java/lang/invoke/VarHandle" ∧ (parseMethodDescriptor yX4_take.desc).map (fun d => d.parameters.length) = some 1) := by decide +kernel
theorem k_X4_take {l : Launch} (hst : l.stackTraces = false) {G : gaG} {X : String → gaH → Prop} {a0 : Nat} {a1 : Nat} {h : gaH} {Q : gaH → Prop} (hw : w_X4_take a0 a1 h Q) : gaC l G yX4_take (gaM yX4_take cX4_take 3 ((none : Option Jvm.ClassFile.FieldType))) rm_X4_take [.ref a0, .ref a1] h (gQv Q) X := by
  refine g_start (lv := [some (.ref a0), some (.ref a1), none]) hpl_RX4 hst (Nat.le_of_ble_eq_true rfl) (gaArgs_pad (z := 1) rfl) ww_2_52 ?_
  intro p e s m args below meth c V hT
  have h_X4_take_L2 : ∀ (n : Nat), ∀ (v0 : Nat) (v1 : Nat) (v2 : Int) (h : gaH), w_X4_take_L2 Q n v0 v1 v2 h → gaP p l e rm_X4_take s m args below meth c G 3 (gaZ below G (gQv Q) X args s rm_X4_take) 2 [some (.ref v0), some (.ref v1), some (gi v2)] [] h 0 0 := by
    intro n
    induction n with
    | zero =>
      intro v0 v1 v2 h hw
      exact hw.elim
    | succ n ih =>
      intro v0 v1 v2 h hw
      unfold w_X4_take_L2 at hw
      refine g_iload_n V dX4_take_2 rfl rfl ?_
      refine g_aload_n V dX4_take_3 rfl rfl ?_
      obtain ⟨fs, r1, ha, hv, hw⟩ := hw
      refine g_get (C := RX4) (T := TX4) (N := 2) V 1 rfl hin_RX4 (by decide) (by decide) ww_1_54 rfl ha hv dX4_take_4 rfl ?_
      obtain ⟨hx0, hx1, hw⟩ := hw
      refine gi_icmp_ge V dX4_take_7 rfl rfl hx0 hx1 (fun q => ?_) (fun q => ?_)
      · have hw := ga_t q hw
        refine g_aload_n V dX4_take_26 rfl rfl ?_
        refine g_aload_n V dX4_take_27 rfl rfl ?_
        obtain ⟨fs, r2, ha, hv, hw⟩ := hw
        refine g_get (C := RX4) (T := TX4) (N := 2) V 1 rfl hin_RX4 (by decide) (by decide) ww_1_54 rfl ha hv dX4_take_28 rfl ?_
        obtain ⟨fs, ha, hl, hw⟩ := hw
        refine g_put (C := RX4) (T := TX4) (N := 2) V 1 tyX4 tyX4_ok nmX4 rfl hin_RX4 (by decide) (by decide) ww_1_54 rfl rfl rfl rfl ha hl dX4_take_31 rfl ?_
        generalize gaUp h v0 _ = hp3 at hw ⊢
        exact g_vret V rfl dX4_take_34 ⟨rfl, hw⟩
      · have hw := ga_f q hw
        refine g_aload_n V dX4_take_10 rfl rfl ?_
        refine g_iload_n V dX4_take_11 rfl rfl ?_
        refine g_aload_n V dX4_take_12 rfl rfl ?_
        refine g_iload_n V dX4_take_13 rfl rfl ?_
        obtain ⟨hb, hw⟩ := hw
        obtain ⟨fb, hb⟩ := hb
        refine g_callV (C := RX4) (T := TX4) (N := 2) (st := [gi v2, .ref v0]) V (k_X4_isUp hst hw) ww_1_227 ww_1_228 ww_1_229 ww_1_3 ww_1_230 hd_X4_isUp ⟨by decide, by decide⟩ rfl (by decide) hb rfl rfl (ga_cat rfl) dX4_take_14 (Nat.zero_le _) (Nat.zero_le _) rfl (gaX_all hT V) (ga_ki (fun r5 hp4 hw => ?_))
        obtain ⟨hb, hw⟩ := hw
        obtain ⟨fb, hb⟩ := hb
        refine g_callV (C := RX4) (T := TX4) (N := 2) (st := []) V (k_X4_put hst hw) ww_2_53 ww_2_54 ww_2_55 ww_1_3 ww_2_56 hd_X4_put ⟨by decide, by decide⟩ rfl (by decide) hb rfl rfl (ga_cat rfl) dX4_take_17 (Nat.zero_le _) (Nat.zero_le _) rfl (gaX_all hT V) (ga_kv (fun hp6 hw => ?_))
        refine gi_iinc (lv2 := [some (.ref v0), some (.ref v1), some (gi (v2 + 1))]) V dX4_take_20 (by decide) rfl rfl rfl rfl ?_
        refine g_goto V dX4_take_23 rfl ?_
        exact ih v0 v1 (v2 + 1) hp6 hw
  unfold w_X4_take at hw
  refine g_iconst V (Int32.ofInt 0) dX4_take_0 rfl rfl ?_
  refine g_istore_n (lv2 := [some (.ref a0), some (.ref a1), some (gi 0)]) V dX4_take_1 (by decide) rfl rfl rfl ?_
  obtain ⟨z, hw⟩ := hw
  exact h_X4_take_L2 z a0 a1 0 h hw
def w_X4_takeCode_J48 (Q : gaH → Prop) (K9 : Nat → Int → Int → Int → gaH → Prop) (v0 : Nat) (v1 : Int) (v3 : Int) (h : gaH) : Prop := K9 v0 v1 1 (v3 + (-1)) h
def w_X4_takeCode_J39 (Q : gaH → Prop) (K9 : Nat → Int → Int → Int → gaH → Prop) (v0 : Nat) (v1 : Int) (v2 : Int) (v3 : Int) (v4 : Int) (h : gaH) : Prop := gR v2 ∧ (if v2 = 0 then gR v4 ∧ (if v4 = 0 then K9 v0 v1 0 (v3 + (-1)) h else w_X4_takeCode_J48 Q K9 v0 v1 v3 h) else w_X4_takeCode_J48 Q K9 v0 v1 v3 h)
def w_X4_takeCode_J27 (Q : gaH → Prop) (K9 : Nat → Int → Int → Int → gaH → Prop) (v0 : Nat) (v1 : Int) (v2 : Int) (v3 : Int) (t0 : Int) (h : gaH) : Prop := gR v2 ∧ (if v2 = 0 then w_X4_takeCode_J39 Q K9 v0 v1 v2 v3 t0 h else gHas h v0 4 ∧ w_X4_add v0 t0 h (fun hp1 => w_X4_takeCode_J39 Q K9 v0 v1 v2 v3 t0 hp1))
def w_X4_takeCode_L9 (Q : gaH → Prop) : Nat → (Nat → Int → Int → Int → gaH → Prop)
  | 0 => fun _ _ _ _ _ => False
  | n + 1 => fun v0 v1 v2 v3 h => gR v3 ∧ (if v3 < 0 then Q h else gR (gAnd (gShr v1 v3) 1) ∧ (if (gAnd (gShr v1 v3) 1) = 1 then w_X4_takeCode_J27 Q (w_X4_takeCode_L9 Q n) v0 v1 v2 v3 1 h else w_X4_takeCode_J27 Q (w_X4_takeCode_L9 Q n) v0 v1 v2 v3 0 h))
def w_X4_takeCode (a0 : Nat) (a1 : Int) (h : gaH) (Q : gaH → Prop) : Prop := gHas h a0 4 ∧ w_X4_clear a0 h (fun hp1 => ∃ z, w_X4_takeCode_L9 Q z a0 a1 0 15 hp1)
abbrev rm_X4_takeCode : Room := { frames := 1, cells := 0, slots := 0, locals := 21 }
theorem hd_X4_takeCode : yX4_takeCode.cls = RX4 ∧ (yX4_takeCode.cls ≠ "java/lang/invoke/MethodHandle" ∧ yX4_takeCode.cls ≠ "java/lang/invoke/VarHandle" ∧ (parseMethodDescriptor yX4_takeCode.desc).map (fun d => d.parameters.length) = some 1) := by decide +kernel
theorem k_X4_takeCode {l : Launch} (hst : l.stackTraces = false) {G : gaG} {X : String → gaH → Prop} {a0 : Nat} {a1 : Int} {h : gaH} {Q : gaH → Prop} (hw : w_X4_takeCode a0 a1 h Q) : gaC l G yX4_takeCode (gaM yX4_takeCode cX4_takeCode 5 ((none : Option Jvm.ClassFile.FieldType))) rm_X4_takeCode [.ref a0, gi a1] h (gQv Q) X := by
  refine g_start (lv := [some (.ref a0), some (gi a1), none, none, none]) hpl_RX4 hst (Nat.le_of_ble_eq_true rfl) (gaArgs_pad (z := 3) rfl) ww_2_38 ?_
  intro p e s m args below meth c V hT
  have h_X4_takeCode_J48 : ∀ (K9 : Nat → Int → Int → Int → gaH → Prop), ∀ (hK9 : ∀ (v0 : Nat) (v1 : Int) (v2 : Int) (v3 : Int) (h : gaH), K9 v0 v1 v2 v3 h → gaP p l e rm_X4_takeCode s m args below meth c G 5 (gaZ below G (gQv Q) X args s rm_X4_takeCode) 9 [some (.ref v0), some (gi v1), some (gi v2), some (gi v3), none] [] h 0 0), ∀ (v0 : Nat) (v1 : Int) (v3 : Int) (h : gaH), w_X4_takeCode_J48 Q K9 v0 v1 v3 h → gaP p l e rm_X4_takeCode s m args below meth c G 5 (gaZ below G (gQv Q) X args s rm_X4_takeCode) 48 [some (.ref v0), some (gi v1), none, some (gi v3), none] [] h 0 0 := by
    intro K9 hK9
    intro v0 v1 v3 h hw
    unfold w_X4_takeCode_J48 at hw
    refine g_iconst V (Int32.ofInt 1) dX4_takeCode_48 rfl rfl ?_
    refine g_goto V dX4_takeCode_49 rfl ?_
    refine g_istore_n (lv2 := [some (.ref v0), some (gi v1), some (gi 1), some (gi v3), none]) V dX4_takeCode_53 (by decide) rfl rfl rfl ?_
    refine gi_iinc (lv2 := [some (.ref v0), some (gi v1), some (gi 1), some (gi (v3 + (-1))), none]) V dX4_takeCode_54 (by decide) rfl rfl rfl rfl ?_
    refine g_goto V dX4_takeCode_57 rfl ?_
    exact hK9 v0 v1 1 (v3 + (-1)) h hw
  have h_X4_takeCode_J39 : ∀ (K9 : Nat → Int → Int → Int → gaH → Prop), ∀ (hK9 : ∀ (v0 : Nat) (v1 : Int) (v2 : Int) (v3 : Int) (h : gaH), K9 v0 v1 v2 v3 h → gaP p l e rm_X4_takeCode s m args below meth c G 5 (gaZ below G (gQv Q) X args s rm_X4_takeCode) 9 [some (.ref v0), some (gi v1), some (gi v2), some (gi v3), none] [] h 0 0), ∀ (v0 : Nat) (v1 : Int) (v2 : Int) (v3 : Int) (v4 : Int) (h : gaH), w_X4_takeCode_J39 Q K9 v0 v1 v2 v3 v4 h → gaP p l e rm_X4_takeCode s m args below meth c G 5 (gaZ below G (gQv Q) X args s rm_X4_takeCode) 39 [some (.ref v0), some (gi v1), some (gi v2), some (gi v3), some (gi v4)] [] h 0 0 := by
    intro K9 hK9
    intro v0 v1 v2 v3 v4 h hw
    unfold w_X4_takeCode_J39 at hw
    refine g_iload_n V dX4_takeCode_39 rfl rfl ?_
    obtain ⟨hx0, hw⟩ := hw
    refine gi_if_ne V dX4_takeCode_40 rfl rfl hx0 (fun q => ?_) (fun q => ?_)
    · have hw := ga_f q hw
      refine g_less (bs := [true, true, false, true, false]) (lv2 := [some (.ref v0), some (gi v1), none, some (gi v3), none]) rfl ?_
      exact h_X4_takeCode_J48 K9 hK9 v0 v1 v3 h hw
    · have hw := ga_t q hw
      refine g_iload V dX4_takeCode_43 rfl rfl ?_
      obtain ⟨hx0, hw⟩ := hw
      refine gi_if_eq V dX4_takeCode_45 rfl rfl hx0 (fun q => ?_) (fun q => ?_)
      · have hw := ga_t q hw
        refine g_iconst V (Int32.ofInt 0) dX4_takeCode_52 rfl rfl ?_
        refine g_istore_n (lv2 := [some (.ref v0), some (gi v1), some (gi 0), some (gi v3), some (gi v4)]) V dX4_takeCode_53 (by decide) rfl rfl rfl ?_
        refine gi_iinc (lv2 := [some (.ref v0), some (gi v1), some (gi 0), some (gi (v3 + (-1))), some (gi v4)]) V dX4_takeCode_54 (by decide) rfl rfl rfl rfl ?_
        refine g_goto V dX4_takeCode_57 rfl ?_
        refine g_less (bs := [true, true, true, true, false]) (lv2 := [some (.ref v0), some (gi v1), some (gi 0), some (gi (v3 + (-1))), none]) rfl ?_
        exact hK9 v0 v1 0 (v3 + (-1)) h hw
      · have hw := ga_f q hw
        refine g_less (bs := [true, true, false, true, false]) (lv2 := [some (.ref v0), some (gi v1), none, some (gi v3), none]) rfl ?_
        exact h_X4_takeCode_J48 K9 hK9 v0 v1 v3 h hw
  have h_X4_takeCode_J27 : ∀ (K9 : Nat → Int → Int → Int → gaH → Prop), ∀ (hK9 : ∀ (v0 : Nat) (v1 : Int) (v2 : Int) (v3 : Int) (h : gaH), K9 v0 v1 v2 v3 h → gaP p l e rm_X4_takeCode s m args below meth c G 5 (gaZ below G (gQv Q) X args s rm_X4_takeCode) 9 [some (.ref v0), some (gi v1), some (gi v2), some (gi v3), none] [] h 0 0), ∀ (v0 : Nat) (v1 : Int) (v2 : Int) (v3 : Int) (t0 : Int) (h : gaH), w_X4_takeCode_J27 Q K9 v0 v1 v2 v3 t0 h → gaP p l e rm_X4_takeCode s m args below meth c G 5 (gaZ below G (gQv Q) X args s rm_X4_takeCode) 27 [some (.ref v0), some (gi v1), some (gi v2), some (gi v3), none] [gi t0] h 0 0 := by
    intro K9 hK9
    intro v0 v1 v2 v3 t0 h hw
    unfold w_X4_takeCode_J27 at hw
    refine g_istore (lv2 := [some (.ref v0), some (gi v1), some (gi v2), some (gi v3), some (gi t0)]) V dX4_takeCode_27 (by decide) rfl rfl rfl ?_
    refine g_iload_n V dX4_takeCode_29 rfl rfl ?_
    obtain ⟨hx0, hw⟩ := hw
    refine gi_if_eq V dX4_takeCode_30 rfl rfl hx0 (fun q => ?_) (fun q => ?_)
    · have hw := ga_t q hw
      exact h_X4_takeCode_J39 K9 hK9 v0 v1 v2 v3 t0 h hw
    · have hw := ga_f q hw
      refine g_aload_n V dX4_takeCode_33 rfl rfl ?_
      refine g_iload V dX4_takeCode_34 rfl rfl ?_
      obtain ⟨hb, hw⟩ := hw
      obtain ⟨fb, hb⟩ := hb
      refine g_callV (C := RX4) (T := TX4) (N := 2) (st := []) V (k_X4_add hst hw) ww_1_231 ww_1_90 ww_1_91 ww_1_3 ww_1_92 hd_X4_add ⟨by decide, by decide⟩ rfl (by decide) hb rfl rfl (ga_cat rfl) dX4_takeCode_36 (Nat.zero_le _) (Nat.zero_le _) rfl (gaX_all hT V) (ga_kv (fun hp1 hw => ?_))
      exact h_X4_takeCode_J39 K9 hK9 v0 v1 v2 v3 t0 hp1 hw
  have h_X4_takeCode_L9 : ∀ (n : Nat), ∀ (v0 : Nat) (v1 : Int) (v2 : Int) (v3 : Int) (h : gaH), w_X4_takeCode_L9 Q n v0 v1 v2 v3 h → gaP p l e rm_X4_takeCode s m args below meth c G 5 (gaZ below G (gQv Q) X args s rm_X4_takeCode) 9 [some (.ref v0), some (gi v1), some (gi v2), some (gi v3), none] [] h 0 0 := by
    intro n
    induction n with
    | zero =>
      intro v0 v1 v2 v3 h hw
      exact hw.elim
    | succ n ih =>
      intro v0 v1 v2 v3 h hw
      unfold w_X4_takeCode_L9 at hw
      refine g_iload_n V dX4_takeCode_9 rfl rfl ?_
      obtain ⟨hx0, hw⟩ := hw
      refine gi_if_lt V dX4_takeCode_10 rfl rfl hx0 (fun q => ?_) (fun q => ?_)
      · have hw := ga_t q hw
        exact g_vret V rfl dX4_takeCode_60 ⟨rfl, hw⟩
      · have hw := ga_f q hw
        refine g_iload_n V dX4_takeCode_13 rfl rfl ?_
        refine g_iload_n V dX4_takeCode_14 rfl rfl ?_
        refine gi_ishr V dX4_takeCode_15 rfl ?_
        refine g_iconst V (Int32.ofInt 1) dX4_takeCode_16 rfl rfl ?_
        refine gi_iand V dX4_takeCode_17 rfl ?_
        refine g_iconst V (Int32.ofInt 1) dX4_takeCode_18 rfl rfl ?_
        obtain ⟨hx0, hw⟩ := hw
        refine gi_icmp_ne V dX4_takeCode_19 rfl rfl hx0 (by decide) (fun q => ?_) (fun q => ?_)
        · have hw := ga_f q hw
          refine g_iconst V (Int32.ofInt 0) dX4_takeCode_26 rfl rfl ?_
          exact h_X4_takeCode_J27 (w_X4_takeCode_L9 Q n) ih v0 v1 v2 v3 0 h hw
        · have hw := ga_t q hw
          refine g_iconst V (Int32.ofInt 1) dX4_takeCode_22 rfl rfl ?_
          refine g_goto V dX4_takeCode_23 rfl ?_
          exact h_X4_takeCode_J27 (w_X4_takeCode_L9 Q n) ih v0 v1 v2 v3 1 h hw
  unfold w_X4_takeCode at hw
  refine g_aload_n V dX4_takeCode_0 rfl rfl ?_
  obtain ⟨hb, hw⟩ := hw
  obtain ⟨fb, hb⟩ := hb
  refine g_callV (C := RX4) (T := TX4) (N := 2) (st := []) V (k_X4_clear hst hw) ww_1_226 ww_1_86 ww_1_87 ww_1_3 ww_1_88 hd_X4_clear ⟨by decide, by decide⟩ rfl (by decide) hb rfl rfl (ga_cat rfl) dX4_takeCode_1 (Nat.zero_le _) (Nat.zero_le _) rfl (gaX_all hT V) (ga_kv (fun hp1 hw => ?_))
  refine g_iconst V (Int32.ofInt 0) dX4_takeCode_4 rfl rfl ?_
  refine g_istore_n (lv2 := [some (.ref a0), some (gi a1), some (gi 0), none, none]) V dX4_takeCode_5 (by decide) rfl rfl rfl ?_
  refine g_bipush V (Int32.ofInt 15) dX4_takeCode_6 rfl rfl ?_
  refine g_istore_n (lv2 := [some (.ref a0), some (gi a1), some (gi 0), some (gi 15), none]) V dX4_takeCode_8 (by decide) rfl rfl rfl ?_
  obtain ⟨z, hw⟩ := hw
  exact h_X4_takeCode_L9 z a0 a1 0 15 hp1 hw
def w_X2_take (a0 : Nat) (a1 : Int) (a2 : Int) (h : gaH) (Q : gaH → Prop) : Prop := gA h a0 3 0 (fun r1 => gHas h r1 4 ∧ w_X4_takeCode r1 a1 h (fun hp2 => gA hp2 a0 3 1 (fun r4 => gHas hp2 r4 4 ∧ w_X4_takeCode r4 a2 hp2 (fun hp5 => Q hp5))))
abbrev rm_X2_take : Room := { frames := 2, cells := 0, slots := 0, locals := 45 }
theorem hd_X2_take : yX2_take.cls = RX2 ∧ (yX2_take.cls ≠ "java/lang/invoke/MethodHandle" ∧ yX2_take.cls ≠ "java/lang/invoke/VarHandle" ∧ (parseMethodDescriptor yX2_take.desc).map (fun d => d.parameters.length) = some 2) := by decide +kernel
theorem k_X2_take {l : Launch} (hst : l.stackTraces = false) {G : gaG} {X : String → gaH → Prop} {a0 : Nat} {a1 : Int} {a2 : Int} {h : gaH} {Q : gaH → Prop} (hw : w_X2_take a0 a1 a2 h Q) : gaC l G yX2_take (gaM yX2_take cX2_take 3 ((none : Option Jvm.ClassFile.FieldType))) rm_X2_take [.ref a0, gi a1, gi a2] h (gQv Q) X := by
  refine g_start (lv := [some (.ref a0), some (gi a1), some (gi a2)]) hpl_RX2 hst (Nat.le_of_ble_eq_true rfl) (gaArgs_pad (z := 0) rfl) ww_2_34 ?_
  intro p e s m args below meth c V hT
  unfold w_X2_take at hw
  refine g_aload_n V dX2_take_0 rfl rfl ?_
  obtain ⟨fs, r1, ha, hv, hw⟩ := hw
  refine g_get (C := RX2) (T := TX2) (N := 3) V 0 rfl hin_RX2 (by decide) (by decide) ww_1_63 rfl ha hv dX2_take_1 rfl ?_
  refine g_iload_n V dX2_take_4 rfl rfl ?_
  obtain ⟨hb, hw⟩ := hw
  obtain ⟨fb, hb⟩ := hb
  refine g_callV (C := RX4) (T := TX4) (N := 2) (st := []) V (k_X4_takeCode hst hw) ww_2_35 ww_2_36 ww_2_37 ww_1_3 ww_2_38 hd_X4_takeCode ⟨by decide, by decide⟩ rfl (by decide) hb rfl rfl (ga_cat rfl) dX2_take_5 (Nat.zero_le _) (Nat.zero_le _) rfl (gaX_all hT V) (ga_kv (fun hp2 hw => ?_))
  refine g_aload_n V dX2_take_8 rfl rfl ?_
  obtain ⟨fs, r4, ha, hv, hw⟩ := hw
  refine g_get (C := RX2) (T := TX2) (N := 3) V 1 rfl hin_RX2 (by decide) (by decide) ww_1_64 rfl ha hv dX2_take_9 rfl ?_
  refine g_iload_n V dX2_take_12 rfl rfl ?_
  obtain ⟨hb, hw⟩ := hw
  obtain ⟨fb, hb⟩ := hb
  refine g_callV (C := RX4) (T := TX4) (N := 2) (st := []) V (k_X4_takeCode hst hw) ww_2_35 ww_2_36 ww_2_37 ww_1_3 ww_2_38 hd_X4_takeCode ⟨by decide, by decide⟩ rfl (by decide) hb rfl rfl (ga_cat rfl) dX2_take_13 (Nat.zero_le _) (Nat.zero_le _) rfl (gaX_all hT V) (ga_kv (fun hp5 hw => ?_))
  exact g_vret V rfl dX2_take_16 ⟨rfl, hw⟩
def w_X1_upsOf_L4 (Q : Int → gaH → Prop) : Nat → (Nat → Int → Int → gaH → Prop)
  | 0 => fun _ _ _ _ => False
  | n + 1 => fun v0 v1 v2 h => gI h v0 4 1 (fun r1 => gR v2 ∧ gR r1 ∧ (if r1 ≤ v2 then Q v1 h else gHas h v0 4 ∧ w_X4_isUp v0 v2 h (fun r3 hp2 => gR r3 ∧ (if r3 = 0 then w_X1_upsOf_L4 Q n v0 v1 (v2 + 1) hp2 else w_X1_upsOf_L4 Q n v0 (v1 + 1) (v2 + 1) hp2))))
def w_X1_upsOf (a0 : Nat) (h : gaH) (Q : Int → gaH → Prop) : Prop := ∃ z, w_X1_upsOf_L4 Q z a0 0 0 h
abbrev rm_X1_upsOf : Room := { frames := 1, cells := 0, slots := 0, locals := 21 }
theorem hd_X1_upsOf : (yX1_upsOf.cls ≠ "java/lang/invoke/MethodHandle" ∧ yX1_upsOf.cls ≠ "java/lang/invoke/VarHandle" ∧ (parseMethodDescriptor yX1_upsOf.desc).map (fun d => d.parameters.length) = some 1) := by decide +kernel
theorem k_X1_upsOf {l : Launch} (hst : l.stackTraces = false) {G : gaG} {X : String → gaH → Prop} {a0 : Nat} {h : gaH} {Q : Int → gaH → Prop} (hw : w_X1_upsOf a0 h Q) : gaC l G yX1_upsOf (gaM yX1_upsOf cX1_upsOf 3 ((some .int))) rm_X1_upsOf [.ref a0] h (gQi Q) X := by
  refine g_start (lv := [some (.ref a0), none, none]) hpl_RX1 hst (Nat.le_of_ble_eq_true rfl) (gaArgs_pad (z := 2) rfl) ww_1_238 ?_
  intro p e s m args below meth c V hT
  have h_X1_upsOf_L4 : ∀ (n : Nat), ∀ (v0 : Nat) (v1 : Int) (v2 : Int) (h : gaH), w_X1_upsOf_L4 Q n v0 v1 v2 h → gaP p l e rm_X1_upsOf s m args below meth c G 3 (gaZ below G (gQi Q) X args s rm_X1_upsOf) 4 [some (.ref v0), some (gi v1), some (gi v2)] [] h 0 0 := by
    intro n
    induction n with
    | zero =>
      intro v0 v1 v2 h hw
      exact hw.elim
    | succ n ih =>
      intro v0 v1 v2 h hw
      unfold w_X1_upsOf_L4 at hw
      refine g_iload_n V dX1_upsOf_4 rfl rfl ?_
      refine g_aload_n V dX1_upsOf_5 rfl rfl ?_
      obtain ⟨fs, r1, ha, hv, hw⟩ := hw
      refine g_getN (C := RX4) (T := TX4) (N := 2) (host := "Wordgarden") V 1 rfl hin_RX4 (by decide) (by decide) gn_2 rfl ha hv dX1_upsOf_6 rfl ?_
      obtain ⟨hx0, hx1, hw⟩ := hw
      refine gi_icmp_ge V dX1_upsOf_9 rfl rfl hx0 hx1 (fun q => ?_) (fun q => ?_)
      · have hw := ga_t q hw
        refine g_iload_n V dX1_upsOf_29 rfl rfl ?_
        exact g_iret V rfl rfl dX1_upsOf_30 ⟨_, rfl, hw⟩
      · have hw := ga_f q hw
        refine g_aload_n V dX1_upsOf_12 rfl rfl ?_
        refine g_iload_n V dX1_upsOf_13 rfl rfl ?_
        obtain ⟨hb, hw⟩ := hw
        obtain ⟨fb, hb⟩ := hb
        refine g_callV (C := RX4) (T := TX4) (N := 2) (st := []) V (k_X4_isUp hst hw) ww_1_239 ww_1_228 ww_1_229 ww_1_3 ww_1_230 hd_X4_isUp ⟨by decide, by decide⟩ rfl (by decide) hb rfl rfl (ga_cat rfl) dX1_upsOf_14 (Nat.zero_le _) (Nat.zero_le _) rfl (gaX_all hT V) (ga_ki (fun r3 hp2 hw => ?_))
        obtain ⟨hx0, hw⟩ := hw
        refine gi_if_eq V dX1_upsOf_17 rfl rfl hx0 (fun q => ?_) (fun q => ?_)
        · have hw := ga_t q hw
          refine gi_iinc (lv2 := [some (.ref v0), some (gi v1), some (gi (v2 + 1))]) V dX1_upsOf_23 (by decide) rfl rfl rfl rfl ?_
          refine g_goto V dX1_upsOf_26 rfl ?_
          exact ih v0 v1 (v2 + 1) hp2 hw
        · have hw := ga_f q hw
          refine gi_iinc (lv2 := [some (.ref v0), some (gi (v1 + 1)), some (gi v2)]) V dX1_upsOf_20 (by decide) rfl rfl rfl rfl ?_
          refine gi_iinc (lv2 := [some (.ref v0), some (gi (v1 + 1)), some (gi (v2 + 1))]) V dX1_upsOf_23 (by decide) rfl rfl rfl rfl ?_
          refine g_goto V dX1_upsOf_26 rfl ?_
          exact ih v0 (v1 + 1) (v2 + 1) hp2 hw
  unfold w_X1_upsOf at hw
  refine g_iconst V (Int32.ofInt 0) dX1_upsOf_0 rfl rfl ?_
  refine g_istore_n (lv2 := [some (.ref a0), some (gi 0), none]) V dX1_upsOf_1 (by decide) rfl rfl rfl ?_
  refine g_iconst V (Int32.ofInt 0) dX1_upsOf_2 rfl rfl ?_
  refine g_istore_n (lv2 := [some (.ref a0), some (gi 0), some (gi 0)]) V dX1_upsOf_3 (by decide) rfl rfl rfl ?_
  obtain ⟨z, hw⟩ := hw
  exact h_X1_upsOf_L4 z a0 0 0 h hw
def w_X2_imageLength (a0 : Nat) (a1 : Nat) (h : gaH) (Q : Int → gaH → Prop) : Prop := w_X1_upsOf a1 h (fun r2 hp1 => gI hp1 a1 4 1 (fun r3 => gA hp1 a0 3 0 (fun r4 => gI hp1 r4 4 1 (fun r5 => gA hp1 a0 3 1 (fun r6 => gI hp1 r6 4 1 (fun r7 => Q (((r3 - r2) * r5) + (r2 * r7)) hp1))))))
abbrev rm_X2_imageLength : Room := { frames := 2, cells := 0, slots := 0, locals := 43 }
theorem hd_X2_imageLength : yX2_imageLength.cls = RX2 ∧ (yX2_imageLength.cls ≠ "java/lang/invoke/MethodHandle" ∧ yX2_imageLength.cls ≠ "java/lang/invoke/VarHandle" ∧ (parseMethodDescriptor yX2_imageLength.desc).map (fun d => d.parameters.length) = some 1) := by decide +kernel
theorem k_X2_imageLength {l : Launch} (hst : l.stackTraces = false) {G : gaG} {X : String → gaH → Prop} {a0 : Nat} {a1 : Nat} {h : gaH} {Q : Int → gaH → Prop} (hw : w_X2_imageLength a0 a1 h Q) : gaC l G yX2_imageLength (gaM yX2_imageLength cX2_imageLength 3 ((some .int))) rm_X2_imageLength [.ref a0, .ref a1] h (gQi Q) X := by
  refine g_start (lv := [some (.ref a0), some (.ref a1), none]) hpl_RX2 hst (Nat.le_of_ble_eq_true rfl) (gaArgs_pad (z := 1) rfl) ww_3_108 ?_
  intro p e s m args below meth c V hT
  unfold w_X2_imageLength at hw
  refine g_aload_n V dX2_imageLength_0 rfl rfl ?_
  refine g_callS (st := []) V (k_X1_upsOf hst hw) ww_3_109 ww_1_237 ww_1_12 ww_1_238 hd_X1_upsOf ⟨by decide, by decide⟩ rfl rfl (ga_cat rfl) dX2_imageLength_1 (Nat.zero_le _) (Nat.zero_le _) rfl (gaX_all hT V) (ga_ki (fun r2 hp1 hw => ?_))
  refine g_istore_n (lv2 := [some (.ref a0), some (.ref a1), some (gi r2)]) V dX2_imageLength_4 (by decide) rfl rfl rfl ?_
  refine g_aload_n V dX2_imageLength_5 rfl rfl ?_
  obtain ⟨fs, r3, ha, hv, hw⟩ := hw
  refine g_getN (C := RX4) (T := TX4) (N := 2) (host := "Wordgarden") V 1 rfl hin_RX4 (by decide) (by decide) gn_5 rfl ha hv dX2_imageLength_6 rfl ?_
  refine g_iload_n V dX2_imageLength_9 rfl rfl ?_
  refine gi_isub V dX2_imageLength_10 rfl ?_
  refine g_aload_n V dX2_imageLength_11 rfl rfl ?_
  obtain ⟨fs, r4, ha, hv, hw⟩ := hw
  refine g_get (C := RX2) (T := TX2) (N := 3) V 0 rfl hin_RX2 (by decide) (by decide) ww_1_63 rfl ha hv dX2_imageLength_12 rfl ?_
  obtain ⟨fs, r5, ha, hv, hw⟩ := hw
  refine g_getN (C := RX4) (T := TX4) (N := 2) (host := "Wordgarden") V 1 rfl hin_RX4 (by decide) (by decide) gn_5 rfl ha hv dX2_imageLength_15 rfl ?_
  refine gi_imul V dX2_imageLength_18 rfl ?_
  refine g_iload_n V dX2_imageLength_19 rfl rfl ?_
  refine g_aload_n V dX2_imageLength_20 rfl rfl ?_
  obtain ⟨fs, r6, ha, hv, hw⟩ := hw
  refine g_get (C := RX2) (T := TX2) (N := 3) V 1 rfl hin_RX2 (by decide) (by decide) ww_1_64 rfl ha hv dX2_imageLength_21 rfl ?_
  obtain ⟨fs, r7, ha, hv, hw⟩ := hw
  refine g_getN (C := RX4) (T := TX4) (N := 2) (host := "Wordgarden") V 1 rfl hin_RX4 (by decide) (by decide) gn_5 rfl ha hv dX2_imageLength_24 rfl ?_
  refine gi_imul V dX2_imageLength_27 rfl ?_
  refine gi_iadd V dX2_imageLength_28 rfl ?_
  exact g_iret V rfl rfl dX2_imageLength_29 ⟨_, rfl, hw⟩
def w_X2_layImage_J33 (Q : gaH → Prop) (K6 : Nat → Nat → Nat → Int → gaH → Prop) (v0 : Nat) (v1 : Nat) (v2 : Nat) (v3 : Int) (t0 : Nat) (h : gaH) : Prop := gI h t0 4 1 (fun r1 => gHas h v2 4 ∧ w_X4_addPart v2 t0 0 r1 h (fun hp2 => K6 v0 v1 v2 (v3 + 1) hp2))
def w_X2_layImage_L6 (Q : gaH → Prop) : Nat → (Nat → Nat → Nat → Int → gaH → Prop)
  | 0 => fun _ _ _ _ _ => False
  | n + 1 => fun v0 v1 v2 v3 h => gI h v1 4 1 (fun r1 => gR v3 ∧ gR r1 ∧ (if r1 ≤ v3 then Q h else gHas h v1 4 ∧ w_X4_isUp v1 v3 h (fun r3 hp2 => gR r3 ∧ (if r3 = 0 then gA hp2 v0 3 0 (fun r4 => w_X2_layImage_J33 Q (w_X2_layImage_L6 Q n) v0 v1 v2 v3 r4 hp2) else gA hp2 v0 3 1 (fun r5 => w_X2_layImage_J33 Q (w_X2_layImage_L6 Q n) v0 v1 v2 v3 r5 hp2)))))
def w_X2_layImage (a0 : Nat) (a1 : Nat) (a2 : Nat) (h : gaH) (Q : gaH → Prop) : Prop := gHas h a2 4 ∧ w_X4_clear a2 h (fun hp1 => ∃ z, w_X2_layImage_L6 Q z a0 a1 a2 0 hp1)
abbrev rm_X2_layImage : Room := { frames := 2, cells := 0, slots := 0, locals := 45 }
theorem hd_X2_layImage : yX2_layImage.cls = RX2 ∧ (yX2_layImage.cls ≠ "java/lang/invoke/MethodHandle" ∧ yX2_layImage.cls ≠ "java/lang/invoke/VarHandle" ∧ (parseMethodDescriptor yX2_layImage.desc).map (fun d => d.parameters.length) = some 2) := by decide +kernel
theorem k_X2_layImage {l : Launch} (hst : l.stackTraces = false) {G : gaG} {X : String → gaH → Prop} {a0 : Nat} {a1 : Nat} {a2 : Nat} {h : gaH} {Q : gaH → Prop} (hw : w_X2_layImage a0 a1 a2 h Q) : gaC l G yX2_layImage (gaM yX2_layImage cX2_layImage 5 ((none : Option Jvm.ClassFile.FieldType))) rm_X2_layImage [.ref a0, .ref a1, .ref a2] h (gQv Q) X := by
  refine g_start (lv := [some (.ref a0), some (.ref a1), some (.ref a2), none, none]) hpl_RX2 hst (Nat.le_of_ble_eq_true rfl) (gaArgs_pad (z := 2) rfl) ww_2_42 ?_
  intro p e s m args below meth c V hT
  have h_X2_layImage_J33 : ∀ (K6 : Nat → Nat → Nat → Int → gaH → Prop), ∀ (hK6 : ∀ (v0 : Nat) (v1 : Nat) (v2 : Nat) (v3 : Int) (h : gaH), K6 v0 v1 v2 v3 h → gaP p l e rm_X2_layImage s m args below meth c G 5 (gaZ below G (gQv Q) X args s rm_X2_layImage) 6 [some (.ref v0), some (.ref v1), some (.ref v2), some (gi v3), none] [] h 0 0), ∀ (v0 : Nat) (v1 : Nat) (v2 : Nat) (v3 : Int) (t0 : Nat) (h : gaH), w_X2_layImage_J33 Q K6 v0 v1 v2 v3 t0 h → gaP p l e rm_X2_layImage s m args below meth c G 5 (gaZ below G (gQv Q) X args s rm_X2_layImage) 33 [some (.ref v0), some (.ref v1), some (.ref v2), some (gi v3), none] [.ref t0] h 0 0 := by
    intro K6 hK6
    intro v0 v1 v2 v3 t0 h hw
    unfold w_X2_layImage_J33 at hw
    refine g_astore (lv2 := [some (.ref v0), some (.ref v1), some (.ref v2), some (gi v3), some (.ref t0)]) V dX2_layImage_33 (by decide) rfl rfl rfl ?_
    refine g_aload_n V dX2_layImage_35 rfl rfl ?_
    refine g_aload V dX2_layImage_36 rfl rfl ?_
    refine g_iconst V (Int32.ofInt 0) dX2_layImage_38 rfl rfl ?_
    refine g_aload V dX2_layImage_39 rfl rfl ?_
    obtain ⟨fs, r1, ha, hv, hw⟩ := hw
    refine g_getN (C := RX4) (T := TX4) (N := 2) (host := "Wordgarden") V 1 rfl hin_RX4 (by decide) (by decide) gn_5 rfl ha hv dX2_layImage_41 rfl ?_
    obtain ⟨hb, hw⟩ := hw
    obtain ⟨fb, hb⟩ := hb
    refine g_callV (C := RX4) (T := TX4) (N := 2) (st := []) V (k_X4_addPart hst hw) ww_2_45 ww_2_46 ww_2_47 ww_1_3 ww_2_48 hd_X4_addPart ⟨by decide, by decide⟩ rfl (by decide) hb rfl rfl (ga_cat rfl) dX2_layImage_44 (Nat.zero_le _) (Nat.zero_le _) rfl (gaX_all hT V) (ga_kv (fun hp2 hw => ?_))
    refine gi_iinc (lv2 := [some (.ref v0), some (.ref v1), some (.ref v2), some (gi (v3 + 1)), some (.ref t0)]) V dX2_layImage_47 (by decide) rfl rfl rfl rfl ?_
    refine g_goto V dX2_layImage_50 rfl ?_
    refine g_less (bs := [true, true, true, true, false]) (lv2 := [some (.ref v0), some (.ref v1), some (.ref v2), some (gi (v3 + 1)), none]) rfl ?_
    exact hK6 v0 v1 v2 (v3 + 1) hp2 hw
  have h_X2_layImage_L6 : ∀ (n : Nat), ∀ (v0 : Nat) (v1 : Nat) (v2 : Nat) (v3 : Int) (h : gaH), w_X2_layImage_L6 Q n v0 v1 v2 v3 h → gaP p l e rm_X2_layImage s m args below meth c G 5 (gaZ below G (gQv Q) X args s rm_X2_layImage) 6 [some (.ref v0), some (.ref v1), some (.ref v2), some (gi v3), none] [] h 0 0 := by
    intro n
    induction n with
    | zero =>
      intro v0 v1 v2 v3 h hw
      exact hw.elim
    | succ n ih =>
      intro v0 v1 v2 v3 h hw
      unfold w_X2_layImage_L6 at hw
      refine g_iload_n V dX2_layImage_6 rfl rfl ?_
      refine g_aload_n V dX2_layImage_7 rfl rfl ?_
      obtain ⟨fs, r1, ha, hv, hw⟩ := hw
      refine g_getN (C := RX4) (T := TX4) (N := 2) (host := "Wordgarden") V 1 rfl hin_RX4 (by decide) (by decide) gn_5 rfl ha hv dX2_layImage_8 rfl ?_
      obtain ⟨hx0, hx1, hw⟩ := hw
      refine gi_icmp_ge V dX2_layImage_11 rfl rfl hx0 hx1 (fun q => ?_) (fun q => ?_)
      · have hw := ga_t q hw
        exact g_vret V rfl dX2_layImage_53 ⟨rfl, hw⟩
      · have hw := ga_f q hw
        refine g_aload_n V dX2_layImage_14 rfl rfl ?_
        refine g_iload_n V dX2_layImage_15 rfl rfl ?_
        obtain ⟨hb, hw⟩ := hw
        obtain ⟨fb, hb⟩ := hb
        refine g_callV (C := RX4) (T := TX4) (N := 2) (st := []) V (k_X4_isUp hst hw) ww_2_44 ww_1_228 ww_1_229 ww_1_3 ww_1_230 hd_X4_isUp ⟨by decide, by decide⟩ rfl (by decide) hb rfl rfl (ga_cat rfl) dX2_layImage_16 (Nat.zero_le _) (Nat.zero_le _) rfl (gaX_all hT V) (ga_ki (fun r3 hp2 hw => ?_))
        obtain ⟨hx0, hw⟩ := hw
        refine gi_if_eq V dX2_layImage_19 rfl rfl hx0 (fun q => ?_) (fun q => ?_)
        · have hw := ga_t q hw
          refine g_aload_n V dX2_layImage_29 rfl rfl ?_
          obtain ⟨fs, r4, ha, hv, hw⟩ := hw
          refine g_get (C := RX2) (T := TX2) (N := 3) V 0 rfl hin_RX2 (by decide) (by decide) ww_1_63 rfl ha hv dX2_layImage_30 rfl ?_
          exact h_X2_layImage_J33 (w_X2_layImage_L6 Q n) ih v0 v1 v2 v3 r4 hp2 hw
        · have hw := ga_f q hw
          refine g_aload_n V dX2_layImage_22 rfl rfl ?_
          obtain ⟨fs, r5, ha, hv, hw⟩ := hw
          refine g_get (C := RX2) (T := TX2) (N := 3) V 1 rfl hin_RX2 (by decide) (by decide) ww_1_64 rfl ha hv dX2_layImage_23 rfl ?_
          refine g_goto V dX2_layImage_26 rfl ?_
          exact h_X2_layImage_J33 (w_X2_layImage_L6 Q n) ih v0 v1 v2 v3 r5 hp2 hw
  unfold w_X2_layImage at hw
  refine g_aload_n V dX2_layImage_0 rfl rfl ?_
  obtain ⟨hb, hw⟩ := hw
  obtain ⟨fb, hb⟩ := hb
  refine g_callV (C := RX4) (T := TX4) (N := 2) (st := []) V (k_X4_clear hst hw) ww_2_43 ww_1_86 ww_1_87 ww_1_3 ww_1_88 hd_X4_clear ⟨by decide, by decide⟩ rfl (by decide) hb rfl rfl (ga_cat rfl) dX2_layImage_1 (Nat.zero_le _) (Nat.zero_le _) rfl (gaX_all hT V) (ga_kv (fun hp1 hw => ?_))
  refine g_iconst V (Int32.ofInt 0) dX2_layImage_4 rfl rfl ?_
  refine g_istore_n (lv2 := [some (.ref a0), some (.ref a1), some (.ref a2), some (gi 0), none]) V dX2_layImage_5 (by decide) rfl rfl rfl ?_
  obtain ⟨z, hw⟩ := hw
  exact h_X2_layImage_L6 z a0 a1 a2 0 hp1 hw
def w_J6_compare_7cf53 (a0 : Int) (a1 : Int) (h : gaH) (Q : Int → gaH → Prop) : Prop := gR a0 ∧ gR a1 ∧ (if a1 ≤ a0 then gR a0 ∧ gR a1 ∧ (if a0 = a1 then Q 0 h else Q 1 h) else Q (-1) h)
abbrev rm_J6_compare_7cf53 : Room := { frames := 0, cells := 0, slots := 0, locals := 0 }
theorem hd_J6_compare_7cf53 : (yJ6_compare_7cf53.cls ≠ "java/lang/invoke/MethodHandle" ∧ yJ6_compare_7cf53.cls ≠ "java/lang/invoke/VarHandle" ∧ (parseMethodDescriptor yJ6_compare_7cf53.desc).map (fun d => d.parameters.length) = some 2) := by decide +kernel
theorem k_J6_compare_7cf53 {l : Launch} (hst : l.stackTraces = false) {G : gaG} {X : String → gaH → Prop} {a0 : Int} {a1 : Int} {h : gaH} {Q : Int → gaH → Prop} (hw : w_J6_compare_7cf53 a0 a1 h Q) : gaC l G yJ6_compare_7cf53 (gaM yJ6_compare_7cf53 cJ6_compare_7cf53 2 ((some .int))) rm_J6_compare_7cf53 [gi a0, gi a1] h (gQi Q) X := by
  refine g_start (lv := [some (gi a0), some (gi a1)]) hpl_RJ6 hst (Nat.le_of_ble_eq_true rfl) (gaArgs_pad (z := 0) rfl) ww_2_8 ?_
  intro p e s m args below meth c V hT
  unfold w_J6_compare_7cf53 at hw
  refine g_iload_n V dJ6_compare_7cf53_0 rfl rfl ?_
  refine g_iload_n V dJ6_compare_7cf53_1 rfl rfl ?_
  obtain ⟨hx0, hx1, hw⟩ := hw
  refine gi_icmp_ge V dJ6_compare_7cf53_2 rfl rfl hx0 hx1 (fun q => ?_) (fun q => ?_)
  · have hw := ga_t q hw
    refine g_iload_n V dJ6_compare_7cf53_9 rfl rfl ?_
    refine g_iload_n V dJ6_compare_7cf53_10 rfl rfl ?_
    obtain ⟨hx0, hx1, hw⟩ := hw
    refine gi_icmp_ne V dJ6_compare_7cf53_11 rfl rfl hx0 hx1 (fun q => ?_) (fun q => ?_)
    · have hw := ga_f q hw
      refine g_iconst V (Int32.ofInt 1) dJ6_compare_7cf53_18 rfl rfl ?_
      exact g_iret V rfl rfl dJ6_compare_7cf53_19 ⟨_, rfl, hw⟩
    · have hw := ga_t q hw
      refine g_iconst V (Int32.ofInt 0) dJ6_compare_7cf53_14 rfl rfl ?_
      refine g_goto V dJ6_compare_7cf53_15 rfl ?_
      exact g_iret V rfl rfl dJ6_compare_7cf53_19 ⟨_, rfl, hw⟩
  · have hw := ga_f q hw
    refine g_iconst V (Int32.ofInt (-1)) dJ6_compare_7cf53_5 rfl rfl ?_
    refine g_goto V dJ6_compare_7cf53_6 rfl ?_
    exact g_iret V rfl rfl dJ6_compare_7cf53_19 ⟨_, rfl, hw⟩
def w_X1_orderOf_L14 (Q : Int → gaH → Prop) : Nat → (Nat → Nat → Int → Int → gaH → Prop)
  | 0 => fun _ _ _ _ _ => False
  | n + 1 => fun v0 v1 v2 v3 h => gR v3 ∧ gR v2 ∧ (if v2 ≤ v3 then gI h v0 4 1 (fun r1 => gI h v1 4 1 (fun r2 => w_J6_compare_7cf53 r1 r2 h (fun r4 hp3 => Q r4 hp3))) else gHas h v0 4 ∧ w_X4_isUp v0 v3 h (fun r6 hp5 => gHas hp5 v1 4 ∧ w_X4_isUp v1 v3 hp5 (fun r8 hp7 => gR r6 ∧ gR r8 ∧ (if r6 = r8 then w_X1_orderOf_L14 Q n v0 v1 v2 (v3 + 1) hp7 else gHas hp7 v1 4 ∧ w_X4_isUp v1 v3 hp7 (fun r10 hp9 => gR r10 ∧ (if r10 = 0 then Q 1 hp9 else Q (-1) hp9))))))
def w_X1_orderOf (a0 : Nat) (a1 : Nat) (h : gaH) (Q : Int → gaH → Prop) : Prop := gI h a0 4 1 (fun r1 => gI h a1 4 1 (fun r2 => gR r1 ∧ gR r2 ∧ (∃ z, w_X1_orderOf_L14 Q z a0 a1 (min r1 r2) 0 h)))
abbrev rm_X1_orderOf : Room := { frames := 2, cells := 0, slots := 0, locals := 60 }
theorem hd_X1_orderOf : (yX1_orderOf.cls ≠ "java/lang/invoke/MethodHandle" ∧ yX1_orderOf.cls ≠ "java/lang/invoke/VarHandle" ∧ (parseMethodDescriptor yX1_orderOf.desc).map (fun d => d.parameters.length) = some 2) := by decide +kernel
theorem k_X1_orderOf {l : Launch} (hst : l.stackTraces = false) {G : gaG} {X : String → gaH → Prop} {a0 : Nat} {a1 : Nat} {h : gaH} {Q : Int → gaH → Prop} (hw : w_X1_orderOf a0 a1 h Q) : gaC l G yX1_orderOf (gaM yX1_orderOf cX1_orderOf 4 ((some .int))) rm_X1_orderOf [.ref a0, .ref a1] h (gQi Q) X := by
  refine g_start (lv := [some (.ref a0), some (.ref a1), none, none]) hpl_RX1 hst (Nat.le_of_ble_eq_true rfl) (gaArgs_pad (z := 2) rfl) ww_2_2 ?_
  intro p e s m args below meth c V hT
  have h_X1_orderOf_L14 : ∀ (n : Nat), ∀ (v0 : Nat) (v1 : Nat) (v2 : Int) (v3 : Int) (h : gaH), w_X1_orderOf_L14 Q n v0 v1 v2 v3 h → gaP p l e rm_X1_orderOf s m args below meth c G 4 (gaZ below G (gQi Q) X args s rm_X1_orderOf) 14 [some (.ref v0), some (.ref v1), some (gi v2), some (gi v3)] [] h 0 0 := by
    intro n
    induction n with
    | zero =>
      intro v0 v1 v2 v3 h hw
      exact hw.elim
    | succ n ih =>
      intro v0 v1 v2 v3 h hw
      unfold w_X1_orderOf_L14 at hw
      refine g_iload_n V dX1_orderOf_14 rfl rfl ?_
      refine g_iload_n V dX1_orderOf_15 rfl rfl ?_
      obtain ⟨hx0, hx1, hw⟩ := hw
      refine gi_icmp_ge V dX1_orderOf_16 rfl rfl hx0 hx1 (fun q => ?_) (fun q => ?_)
      · have hw := ga_t q hw
        refine g_aload_n V dX1_orderOf_52 rfl rfl ?_
        obtain ⟨fs, r1, ha, hv, hw⟩ := hw
        refine g_getN (C := RX4) (T := TX4) (N := 2) (host := "Wordgarden") V 1 rfl hin_RX4 (by decide) (by decide) gn_2 rfl ha hv dX1_orderOf_53 rfl ?_
        refine g_aload_n V dX1_orderOf_56 rfl rfl ?_
        obtain ⟨fs, r2, ha, hv, hw⟩ := hw
        refine g_getN (C := RX4) (T := TX4) (N := 2) (host := "Wordgarden") V 1 rfl hin_RX4 (by decide) (by decide) gn_2 rfl ha hv dX1_orderOf_57 rfl ?_
        refine g_callS (st := []) V (k_J6_compare_7cf53 hst hw) ww_2_6 ww_2_7 ww_1_14 ww_2_8 hd_J6_compare_7cf53 ⟨by decide, by decide⟩ rfl rfl (ga_cat rfl) dX1_orderOf_60 (Nat.zero_le _) (Nat.zero_le _) rfl (gaX_all hT V) (ga_ki (fun r4 hp3 hw => ?_))
        exact g_iret V rfl rfl dX1_orderOf_63 ⟨_, rfl, hw⟩
      · have hw := ga_f q hw
        refine g_aload_n V dX1_orderOf_19 rfl rfl ?_
        refine g_iload_n V dX1_orderOf_20 rfl rfl ?_
        obtain ⟨hb, hw⟩ := hw
        obtain ⟨fb, hb⟩ := hb
        refine g_callV (C := RX4) (T := TX4) (N := 2) (st := []) V (k_X4_isUp hst hw) ww_1_239 ww_1_228 ww_1_229 ww_1_3 ww_1_230 hd_X4_isUp ⟨by decide, by decide⟩ rfl (by decide) hb rfl rfl (ga_cat rfl) dX1_orderOf_21 (Nat.zero_le _) (Nat.zero_le _) rfl (gaX_all hT V) (ga_ki (fun r6 hp5 hw => ?_))
        refine g_aload_n V dX1_orderOf_24 rfl rfl ?_
        refine g_iload_n V dX1_orderOf_25 rfl rfl ?_
        obtain ⟨hb, hw⟩ := hw
        obtain ⟨fb, hb⟩ := hb
        refine g_callV (C := RX4) (T := TX4) (N := 2) (st := [gi r6]) V (k_X4_isUp hst hw) ww_1_239 ww_1_228 ww_1_229 ww_1_3 ww_1_230 hd_X4_isUp ⟨by decide, by decide⟩ rfl (by decide) hb rfl rfl (ga_cat rfl) dX1_orderOf_26 (Nat.zero_le _) (Nat.zero_le _) rfl (gaX_all hT V) (ga_ki (fun r8 hp7 hw => ?_))
        obtain ⟨hx0, hx1, hw⟩ := hw
        refine gi_icmp_eq V dX1_orderOf_29 rfl rfl hx0 hx1 (fun q => ?_) (fun q => ?_)
        · have hw := ga_t q hw
          refine gi_iinc (lv2 := [some (.ref v0), some (.ref v1), some (gi v2), some (gi (v3 + 1))]) V dX1_orderOf_46 (by decide) rfl rfl rfl rfl ?_
          refine g_goto V dX1_orderOf_49 rfl ?_
          exact ih v0 v1 v2 (v3 + 1) hp7 hw
        · have hw := ga_f q hw
          refine g_aload_n V dX1_orderOf_32 rfl rfl ?_
          refine g_iload_n V dX1_orderOf_33 rfl rfl ?_
          obtain ⟨hb, hw⟩ := hw
          obtain ⟨fb, hb⟩ := hb
          refine g_callV (C := RX4) (T := TX4) (N := 2) (st := []) V (k_X4_isUp hst hw) ww_1_239 ww_1_228 ww_1_229 ww_1_3 ww_1_230 hd_X4_isUp ⟨by decide, by decide⟩ rfl (by decide) hb rfl rfl (ga_cat rfl) dX1_orderOf_34 (Nat.zero_le _) (Nat.zero_le _) rfl (gaX_all hT V) (ga_ki (fun r10 hp9 hw => ?_))
          obtain ⟨hx0, hw⟩ := hw
          refine gi_if_eq V dX1_orderOf_37 rfl rfl hx0 (fun q => ?_) (fun q => ?_)
          · have hw := ga_t q hw
            refine g_iconst V (Int32.ofInt 1) dX1_orderOf_44 rfl rfl ?_
            exact g_iret V rfl rfl dX1_orderOf_45 ⟨_, rfl, hw⟩
          · have hw := ga_f q hw
            refine g_iconst V (Int32.ofInt (-1)) dX1_orderOf_40 rfl rfl ?_
            refine g_goto V dX1_orderOf_41 rfl ?_
            exact g_iret V rfl rfl dX1_orderOf_45 ⟨_, rfl, hw⟩
  unfold w_X1_orderOf at hw
  refine g_aload_n V dX1_orderOf_0 rfl rfl ?_
  obtain ⟨fs, r1, ha, hv, hw⟩ := hw
  refine g_getN (C := RX4) (T := TX4) (N := 2) (host := "Wordgarden") V 1 rfl hin_RX4 (by decide) (by decide) gn_2 rfl ha hv dX1_orderOf_1 rfl ?_
  refine g_aload_n V dX1_orderOf_4 rfl rfl ?_
  obtain ⟨fs, r2, ha, hv, hw⟩ := hw
  refine g_getN (C := RX4) (T := TX4) (N := 2) (host := "Wordgarden") V 1 rfl hin_RX4 (by decide) (by decide) gn_2 rfl ha hv dX1_orderOf_5 rfl ?_
  obtain ⟨hx0, hx1, hw⟩ := hw
  refine gi_mmin V ww_2_3 ww_2_4 ww_1_13 ww_2_5 (by decide) (by decide) (ga_cat rfl) hx0 hx1 dX1_orderOf_8 rfl ?_
  refine g_istore_n (lv2 := [some (.ref a0), some (.ref a1), some (gi (min r1 r2)), none]) V dX1_orderOf_11 (by decide) rfl rfl rfl ?_
  refine g_iconst V (Int32.ofInt 0) dX1_orderOf_12 rfl rfl ?_
  refine g_istore_n (lv2 := [some (.ref a0), some (.ref a1), some (gi (min r1 r2)), some (gi 0)]) V dX1_orderOf_13 (by decide) rfl rfl rfl ?_
  obtain ⟨z, hw⟩ := hw
  exact h_X1_orderOf_L14 z a0 a1 (min r1 r2) 0 h hw
def w_X1_isMirroredPart_L2 (Q : Int → gaH → Prop) : Nat → (Nat → Int → Int → Int → gaH → Prop)
  | 0 => fun _ _ _ _ _ => False
  | n + 1 => fun v0 v1 v2 v3 h => gR v3 ∧ gR (gDiv v2 2) ∧ (if (gDiv v2 2) ≤ v3 then Q 1 h else gHas h v0 4 ∧ w_X4_isUp v0 (v1 + v3) h (fun r2 hp1 => gHas hp1 v0 4 ∧ w_X4_isUp v0 (((v1 + v2) - 1) - v3) hp1 (fun r4 hp3 => gR r2 ∧ gR r4 ∧ (if r2 = r4 then w_X1_isMirroredPart_L2 Q n v0 v1 v2 (v3 + 1) hp3 else Q 0 hp3))))
def w_X1_isMirroredPart (a0 : Nat) (a1 : Int) (a2 : Int) (h : gaH) (Q : Int → gaH → Prop) : Prop := ∃ z, w_X1_isMirroredPart_L2 Q z a0 a1 a2 0 h
abbrev rm_X1_isMirroredPart : Room := { frames := 1, cells := 0, slots := 0, locals := 21 }
theorem hd_X1_isMirroredPart : (yX1_isMirroredPart.cls ≠ "java/lang/invoke/MethodHandle" ∧ yX1_isMirroredPart.cls ≠ "java/lang/invoke/VarHandle" ∧ (parseMethodDescriptor yX1_isMirroredPart.desc).map (fun d => d.parameters.length) = some 3) := by decide +kernel
theorem k_X1_isMirroredPart {l : Launch} (hst : l.stackTraces = false) {G : gaG} {X : String → gaH → Prop} {a0 : Nat} {a1 : Int} {a2 : Int} {h : gaH} {Q : Int → gaH → Prop} (hw : w_X1_isMirroredPart a0 a1 a2 h Q) : gaC l G yX1_isMirroredPart (gaM yX1_isMirroredPart cX1_isMirroredPart 4 ((some .boolean))) rm_X1_isMirroredPart [.ref a0, gi a1, gi a2] h (gQi Q) X := by
  refine g_start (lv := [some (.ref a0), some (gi a1), some (gi a2), none]) hpl_RX1 hst (Nat.le_of_ble_eq_true rfl) (gaArgs_pad (z := 1) rfl) ww_2_103 ?_
  intro p e s m args below meth c V hT
  have h_X1_isMirroredPart_L2 : ∀ (n : Nat), ∀ (v0 : Nat) (v1 : Int) (v2 : Int) (v3 : Int) (h : gaH), w_X1_isMirroredPart_L2 Q n v0 v1 v2 v3 h → gaP p l e rm_X1_isMirroredPart s m args below meth c G 4 (gaZ below G (gQi Q) X args s rm_X1_isMirroredPart) 2 [some (.ref v0), some (gi v1), some (gi v2), some (gi v3)] [] h 0 0 := by
    intro n
    induction n with
    | zero =>
      intro v0 v1 v2 v3 h hw
      exact hw.elim
    | succ n ih =>
      intro v0 v1 v2 v3 h hw
      unfold w_X1_isMirroredPart_L2 at hw
      refine g_iload_n V dX1_isMirroredPart_2 rfl rfl ?_
      refine g_iload_n V dX1_isMirroredPart_3 rfl rfl ?_
      refine g_iconst V (Int32.ofInt 2) dX1_isMirroredPart_4 rfl rfl ?_
      refine gi_idiv V dX1_isMirroredPart_5 (by decide) (by decide) rfl ?_
      obtain ⟨hx0, hx1, hw⟩ := hw
      refine gi_icmp_ge V dX1_isMirroredPart_6 rfl rfl hx0 hx1 (fun q => ?_) (fun q => ?_)
      · have hw := ga_t q hw
        refine g_iconst V (Int32.ofInt 1) dX1_isMirroredPart_38 rfl rfl ?_
        exact g_iret V rfl rfl dX1_isMirroredPart_39 ⟨_, rfl, hw⟩
      · have hw := ga_f q hw
        refine g_aload_n V dX1_isMirroredPart_9 rfl rfl ?_
        refine g_iload_n V dX1_isMirroredPart_10 rfl rfl ?_
        refine g_iload_n V dX1_isMirroredPart_11 rfl rfl ?_
        refine gi_iadd V dX1_isMirroredPart_12 rfl ?_
        obtain ⟨hb, hw⟩ := hw
        obtain ⟨fb, hb⟩ := hb
        refine g_callV (C := RX4) (T := TX4) (N := 2) (st := []) V (k_X4_isUp hst hw) ww_1_239 ww_1_228 ww_1_229 ww_1_3 ww_1_230 hd_X4_isUp ⟨by decide, by decide⟩ rfl (by decide) hb rfl rfl (ga_cat rfl) dX1_isMirroredPart_13 (Nat.zero_le _) (Nat.zero_le _) rfl (gaX_all hT V) (ga_ki (fun r2 hp1 hw => ?_))
        refine g_aload_n V dX1_isMirroredPart_16 rfl rfl ?_
        refine g_iload_n V dX1_isMirroredPart_17 rfl rfl ?_
        refine g_iload_n V dX1_isMirroredPart_18 rfl rfl ?_
        refine gi_iadd V dX1_isMirroredPart_19 rfl ?_
        refine g_iconst V (Int32.ofInt 1) dX1_isMirroredPart_20 rfl rfl ?_
        refine gi_isub V dX1_isMirroredPart_21 rfl ?_
        refine g_iload_n V dX1_isMirroredPart_22 rfl rfl ?_
        refine gi_isub V dX1_isMirroredPart_23 rfl ?_
        obtain ⟨hb, hw⟩ := hw
        obtain ⟨fb, hb⟩ := hb
        refine g_callV (C := RX4) (T := TX4) (N := 2) (st := [gi r2]) V (k_X4_isUp hst hw) ww_1_239 ww_1_228 ww_1_229 ww_1_3 ww_1_230 hd_X4_isUp ⟨by decide, by decide⟩ rfl (by decide) hb rfl rfl (ga_cat rfl) dX1_isMirroredPart_24 (Nat.zero_le _) (Nat.zero_le _) rfl (gaX_all hT V) (ga_ki (fun r4 hp3 hw => ?_))
        obtain ⟨hx0, hx1, hw⟩ := hw
        refine gi_icmp_eq V dX1_isMirroredPart_27 rfl rfl hx0 hx1 (fun q => ?_) (fun q => ?_)
        · have hw := ga_t q hw
          refine gi_iinc (lv2 := [some (.ref v0), some (gi v1), some (gi v2), some (gi (v3 + 1))]) V dX1_isMirroredPart_32 (by decide) rfl rfl rfl rfl ?_
          refine g_goto V dX1_isMirroredPart_35 rfl ?_
          exact ih v0 v1 v2 (v3 + 1) hp3 hw
        · have hw := ga_f q hw
          refine g_iconst V (Int32.ofInt 0) dX1_isMirroredPart_30 rfl rfl ?_
          exact g_iret V rfl rfl dX1_isMirroredPart_31 ⟨_, rfl, hw⟩
  unfold w_X1_isMirroredPart at hw
  refine g_iconst V (Int32.ofInt 0) dX1_isMirroredPart_0 rfl rfl ?_
  refine g_istore_n (lv2 := [some (.ref a0), some (gi a1), some (gi a2), some (gi 0)]) V dX1_isMirroredPart_1 (by decide) rfl rfl rfl ?_
  obtain ⟨z, hw⟩ := hw
  exact h_X1_isMirroredPart_L2 z a0 a1 a2 0 h hw
def w_X1_timesWith_J42 (Q : Int → gaH → Prop) (K7 : Nat → Int → Int → Int → Int → gaH → Prop) (v0 : Nat) (v1 : Int) (v3 : Int) (v4 : Int) (t0 : Int) (h : gaH) : Prop := gR v3 ∧ gR t0 ∧ (K7 v0 v1 t0 (max v3 t0) (v4 + 1) h)
def w_X1_timesWith_L7 (Q : Int → gaH → Prop) : Nat → (Nat → Int → Int → Int → Int → gaH → Prop)
  | 0 => fun _ _ _ _ _ _ => False
  | n + 1 => fun v0 v1 v2 v3 v4 h => gI h v0 4 1 (fun r1 => gR (v4 + v1) ∧ gR r1 ∧ (if r1 ≤ (v4 + v1) then gR v1 ∧ (if v1 ≤ 0 then Q 1 h else gR v1 ∧ ¬ v1 = 0 ∧ (Q ((gDiv v3 v1) + 1) h)) else gHas h v0 4 ∧ w_X4_isUp v0 v4 h (fun r3 hp2 => gHas hp2 v0 4 ∧ w_X4_isUp v0 (v4 + v1) hp2 (fun r5 hp4 => gR r3 ∧ gR r5 ∧ (if r3 = r5 then w_X1_timesWith_J42 Q (w_X1_timesWith_L7 Q n) v0 v1 v3 v4 (v2 + 1) hp4 else w_X1_timesWith_J42 Q (w_X1_timesWith_L7 Q n) v0 v1 v3 v4 0 hp4)))))
def w_X1_timesWith (a0 : Nat) (a1 : Int) (h : gaH) (Q : Int → gaH → Prop) : Prop := ∃ z, w_X1_timesWith_L7 Q z a0 a1 0 0 0 h
abbrev rm_X1_timesWith : Room := { frames := 2, cells := 0, slots := 0, locals := 60 }
theorem hd_X1_timesWith : (yX1_timesWith.cls ≠ "java/lang/invoke/MethodHandle" ∧ yX1_timesWith.cls ≠ "java/lang/invoke/VarHandle" ∧ (parseMethodDescriptor yX1_timesWith.desc).map (fun d => d.parameters.length) = some 2) := by decide +kernel
theorem k_X1_timesWith {l : Launch} (hst : l.stackTraces = false) {G : gaG} {X : String → gaH → Prop} {a0 : Nat} {a1 : Int} {h : gaH} {Q : Int → gaH → Prop} (hw : w_X1_timesWith a0 a1 h Q) : gaC l G yX1_timesWith (gaM yX1_timesWith cX1_timesWith 5 ((some .int))) rm_X1_timesWith [.ref a0, gi a1] h (gQi Q) X := by
  refine g_start (lv := [some (.ref a0), some (gi a1), none, none, none]) hpl_RX1 hst (Nat.le_of_ble_eq_true rfl) (gaArgs_pad (z := 3) rfl) ww_2_116 ?_
  intro p e s m args below meth c V hT
  have h_X1_timesWith_J42 : ∀ (K7 : Nat → Int → Int → Int → Int → gaH → Prop), ∀ (hK7 : ∀ (v0 : Nat) (v1 : Int) (v2 : Int) (v3 : Int) (v4 : Int) (h : gaH), K7 v0 v1 v2 v3 v4 h → gaP p l e rm_X1_timesWith s m args below meth c G 5 (gaZ below G (gQi Q) X args s rm_X1_timesWith) 7 [some (.ref v0), some (gi v1), some (gi v2), some (gi v3), some (gi v4)] [] h 0 0), ∀ (v0 : Nat) (v1 : Int) (v3 : Int) (v4 : Int) (t0 : Int) (h : gaH), w_X1_timesWith_J42 Q K7 v0 v1 v3 v4 t0 h → gaP p l e rm_X1_timesWith s m args below meth c G 5 (gaZ below G (gQi Q) X args s rm_X1_timesWith) 42 [some (.ref v0), some (gi v1), none, some (gi v3), some (gi v4)] [gi t0] h 0 0 := by
    intro K7 hK7
    intro v0 v1 v3 v4 t0 h hw
    unfold w_X1_timesWith_J42 at hw
    refine g_istore_n (lv2 := [some (.ref v0), some (gi v1), some (gi t0), some (gi v3), some (gi v4)]) V dX1_timesWith_42 (by decide) rfl rfl rfl ?_
    refine g_iload_n V dX1_timesWith_43 rfl rfl ?_
    refine g_iload_n V dX1_timesWith_44 rfl rfl ?_
    obtain ⟨hx0, hx1, hw⟩ := hw
    refine gi_mmax V ww_2_117 ww_2_118 ww_1_13 ww_2_119 (by decide) (by decide) (ga_cat rfl) hx0 hx1 dX1_timesWith_45 rfl ?_
    refine g_istore_n (lv2 := [some (.ref v0), some (gi v1), some (gi t0), some (gi (max v3 t0)), some (gi v4)]) V dX1_timesWith_48 (by decide) rfl rfl rfl ?_
    refine gi_iinc (lv2 := [some (.ref v0), some (gi v1), some (gi t0), some (gi (max v3 t0)), some (gi (v4 + 1))]) V dX1_timesWith_49 (by decide) rfl rfl rfl rfl ?_
    refine g_goto V dX1_timesWith_52 rfl ?_
    exact hK7 v0 v1 t0 (max v3 t0) (v4 + 1) h hw
  have h_X1_timesWith_L7 : ∀ (n : Nat), ∀ (v0 : Nat) (v1 : Int) (v2 : Int) (v3 : Int) (v4 : Int) (h : gaH), w_X1_timesWith_L7 Q n v0 v1 v2 v3 v4 h → gaP p l e rm_X1_timesWith s m args below meth c G 5 (gaZ below G (gQi Q) X args s rm_X1_timesWith) 7 [some (.ref v0), some (gi v1), some (gi v2), some (gi v3), some (gi v4)] [] h 0 0 := by
    intro n
    induction n with
    | zero =>
      intro v0 v1 v2 v3 v4 h hw
      exact hw.elim
    | succ n ih =>
      intro v0 v1 v2 v3 v4 h hw
      unfold w_X1_timesWith_L7 at hw
      refine g_iload V dX1_timesWith_7 rfl rfl ?_
      refine g_iload_n V dX1_timesWith_9 rfl rfl ?_
      refine gi_iadd V dX1_timesWith_10 rfl ?_
      refine g_aload_n V dX1_timesWith_11 rfl rfl ?_
      obtain ⟨fs, r1, ha, hv, hw⟩ := hw
      refine g_getN (C := RX4) (T := TX4) (N := 2) (host := "Wordgarden") V 1 rfl hin_RX4 (by decide) (by decide) gn_2 rfl ha hv dX1_timesWith_12 rfl ?_
      obtain ⟨hx0, hx1, hw⟩ := hw
      refine gi_icmp_ge V dX1_timesWith_15 rfl rfl hx0 hx1 (fun q => ?_) (fun q => ?_)
      · have hw := ga_t q hw
        refine g_iload_n V dX1_timesWith_55 rfl rfl ?_
        obtain ⟨hx0, hw⟩ := hw
        refine gi_if_le V dX1_timesWith_56 rfl rfl hx0 (fun q => ?_) (fun q => ?_)
        · have hw := ga_t q hw
          refine g_iconst V (Int32.ofInt 1) dX1_timesWith_67 rfl rfl ?_
          exact g_iret V rfl rfl dX1_timesWith_68 ⟨_, rfl, hw⟩
        · have hw := ga_f q hw
          refine g_iload_n V dX1_timesWith_59 rfl rfl ?_
          refine g_iload_n V dX1_timesWith_60 rfl rfl ?_
          obtain ⟨hx, h0, hw⟩ := hw
          refine gi_idiv V dX1_timesWith_61 hx h0 rfl ?_
          refine g_iconst V (Int32.ofInt 1) dX1_timesWith_62 rfl rfl ?_
          refine gi_iadd V dX1_timesWith_63 rfl ?_
          refine g_goto V dX1_timesWith_64 rfl ?_
          exact g_iret V rfl rfl dX1_timesWith_68 ⟨_, rfl, hw⟩
      · have hw := ga_f q hw
        refine g_aload_n V dX1_timesWith_18 rfl rfl ?_
        refine g_iload V dX1_timesWith_19 rfl rfl ?_
        obtain ⟨hb, hw⟩ := hw
        obtain ⟨fb, hb⟩ := hb
        refine g_callV (C := RX4) (T := TX4) (N := 2) (st := []) V (k_X4_isUp hst hw) ww_1_239 ww_1_228 ww_1_229 ww_1_3 ww_1_230 hd_X4_isUp ⟨by decide, by decide⟩ rfl (by decide) hb rfl rfl (ga_cat rfl) dX1_timesWith_21 (Nat.zero_le _) (Nat.zero_le _) rfl (gaX_all hT V) (ga_ki (fun r3 hp2 hw => ?_))
        refine g_aload_n V dX1_timesWith_24 rfl rfl ?_
        refine g_iload V dX1_timesWith_25 rfl rfl ?_
        refine g_iload_n V dX1_timesWith_27 rfl rfl ?_
        refine gi_iadd V dX1_timesWith_28 rfl ?_
        obtain ⟨hb, hw⟩ := hw
        obtain ⟨fb, hb⟩ := hb
        refine g_callV (C := RX4) (T := TX4) (N := 2) (st := [gi r3]) V (k_X4_isUp hst hw) ww_1_239 ww_1_228 ww_1_229 ww_1_3 ww_1_230 hd_X4_isUp ⟨by decide, by decide⟩ rfl (by decide) hb rfl rfl (ga_cat rfl) dX1_timesWith_29 (Nat.zero_le _) (Nat.zero_le _) rfl (gaX_all hT V) (ga_ki (fun r5 hp4 hw => ?_))
        obtain ⟨hx0, hx1, hw⟩ := hw
        refine gi_icmp_ne V dX1_timesWith_32 rfl rfl hx0 hx1 (fun q => ?_) (fun q => ?_)
        · have hw := ga_f q hw
          refine g_iconst V (Int32.ofInt 0) dX1_timesWith_41 rfl rfl ?_
          refine g_less (bs := [true, true, false, true, true]) (lv2 := [some (.ref v0), some (gi v1), none, some (gi v3), some (gi v4)]) rfl ?_
          exact h_X1_timesWith_J42 (w_X1_timesWith_L7 Q n) ih v0 v1 v3 v4 0 hp4 hw
        · have hw := ga_t q hw
          refine g_iload_n V dX1_timesWith_35 rfl rfl ?_
          refine g_iconst V (Int32.ofInt 1) dX1_timesWith_36 rfl rfl ?_
          refine gi_iadd V dX1_timesWith_37 rfl ?_
          refine g_goto V dX1_timesWith_38 rfl ?_
          refine g_less (bs := [true, true, false, true, true]) (lv2 := [some (.ref v0), some (gi v1), none, some (gi v3), some (gi v4)]) rfl ?_
          exact h_X1_timesWith_J42 (w_X1_timesWith_L7 Q n) ih v0 v1 v3 v4 (v2 + 1) hp4 hw
  unfold w_X1_timesWith at hw
  refine g_iconst V (Int32.ofInt 0) dX1_timesWith_0 rfl rfl ?_
  refine g_istore_n (lv2 := [some (.ref a0), some (gi a1), some (gi 0), none, none]) V dX1_timesWith_1 (by decide) rfl rfl rfl ?_
  refine g_iconst V (Int32.ofInt 0) dX1_timesWith_2 rfl rfl ?_
  refine g_istore_n (lv2 := [some (.ref a0), some (gi a1), some (gi 0), some (gi 0), none]) V dX1_timesWith_3 (by decide) rfl rfl rfl ?_
  refine g_iconst V (Int32.ofInt 0) dX1_timesWith_4 rfl rfl ?_
  refine g_istore (lv2 := [some (.ref a0), some (gi a1), some (gi 0), some (gi 0), some (gi 0)]) V dX1_timesWith_5 (by decide) rfl rfl rfl ?_
  obtain ⟨z, hw⟩ := hw
  exact h_X1_timesWith_L7 z a0 a1 0 0 0 h hw
def w_X1_timesOf_L4 (Q : Int → gaH → Prop) : Nat → (Nat → Int → Int → gaH → Prop)
  | 0 => fun _ _ _ _ => False
  | n + 1 => fun v0 v1 v2 h => gI h v0 4 1 (fun r1 => gR v2 ∧ gR r1 ∧ (if r1 < v2 then Q v1 h else w_X1_timesWith v0 v2 h (fun r3 hp2 => gR v1 ∧ gR r3 ∧ (w_X1_timesOf_L4 Q n v0 (max v1 r3) (v2 + 1) hp2))))
def w_X1_timesOf (a0 : Nat) (h : gaH) (Q : Int → gaH → Prop) : Prop := ∃ z, w_X1_timesOf_L4 Q z a0 0 1 h
abbrev rm_X1_timesOf : Room := { frames := 3, cells := 0, slots := 0, locals := 84 }
theorem hd_X1_timesOf : (yX1_timesOf.cls ≠ "java/lang/invoke/MethodHandle" ∧ yX1_timesOf.cls ≠ "java/lang/invoke/VarHandle" ∧ (parseMethodDescriptor yX1_timesOf.desc).map (fun d => d.parameters.length) = some 1) := by decide +kernel
theorem k_X1_timesOf {l : Launch} (hst : l.stackTraces = false) {G : gaG} {X : String → gaH → Prop} {a0 : Nat} {h : gaH} {Q : Int → gaH → Prop} (hw : w_X1_timesOf a0 h Q) : gaC l G yX1_timesOf (gaM yX1_timesOf cX1_timesOf 3 ((some .int))) rm_X1_timesOf [.ref a0] h (gQi Q) X := by
  refine g_start (lv := [some (.ref a0), none, none]) hpl_RX1 hst (Nat.le_of_ble_eq_true rfl) (gaArgs_pad (z := 2) rfl) ww_2_113 ?_
  intro p e s m args below meth c V hT
  have h_X1_timesOf_L4 : ∀ (n : Nat), ∀ (v0 : Nat) (v1 : Int) (v2 : Int) (h : gaH), w_X1_timesOf_L4 Q n v0 v1 v2 h → gaP p l e rm_X1_timesOf s m args below meth c G 3 (gaZ below G (gQi Q) X args s rm_X1_timesOf) 4 [some (.ref v0), some (gi v1), some (gi v2)] [] h 0 0 := by
    intro n
    induction n with
    | zero =>
      intro v0 v1 v2 h hw
      exact hw.elim
    | succ n ih =>
      intro v0 v1 v2 h hw
      unfold w_X1_timesOf_L4 at hw
      refine g_iload_n V dX1_timesOf_4 rfl rfl ?_
      refine g_aload_n V dX1_timesOf_5 rfl rfl ?_
      obtain ⟨fs, r1, ha, hv, hw⟩ := hw
      refine g_getN (C := RX4) (T := TX4) (N := 2) (host := "Wordgarden") V 1 rfl hin_RX4 (by decide) (by decide) gn_2 rfl ha hv dX1_timesOf_6 rfl ?_
      obtain ⟨hx0, hx1, hw⟩ := hw
      refine gi_icmp_gt V dX1_timesOf_9 rfl rfl hx0 hx1 (fun q => ?_) (fun q => ?_)
      · have hw := ga_t q hw
        refine g_iload_n V dX1_timesOf_28 rfl rfl ?_
        exact g_iret V rfl rfl dX1_timesOf_29 ⟨_, rfl, hw⟩
      · have hw := ga_f q hw
        refine g_iload_n V dX1_timesOf_12 rfl rfl ?_
        refine g_aload_n V dX1_timesOf_13 rfl rfl ?_
        refine g_iload_n V dX1_timesOf_14 rfl rfl ?_
        refine g_callS (st := [gi v1]) V (k_X1_timesWith hst hw) ww_2_114 ww_2_115 ww_1_12 ww_2_116 hd_X1_timesWith ⟨by decide, by decide⟩ rfl rfl (ga_cat rfl) dX1_timesOf_15 (Nat.zero_le _) (Nat.zero_le _) rfl (gaX_all hT V) (ga_ki (fun r3 hp2 hw => ?_))
        obtain ⟨hx0, hx1, hw⟩ := hw
        refine gi_mmax V ww_2_117 ww_2_118 ww_1_13 ww_2_119 (by decide) (by decide) (ga_cat rfl) hx0 hx1 dX1_timesOf_18 rfl ?_
        refine g_istore_n (lv2 := [some (.ref v0), some (gi (max v1 r3)), some (gi v2)]) V dX1_timesOf_21 (by decide) rfl rfl rfl ?_
        refine gi_iinc (lv2 := [some (.ref v0), some (gi (max v1 r3)), some (gi (v2 + 1))]) V dX1_timesOf_22 (by decide) rfl rfl rfl rfl ?_
        refine g_goto V dX1_timesOf_25 rfl ?_
        exact ih v0 (max v1 r3) (v2 + 1) hp2 hw
  unfold w_X1_timesOf at hw
  refine g_iconst V (Int32.ofInt 0) dX1_timesOf_0 rfl rfl ?_
  refine g_istore_n (lv2 := [some (.ref a0), some (gi 0), none]) V dX1_timesOf_1 (by decide) rfl rfl rfl ?_
  refine g_iconst V (Int32.ofInt 1) dX1_timesOf_2 rfl rfl ?_
  refine g_istore_n (lv2 := [some (.ref a0), some (gi 0), some (gi 1)]) V dX1_timesOf_3 (by decide) rfl rfl rfl ?_
  obtain ⟨z, hw⟩ := hw
  exact h_X1_timesOf_L4 z a0 0 1 h hw
def w_X1_isOverlap_L2 (Q : Int → gaH → Prop) : Nat → (Nat → Int → Int → Int → gaH → Prop)
  | 0 => fun _ _ _ _ _ => False
  | n + 1 => fun v0 v1 v2 v3 h => gR v3 ∧ gR (v1 + v2) ∧ (if (v1 + v2) < v3 then Q 1 h else gHas h v0 4 ∧ w_X4_isUp v0 v3 h (fun r2 hp1 => gHas hp1 v0 4 ∧ w_X4_isUp v0 (v3 + v2) hp1 (fun r4 hp3 => gR r2 ∧ gR r4 ∧ (if r2 = r4 then w_X1_isOverlap_L2 Q n v0 v1 v2 (v3 + 1) hp3 else Q 0 hp3))))
def w_X1_isOverlap (a0 : Nat) (a1 : Int) (a2 : Int) (h : gaH) (Q : Int → gaH → Prop) : Prop := ∃ z, w_X1_isOverlap_L2 Q z a0 a1 a2 a1 h
abbrev rm_X1_isOverlap : Room := { frames := 1, cells := 0, slots := 0, locals := 21 }
theorem hd_X1_isOverlap : (yX1_isOverlap.cls ≠ "java/lang/invoke/MethodHandle" ∧ yX1_isOverlap.cls ≠ "java/lang/invoke/VarHandle" ∧ (parseMethodDescriptor yX1_isOverlap.desc).map (fun d => d.parameters.length) = some 3) := by decide +kernel
theorem k_X1_isOverlap {l : Launch} (hst : l.stackTraces = false) {G : gaG} {X : String → gaH → Prop} {a0 : Nat} {a1 : Int} {a2 : Int} {h : gaH} {Q : Int → gaH → Prop} (hw : w_X1_isOverlap a0 a1 a2 h Q) : gaC l G yX1_isOverlap (gaM yX1_isOverlap cX1_isOverlap 4 ((some .boolean))) rm_X1_isOverlap [.ref a0, gi a1, gi a2] h (gQi Q) X := by
  refine g_start (lv := [some (.ref a0), some (gi a1), some (gi a2), none]) hpl_RX1 hst (Nat.le_of_ble_eq_true rfl) (gaArgs_pad (z := 1) rfl) ww_2_129 ?_
  intro p e s m args below meth c V hT
  have h_X1_isOverlap_L2 : ∀ (n : Nat), ∀ (v0 : Nat) (v1 : Int) (v2 : Int) (v3 : Int) (h : gaH), w_X1_isOverlap_L2 Q n v0 v1 v2 v3 h → gaP p l e rm_X1_isOverlap s m args below meth c G 4 (gaZ below G (gQi Q) X args s rm_X1_isOverlap) 2 [some (.ref v0), some (gi v1), some (gi v2), some (gi v3)] [] h 0 0 := by
    intro n
    induction n with
    | zero =>
      intro v0 v1 v2 v3 h hw
      exact hw.elim
    | succ n ih =>
      intro v0 v1 v2 v3 h hw
      unfold w_X1_isOverlap_L2 at hw
      refine g_iload_n V dX1_isOverlap_2 rfl rfl ?_
      refine g_iload_n V dX1_isOverlap_3 rfl rfl ?_
      refine g_iload_n V dX1_isOverlap_4 rfl rfl ?_
      refine gi_iadd V dX1_isOverlap_5 rfl ?_
      obtain ⟨hx0, hx1, hw⟩ := hw
      refine gi_icmp_gt V dX1_isOverlap_6 rfl rfl hx0 hx1 (fun q => ?_) (fun q => ?_)
      · have hw := ga_t q hw
        refine g_iconst V (Int32.ofInt 1) dX1_isOverlap_32 rfl rfl ?_
        exact g_iret V rfl rfl dX1_isOverlap_33 ⟨_, rfl, hw⟩
      · have hw := ga_f q hw
        refine g_aload_n V dX1_isOverlap_9 rfl rfl ?_
        refine g_iload_n V dX1_isOverlap_10 rfl rfl ?_
        obtain ⟨hb, hw⟩ := hw
        obtain ⟨fb, hb⟩ := hb
        refine g_callV (C := RX4) (T := TX4) (N := 2) (st := []) V (k_X4_isUp hst hw) ww_1_239 ww_1_228 ww_1_229 ww_1_3 ww_1_230 hd_X4_isUp ⟨by decide, by decide⟩ rfl (by decide) hb rfl rfl (ga_cat rfl) dX1_isOverlap_11 (Nat.zero_le _) (Nat.zero_le _) rfl (gaX_all hT V) (ga_ki (fun r2 hp1 hw => ?_))
        refine g_aload_n V dX1_isOverlap_14 rfl rfl ?_
        refine g_iload_n V dX1_isOverlap_15 rfl rfl ?_
        refine g_iload_n V dX1_isOverlap_16 rfl rfl ?_
        refine gi_iadd V dX1_isOverlap_17 rfl ?_
        obtain ⟨hb, hw⟩ := hw
        obtain ⟨fb, hb⟩ := hb
        refine g_callV (C := RX4) (T := TX4) (N := 2) (st := [gi r2]) V (k_X4_isUp hst hw) ww_1_239 ww_1_228 ww_1_229 ww_1_3 ww_1_230 hd_X4_isUp ⟨by decide, by decide⟩ rfl (by decide) hb rfl rfl (ga_cat rfl) dX1_isOverlap_18 (Nat.zero_le _) (Nat.zero_le _) rfl (gaX_all hT V) (ga_ki (fun r4 hp3 hw => ?_))
        obtain ⟨hx0, hx1, hw⟩ := hw
        refine gi_icmp_eq V dX1_isOverlap_21 rfl rfl hx0 hx1 (fun q => ?_) (fun q => ?_)
        · have hw := ga_t q hw
          refine gi_iinc (lv2 := [some (.ref v0), some (gi v1), some (gi v2), some (gi (v3 + 1))]) V dX1_isOverlap_26 (by decide) rfl rfl rfl rfl ?_
          refine g_goto V dX1_isOverlap_29 rfl ?_
          exact ih v0 v1 v2 (v3 + 1) hp3 hw
        · have hw := ga_f q hw
          refine g_iconst V (Int32.ofInt 0) dX1_isOverlap_24 rfl rfl ?_
          exact g_iret V rfl rfl dX1_isOverlap_25 ⟨_, rfl, hw⟩
  unfold w_X1_isOverlap at hw
  refine g_iload_n V dX1_isOverlap_0 rfl rfl ?_
  refine g_istore_n (lv2 := [some (.ref a0), some (gi a1), some (gi a2), some (gi a1)]) V dX1_isOverlap_1 (by decide) rfl rfl rfl ?_
  obtain ⟨z, hw⟩ := hw
  exact h_X1_isOverlap_L2 z a0 a1 a2 a1 h hw
def w_X1_overlapsOf_L14 (Q : Int → gaH → Prop) (K4 : Nat → Int → Int → gaH → Prop) : Nat → (Nat → Int → Int → Int → gaH → Prop)
  | 0 => fun _ _ _ _ _ => False
  | n + 1 => fun v0 v1 v2 v3 h => gI h v0 4 1 (fun r1 => gR (v3 + (2 * v2)) ∧ gR r1 ∧ (if r1 ≤ (v3 + (2 * v2)) then K4 v0 v1 (v2 + 1) h else w_X1_isOverlap v0 v3 v2 h (fun r3 hp2 => gR r3 ∧ (if r3 = 0 then w_X1_overlapsOf_L14 Q K4 n v0 v1 v2 (v3 + 1) hp2 else w_X1_overlapsOf_L14 Q K4 n v0 (v1 + 1) v2 (v3 + 1) hp2))))
def w_X1_overlapsOf_L4 (Q : Int → gaH → Prop) : Nat → (Nat → Int → Int → gaH → Prop)
  | 0 => fun _ _ _ _ => False
  | n + 1 => fun v0 v1 v2 h => gI h v0 4 1 (fun r1 => gR v2 ∧ gR r1 ∧ (if r1 ≤ v2 then Q v1 h else ∃ z, w_X1_overlapsOf_L14 Q (w_X1_overlapsOf_L4 Q n) z v0 v1 v2 0 h))
def w_X1_overlapsOf (a0 : Nat) (h : gaH) (Q : Int → gaH → Prop) : Prop := ∃ z, w_X1_overlapsOf_L4 Q z a0 0 1 h
abbrev rm_X1_overlapsOf : Room := { frames := 2, cells := 0, slots := 0, locals := 44 }
theorem hd_X1_overlapsOf : (yX1_overlapsOf.cls ≠ "java/lang/invoke/MethodHandle" ∧ yX1_overlapsOf.cls ≠ "java/lang/invoke/VarHandle" ∧ (parseMethodDescriptor yX1_overlapsOf.desc).map (fun d => d.parameters.length) = some 1) := by decide +kernel
theorem k_X1_overlapsOf {l : Launch} (hst : l.stackTraces = false) {G : gaG} {X : String → gaH → Prop} {a0 : Nat} {h : gaH} {Q : Int → gaH → Prop} (hw : w_X1_overlapsOf a0 h Q) : gaC l G yX1_overlapsOf (gaM yX1_overlapsOf cX1_overlapsOf 4 ((some .int))) rm_X1_overlapsOf [.ref a0] h (gQi Q) X := by
  refine g_start (lv := [some (.ref a0), none, none, none]) hpl_RX1 hst (Nat.le_of_ble_eq_true rfl) (gaArgs_pad (z := 3) rfl) ww_2_126 ?_
  intro p e s m args below meth c V hT
  have h_X1_overlapsOf_L14 : ∀ (K4 : Nat → Int → Int → gaH → Prop), ∀ (hK4 : ∀ (v0 : Nat) (v1 : Int) (v2 : Int) (h : gaH), K4 v0 v1 v2 h → gaP p l e rm_X1_overlapsOf s m args below meth c G 4 (gaZ below G (gQi Q) X args s rm_X1_overlapsOf) 4 [some (.ref v0), some (gi v1), some (gi v2), none] [] h 0 0), ∀ (n : Nat), ∀ (v0 : Nat) (v1 : Int) (v2 : Int) (v3 : Int) (h : gaH), w_X1_overlapsOf_L14 Q K4 n v0 v1 v2 v3 h → gaP p l e rm_X1_overlapsOf s m args below meth c G 4 (gaZ below G (gQi Q) X args s rm_X1_overlapsOf) 14 [some (.ref v0), some (gi v1), some (gi v2), some (gi v3)] [] h 0 0 := by
    intro K4 hK4
    intro n
    induction n with
    | zero =>
      intro v0 v1 v2 v3 h hw
      exact hw.elim
    | succ n ih =>
      intro v0 v1 v2 v3 h hw
      unfold w_X1_overlapsOf_L14 at hw
      refine g_iload_n V dX1_overlapsOf_14 rfl rfl ?_
      refine g_iconst V (Int32.ofInt 2) dX1_overlapsOf_15 rfl rfl ?_
      refine g_iload_n V dX1_overlapsOf_16 rfl rfl ?_
      refine gi_imul V dX1_overlapsOf_17 rfl ?_
      refine gi_iadd V dX1_overlapsOf_18 rfl ?_
      refine g_aload_n V dX1_overlapsOf_19 rfl rfl ?_
      obtain ⟨fs, r1, ha, hv, hw⟩ := hw
      refine g_getN (C := RX4) (T := TX4) (N := 2) (host := "Wordgarden") V 1 rfl hin_RX4 (by decide) (by decide) gn_2 rfl ha hv dX1_overlapsOf_20 rfl ?_
      obtain ⟨hx0, hx1, hw⟩ := hw
      refine gi_icmp_ge V dX1_overlapsOf_23 rfl rfl hx0 hx1 (fun q => ?_) (fun q => ?_)
      · have hw := ga_t q hw
        refine gi_iinc (lv2 := [some (.ref v0), some (gi v1), some (gi (v2 + 1)), some (gi v3)]) V dX1_overlapsOf_44 (by decide) rfl rfl rfl rfl ?_
        refine g_goto V dX1_overlapsOf_47 rfl ?_
        refine g_less (bs := [true, true, true, false]) (lv2 := [some (.ref v0), some (gi v1), some (gi (v2 + 1)), none]) rfl ?_
        exact hK4 v0 v1 (v2 + 1) h hw
      · have hw := ga_f q hw
        refine g_aload_n V dX1_overlapsOf_26 rfl rfl ?_
        refine g_iload_n V dX1_overlapsOf_27 rfl rfl ?_
        refine g_iload_n V dX1_overlapsOf_28 rfl rfl ?_
        refine g_callS (st := []) V (k_X1_isOverlap hst hw) ww_2_127 ww_2_128 ww_1_12 ww_2_129 hd_X1_isOverlap ⟨by decide, by decide⟩ rfl rfl (ga_cat rfl) dX1_overlapsOf_29 (Nat.zero_le _) (Nat.zero_le _) rfl (gaX_all hT V) (ga_ki (fun r3 hp2 hw => ?_))
        obtain ⟨hx0, hw⟩ := hw
        refine gi_if_eq V dX1_overlapsOf_32 rfl rfl hx0 (fun q => ?_) (fun q => ?_)
        · have hw := ga_t q hw
          refine gi_iinc (lv2 := [some (.ref v0), some (gi v1), some (gi v2), some (gi (v3 + 1))]) V dX1_overlapsOf_38 (by decide) rfl rfl rfl rfl ?_
          refine g_goto V dX1_overlapsOf_41 rfl ?_
          exact ih v0 v1 v2 (v3 + 1) hp2 hw
        · have hw := ga_f q hw
          refine gi_iinc (lv2 := [some (.ref v0), some (gi (v1 + 1)), some (gi v2), some (gi v3)]) V dX1_overlapsOf_35 (by decide) rfl rfl rfl rfl ?_
          refine gi_iinc (lv2 := [some (.ref v0), some (gi (v1 + 1)), some (gi v2), some (gi (v3 + 1))]) V dX1_overlapsOf_38 (by decide) rfl rfl rfl rfl ?_
          refine g_goto V dX1_overlapsOf_41 rfl ?_
          exact ih v0 (v1 + 1) v2 (v3 + 1) hp2 hw
  have h_X1_overlapsOf_L4 : ∀ (n : Nat), ∀ (v0 : Nat) (v1 : Int) (v2 : Int) (h : gaH), w_X1_overlapsOf_L4 Q n v0 v1 v2 h → gaP p l e rm_X1_overlapsOf s m args below meth c G 4 (gaZ below G (gQi Q) X args s rm_X1_overlapsOf) 4 [some (.ref v0), some (gi v1), some (gi v2), none] [] h 0 0 := by
    intro n
    induction n with
    | zero =>
      intro v0 v1 v2 h hw
      exact hw.elim
    | succ n ih =>
      intro v0 v1 v2 h hw
      unfold w_X1_overlapsOf_L4 at hw
      refine g_iload_n V dX1_overlapsOf_4 rfl rfl ?_
      refine g_aload_n V dX1_overlapsOf_5 rfl rfl ?_
      obtain ⟨fs, r1, ha, hv, hw⟩ := hw
      refine g_getN (C := RX4) (T := TX4) (N := 2) (host := "Wordgarden") V 1 rfl hin_RX4 (by decide) (by decide) gn_2 rfl ha hv dX1_overlapsOf_6 rfl ?_
      obtain ⟨hx0, hx1, hw⟩ := hw
      refine gi_icmp_ge V dX1_overlapsOf_9 rfl rfl hx0 hx1 (fun q => ?_) (fun q => ?_)
      · have hw := ga_t q hw
        refine g_iload_n V dX1_overlapsOf_50 rfl rfl ?_
        exact g_iret V rfl rfl dX1_overlapsOf_51 ⟨_, rfl, hw⟩
      · have hw := ga_f q hw
        refine g_iconst V (Int32.ofInt 0) dX1_overlapsOf_12 rfl rfl ?_
        refine g_istore_n (lv2 := [some (.ref v0), some (gi v1), some (gi v2), some (gi 0)]) V dX1_overlapsOf_13 (by decide) rfl rfl rfl ?_
        obtain ⟨z, hw⟩ := hw
        exact h_X1_overlapsOf_L14 (w_X1_overlapsOf_L4 Q n) ih z v0 v1 v2 0 h hw
  unfold w_X1_overlapsOf at hw
  refine g_iconst V (Int32.ofInt 0) dX1_overlapsOf_0 rfl rfl ?_
  refine g_istore_n (lv2 := [some (.ref a0), some (gi 0), none, none]) V dX1_overlapsOf_1 (by decide) rfl rfl rfl ?_
  refine g_iconst V (Int32.ofInt 1) dX1_overlapsOf_2 rfl rfl ?_
  refine g_istore_n (lv2 := [some (.ref a0), some (gi 0), some (gi 1), none]) V dX1_overlapsOf_3 (by decide) rfl rfl rfl ?_
  obtain ⟨z, hw⟩ := hw
  exact h_X1_overlapsOf_L4 z a0 0 1 h hw
def w_X1_foldsOf_L4 (Q : Int → gaH → Prop) : Nat → (Nat → Int → Int → gaH → Prop)
  | 0 => fun _ _ _ _ => False
  | n + 1 => fun v0 v1 v2 h => gI h v0 4 1 (fun r1 => gR v2 ∧ gR r1 ∧ (if r1 ≤ v2 then Q v1 h else w_X1_isMirroredPart v0 0 v2 h (fun r3 hp2 => gR r3 ∧ (if r3 = 0 then w_X1_foldsOf_L4 Q n v0 v1 (v2 + 1) hp2 else gI hp2 v0 4 1 (fun r4 => w_X1_isMirroredPart v0 v2 (r4 - v2) hp2 (fun r6 hp5 => gR r6 ∧ (if r6 = 0 then w_X1_foldsOf_L4 Q n v0 v1 (v2 + 1) hp5 else w_X1_foldsOf_L4 Q n v0 (v1 + 1) (v2 + 1) hp5)))))))
def w_X1_foldsOf (a0 : Nat) (h : gaH) (Q : Int → gaH → Prop) : Prop := ∃ z, w_X1_foldsOf_L4 Q z a0 0 0 h
abbrev rm_X1_foldsOf : Room := { frames := 2, cells := 0, slots := 0, locals := 44 }
theorem hd_X1_foldsOf : (yX1_foldsOf.cls ≠ "java/lang/invoke/MethodHandle" ∧ yX1_foldsOf.cls ≠ "java/lang/invoke/VarHandle" ∧ (parseMethodDescriptor yX1_foldsOf.desc).map (fun d => d.parameters.length) = some 1) := by decide +kernel
theorem k_X1_foldsOf {l : Launch} (hst : l.stackTraces = false) {G : gaG} {X : String → gaH → Prop} {a0 : Nat} {h : gaH} {Q : Int → gaH → Prop} (hw : w_X1_foldsOf a0 h Q) : gaC l G yX1_foldsOf (gaM yX1_foldsOf cX1_foldsOf 3 ((some .int))) rm_X1_foldsOf [.ref a0] h (gQi Q) X := by
  refine g_start (lv := [some (.ref a0), none, none]) hpl_RX1 hst (Nat.le_of_ble_eq_true rfl) (gaArgs_pad (z := 2) rfl) ww_2_136 ?_
  intro p e s m args below meth c V hT
  have h_X1_foldsOf_L4 : ∀ (n : Nat), ∀ (v0 : Nat) (v1 : Int) (v2 : Int) (h : gaH), w_X1_foldsOf_L4 Q n v0 v1 v2 h → gaP p l e rm_X1_foldsOf s m args below meth c G 3 (gaZ below G (gQi Q) X args s rm_X1_foldsOf) 4 [some (.ref v0), some (gi v1), some (gi v2)] [] h 0 0 := by
    intro n
    induction n with
    | zero =>
      intro v0 v1 v2 h hw
      exact hw.elim
    | succ n ih =>
      intro v0 v1 v2 h hw
      unfold w_X1_foldsOf_L4 at hw
      refine g_iload_n V dX1_foldsOf_4 rfl rfl ?_
      refine g_aload_n V dX1_foldsOf_5 rfl rfl ?_
      obtain ⟨fs, r1, ha, hv, hw⟩ := hw
      refine g_getN (C := RX4) (T := TX4) (N := 2) (host := "Wordgarden") V 1 rfl hin_RX4 (by decide) (by decide) gn_2 rfl ha hv dX1_foldsOf_6 rfl ?_
      obtain ⟨hx0, hx1, hw⟩ := hw
      refine gi_icmp_ge V dX1_foldsOf_9 rfl rfl hx0 hx1 (fun q => ?_) (fun q => ?_)
      · have hw := ga_t q hw
        refine g_iload_n V dX1_foldsOf_44 rfl rfl ?_
        exact g_iret V rfl rfl dX1_foldsOf_45 ⟨_, rfl, hw⟩
      · have hw := ga_f q hw
        refine g_aload_n V dX1_foldsOf_12 rfl rfl ?_
        refine g_iconst V (Int32.ofInt 0) dX1_foldsOf_13 rfl rfl ?_
        refine g_iload_n V dX1_foldsOf_14 rfl rfl ?_
        refine g_callS (st := []) V (k_X1_isMirroredPart hst hw) ww_2_137 ww_2_102 ww_1_12 ww_2_103 hd_X1_isMirroredPart ⟨by decide, by decide⟩ rfl rfl (ga_cat rfl) dX1_foldsOf_15 (Nat.zero_le _) (Nat.zero_le _) rfl (gaX_all hT V) (ga_ki (fun r3 hp2 hw => ?_))
        obtain ⟨hx0, hw⟩ := hw
        refine gi_if_eq V dX1_foldsOf_18 rfl rfl hx0 (fun q => ?_) (fun q => ?_)
        · have hw := ga_t q hw
          refine gi_iinc (lv2 := [some (.ref v0), some (gi v1), some (gi (v2 + 1))]) V dX1_foldsOf_38 (by decide) rfl rfl rfl rfl ?_
          refine g_goto V dX1_foldsOf_41 rfl ?_
          exact ih v0 v1 (v2 + 1) hp2 hw
        · have hw := ga_f q hw
          refine g_aload_n V dX1_foldsOf_21 rfl rfl ?_
          refine g_iload_n V dX1_foldsOf_22 rfl rfl ?_
          refine g_aload_n V dX1_foldsOf_23 rfl rfl ?_
          obtain ⟨fs, r4, ha, hv, hw⟩ := hw
          refine g_getN (C := RX4) (T := TX4) (N := 2) (host := "Wordgarden") V 1 rfl hin_RX4 (by decide) (by decide) gn_2 rfl ha hv dX1_foldsOf_24 rfl ?_
          refine g_iload_n V dX1_foldsOf_27 rfl rfl ?_
          refine gi_isub V dX1_foldsOf_28 rfl ?_
          refine g_callS (st := []) V (k_X1_isMirroredPart hst hw) ww_2_137 ww_2_102 ww_1_12 ww_2_103 hd_X1_isMirroredPart ⟨by decide, by decide⟩ rfl rfl (ga_cat rfl) dX1_foldsOf_29 (Nat.zero_le _) (Nat.zero_le _) rfl (gaX_all hT V) (ga_ki (fun r6 hp5 hw => ?_))
          obtain ⟨hx0, hw⟩ := hw
          refine gi_if_eq V dX1_foldsOf_32 rfl rfl hx0 (fun q => ?_) (fun q => ?_)
          · have hw := ga_t q hw
            refine gi_iinc (lv2 := [some (.ref v0), some (gi v1), some (gi (v2 + 1))]) V dX1_foldsOf_38 (by decide) rfl rfl rfl rfl ?_
            refine g_goto V dX1_foldsOf_41 rfl ?_
            exact ih v0 v1 (v2 + 1) hp5 hw
          · have hw := ga_f q hw
            refine gi_iinc (lv2 := [some (.ref v0), some (gi (v1 + 1)), some (gi v2)]) V dX1_foldsOf_35 (by decide) rfl rfl rfl rfl ?_
            refine gi_iinc (lv2 := [some (.ref v0), some (gi (v1 + 1)), some (gi (v2 + 1))]) V dX1_foldsOf_38 (by decide) rfl rfl rfl rfl ?_
            refine g_goto V dX1_foldsOf_41 rfl ?_
            exact ih v0 (v1 + 1) (v2 + 1) hp5 hw
  unfold w_X1_foldsOf at hw
  refine g_iconst V (Int32.ofInt 0) dX1_foldsOf_0 rfl rfl ?_
  refine g_istore_n (lv2 := [some (.ref a0), some (gi 0), none]) V dX1_foldsOf_1 (by decide) rfl rfl rfl ?_
  refine g_iconst V (Int32.ofInt 0) dX1_foldsOf_2 rfl rfl ?_
  refine g_istore_n (lv2 := [some (.ref a0), some (gi 0), some (gi 0)]) V dX1_foldsOf_3 (by decide) rfl rfl rfl ?_
  obtain ⟨z, hw⟩ := hw
  exact h_X1_foldsOf_L4 z a0 0 0 h hw
def w_X1_isUpOnRing_J19 (Q : Int → gaH → Prop) (t0 : Nat) (t1 : Int) (h : gaH) : Prop := gHas h t0 4 ∧ w_X4_isUp t0 t1 h (fun r2 hp1 => narrow .boolean (gi r2) = gi r2 ∧ Q r2 hp1)
def w_X1_isUpOnRing (a0 : Nat) (a1 : Int) (h : gaH) (Q : Int → gaH → Prop) : Prop := gI h a0 4 1 (fun r1 => gR a1 ∧ gR r1 ∧ (if r1 ≤ a1 then gI h a0 4 1 (fun r2 => w_X1_isUpOnRing_J19 Q a0 (a1 - r2) h) else w_X1_isUpOnRing_J19 Q a0 a1 h))
abbrev rm_X1_isUpOnRing : Room := { frames := 1, cells := 0, slots := 0, locals := 21 }
theorem hd_X1_isUpOnRing : (yX1_isUpOnRing.cls ≠ "java/lang/invoke/MethodHandle" ∧ yX1_isUpOnRing.cls ≠ "java/lang/invoke/VarHandle" ∧ (parseMethodDescriptor yX1_isUpOnRing.desc).map (fun d => d.parameters.length) = some 2) := by decide +kernel
theorem k_X1_isUpOnRing {l : Launch} (hst : l.stackTraces = false) {G : gaG} {X : String → gaH → Prop} {a0 : Nat} {a1 : Int} {h : gaH} {Q : Int → gaH → Prop} (hw : w_X1_isUpOnRing a0 a1 h Q) : gaC l G yX1_isUpOnRing (gaM yX1_isUpOnRing cX1_isUpOnRing 2 ((some .boolean))) rm_X1_isUpOnRing [.ref a0, gi a1] h (gQi Q) X := by
  refine g_start (lv := [some (.ref a0), some (gi a1)]) hpl_RX1 hst (Nat.le_of_ble_eq_true rfl) (gaArgs_pad (z := 0) rfl) ww_2_150 ?_
  intro p e s m args below meth c V hT
  have h_X1_isUpOnRing_J19 : ∀ (t0 : Nat) (t1 : Int) (h : gaH), w_X1_isUpOnRing_J19 Q t0 t1 h → gaP p l e rm_X1_isUpOnRing s m args below meth c G 2 (gaZ below G (gQi Q) X args s rm_X1_isUpOnRing) 19 [none, none] [gi t1, .ref t0] h 0 0 := by
    intro t0 t1 h hw
    unfold w_X1_isUpOnRing_J19 at hw
    obtain ⟨hb, hw⟩ := hw
    obtain ⟨fb, hb⟩ := hb
    refine g_callV (C := RX4) (T := TX4) (N := 2) (st := []) V (k_X4_isUp hst hw) ww_1_239 ww_1_228 ww_1_229 ww_1_3 ww_1_230 hd_X4_isUp ⟨by decide, by decide⟩ rfl (by decide) hb rfl rfl (ga_cat rfl) dX1_isUpOnRing_19 (Nat.zero_le _) (Nat.zero_le _) rfl (gaX_all hT V) (ga_ki (fun r2 hp1 hw => ?_))
    exact g_iret V rfl hw.1 dX1_isUpOnRing_22 ⟨_, rfl, hw.2⟩
  unfold w_X1_isUpOnRing at hw
  refine g_aload_n V dX1_isUpOnRing_0 rfl rfl ?_
  refine g_iload_n V dX1_isUpOnRing_1 rfl rfl ?_
  refine g_aload_n V dX1_isUpOnRing_2 rfl rfl ?_
  obtain ⟨fs, r1, ha, hv, hw⟩ := hw
  refine g_getN (C := RX4) (T := TX4) (N := 2) (host := "Wordgarden") V 1 rfl hin_RX4 (by decide) (by decide) gn_2 rfl ha hv dX1_isUpOnRing_3 rfl ?_
  obtain ⟨hx0, hx1, hw⟩ := hw
  refine gi_icmp_ge V dX1_isUpOnRing_6 rfl rfl hx0 hx1 (fun q => ?_) (fun q => ?_)
  · have hw := ga_t q hw
    refine g_iload_n V dX1_isUpOnRing_13 rfl rfl ?_
    refine g_aload_n V dX1_isUpOnRing_14 rfl rfl ?_
    obtain ⟨fs, r2, ha, hv, hw⟩ := hw
    refine g_getN (C := RX4) (T := TX4) (N := 2) (host := "Wordgarden") V 1 rfl hin_RX4 (by decide) (by decide) gn_2 rfl ha hv dX1_isUpOnRing_15 rfl ?_
    refine gi_isub V dX1_isUpOnRing_18 rfl ?_
    refine g_less (bs := [false, false]) (lv2 := [none, none]) rfl ?_
    exact h_X1_isUpOnRing_J19 a0 (a1 - r2) h hw
  · have hw := ga_f q hw
    refine g_iload_n V dX1_isUpOnRing_9 rfl rfl ?_
    refine g_goto V dX1_isUpOnRing_10 rfl ?_
    refine g_less (bs := [false, false]) (lv2 := [none, none]) rfl ?_
    exact h_X1_isUpOnRing_J19 a0 a1 h hw
def w_X1_ringOrder_L3 (Q : Int → gaH → Prop) : Nat → (Nat → Int → Int → Int → Int → gaH → Prop)
  | 0 => fun _ _ _ _ _ _ => False
  | n + 1 => fun v0 v1 v2 v3 v4 h => gR v4 ∧ gR v3 ∧ (if v3 ≤ v4 then Q 0 h else w_X1_isUpOnRing v0 (v1 + v4) h (fun r2 hp1 => w_X1_isUpOnRing v0 (v2 + v4) hp1 (fun r4 hp3 => gR r2 ∧ gR r4 ∧ (if r2 = r4 then w_X1_ringOrder_L3 Q n v0 v1 v2 v3 (v4 + 1) hp3 else gR r2 ∧ (if r2 = 0 then Q (-1) hp3 else Q 1 hp3)))))
def w_X1_ringOrder (a0 : Nat) (a1 : Int) (a2 : Int) (a3 : Int) (h : gaH) (Q : Int → gaH → Prop) : Prop := ∃ z, w_X1_ringOrder_L3 Q z a0 a1 a2 a3 0 h
abbrev rm_X1_ringOrder : Room := { frames := 2, cells := 0, slots := 0, locals := 42 }
theorem hd_X1_ringOrder : (yX1_ringOrder.cls ≠ "java/lang/invoke/MethodHandle" ∧ yX1_ringOrder.cls ≠ "java/lang/invoke/VarHandle" ∧ (parseMethodDescriptor yX1_ringOrder.desc).map (fun d => d.parameters.length) = some 4) := by decide +kernel
theorem k_X1_ringOrder {l : Launch} (hst : l.stackTraces = false) {G : gaG} {X : String → gaH → Prop} {a0 : Nat} {a1 : Int} {a2 : Int} {a3 : Int} {h : gaH} {Q : Int → gaH → Prop} (hw : w_X1_ringOrder a0 a1 a2 a3 h Q) : gaC l G yX1_ringOrder (gaM yX1_ringOrder cX1_ringOrder 6 ((some .int))) rm_X1_ringOrder [.ref a0, gi a1, gi a2, gi a3] h (gQi Q) X := by
  refine g_start (lv := [some (.ref a0), some (gi a1), some (gi a2), some (gi a3), none, none]) hpl_RX1 hst (Nat.le_of_ble_eq_true rfl) (gaArgs_pad (z := 2) rfl) ww_2_147 ?_
  intro p e s m args below meth c V hT
  have h_X1_ringOrder_L3 : ∀ (n : Nat), ∀ (v0 : Nat) (v1 : Int) (v2 : Int) (v3 : Int) (v4 : Int) (h : gaH), w_X1_ringOrder_L3 Q n v0 v1 v2 v3 v4 h → gaP p l e rm_X1_ringOrder s m args below meth c G 6 (gaZ below G (gQi Q) X args s rm_X1_ringOrder) 3 [some (.ref v0), some (gi v1), some (gi v2), some (gi v3), some (gi v4), none] [] h 0 0 := by
    intro n
    induction n with
    | zero =>
      intro v0 v1 v2 v3 v4 h hw
      exact hw.elim
    | succ n ih =>
      intro v0 v1 v2 v3 v4 h hw
      unfold w_X1_ringOrder_L3 at hw
      refine g_iload V dX1_ringOrder_3 rfl rfl ?_
      refine g_iload_n V dX1_ringOrder_5 rfl rfl ?_
      obtain ⟨hx0, hx1, hw⟩ := hw
      refine gi_icmp_ge V dX1_ringOrder_6 rfl rfl hx0 hx1 (fun q => ?_) (fun q => ?_)
      · have hw := ga_t q hw
        refine g_iconst V (Int32.ofInt 0) dX1_ringOrder_49 rfl rfl ?_
        exact g_iret V rfl rfl dX1_ringOrder_50 ⟨_, rfl, hw⟩
      · have hw := ga_f q hw
        refine g_aload_n V dX1_ringOrder_9 rfl rfl ?_
        refine g_iload_n V dX1_ringOrder_10 rfl rfl ?_
        refine g_iload V dX1_ringOrder_11 rfl rfl ?_
        refine gi_iadd V dX1_ringOrder_13 rfl ?_
        refine g_callS (st := []) V (k_X1_isUpOnRing hst hw) ww_2_148 ww_2_149 ww_1_12 ww_2_150 hd_X1_isUpOnRing ⟨by decide, by decide⟩ rfl rfl (ga_cat rfl) dX1_ringOrder_14 (Nat.zero_le _) (Nat.zero_le _) rfl (gaX_all hT V) (ga_ki (fun r2 hp1 hw => ?_))
        refine g_istore (lv2 := [some (.ref v0), some (gi v1), some (gi v2), some (gi v3), some (gi v4), some (gi r2)]) V dX1_ringOrder_17 (by decide) rfl rfl rfl ?_
        refine g_iload V dX1_ringOrder_19 rfl rfl ?_
        refine g_aload_n V dX1_ringOrder_21 rfl rfl ?_
        refine g_iload_n V dX1_ringOrder_22 rfl rfl ?_
        refine g_iload V dX1_ringOrder_23 rfl rfl ?_
        refine gi_iadd V dX1_ringOrder_25 rfl ?_
        refine g_callS (st := [gi r2]) V (k_X1_isUpOnRing hst hw) ww_2_148 ww_2_149 ww_1_12 ww_2_150 hd_X1_isUpOnRing ⟨by decide, by decide⟩ rfl rfl (ga_cat rfl) dX1_ringOrder_26 (Nat.zero_le _) (Nat.zero_le _) rfl (gaX_all hT V) (ga_ki (fun r4 hp3 hw => ?_))
        obtain ⟨hx0, hx1, hw⟩ := hw
        refine gi_icmp_eq V dX1_ringOrder_29 rfl rfl hx0 hx1 (fun q => ?_) (fun q => ?_)
        · have hw := ga_t q hw
          refine gi_iinc (lv2 := [some (.ref v0), some (gi v1), some (gi v2), some (gi v3), some (gi (v4 + 1)), some (gi r2)]) V dX1_ringOrder_43 (by decide) rfl rfl rfl rfl ?_
          refine g_goto V dX1_ringOrder_46 rfl ?_
          refine g_less (bs := [true, true, true, true, true, false]) (lv2 := [some (.ref v0), some (gi v1), some (gi v2), some (gi v3), some (gi (v4 + 1)), none]) rfl ?_
          exact ih v0 v1 v2 v3 (v4 + 1) hp3 hw
        · have hw := ga_f q hw
          refine g_iload V dX1_ringOrder_32 rfl rfl ?_
          obtain ⟨hx0, hw⟩ := hw
          refine gi_if_eq V dX1_ringOrder_34 rfl rfl hx0 (fun q => ?_) (fun q => ?_)
          · have hw := ga_t q hw
            refine g_iconst V (Int32.ofInt (-1)) dX1_ringOrder_41 rfl rfl ?_
            exact g_iret V rfl rfl dX1_ringOrder_42 ⟨_, rfl, hw⟩
          · have hw := ga_f q hw
            refine g_iconst V (Int32.ofInt 1) dX1_ringOrder_37 rfl rfl ?_
            refine g_goto V dX1_ringOrder_38 rfl ?_
            exact g_iret V rfl rfl dX1_ringOrder_42 ⟨_, rfl, hw⟩
  unfold w_X1_ringOrder at hw
  refine g_iconst V (Int32.ofInt 0) dX1_ringOrder_0 rfl rfl ?_
  refine g_istore (lv2 := [some (.ref a0), some (gi a1), some (gi a2), some (gi a3), some (gi 0), none]) V dX1_ringOrder_1 (by decide) rfl rfl rfl ?_
  obtain ⟨z, hw⟩ := hw
  exact h_X1_ringOrder_L3 z a0 a1 a2 a3 0 h hw
def w_X1_leastOf_L4 (Q : Int → gaH → Prop) : Nat → (Nat → Int → Int → gaH → Prop)
  | 0 => fun _ _ _ _ => False
  | n + 1 => fun v0 v1 v2 h => gI h v0 4 1 (fun r1 => gR v2 ∧ gR r1 ∧ (if r1 ≤ v2 then Q v1 h else gI h v0 4 1 (fun r2 => w_X1_ringOrder v0 v2 v1 r2 h (fun r4 hp3 => gR r4 ∧ (if 0 ≤ r4 then w_X1_leastOf_L4 Q n v0 v1 (v2 + 1) hp3 else w_X1_leastOf_L4 Q n v0 v2 (v2 + 1) hp3)))))
def w_X1_leastOf (a0 : Nat) (h : gaH) (Q : Int → gaH → Prop) : Prop := ∃ z, w_X1_leastOf_L4 Q z a0 0 1 h
abbrev rm_X1_leastOf : Room := { frames := 3, cells := 0, slots := 0, locals := 67 }
theorem hd_X1_leastOf : (yX1_leastOf.cls ≠ "java/lang/invoke/MethodHandle" ∧ yX1_leastOf.cls ≠ "java/lang/invoke/VarHandle" ∧ (parseMethodDescriptor yX1_leastOf.desc).map (fun d => d.parameters.length) = some 1) := by decide +kernel
theorem k_X1_leastOf {l : Launch} (hst : l.stackTraces = false) {G : gaG} {X : String → gaH → Prop} {a0 : Nat} {h : gaH} {Q : Int → gaH → Prop} (hw : w_X1_leastOf a0 h Q) : gaC l G yX1_leastOf (gaM yX1_leastOf cX1_leastOf 3 ((some .int))) rm_X1_leastOf [.ref a0] h (gQi Q) X := by
  refine g_start (lv := [some (.ref a0), none, none]) hpl_RX1 hst (Nat.le_of_ble_eq_true rfl) (gaArgs_pad (z := 2) rfl) ww_2_144 ?_
  intro p e s m args below meth c V hT
  have h_X1_leastOf_L4 : ∀ (n : Nat), ∀ (v0 : Nat) (v1 : Int) (v2 : Int) (h : gaH), w_X1_leastOf_L4 Q n v0 v1 v2 h → gaP p l e rm_X1_leastOf s m args below meth c G 3 (gaZ below G (gQi Q) X args s rm_X1_leastOf) 4 [some (.ref v0), some (gi v1), some (gi v2)] [] h 0 0 := by
    intro n
    induction n with
    | zero =>
      intro v0 v1 v2 h hw
      exact hw.elim
    | succ n ih =>
      intro v0 v1 v2 h hw
      unfold w_X1_leastOf_L4 at hw
      refine g_iload_n V dX1_leastOf_4 rfl rfl ?_
      refine g_aload_n V dX1_leastOf_5 rfl rfl ?_
      obtain ⟨fs, r1, ha, hv, hw⟩ := hw
      refine g_getN (C := RX4) (T := TX4) (N := 2) (host := "Wordgarden") V 1 rfl hin_RX4 (by decide) (by decide) gn_2 rfl ha hv dX1_leastOf_6 rfl ?_
      obtain ⟨hx0, hx1, hw⟩ := hw
      refine gi_icmp_ge V dX1_leastOf_9 rfl rfl hx0 hx1 (fun q => ?_) (fun q => ?_)
      · have hw := ga_t q hw
        refine g_iload_n V dX1_leastOf_33 rfl rfl ?_
        exact g_iret V rfl rfl dX1_leastOf_34 ⟨_, rfl, hw⟩
      · have hw := ga_f q hw
        refine g_aload_n V dX1_leastOf_12 rfl rfl ?_
        refine g_iload_n V dX1_leastOf_13 rfl rfl ?_
        refine g_iload_n V dX1_leastOf_14 rfl rfl ?_
        refine g_aload_n V dX1_leastOf_15 rfl rfl ?_
        obtain ⟨fs, r2, ha, hv, hw⟩ := hw
        refine g_getN (C := RX4) (T := TX4) (N := 2) (host := "Wordgarden") V 1 rfl hin_RX4 (by decide) (by decide) gn_2 rfl ha hv dX1_leastOf_16 rfl ?_
        refine g_callS (st := []) V (k_X1_ringOrder hst hw) ww_2_145 ww_2_146 ww_1_12 ww_2_147 hd_X1_ringOrder ⟨by decide, by decide⟩ rfl rfl (ga_cat rfl) dX1_leastOf_19 (Nat.zero_le _) (Nat.zero_le _) rfl (gaX_all hT V) (ga_ki (fun r4 hp3 hw => ?_))
        obtain ⟨hx0, hw⟩ := hw
        refine gi_if_ge V dX1_leastOf_22 rfl rfl hx0 (fun q => ?_) (fun q => ?_)
        · have hw := ga_t q hw
          refine gi_iinc (lv2 := [some (.ref v0), some (gi v1), some (gi (v2 + 1))]) V dX1_leastOf_27 (by decide) rfl rfl rfl rfl ?_
          refine g_goto V dX1_leastOf_30 rfl ?_
          exact ih v0 v1 (v2 + 1) hp3 hw
        · have hw := ga_f q hw
          refine g_iload_n V dX1_leastOf_25 rfl rfl ?_
          refine g_istore_n (lv2 := [some (.ref v0), some (gi v2), some (gi v2)]) V dX1_leastOf_26 (by decide) rfl rfl rfl ?_
          refine gi_iinc (lv2 := [some (.ref v0), some (gi v2), some (gi (v2 + 1))]) V dX1_leastOf_27 (by decide) rfl rfl rfl rfl ?_
          refine g_goto V dX1_leastOf_30 rfl ?_
          exact ih v0 v2 (v2 + 1) hp3 hw
  unfold w_X1_leastOf at hw
  refine g_iconst V (Int32.ofInt 0) dX1_leastOf_0 rfl rfl ?_
  refine g_istore_n (lv2 := [some (.ref a0), some (gi 0), none]) V dX1_leastOf_1 (by decide) rfl rfl rfl ?_
  refine g_iconst V (Int32.ofInt 1) dX1_leastOf_2 rfl rfl ?_
  refine g_istore_n (lv2 := [some (.ref a0), some (gi 0), some (gi 1)]) V dX1_leastOf_3 (by decide) rfl rfl rfl ?_
  obtain ⟨z, hw⟩ := hw
  exact h_X1_leastOf_L4 z a0 0 1 h hw
def w_X0_turnAt (a0 : Nat) (a1 : Int) (h : gaH) (Q : Int → gaH → Prop) : Prop := gR a1 ∧ (if a1 < 0 then Q 0 h else gA h a0 2 0 (fun r1 => gAL h r1 102 (fun r2 => gR a1 ∧ gR r2 ∧ (if r2 ≤ a1 then Q 0 h else gA h a0 2 0 (fun r3 => gLI h r3 102 a1 (fun r4 => Q r4 h))))))
abbrev rm_X0_turnAt : Room := { frames := 0, cells := 0, slots := 0, locals := 0 }
theorem hd_X0_turnAt : yX0_turnAt.cls = RX0 ∧ (yX0_turnAt.cls ≠ "java/lang/invoke/MethodHandle" ∧ yX0_turnAt.cls ≠ "java/lang/invoke/VarHandle" ∧ (parseMethodDescriptor yX0_turnAt.desc).map (fun d => d.parameters.length) = some 1) := by decide +kernel
theorem k_X0_turnAt {l : Launch} (hst : l.stackTraces = false) {G : gaG} {X : String → gaH → Prop} {a0 : Nat} {a1 : Int} {h : gaH} {Q : Int → gaH → Prop} (hw : w_X0_turnAt a0 a1 h Q) : gaC l G yX0_turnAt (gaM yX0_turnAt cX0_turnAt 2 ((some .int))) rm_X0_turnAt [.ref a0, gi a1] h (gQi Q) X := by
  refine g_start (lv := [some (.ref a0), some (gi a1)]) hpl_RX0 hst (Nat.le_of_ble_eq_true rfl) (gaArgs_pad (z := 0) rfl) ww_2_25 ?_
  intro p e s m args below meth c V hT
  unfold w_X0_turnAt at hw
  refine g_iload_n V dX0_turnAt_0 rfl rfl ?_
  obtain ⟨hx0, hw⟩ := hw
  refine gi_if_lt V dX0_turnAt_1 rfl rfl hx0 (fun q => ?_) (fun q => ?_)
  · have hw := ga_t q hw
    refine g_iconst V (Int32.ofInt 0) dX0_turnAt_22 rfl rfl ?_
    exact g_iret V rfl rfl dX0_turnAt_23 ⟨_, rfl, hw⟩
  · have hw := ga_f q hw
    refine g_iload_n V dX0_turnAt_4 rfl rfl ?_
    refine g_aload_n V dX0_turnAt_5 rfl rfl ?_
    obtain ⟨fs, r1, ha, hv, hw⟩ := hw
    refine g_get (C := RX0) (T := TX0) (N := 4) V 0 rfl hin_RX0 (by decide) (by decide) ww_1_93 rfl ha hv dX0_turnAt_6 rfl ?_
    obtain ⟨t9, vs, ha, ht, hw⟩ := hw
    refine gi_arraylength (t0 := 102) V (by simp [gaT]) ha ht dX0_turnAt_9 rfl ?_
    generalize (vs.length : Int) = r2 at hw ⊢
    obtain ⟨hx0, hx1, hw⟩ := hw
    refine gi_icmp_ge V dX0_turnAt_10 rfl rfl hx0 hx1 (fun q => ?_) (fun q => ?_)
    · have hw := ga_t q hw
      refine g_iconst V (Int32.ofInt 0) dX0_turnAt_22 rfl rfl ?_
      exact g_iret V rfl rfl dX0_turnAt_23 ⟨_, rfl, hw⟩
    · have hw := ga_f q hw
      refine g_aload_n V dX0_turnAt_13 rfl rfl ?_
      obtain ⟨fs, r3, ha, hv, hw⟩ := hw
      refine g_get (C := RX0) (T := TX0) (N := 4) V 0 rfl hin_RX0 (by decide) (by decide) ww_1_93 rfl ha hv dX0_turnAt_14 rfl ?_
      refine g_iload_n V dX0_turnAt_17 rfl rfl ?_
      obtain ⟨t9, vs, r4, ha, ht, h0, h9, hv, hw⟩ := hw
      refine gi_iaload V ha ht h0 h9 hv dX0_turnAt_18 rfl ?_
      refine g_goto V dX0_turnAt_19 rfl ?_
      exact g_iret V rfl rfl dX0_turnAt_23 ⟨_, rfl, hw⟩
def w_X0_wordBy (a0 : Nat) (a1 : Int) (h : gaH) (Q : Nat → gaH → Prop) : Prop := gR a1 ∧ (if a1 = 0 then gA h a0 2 3 (fun r1 => Q r1 h) else gA h a0 2 2 (fun r2 => Q r2 h))
abbrev rm_X0_wordBy : Room := { frames := 0, cells := 0, slots := 0, locals := 0 }
theorem hd_X0_wordBy : yX0_wordBy.cls = RX0 ∧ (yX0_wordBy.cls ≠ "java/lang/invoke/MethodHandle" ∧ yX0_wordBy.cls ≠ "java/lang/invoke/VarHandle" ∧ (parseMethodDescriptor yX0_wordBy.desc).map (fun d => d.parameters.length) = some 1) := by decide +kernel
theorem k_X0_wordBy {l : Launch} (hst : l.stackTraces = false) {G : gaG} {X : String → gaH → Prop} {a0 : Nat} {a1 : Int} {h : gaH} {Q : Nat → gaH → Prop} (hw : w_X0_wordBy a0 a1 h Q) : gaC l G yX0_wordBy (gaM yX0_wordBy cX0_wordBy 2 ((some (.object "Wordgarden$Word")))) rm_X0_wordBy [.ref a0, gi a1] h (gQa Q) X := by
  refine g_start (lv := [some (.ref a0), some (gi a1)]) hpl_RX0 hst (Nat.le_of_ble_eq_true rfl) (gaArgs_pad (z := 0) rfl) ww_2_163 ?_
  intro p e s m args below meth c V hT
  unfold w_X0_wordBy at hw
  refine g_iload_n V dX0_wordBy_0 rfl rfl ?_
  obtain ⟨hx0, hw⟩ := hw
  refine gi_if_eq V dX0_wordBy_1 rfl rfl hx0 (fun q => ?_) (fun q => ?_)
  · have hw := ga_t q hw
    refine g_aload_n V dX0_wordBy_11 rfl rfl ?_
    obtain ⟨fs, r1, ha, hv, hw⟩ := hw
    refine g_get (C := RX0) (T := TX0) (N := 4) V 3 rfl hin_RX0 (by decide) (by decide) ww_1_98 rfl ha hv dX0_wordBy_12 rfl ?_
    exact g_aret V rfl (by first | exact Or.inl ⟨_, rfl⟩ | exact Or.inr ⟨_, rfl⟩) dX0_wordBy_15 ⟨_, rfl, hw⟩
  · have hw := ga_f q hw
    refine g_aload_n V dX0_wordBy_4 rfl rfl ?_
    obtain ⟨fs, r2, ha, hv, hw⟩ := hw
    refine g_get (C := RX0) (T := TX0) (N := 4) V 2 rfl hin_RX0 (by decide) (by decide) ww_1_96 rfl ha hv dX0_wordBy_5 rfl ?_
    refine g_goto V dX0_wordBy_8 rfl ?_
    exact g_aret V rfl (by first | exact Or.inl ⟨_, rfl⟩ | exact Or.inr ⟨_, rfl⟩) dX0_wordBy_15 ⟨_, rfl, hw⟩
def w_X4_takeTurned_L11 (Q : gaH → Prop) : Nat → (Nat → Nat → Int → gaH → Prop)
  | 0 => fun _ _ _ _ => False
  | n + 1 => fun v0 v1 v2 h => gR v2 ∧ (if v2 < 0 then Q h else gHas h v1 4 ∧ w_X4_isUp v1 v2 h (fun r2 hp1 => gHas hp1 v0 4 ∧ w_X4_add v0 r2 hp1 (fun hp3 => w_X4_takeTurned_L11 Q n v0 v1 (v2 + (-1)) hp3)))
def w_X4_takeTurned (a0 : Nat) (a1 : Nat) (h : gaH) (Q : gaH → Prop) : Prop := gHas h a0 4 ∧ w_X4_clear a0 h (fun hp1 => gI hp1 a1 4 1 (fun r3 => ∃ z, w_X4_takeTurned_L11 Q z a0 a1 (r3 - 1) hp1))
abbrev rm_X4_takeTurned : Room := { frames := 1, cells := 0, slots := 0, locals := 21 }
theorem hd_X4_takeTurned : yX4_takeTurned.cls = RX4 ∧ (yX4_takeTurned.cls ≠ "java/lang/invoke/MethodHandle" ∧ yX4_takeTurned.cls ≠ "java/lang/invoke/VarHandle" ∧ (parseMethodDescriptor yX4_takeTurned.desc).map (fun d => d.parameters.length) = some 1) := by decide +kernel
theorem k_X4_takeTurned {l : Launch} (hst : l.stackTraces = false) {G : gaG} {X : String → gaH → Prop} {a0 : Nat} {a1 : Nat} {h : gaH} {Q : gaH → Prop} (hw : w_X4_takeTurned a0 a1 h Q) : gaC l G yX4_takeTurned (gaM yX4_takeTurned cX4_takeTurned 3 ((none : Option Jvm.ClassFile.FieldType))) rm_X4_takeTurned [.ref a0, .ref a1] h (gQv Q) X := by
  refine g_start (lv := [some (.ref a0), some (.ref a1), none]) hpl_RX4 hst (Nat.le_of_ble_eq_true rfl) (gaArgs_pad (z := 1) rfl) ww_1_225 ?_
  intro p e s m args below meth c V hT
  have h_X4_takeTurned_L11 : ∀ (n : Nat), ∀ (v0 : Nat) (v1 : Nat) (v2 : Int) (h : gaH), w_X4_takeTurned_L11 Q n v0 v1 v2 h → gaP p l e rm_X4_takeTurned s m args below meth c G 3 (gaZ below G (gQv Q) X args s rm_X4_takeTurned) 11 [some (.ref v0), some (.ref v1), some (gi v2)] [] h 0 0 := by
    intro n
    induction n with
    | zero =>
      intro v0 v1 v2 h hw
      exact hw.elim
    | succ n ih =>
      intro v0 v1 v2 h hw
      unfold w_X4_takeTurned_L11 at hw
      refine g_iload_n V dX4_takeTurned_11 rfl rfl ?_
      obtain ⟨hx0, hw⟩ := hw
      refine gi_if_lt V dX4_takeTurned_12 rfl rfl hx0 (fun q => ?_) (fun q => ?_)
      · have hw := ga_t q hw
        exact g_vret V rfl dX4_takeTurned_30 ⟨rfl, hw⟩
      · have hw := ga_f q hw
        refine g_aload_n V dX4_takeTurned_15 rfl rfl ?_
        refine g_aload_n V dX4_takeTurned_16 rfl rfl ?_
        refine g_iload_n V dX4_takeTurned_17 rfl rfl ?_
        obtain ⟨hb, hw⟩ := hw
        obtain ⟨fb, hb⟩ := hb
        refine g_callV (C := RX4) (T := TX4) (N := 2) (st := [.ref v0]) V (k_X4_isUp hst hw) ww_1_227 ww_1_228 ww_1_229 ww_1_3 ww_1_230 hd_X4_isUp ⟨by decide, by decide⟩ rfl (by decide) hb rfl rfl (ga_cat rfl) dX4_takeTurned_18 (Nat.zero_le _) (Nat.zero_le _) rfl (gaX_all hT V) (ga_ki (fun r2 hp1 hw => ?_))
        obtain ⟨hb, hw⟩ := hw
        obtain ⟨fb, hb⟩ := hb
        refine g_callV (C := RX4) (T := TX4) (N := 2) (st := []) V (k_X4_add hst hw) ww_1_231 ww_1_90 ww_1_91 ww_1_3 ww_1_92 hd_X4_add ⟨by decide, by decide⟩ rfl (by decide) hb rfl rfl (ga_cat rfl) dX4_takeTurned_21 (Nat.zero_le _) (Nat.zero_le _) rfl (gaX_all hT V) (ga_kv (fun hp3 hw => ?_))
        refine gi_iinc (lv2 := [some (.ref v0), some (.ref v1), some (gi (v2 + (-1)))]) V dX4_takeTurned_24 (by decide) rfl rfl rfl rfl ?_
        refine g_goto V dX4_takeTurned_27 rfl ?_
        exact ih v0 v1 (v2 + (-1)) hp3 hw
  unfold w_X4_takeTurned at hw
  refine g_aload_n V dX4_takeTurned_0 rfl rfl ?_
  obtain ⟨hb, hw⟩ := hw
  obtain ⟨fb, hb⟩ := hb
  refine g_callV (C := RX4) (T := TX4) (N := 2) (st := []) V (k_X4_clear hst hw) ww_1_226 ww_1_86 ww_1_87 ww_1_3 ww_1_88 hd_X4_clear ⟨by decide, by decide⟩ rfl (by decide) hb rfl rfl (ga_cat rfl) dX4_takeTurned_1 (Nat.zero_le _) (Nat.zero_le _) rfl (gaX_all hT V) (ga_kv (fun hp1 hw => ?_))
  refine g_aload_n V dX4_takeTurned_4 rfl rfl ?_
  obtain ⟨fs, r3, ha, hv, hw⟩ := hw
  refine g_get (C := RX4) (T := TX4) (N := 2) V 1 rfl hin_RX4 (by decide) (by decide) ww_1_54 rfl ha hv dX4_takeTurned_5 rfl ?_
  refine g_iconst V (Int32.ofInt 1) dX4_takeTurned_8 rfl rfl ?_
  refine gi_isub V dX4_takeTurned_9 rfl ?_
  refine g_istore_n (lv2 := [some (.ref a0), some (.ref a1), some (gi (r3 - 1))]) V dX4_takeTurned_10 (by decide) rfl rfl rfl ?_
  obtain ⟨z, hw⟩ := hw
  exact h_X4_takeTurned_L11 z a0 a1 (r3 - 1) hp1 hw
def w_X0_codeForA (G : gaG) (a0 : Int) (h : gaH) (Q : Int → gaH → Prop) : Prop := gR a0 ∧ (if a0 < 0 then Q 0 h else gAL h (G.2.2.2 0) 102 (fun r1 => gR a0 ∧ gR r1 ∧ (if r1 ≤ a0 then Q 0 h else gLI h (G.2.2.2 0) 102 a0 (fun r2 => Q r2 h))))
abbrev rm_X0_codeForA : Room := { frames := 0, cells := 0, slots := 0, locals := 0 }
theorem hd_X0_codeForA : (yX0_codeForA.cls ≠ "java/lang/invoke/MethodHandle" ∧ yX0_codeForA.cls ≠ "java/lang/invoke/VarHandle" ∧ (parseMethodDescriptor yX0_codeForA.desc).map (fun d => d.parameters.length) = some 1) := by decide +kernel
theorem k_X0_codeForA {l : Launch} (hst : l.stackTraces = false) {G : gaG} {X : String → gaH → Prop} {a0 : Int} {h : gaH} {Q : Int → gaH → Prop} (hw : w_X0_codeForA G a0 h Q) : gaC l G yX0_codeForA (gaM yX0_codeForA cX0_codeForA 1 ((some .int))) rm_X0_codeForA [gi a0] h (gQi Q) X := by
  refine g_start (lv := [some (gi a0)]) hpl_RX0 hst (Nat.le_of_ble_eq_true rfl) (gaArgs_pad (z := 0) rfl) ww_2_28 ?_
  intro p e s m args below meth c V hT
  unfold w_X0_codeForA at hw
  refine g_iload_n V dX0_codeForA_0 rfl rfl ?_
  obtain ⟨hx0, hw⟩ := hw
  refine gi_if_lt V dX0_codeForA_1 rfl rfl hx0 (fun q => ?_) (fun q => ?_)
  · have hw := ga_t q hw
    refine g_iconst V (Int32.ofInt 0) dX0_codeForA_20 rfl rfl ?_
    exact g_iret V rfl rfl dX0_codeForA_21 ⟨_, rfl, hw⟩
  · have hw := ga_f q hw
    refine g_iload_n V dX0_codeForA_4 rfl rfl ?_
    refine g_gets V V.z0 ww_2_29 dX0_codeForA_5 rfl ?_
    obtain ⟨t9, vs, ha, ht, hw⟩ := hw
    refine gi_arraylength (t0 := 102) V (by simp [gaT]) ha ht dX0_codeForA_8 rfl ?_
    generalize (vs.length : Int) = r1 at hw ⊢
    obtain ⟨hx0, hx1, hw⟩ := hw
    refine gi_icmp_ge V dX0_codeForA_9 rfl rfl hx0 hx1 (fun q => ?_) (fun q => ?_)
    · have hw := ga_t q hw
      refine g_iconst V (Int32.ofInt 0) dX0_codeForA_20 rfl rfl ?_
      exact g_iret V rfl rfl dX0_codeForA_21 ⟨_, rfl, hw⟩
    · have hw := ga_f q hw
      refine g_gets V V.z0 ww_2_29 dX0_codeForA_12 rfl ?_
      refine g_iload_n V dX0_codeForA_15 rfl rfl ?_
      obtain ⟨t9, vs, r2, ha, ht, h0, h9, hv, hw⟩ := hw
      refine gi_iaload V ha ht h0 h9 hv dX0_codeForA_16 rfl ?_
      refine g_goto V dX0_codeForA_17 rfl ?_
      exact g_iret V rfl rfl dX0_codeForA_21 ⟨_, rfl, hw⟩
def w_X0_layByRules_L17 (G : gaG) (Q : gaH → Prop) : Nat → (Nat → Nat → Nat → Nat → Int → gaH → Prop)
  | 0 => fun _ _ _ _ _ _ => False
  | n + 1 => fun v0 v1 v2 v3 v4 h => gR v4 ∧ (if v4 < 0 then Q h else gHas h v0 2 ∧ w_X0_turnAt v0 v4 h (fun r2 hp1 => w_X0_codeForA G r2 hp1 (fun r4 hp3 => gHas hp3 v3 3 ∧ w_X2_take v3 r4 2 hp3 (fun hp5 => gHas hp5 v3 3 ∧ w_X2_layImage v3 v1 v2 hp5 (fun hp7 => gHas hp7 v1 4 ∧ w_X4_take v1 v2 hp7 (fun hp9 => w_X0_layByRules_L17 G Q n v0 v1 v2 v3 (v4 + (-1)) hp9))))))
def w_X0_layByRules (G : gaG) (a0 : Nat) (a1 : Nat) (a2 : Nat) (a3 : Nat) (h : gaH) (Q : gaH → Prop) : Prop := gHas h a1 4 ∧ w_X4_clear a1 h (fun hp1 => gHas hp1 a1 4 ∧ w_X4_add a1 0 hp1 (fun hp3 => gI hp3 a0 2 1 (fun r5 => ∃ z, w_X0_layByRules_L17 G Q z a0 a1 a2 a3 (r5 - 1) hp3)))
abbrev rm_X0_layByRules : Room := { frames := 3, cells := 0, slots := 0, locals := 69 }
theorem hd_X0_layByRules : yX0_layByRules.cls = RX0 ∧ (yX0_layByRules.cls ≠ "java/lang/invoke/MethodHandle" ∧ yX0_layByRules.cls ≠ "java/lang/invoke/VarHandle" ∧ (parseMethodDescriptor yX0_layByRules.desc).map (fun d => d.parameters.length) = some 3) := by decide +kernel
theorem k_X0_layByRules {l : Launch} (hst : l.stackTraces = false) {G : gaG} {X : String → gaH → Prop} {a0 : Nat} {a1 : Nat} {a2 : Nat} {a3 : Nat} {h : gaH} {Q : gaH → Prop} (hw : w_X0_layByRules G a0 a1 a2 a3 h Q) : gaC l G yX0_layByRules (gaM yX0_layByRules cX0_layByRules 5 ((none : Option Jvm.ClassFile.FieldType))) rm_X0_layByRules [.ref a0, .ref a1, .ref a2, .ref a3] h (gQv Q) X := by
  refine g_start (lv := [some (.ref a0), some (.ref a1), some (.ref a2), some (.ref a3), none]) hpl_RX0 hst (Nat.le_of_ble_eq_true rfl) (gaArgs_pad (z := 1) rfl) ww_2_21 ?_
  intro p e s m args below meth c V hT
  have h_X0_layByRules_L17 : ∀ (n : Nat), ∀ (v0 : Nat) (v1 : Nat) (v2 : Nat) (v3 : Nat) (v4 : Int) (h : gaH), w_X0_layByRules_L17 G Q n v0 v1 v2 v3 v4 h → gaP p l e rm_X0_layByRules s m args below meth c G 5 (gaZ below G (gQv Q) X args s rm_X0_layByRules) 17 [some (.ref v0), some (.ref v1), some (.ref v2), some (.ref v3), some (gi v4)] [] h 0 0 := by
    intro n
    induction n with
    | zero =>
      intro v0 v1 v2 v3 v4 h hw
      exact hw.elim
    | succ n ih =>
      intro v0 v1 v2 v3 v4 h hw
      unfold w_X0_layByRules_L17 at hw
      refine g_iload V dX0_layByRules_17 rfl rfl ?_
      obtain ⟨hx0, hw⟩ := hw
      refine gi_if_lt V dX0_layByRules_19 rfl rfl hx0 (fun q => ?_) (fun q => ?_)
      · have hw := ga_t q hw
        exact g_vret V rfl dX0_layByRules_53 ⟨rfl, hw⟩
      · have hw := ga_f q hw
        refine g_aload_n V dX0_layByRules_22 rfl rfl ?_
        refine g_aload_n V dX0_layByRules_23 rfl rfl ?_
        refine g_iload V dX0_layByRules_24 rfl rfl ?_
        obtain ⟨hb, hw⟩ := hw
        obtain ⟨fb, hb⟩ := hb
        refine g_callV (C := RX0) (T := TX0) (N := 4) (st := [.ref v3]) V (k_X0_turnAt hst hw) ww_2_22 ww_2_23 ww_2_24 ww_1_4 ww_2_25 hd_X0_turnAt ⟨by decide, by decide⟩ rfl (by decide) hb rfl rfl (ga_cat rfl) dX0_layByRules_26 (Nat.zero_le _) (Nat.zero_le _) rfl (gaX_all hT V) (ga_ki (fun r2 hp1 hw => ?_))
        refine g_callS (st := [.ref v3]) V (k_X0_codeForA hst hw) ww_2_26 ww_2_27 ww_1_4 ww_2_28 hd_X0_codeForA ⟨by decide, by decide⟩ rfl rfl (ga_cat rfl) dX0_layByRules_29 (Nat.zero_le _) (Nat.zero_le _) rfl (gaX_all hT V) (ga_ki (fun r4 hp3 hw => ?_))
        refine g_iconst V (Int32.ofInt 2) dX0_layByRules_32 rfl rfl ?_
        obtain ⟨hb, hw⟩ := hw
        obtain ⟨fb, hb⟩ := hb
        refine g_callV (C := RX2) (T := TX2) (N := 3) (st := []) V (k_X2_take hst hw) ww_2_31 ww_2_32 ww_2_33 ww_1_2 ww_2_34 hd_X2_take ⟨by decide, by decide⟩ rfl (by decide) hb rfl rfl (ga_cat rfl) dX0_layByRules_33 (Nat.zero_le _) (Nat.zero_le _) rfl (gaX_all hT V) (ga_kv (fun hp5 hw => ?_))
        refine g_aload_n V dX0_layByRules_36 rfl rfl ?_
        refine g_aload_n V dX0_layByRules_37 rfl rfl ?_
        refine g_aload_n V dX0_layByRules_38 rfl rfl ?_
        obtain ⟨hb, hw⟩ := hw
        obtain ⟨fb, hb⟩ := hb
        refine g_callV (C := RX2) (T := TX2) (N := 3) (st := []) V (k_X2_layImage hst hw) ww_2_39 ww_2_40 ww_2_41 ww_1_2 ww_2_42 hd_X2_layImage ⟨by decide, by decide⟩ rfl (by decide) hb rfl rfl (ga_cat rfl) dX0_layByRules_39 (Nat.zero_le _) (Nat.zero_le _) rfl (gaX_all hT V) (ga_kv (fun hp7 hw => ?_))
        refine g_aload_n V dX0_layByRules_42 rfl rfl ?_
        refine g_aload_n V dX0_layByRules_43 rfl rfl ?_
        obtain ⟨hb, hw⟩ := hw
        obtain ⟨fb, hb⟩ := hb
        refine g_callV (C := RX4) (T := TX4) (N := 2) (st := []) V (k_X4_take hst hw) ww_2_49 ww_2_50 ww_2_51 ww_1_3 ww_2_52 hd_X4_take ⟨by decide, by decide⟩ rfl (by decide) hb rfl rfl (ga_cat rfl) dX0_layByRules_44 (Nat.zero_le _) (Nat.zero_le _) rfl (gaX_all hT V) (ga_kv (fun hp9 hw => ?_))
        refine gi_iinc (lv2 := [some (.ref v0), some (.ref v1), some (.ref v2), some (.ref v3), some (gi (v4 + (-1)))]) V dX0_layByRules_47 (by decide) rfl rfl rfl rfl ?_
        refine g_goto V dX0_layByRules_50 rfl ?_
        exact ih v0 v1 v2 v3 (v4 + (-1)) hp9 hw
  unfold w_X0_layByRules at hw
  refine g_aload_n V dX0_layByRules_0 rfl rfl ?_
  obtain ⟨hb, hw⟩ := hw
  obtain ⟨fb, hb⟩ := hb
  refine g_callV (C := RX4) (T := TX4) (N := 2) (st := []) V (k_X4_clear hst hw) ww_1_85 ww_1_86 ww_1_87 ww_1_3 ww_1_88 hd_X4_clear ⟨by decide, by decide⟩ rfl (by decide) hb rfl rfl (ga_cat rfl) dX0_layByRules_1 (Nat.zero_le _) (Nat.zero_le _) rfl (gaX_all hT V) (ga_kv (fun hp1 hw => ?_))
  refine g_aload_n V dX0_layByRules_4 rfl rfl ?_
  refine g_iconst V (Int32.ofInt 0) dX0_layByRules_5 rfl rfl ?_
  obtain ⟨hb, hw⟩ := hw
  obtain ⟨fb, hb⟩ := hb
  refine g_callV (C := RX4) (T := TX4) (N := 2) (st := []) V (k_X4_add hst hw) ww_1_89 ww_1_90 ww_1_91 ww_1_3 ww_1_92 hd_X4_add ⟨by decide, by decide⟩ rfl (by decide) hb rfl rfl (ga_cat rfl) dX0_layByRules_6 (Nat.zero_le _) (Nat.zero_le _) rfl (gaX_all hT V) (ga_kv (fun hp3 hw => ?_))
  refine g_aload_n V dX0_layByRules_9 rfl rfl ?_
  obtain ⟨fs, r5, ha, hv, hw⟩ := hw
  refine g_get (C := RX0) (T := TX0) (N := 4) V 1 rfl hin_RX0 (by decide) (by decide) ww_1_94 rfl ha hv dX0_layByRules_10 rfl ?_
  refine g_iconst V (Int32.ofInt 1) dX0_layByRules_13 rfl rfl ?_
  refine gi_isub V dX0_layByRules_14 rfl ?_
  refine g_istore (lv2 := [some (.ref a0), some (.ref a1), some (.ref a2), some (.ref a3), some (gi (r5 - 1))]) V dX0_layByRules_15 (by decide) rfl rfl rfl ?_
  obtain ⟨z, hw⟩ := hw
  exact h_X0_layByRules_L17 z a0 a1 a2 a3 (r5 - 1) hp3 hw
def w_X5_isUpOnLine (a0 : Int) (a1 : Int) (a2 : Int) (a3 : Int) (h : gaH) (Q : Int → gaH → Prop) : Prop := gR a0 ∧ (if a0 ≤ 0 then Q 0 h else gR a0 ∧ ¬ a0 = 0 ∧ (gR ((gRem ((a3 * a1) + a2) a0) + a1) ∧ gR a0 ∧ (if ((gRem ((a3 * a1) + a2) a0) + a1) < a0 then Q 0 h else Q 1 h)))
abbrev rm_X5_isUpOnLine : Room := { frames := 0, cells := 0, slots := 0, locals := 0 }
theorem hd_X5_isUpOnLine : (yX5_isUpOnLine.cls ≠ "java/lang/invoke/MethodHandle" ∧ yX5_isUpOnLine.cls ≠ "java/lang/invoke/VarHandle" ∧ (parseMethodDescriptor yX5_isUpOnLine.desc).map (fun d => d.parameters.length) = some 4) := by decide +kernel
theorem k_X5_isUpOnLine {l : Launch} (hst : l.stackTraces = false) {G : gaG} {X : String → gaH → Prop} {a0 : Int} {a1 : Int} {a2 : Int} {a3 : Int} {h : gaH} {Q : Int → gaH → Prop} (hw : w_X5_isUpOnLine a0 a1 a2 a3 h Q) : gaC l G yX5_isUpOnLine (gaM yX5_isUpOnLine cX5_isUpOnLine 4 ((some .boolean))) rm_X5_isUpOnLine [gi a0, gi a1, gi a2, gi a3] h (gQi Q) X := by
  refine g_start (lv := [some (gi a0), some (gi a1), some (gi a2), some (gi a3)]) hpl_RX5 hst (Nat.le_of_ble_eq_true rfl) (gaArgs_pad (z := 0) rfl) ww_2_63 ?_
  intro p e s m args below meth c V hT
  unfold w_X5_isUpOnLine at hw
  refine g_iload_n V dX5_isUpOnLine_0 rfl rfl ?_
  obtain ⟨hx0, hw⟩ := hw
  refine gi_if_le V dX5_isUpOnLine_1 rfl rfl hx0 (fun q => ?_) (fun q => ?_)
  · have hw := ga_t q hw
    refine g_iconst V (Int32.ofInt 0) dX5_isUpOnLine_21 rfl rfl ?_
    exact g_iret V rfl rfl dX5_isUpOnLine_22 ⟨_, rfl, hw⟩
  · have hw := ga_f q hw
    refine g_iload_n V dX5_isUpOnLine_4 rfl rfl ?_
    refine g_iload_n V dX5_isUpOnLine_5 rfl rfl ?_
    refine gi_imul V dX5_isUpOnLine_6 rfl ?_
    refine g_iload_n V dX5_isUpOnLine_7 rfl rfl ?_
    refine gi_iadd V dX5_isUpOnLine_8 rfl ?_
    refine g_iload_n V dX5_isUpOnLine_9 rfl rfl ?_
    obtain ⟨hx, h0, hw⟩ := hw
    refine gi_irem V dX5_isUpOnLine_10 hx h0 rfl ?_
    refine g_iload_n V dX5_isUpOnLine_11 rfl rfl ?_
    refine gi_iadd V dX5_isUpOnLine_12 rfl ?_
    refine g_iload_n V dX5_isUpOnLine_13 rfl rfl ?_
    obtain ⟨hx0, hx1, hw⟩ := hw
    refine gi_icmp_lt V dX5_isUpOnLine_14 rfl rfl hx0 hx1 (fun q => ?_) (fun q => ?_)
    · have hw := ga_t q hw
      refine g_iconst V (Int32.ofInt 0) dX5_isUpOnLine_21 rfl rfl ?_
      exact g_iret V rfl rfl dX5_isUpOnLine_22 ⟨_, rfl, hw⟩
    · have hw := ga_f q hw
      refine g_iconst V (Int32.ofInt 1) dX5_isUpOnLine_17 rfl rfl ?_
      refine g_goto V dX5_isUpOnLine_18 rfl ?_
      exact g_iret V rfl rfl dX5_isUpOnLine_22 ⟨_, rfl, hw⟩
def w_X0_addLineEnd_J36 (Q : gaH → Prop) (v1 : Nat) (v2 : Int) (h : gaH) : Prop := gHas h v1 4 ∧ w_X4_add v1 v2 h (fun hp1 => Q hp1)
def w_X0_addLineEnd_J33 (Q : gaH → Prop) (v1 : Nat) (v2 : Int) (t0 : Nat) (t1 : Int) (h : gaH) : Prop := gHas h t0 4 ∧ w_X4_add t0 t1 h (fun hp1 => w_X0_addLineEnd_J36 Q v1 v2 hp1)
def w_X0_addLineEnd_J15 (Q : gaH → Prop) (v0 : Nat) (v1 : Nat) (t0 : Int) (h : gaH) : Prop := gI h v0 2 1 (fun r1 => gR r1 ∧ (if r1 ≤ 0 then w_X0_addLineEnd_J36 Q v1 t0 h else gR t0 ∧ (if t0 = 0 then w_X0_addLineEnd_J33 Q v1 t0 v1 1 h else w_X0_addLineEnd_J33 Q v1 t0 v1 0 h)))
def w_X0_addLineEnd (a0 : Nat) (a1 : Nat) (h : gaH) (Q : gaH → Prop) : Prop := gI h a0 2 1 (fun r1 => gR (gRem r1 2) ∧ (if (gRem r1 2) = 1 then w_X0_addLineEnd_J15 Q a0 a1 1 h else w_X0_addLineEnd_J15 Q a0 a1 0 h))
abbrev rm_X0_addLineEnd : Room := { frames := 1, cells := 0, slots := 0, locals := 21 }
theorem hd_X0_addLineEnd : yX0_addLineEnd.cls = RX0 ∧ (yX0_addLineEnd.cls ≠ "java/lang/invoke/MethodHandle" ∧ yX0_addLineEnd.cls ≠ "java/lang/invoke/VarHandle" ∧ (parseMethodDescriptor yX0_addLineEnd.desc).map (fun d => d.parameters.length) = some 1) := by decide +kernel
theorem k_X0_addLineEnd {l : Launch} (hst : l.stackTraces = false) {G : gaG} {X : String → gaH → Prop} {a0 : Nat} {a1 : Nat} {h : gaH} {Q : gaH → Prop} (hw : w_X0_addLineEnd a0 a1 h Q) : gaC l G yX0_addLineEnd (gaM yX0_addLineEnd cX0_addLineEnd 3 ((none : Option Jvm.ClassFile.FieldType))) rm_X0_addLineEnd [.ref a0, .ref a1] h (gQv Q) X := by
  refine g_start (lv := [some (.ref a0), some (.ref a1), none]) hpl_RX0 hst (Nat.le_of_ble_eq_true rfl) (gaArgs_pad (z := 1) rfl) ww_2_67 ?_
  intro p e s m args below meth c V hT
  have h_X0_addLineEnd_J36 : ∀ (v1 : Nat) (v2 : Int) (h : gaH), w_X0_addLineEnd_J36 Q v1 v2 h → gaP p l e rm_X0_addLineEnd s m args below meth c G 3 (gaZ below G (gQv Q) X args s rm_X0_addLineEnd) 36 [none, some (.ref v1), some (gi v2)] [] h 0 0 := by
    intro v1 v2 h hw
    unfold w_X0_addLineEnd_J36 at hw
    refine g_aload_n V dX0_addLineEnd_36 rfl rfl ?_
    refine g_iload_n V dX0_addLineEnd_37 rfl rfl ?_
    obtain ⟨hb, hw⟩ := hw
    obtain ⟨fb, hb⟩ := hb
    refine g_callV (C := RX4) (T := TX4) (N := 2) (st := []) V (k_X4_add hst hw) ww_1_89 ww_1_90 ww_1_91 ww_1_3 ww_1_92 hd_X4_add ⟨by decide, by decide⟩ rfl (by decide) hb rfl rfl (ga_cat rfl) dX0_addLineEnd_38 (Nat.zero_le _) (Nat.zero_le _) rfl (gaX_all hT V) (ga_kv (fun hp1 hw => ?_))
    exact g_vret V rfl dX0_addLineEnd_41 ⟨rfl, hw⟩
  have h_X0_addLineEnd_J33 : ∀ (v1 : Nat) (v2 : Int) (t0 : Nat) (t1 : Int) (h : gaH), w_X0_addLineEnd_J33 Q v1 v2 t0 t1 h → gaP p l e rm_X0_addLineEnd s m args below meth c G 3 (gaZ below G (gQv Q) X args s rm_X0_addLineEnd) 33 [none, some (.ref v1), some (gi v2)] [gi t1, .ref t0] h 0 0 := by
    intro v1 v2 t0 t1 h hw
    unfold w_X0_addLineEnd_J33 at hw
    obtain ⟨hb, hw⟩ := hw
    obtain ⟨fb, hb⟩ := hb
    refine g_callV (C := RX4) (T := TX4) (N := 2) (st := []) V (k_X4_add hst hw) ww_1_89 ww_1_90 ww_1_91 ww_1_3 ww_1_92 hd_X4_add ⟨by decide, by decide⟩ rfl (by decide) hb rfl rfl (ga_cat rfl) dX0_addLineEnd_33 (Nat.zero_le _) (Nat.zero_le _) rfl (gaX_all hT V) (ga_kv (fun hp1 hw => ?_))
    exact h_X0_addLineEnd_J36 v1 v2 hp1 hw
  have h_X0_addLineEnd_J15 : ∀ (v0 : Nat) (v1 : Nat) (t0 : Int) (h : gaH), w_X0_addLineEnd_J15 Q v0 v1 t0 h → gaP p l e rm_X0_addLineEnd s m args below meth c G 3 (gaZ below G (gQv Q) X args s rm_X0_addLineEnd) 15 [some (.ref v0), some (.ref v1), none] [gi t0] h 0 0 := by
    intro v0 v1 t0 h hw
    unfold w_X0_addLineEnd_J15 at hw
    refine g_istore_n (lv2 := [some (.ref v0), some (.ref v1), some (gi t0)]) V dX0_addLineEnd_15 (by decide) rfl rfl rfl ?_
    refine g_aload_n V dX0_addLineEnd_16 rfl rfl ?_
    obtain ⟨fs, r1, ha, hv, hw⟩ := hw
    refine g_get (C := RX0) (T := TX0) (N := 4) V 1 rfl hin_RX0 (by decide) (by decide) ww_1_94 rfl ha hv dX0_addLineEnd_17 rfl ?_
    obtain ⟨hx0, hw⟩ := hw
    refine gi_if_le V dX0_addLineEnd_20 rfl rfl hx0 (fun q => ?_) (fun q => ?_)
    · have hw := ga_t q hw
      refine g_less (bs := [false, true, true]) (lv2 := [none, some (.ref v1), some (gi t0)]) rfl ?_
      exact h_X0_addLineEnd_J36 v1 t0 h hw
    · have hw := ga_f q hw
      refine g_aload_n V dX0_addLineEnd_23 rfl rfl ?_
      refine g_iload_n V dX0_addLineEnd_24 rfl rfl ?_
      obtain ⟨hx0, hw⟩ := hw
      refine gi_if_ne V dX0_addLineEnd_25 rfl rfl hx0 (fun q => ?_) (fun q => ?_)
      · have hw := ga_f q hw
        refine g_iconst V (Int32.ofInt 0) dX0_addLineEnd_32 rfl rfl ?_
        refine g_less (bs := [false, true, true]) (lv2 := [none, some (.ref v1), some (gi t0)]) rfl ?_
        exact h_X0_addLineEnd_J33 v1 t0 v1 0 h hw
      · have hw := ga_t q hw
        refine g_iconst V (Int32.ofInt 1) dX0_addLineEnd_28 rfl rfl ?_
        refine g_goto V dX0_addLineEnd_29 rfl ?_
        refine g_less (bs := [false, true, true]) (lv2 := [none, some (.ref v1), some (gi t0)]) rfl ?_
        exact h_X0_addLineEnd_J33 v1 t0 v1 1 h hw
  unfold w_X0_addLineEnd at hw
  refine g_aload_n V dX0_addLineEnd_0 rfl rfl ?_
  obtain ⟨fs, r1, ha, hv, hw⟩ := hw
  refine g_get (C := RX0) (T := TX0) (N := 4) V 1 rfl hin_RX0 (by decide) (by decide) ww_1_94 rfl ha hv dX0_addLineEnd_1 rfl ?_
  refine g_iconst V (Int32.ofInt 2) dX0_addLineEnd_4 rfl rfl ?_
  refine gi_irem V dX0_addLineEnd_5 (by decide) (by decide) rfl ?_
  refine g_iconst V (Int32.ofInt 1) dX0_addLineEnd_6 rfl rfl ?_
  obtain ⟨hx0, hw⟩ := hw
  refine gi_icmp_ne V dX0_addLineEnd_7 rfl rfl hx0 (by decide) (fun q => ?_) (fun q => ?_)
  · have hw := ga_f q hw
    refine g_iconst V (Int32.ofInt 0) dX0_addLineEnd_14 rfl rfl ?_
    exact h_X0_addLineEnd_J15 a0 a1 0 h hw
  · have hw := ga_t q hw
    refine g_iconst V (Int32.ofInt 1) dX0_addLineEnd_10 rfl rfl ?_
    refine g_goto V dX0_addLineEnd_11 rfl ?_
    exact h_X0_addLineEnd_J15 a0 a1 1 h hw
def w_X0_layByLine_L75 (Q : gaH → Prop) : Nat → (Nat → Nat → Int → Int → Int → gaH → Prop)
  | 0 => fun _ _ _ _ _ _ => False
  | n + 1 => fun v0 v1 v4 v5 v6 h => gR v6 ∧ gR (v4 - 1) ∧ (if (v4 - 1) ≤ v6 then gHas h v0 2 ∧ w_X0_addLineEnd v0 v1 h (fun hp1 => Q hp1) else w_X5_isUpOnLine v4 v5 0 v6 h (fun r4 hp3 => gHas hp3 v1 4 ∧ w_X4_add v1 r4 hp3 (fun hp5 => w_X0_layByLine_L75 Q n v0 v1 v4 v5 (v6 + 1) hp5)))
def w_X0_layByLine_L13 (Q : gaH → Prop) : Nat → (Nat → Nat → Int → Int → Int → Int → Int → gaH → Prop)
  | 0 => fun _ _ _ _ _ _ _ _ => False
  | n + 1 => fun v0 v1 v2 v3 v4 v5 v6 h => gI h v0 2 1 (fun r1 => gR v6 ∧ gR r1 ∧ (if r1 ≤ v6 then gHas h v1 4 ∧ w_X4_clear v1 h (fun hp2 => ∃ z, w_X0_layByLine_L75 Q z v0 v1 v4 v5 1 hp2) else gHas h v0 2 ∧ w_X0_turnAt v0 v6 h (fun r5 hp4 => w_X0_layByLine_L13 Q n v0 v1 v4 v5 ((r5 * v4) + v2) ((r5 * v5) + v3) (v6 + 1) hp4)))
def w_X0_layByLine (a0 : Nat) (a1 : Nat) (h : gaH) (Q : gaH → Prop) : Prop := ∃ z, w_X0_layByLine_L13 Q z a0 a1 1 1 1 0 0 h
abbrev rm_X0_layByLine : Room := { frames := 2, cells := 0, slots := 0, locals := 43 }
theorem hd_X0_layByLine : yX0_layByLine.cls = RX0 ∧ (yX0_layByLine.cls ≠ "java/lang/invoke/MethodHandle" ∧ yX0_layByLine.cls ≠ "java/lang/invoke/VarHandle" ∧ (parseMethodDescriptor yX0_layByLine.desc).map (fun d => d.parameters.length) = some 1) := by decide +kernel
theorem k_X0_layByLine {l : Launch} (hst : l.stackTraces = false) {G : gaG} {X : String → gaH → Prop} {a0 : Nat} {a1 : Nat} {h : gaH} {Q : gaH → Prop} (hw : w_X0_layByLine a0 a1 h Q) : gaC l G yX0_layByLine (gaM yX0_layByLine cX0_layByLine 10 ((none : Option Jvm.ClassFile.FieldType))) rm_X0_layByLine [.ref a0, .ref a1] h (gQv Q) X := by
  refine g_start (lv := [some (.ref a0), some (.ref a1), none, none, none, none, none, none, none, none]) hpl_RX0 hst (Nat.le_of_ble_eq_true rfl) (gaArgs_pad (z := 8) rfl) ww_2_60 ?_
  intro p e s m args below meth c V hT
  have h_X0_layByLine_L75 : ∀ (n : Nat), ∀ (v0 : Nat) (v1 : Nat) (v4 : Int) (v5 : Int) (v6 : Int) (h : gaH), w_X0_layByLine_L75 Q n v0 v1 v4 v5 v6 h → gaP p l e rm_X0_layByLine s m args below meth c G 10 (gaZ below G (gQv Q) X args s rm_X0_layByLine) 75 [some (.ref v0), some (.ref v1), none, none, some (gi v4), some (gi v5), some (gi v6), none, none, none] [] h 0 0 := by
    intro n
    induction n with
    | zero =>
      intro v0 v1 v4 v5 v6 h hw
      exact hw.elim
    | succ n ih =>
      intro v0 v1 v4 v5 v6 h hw
      unfold w_X0_layByLine_L75 at hw
      refine g_iload V dX0_layByLine_75 rfl rfl ?_
      refine g_iload V dX0_layByLine_77 rfl rfl ?_
      refine g_iconst V (Int32.ofInt 1) dX0_layByLine_79 rfl rfl ?_
      refine gi_isub V dX0_layByLine_80 rfl ?_
      obtain ⟨hx0, hx1, hw⟩ := hw
      refine gi_icmp_ge V dX0_layByLine_81 rfl rfl hx0 hx1 (fun q => ?_) (fun q => ?_)
      · have hw := ga_t q hw
        refine g_aload_n V dX0_layByLine_104 rfl rfl ?_
        refine g_aload_n V dX0_layByLine_105 rfl rfl ?_
        obtain ⟨hb, hw⟩ := hw
        obtain ⟨fb, hb⟩ := hb
        refine g_callV (C := RX0) (T := TX0) (N := 4) (st := []) V (k_X0_addLineEnd hst hw) ww_2_64 ww_2_66 wp_1_5 ww_1_4 ww_2_67 hd_X0_addLineEnd ⟨by decide, by decide⟩ rfl (by decide) hb rfl rfl (ga_cat rfl) dX0_layByLine_106 (Nat.zero_le _) (Nat.zero_le _) rfl (gaX_all hT V) (ga_kv (fun hp1 hw => ?_))
        exact g_vret V rfl dX0_layByLine_109 ⟨rfl, hw⟩
      · have hw := ga_f q hw
        refine g_aload_n V dX0_layByLine_84 rfl rfl ?_
        refine g_iload V dX0_layByLine_85 rfl rfl ?_
        refine g_iload V dX0_layByLine_87 rfl rfl ?_
        refine g_iconst V (Int32.ofInt 0) dX0_layByLine_89 rfl rfl ?_
        refine g_iload V dX0_layByLine_90 rfl rfl ?_
        refine g_callSN (host := "Wordgarden") (st := [.ref v1]) V (k_X5_isUpOnLine hst hw) gn_19 ww_2_62 ww_1_1 ww_2_63 hd_X5_isUpOnLine ⟨by decide, by decide⟩ rfl rfl (ga_cat rfl) dX0_layByLine_92 (Nat.zero_le _) (Nat.zero_le _) rfl (gaX_all hT V) (ga_ki (fun r4 hp3 hw => ?_))
        obtain ⟨hb, hw⟩ := hw
        obtain ⟨fb, hb⟩ := hb
        refine g_callV (C := RX4) (T := TX4) (N := 2) (st := []) V (k_X4_add hst hw) ww_1_89 ww_1_90 ww_1_91 ww_1_3 ww_1_92 hd_X4_add ⟨by decide, by decide⟩ rfl (by decide) hb rfl rfl (ga_cat rfl) dX0_layByLine_95 (Nat.zero_le _) (Nat.zero_le _) rfl (gaX_all hT V) (ga_kv (fun hp5 hw => ?_))
        refine gi_iinc (lv2 := [some (.ref v0), some (.ref v1), none, none, some (gi v4), some (gi v5), some (gi (v6 + 1)), none, none, none]) V dX0_layByLine_98 (by decide) rfl rfl rfl rfl ?_
        refine g_goto V dX0_layByLine_101 rfl ?_
        exact ih v0 v1 v4 v5 (v6 + 1) hp5 hw
  have h_X0_layByLine_L13 : ∀ (n : Nat), ∀ (v0 : Nat) (v1 : Nat) (v2 : Int) (v3 : Int) (v4 : Int) (v5 : Int) (v6 : Int) (h : gaH), w_X0_layByLine_L13 Q n v0 v1 v2 v3 v4 v5 v6 h → gaP p l e rm_X0_layByLine s m args below meth c G 10 (gaZ below G (gQv Q) X args s rm_X0_layByLine) 13 [some (.ref v0), some (.ref v1), some (gi v2), some (gi v3), some (gi v4), some (gi v5), some (gi v6), none, none, none] [] h 0 0 := by
    intro n
    induction n with
    | zero =>
      intro v0 v1 v2 v3 v4 v5 v6 h hw
      exact hw.elim
    | succ n ih =>
      intro v0 v1 v2 v3 v4 v5 v6 h hw
      unfold w_X0_layByLine_L13 at hw
      refine g_iload V dX0_layByLine_13 rfl rfl ?_
      refine g_aload_n V dX0_layByLine_15 rfl rfl ?_
      obtain ⟨fs, r1, ha, hv, hw⟩ := hw
      refine g_get (C := RX0) (T := TX0) (N := 4) V 1 rfl hin_RX0 (by decide) (by decide) ww_1_94 rfl ha hv dX0_layByLine_16 rfl ?_
      obtain ⟨hx0, hx1, hw⟩ := hw
      refine gi_icmp_ge V dX0_layByLine_19 rfl rfl hx0 hx1 (fun q => ?_) (fun q => ?_)
      · have hw := ga_t q hw
        refine g_aload_n V dX0_layByLine_68 rfl rfl ?_
        obtain ⟨hb, hw⟩ := hw
        obtain ⟨fb, hb⟩ := hb
        refine g_callV (C := RX4) (T := TX4) (N := 2) (st := []) V (k_X4_clear hst hw) ww_1_85 ww_1_86 ww_1_87 ww_1_3 ww_1_88 hd_X4_clear ⟨by decide, by decide⟩ rfl (by decide) hb rfl rfl (ga_cat rfl) dX0_layByLine_69 (Nat.zero_le _) (Nat.zero_le _) rfl (gaX_all hT V) (ga_kv (fun hp2 hw => ?_))
        refine g_iconst V (Int32.ofInt 1) dX0_layByLine_72 rfl rfl ?_
        refine g_istore (lv2 := [some (.ref v0), some (.ref v1), some (gi v2), some (gi v3), some (gi v4), some (gi v5), some (gi 1), none, none, none]) V dX0_layByLine_73 (by decide) rfl rfl rfl ?_
        refine g_less (bs := [true, true, false, false, true, true, true, true, true, true]) (lv2 := [some (.ref v0), some (.ref v1), none, none, some (gi v4), some (gi v5), some (gi 1), none, none, none]) rfl ?_
        obtain ⟨z, hw⟩ := hw
        exact h_X0_layByLine_L75 z v0 v1 v4 v5 1 hp2 hw
      · have hw := ga_f q hw
        refine g_aload_n V dX0_layByLine_22 rfl rfl ?_
        refine g_iload V dX0_layByLine_23 rfl rfl ?_
        obtain ⟨hb, hw⟩ := hw
        obtain ⟨fb, hb⟩ := hb
        refine g_callV (C := RX0) (T := TX0) (N := 4) (st := []) V (k_X0_turnAt hst hw) ww_2_22 ww_2_23 ww_2_24 ww_1_4 ww_2_25 hd_X0_turnAt ⟨by decide, by decide⟩ rfl (by decide) hb rfl rfl (ga_cat rfl) dX0_layByLine_25 (Nat.zero_le _) (Nat.zero_le _) rfl (gaX_all hT V) (ga_ki (fun r5 hp4 hw => ?_))
        refine g_istore (lv2 := [some (.ref v0), some (.ref v1), some (gi v2), some (gi v3), some (gi v4), some (gi v5), some (gi v6), some (gi r5), none, none]) V dX0_layByLine_28 (by decide) rfl rfl rfl ?_
        refine g_iload V dX0_layByLine_30 rfl rfl ?_
        refine g_iload V dX0_layByLine_32 rfl rfl ?_
        refine gi_imul V dX0_layByLine_34 rfl ?_
        refine g_iload_n V dX0_layByLine_35 rfl rfl ?_
        refine gi_iadd V dX0_layByLine_36 rfl ?_
        refine g_istore (lv2 := [some (.ref v0), some (.ref v1), some (gi v2), some (gi v3), some (gi v4), some (gi v5), some (gi v6), some (gi r5), some (gi ((r5 * v4) + v2)), none]) V dX0_layByLine_37 (by decide) rfl rfl rfl ?_
        refine g_iload V dX0_layByLine_39 rfl rfl ?_
        refine g_iload V dX0_layByLine_41 rfl rfl ?_
        refine gi_imul V dX0_layByLine_43 rfl ?_
        refine g_iload_n V dX0_layByLine_44 rfl rfl ?_
        refine gi_iadd V dX0_layByLine_45 rfl ?_
        refine g_istore (lv2 := [some (.ref v0), some (.ref v1), some (gi v2), some (gi v3), some (gi v4), some (gi v5), some (gi v6), some (gi r5), some (gi ((r5 * v4) + v2)), some (gi ((r5 * v5) + v3))]) V dX0_layByLine_46 (by decide) rfl rfl rfl ?_
        refine g_iload V dX0_layByLine_48 rfl rfl ?_
        refine g_istore_n (lv2 := [some (.ref v0), some (.ref v1), some (gi v4), some (gi v3), some (gi v4), some (gi v5), some (gi v6), some (gi r5), some (gi ((r5 * v4) + v2)), some (gi ((r5 * v5) + v3))]) V dX0_layByLine_50 (by decide) rfl rfl rfl ?_
        refine g_iload V dX0_layByLine_51 rfl rfl ?_
        refine g_istore_n (lv2 := [some (.ref v0), some (.ref v1), some (gi v4), some (gi v5), some (gi v4), some (gi v5), some (gi v6), some (gi r5), some (gi ((r5 * v4) + v2)), some (gi ((r5 * v5) + v3))]) V dX0_layByLine_53 (by decide) rfl rfl rfl ?_
        refine g_iload V dX0_layByLine_54 rfl rfl ?_
        refine g_istore (lv2 := [some (.ref v0), some (.ref v1), some (gi v4), some (gi v5), some (gi ((r5 * v4) + v2)), some (gi v5), some (gi v6), some (gi r5), some (gi ((r5 * v4) + v2)), some (gi ((r5 * v5) + v3))]) V dX0_layByLine_56 (by decide) rfl rfl rfl ?_
        refine g_iload V dX0_layByLine_58 rfl rfl ?_
        refine g_istore (lv2 := [some (.ref v0), some (.ref v1), some (gi v4), some (gi v5), some (gi ((r5 * v4) + v2)), some (gi ((r5 * v5) + v3)), some (gi v6), some (gi r5), some (gi ((r5 * v4) + v2)), some (gi ((r5 * v5) + v3))]) V dX0_layByLine_60 (by decide) rfl rfl rfl ?_
        refine gi_iinc (lv2 := [some (.ref v0), some (.ref v1), some (gi v4), some (gi v5), some (gi ((r5 * v4) + v2)), some (gi ((r5 * v5) + v3)), some (gi (v6 + 1)), some (gi r5), some (gi ((r5 * v4) + v2)), some (gi ((r5 * v5) + v3))]) V dX0_layByLine_62 (by decide) rfl rfl rfl rfl ?_
        refine g_goto V dX0_layByLine_65 rfl ?_
        refine g_less (bs := [true, true, true, true, true, true, true, false, false, false]) (lv2 := [some (.ref v0), some (.ref v1), some (gi v4), some (gi v5), some (gi ((r5 * v4) + v2)), some (gi ((r5 * v5) + v3)), some (gi (v6 + 1)), none, none, none]) rfl ?_
        exact ih v0 v1 v4 v5 ((r5 * v4) + v2) ((r5 * v5) + v3) (v6 + 1) hp4 hw
  unfold w_X0_layByLine at hw
  refine g_iconst V (Int32.ofInt 1) dX0_layByLine_0 rfl rfl ?_
  refine g_istore_n (lv2 := [some (.ref a0), some (.ref a1), some (gi 1), none, none, none, none, none, none, none]) V dX0_layByLine_1 (by decide) rfl rfl rfl ?_
  refine g_iconst V (Int32.ofInt 1) dX0_layByLine_2 rfl rfl ?_
  refine g_istore_n (lv2 := [some (.ref a0), some (.ref a1), some (gi 1), some (gi 1), none, none, none, none, none, none]) V dX0_layByLine_3 (by decide) rfl rfl rfl ?_
  refine g_iconst V (Int32.ofInt 1) dX0_layByLine_4 rfl rfl ?_
  refine g_istore (lv2 := [some (.ref a0), some (.ref a1), some (gi 1), some (gi 1), some (gi 1), none, none, none, none, none]) V dX0_layByLine_5 (by decide) rfl rfl rfl ?_
  refine g_iconst V (Int32.ofInt 0) dX0_layByLine_7 rfl rfl ?_
  refine g_istore (lv2 := [some (.ref a0), some (.ref a1), some (gi 1), some (gi 1), some (gi 1), some (gi 0), none, none, none, none]) V dX0_layByLine_8 (by decide) rfl rfl rfl ?_
  refine g_iconst V (Int32.ofInt 0) dX0_layByLine_10 rfl rfl ?_
  refine g_istore (lv2 := [some (.ref a0), some (.ref a1), some (gi 1), some (gi 1), some (gi 1), some (gi 0), some (gi 0), none, none, none]) V dX0_layByLine_11 (by decide) rfl rfl rfl ?_
  obtain ⟨z, hw⟩ := hw
  exact h_X0_layByLine_L13 z a0 a1 1 1 1 0 0 h hw
def w_X1_standsAt_L17 (Q : Int → gaH → Prop) : Nat → (Nat → Int → Nat → Int → gaH → Prop)
  | 0 => fun _ _ _ _ _ => False
  | n + 1 => fun v0 v1 v2 v3 h => gI h v2 4 1 (fun r1 => gR v3 ∧ gR r1 ∧ (if r1 ≤ v3 then Q 1 h else gHas h v0 4 ∧ w_X4_isUp v0 (v1 + v3) h (fun r3 hp2 => gHas hp2 v2 4 ∧ w_X4_isUp v2 v3 hp2 (fun r5 hp4 => gR r3 ∧ gR r5 ∧ (if r3 = r5 then w_X1_standsAt_L17 Q n v0 v1 v2 (v3 + 1) hp4 else Q 0 hp4)))))
def w_X1_standsAt (a0 : Nat) (a1 : Int) (a2 : Nat) (h : gaH) (Q : Int → gaH → Prop) : Prop := gI h a2 4 1 (fun r1 => gI h a0 4 1 (fun r2 => gR (a1 + r1) ∧ gR r2 ∧ (if (a1 + r1) ≤ r2 then ∃ z, w_X1_standsAt_L17 Q z a0 a1 a2 0 h else Q 0 h)))
abbrev rm_X1_standsAt : Room := { frames := 1, cells := 0, slots := 0, locals := 21 }
theorem hd_X1_standsAt : (yX1_standsAt.cls ≠ "java/lang/invoke/MethodHandle" ∧ yX1_standsAt.cls ≠ "java/lang/invoke/VarHandle" ∧ (parseMethodDescriptor yX1_standsAt.desc).map (fun d => d.parameters.length) = some 3) := by decide +kernel
theorem k_X1_standsAt {l : Launch} (hst : l.stackTraces = false) {G : gaG} {X : String → gaH → Prop} {a0 : Nat} {a1 : Int} {a2 : Nat} {h : gaH} {Q : Int → gaH → Prop} (hw : w_X1_standsAt a0 a1 a2 h Q) : gaC l G yX1_standsAt (gaM yX1_standsAt cX1_standsAt 4 ((some .boolean))) rm_X1_standsAt [.ref a0, gi a1, .ref a2] h (gQi Q) X := by
  refine g_start (lv := [some (.ref a0), some (gi a1), some (.ref a2), none]) hpl_RX1 hst (Nat.le_of_ble_eq_true rfl) (gaArgs_pad (z := 1) rfl) ww_3_157 ?_
  intro p e s m args below meth c V hT
  have h_X1_standsAt_L17 : ∀ (n : Nat), ∀ (v0 : Nat) (v1 : Int) (v2 : Nat) (v3 : Int) (h : gaH), w_X1_standsAt_L17 Q n v0 v1 v2 v3 h → gaP p l e rm_X1_standsAt s m args below meth c G 4 (gaZ below G (gQi Q) X args s rm_X1_standsAt) 17 [some (.ref v0), some (gi v1), some (.ref v2), some (gi v3)] [] h 0 0 := by
    intro n
    induction n with
    | zero =>
      intro v0 v1 v2 v3 h hw
      exact hw.elim
    | succ n ih =>
      intro v0 v1 v2 v3 h hw
      unfold w_X1_standsAt_L17 at hw
      refine g_iload_n V dX1_standsAt_17 rfl rfl ?_
      refine g_aload_n V dX1_standsAt_18 rfl rfl ?_
      obtain ⟨fs, r1, ha, hv, hw⟩ := hw
      refine g_getN (C := RX4) (T := TX4) (N := 2) (host := "Wordgarden") V 1 rfl hin_RX4 (by decide) (by decide) gn_2 rfl ha hv dX1_standsAt_19 rfl ?_
      obtain ⟨hx0, hx1, hw⟩ := hw
      refine gi_icmp_ge V dX1_standsAt_22 rfl rfl hx0 hx1 (fun q => ?_) (fun q => ?_)
      · have hw := ga_t q hw
        refine g_iconst V (Int32.ofInt 1) dX1_standsAt_48 rfl rfl ?_
        exact g_iret V rfl rfl dX1_standsAt_49 ⟨_, rfl, hw⟩
      · have hw := ga_f q hw
        refine g_aload_n V dX1_standsAt_25 rfl rfl ?_
        refine g_iload_n V dX1_standsAt_26 rfl rfl ?_
        refine g_iload_n V dX1_standsAt_27 rfl rfl ?_
        refine gi_iadd V dX1_standsAt_28 rfl ?_
        obtain ⟨hb, hw⟩ := hw
        obtain ⟨fb, hb⟩ := hb
        refine g_callV (C := RX4) (T := TX4) (N := 2) (st := []) V (k_X4_isUp hst hw) ww_1_239 ww_1_228 ww_1_229 ww_1_3 ww_1_230 hd_X4_isUp ⟨by decide, by decide⟩ rfl (by decide) hb rfl rfl (ga_cat rfl) dX1_standsAt_29 (Nat.zero_le _) (Nat.zero_le _) rfl (gaX_all hT V) (ga_ki (fun r3 hp2 hw => ?_))
        refine g_aload_n V dX1_standsAt_32 rfl rfl ?_
        refine g_iload_n V dX1_standsAt_33 rfl rfl ?_
        obtain ⟨hb, hw⟩ := hw
        obtain ⟨fb, hb⟩ := hb
        refine g_callV (C := RX4) (T := TX4) (N := 2) (st := [gi r3]) V (k_X4_isUp hst hw) ww_1_239 ww_1_228 ww_1_229 ww_1_3 ww_1_230 hd_X4_isUp ⟨by decide, by decide⟩ rfl (by decide) hb rfl rfl (ga_cat rfl) dX1_standsAt_34 (Nat.zero_le _) (Nat.zero_le _) rfl (gaX_all hT V) (ga_ki (fun r5 hp4 hw => ?_))
        obtain ⟨hx0, hx1, hw⟩ := hw
        refine gi_icmp_eq V dX1_standsAt_37 rfl rfl hx0 hx1 (fun q => ?_) (fun q => ?_)
        · have hw := ga_t q hw
          refine gi_iinc (lv2 := [some (.ref v0), some (gi v1), some (.ref v2), some (gi (v3 + 1))]) V dX1_standsAt_42 (by decide) rfl rfl rfl rfl ?_
          refine g_goto V dX1_standsAt_45 rfl ?_
          exact ih v0 v1 v2 (v3 + 1) hp4 hw
        · have hw := ga_f q hw
          refine g_iconst V (Int32.ofInt 0) dX1_standsAt_40 rfl rfl ?_
          exact g_iret V rfl rfl dX1_standsAt_41 ⟨_, rfl, hw⟩
  unfold w_X1_standsAt at hw
  refine g_iload_n V dX1_standsAt_0 rfl rfl ?_
  refine g_aload_n V dX1_standsAt_1 rfl rfl ?_
  obtain ⟨fs, r1, ha, hv, hw⟩ := hw
  refine g_getN (C := RX4) (T := TX4) (N := 2) (host := "Wordgarden") V 1 rfl hin_RX4 (by decide) (by decide) gn_2 rfl ha hv dX1_standsAt_2 rfl ?_
  refine gi_iadd V dX1_standsAt_5 rfl ?_
  refine g_aload_n V dX1_standsAt_6 rfl rfl ?_
  obtain ⟨fs, r2, ha, hv, hw⟩ := hw
  refine g_getN (C := RX4) (T := TX4) (N := 2) (host := "Wordgarden") V 1 rfl hin_RX4 (by decide) (by decide) gn_2 rfl ha hv dX1_standsAt_7 rfl ?_
  obtain ⟨hx0, hx1, hw⟩ := hw
  refine gi_icmp_le V dX1_standsAt_10 rfl rfl hx0 hx1 (fun q => ?_) (fun q => ?_)
  · have hw := ga_t q hw
    refine g_iconst V (Int32.ofInt 0) dX1_standsAt_15 rfl rfl ?_
    refine g_istore_n (lv2 := [some (.ref a0), some (gi a1), some (.ref a2), some (gi 0)]) V dX1_standsAt_16 (by decide) rfl rfl rfl ?_
    obtain ⟨z, hw⟩ := hw
    exact h_X1_standsAt_L17 z a0 a1 a2 0 h hw
  · have hw := ga_f q hw
    refine g_iconst V (Int32.ofInt 0) dX1_standsAt_13 rfl rfl ?_
    exact g_iret V rfl rfl dX1_standsAt_14 ⟨_, rfl, hw⟩
def w_X0_begin (a0 : Nat) (h : gaH) (Q : gaH → Prop) : Prop := gPF h a0 2 1 (gi 0) (fun hp1 => gA hp1 a0 2 2 (fun r2 => gHas hp1 r2 4 ∧ w_X4_clear r2 hp1 (fun hp3 => gA hp3 a0 2 2 (fun r5 => gHas hp3 r5 4 ∧ w_X4_add r5 1 hp3 (fun hp6 => gA hp6 a0 2 3 (fun r8 => gHas hp6 r8 4 ∧ w_X4_clear r8 hp6 (fun hp9 => gA hp9 a0 2 3 (fun r11 => gHas hp9 r11 4 ∧ w_X4_add r11 0 hp9 (fun hp12 => Q hp12)))))))))
abbrev rm_X0_begin : Room := { frames := 1, cells := 0, slots := 0, locals := 21 }
theorem hd_X0_begin : yX0_begin.cls = RX0 ∧ (yX0_begin.cls ≠ "java/lang/invoke/MethodHandle" ∧ yX0_begin.cls ≠ "java/lang/invoke/VarHandle" ∧ (parseMethodDescriptor yX0_begin.desc).map (fun d => d.parameters.length) = some 0) := by decide +kernel
theorem k_X0_begin {l : Launch} (hst : l.stackTraces = false) {G : gaG} {X : String → gaH → Prop} {a0 : Nat} {h : gaH} {Q : gaH → Prop} (hw : w_X0_begin a0 h Q) : gaC l G yX0_begin (gaM yX0_begin cX0_begin 1 ((none : Option Jvm.ClassFile.FieldType))) rm_X0_begin [.ref a0] h (gQv Q) X := by
  refine g_start (lv := [some (.ref a0)]) hpl_RX0 hst (Nat.le_of_ble_eq_true rfl) (gaArgs_pad (z := 0) rfl) ww_1_84 ?_
  intro p e s m args below meth c V hT
  unfold w_X0_begin at hw
  refine g_aload_n V dX0_begin_0 rfl rfl ?_
  refine g_iconst V (Int32.ofInt 0) dX0_begin_1 rfl rfl ?_
  obtain ⟨fs, ha, hl, hw⟩ := hw
  refine g_put (C := RX0) (T := TX0) (N := 4) V 1 tyX0 tyX0_ok nmX0 rfl hin_RX0 (by decide) (by decide) ww_1_94 rfl rfl rfl rfl ha hl dX0_begin_2 rfl ?_
  generalize gaUp h a0 _ = hp1 at hw ⊢
  refine g_aload_n V dX0_begin_5 rfl rfl ?_
  obtain ⟨fs, r2, ha, hv, hw⟩ := hw
  refine g_get (C := RX0) (T := TX0) (N := 4) V 2 rfl hin_RX0 (by decide) (by decide) ww_1_96 rfl ha hv dX0_begin_6 rfl ?_
  obtain ⟨hb, hw⟩ := hw
  obtain ⟨fb, hb⟩ := hb
  refine g_callV (C := RX4) (T := TX4) (N := 2) (st := []) V (k_X4_clear hst hw) ww_1_85 ww_1_86 ww_1_87 ww_1_3 ww_1_88 hd_X4_clear ⟨by decide, by decide⟩ rfl (by decide) hb rfl rfl (ga_cat rfl) dX0_begin_9 (Nat.zero_le _) (Nat.zero_le _) rfl (gaX_all hT V) (ga_kv (fun hp3 hw => ?_))
  refine g_aload_n V dX0_begin_12 rfl rfl ?_
  obtain ⟨fs, r5, ha, hv, hw⟩ := hw
  refine g_get (C := RX0) (T := TX0) (N := 4) V 2 rfl hin_RX0 (by decide) (by decide) ww_1_96 rfl ha hv dX0_begin_13 rfl ?_
  refine g_iconst V (Int32.ofInt 1) dX0_begin_16 rfl rfl ?_
  obtain ⟨hb, hw⟩ := hw
  obtain ⟨fb, hb⟩ := hb
  refine g_callV (C := RX4) (T := TX4) (N := 2) (st := []) V (k_X4_add hst hw) ww_1_89 ww_1_90 ww_1_91 ww_1_3 ww_1_92 hd_X4_add ⟨by decide, by decide⟩ rfl (by decide) hb rfl rfl (ga_cat rfl) dX0_begin_17 (Nat.zero_le _) (Nat.zero_le _) rfl (gaX_all hT V) (ga_kv (fun hp6 hw => ?_))
  refine g_aload_n V dX0_begin_20 rfl rfl ?_
  obtain ⟨fs, r8, ha, hv, hw⟩ := hw
  refine g_get (C := RX0) (T := TX0) (N := 4) V 3 rfl hin_RX0 (by decide) (by decide) ww_1_98 rfl ha hv dX0_begin_21 rfl ?_
  obtain ⟨hb, hw⟩ := hw
  obtain ⟨fb, hb⟩ := hb
  refine g_callV (C := RX4) (T := TX4) (N := 2) (st := []) V (k_X4_clear hst hw) ww_1_85 ww_1_86 ww_1_87 ww_1_3 ww_1_88 hd_X4_clear ⟨by decide, by decide⟩ rfl (by decide) hb rfl rfl (ga_cat rfl) dX0_begin_24 (Nat.zero_le _) (Nat.zero_le _) rfl (gaX_all hT V) (ga_kv (fun hp9 hw => ?_))
  refine g_aload_n V dX0_begin_27 rfl rfl ?_
  obtain ⟨fs, r11, ha, hv, hw⟩ := hw
  refine g_get (C := RX0) (T := TX0) (N := 4) V 3 rfl hin_RX0 (by decide) (by decide) ww_1_98 rfl ha hv dX0_begin_28 rfl ?_
  refine g_iconst V (Int32.ofInt 0) dX0_begin_31 rfl rfl ?_
  obtain ⟨hb, hw⟩ := hw
  obtain ⟨fb, hb⟩ := hb
  refine g_callV (C := RX4) (T := TX4) (N := 2) (st := []) V (k_X4_add hst hw) ww_1_89 ww_1_90 ww_1_91 ww_1_3 ww_1_92 hd_X4_add ⟨by decide, by decide⟩ rfl (by decide) hb rfl rfl (ga_cat rfl) dX0_begin_32 (Nat.zero_le _) (Nat.zero_le _) rfl (gaX_all hT V) (ga_kv (fun hp12 hw => ?_))
  exact g_vret V rfl dX0_begin_35 ⟨rfl, hw⟩
def w_X0_goOn_L60 (Q : Int → gaH → Prop) : Nat → (Nat → Int → Nat → Int → gaH → Prop)
  | 0 => fun _ _ _ _ _ => False
  | n + 1 => fun v0 v1 v2 v4 h => gR v4 ∧ gR v1 ∧ (if v1 ≤ v4 then gA h v0 2 2 (fun r1 => gA h v0 2 2 (fun r2 => gI h r2 4 1 (fun r3 => gHas h v2 4 ∧ w_X4_addPart v2 r1 0 r3 h (fun hp4 => gA hp4 v0 2 2 (fun r6 => gA hp4 v0 2 3 (fun r7 => gHas hp4 r6 4 ∧ w_X4_take r6 r7 hp4 (fun hp8 => gA hp8 v0 2 3 (fun r10 => gHas hp8 r10 4 ∧ w_X4_take r10 v2 hp8 (fun hp11 => gA hp11 v0 2 0 (fun r13 => gI hp11 v0 2 1 (fun r14 => gSI hp11 r13 102 r14 (gi v1) (fun hp15 => gI hp15 v0 2 1 (fun r16 => gPF hp15 v0 2 1 (gi (r16 + 1)) (fun hp17 => Q 1 hp17)))))))))))))) else gA h v0 2 3 (fun r18 => gA h v0 2 3 (fun r19 => gI h r19 4 1 (fun r20 => gHas h v2 4 ∧ w_X4_addPart v2 r18 0 r20 h (fun hp21 => w_X0_goOn_L60 Q n v0 v1 v2 (v4 + 1) hp21)))))
def w_X0_goOn_J24 (Q : Int → gaH → Prop) (v0 : Nat) (v1 : Int) (v2 : Nat) (t0 : Int) (h : gaH) : Prop := gR t0 ∧ (if t0 = 0 then Q 0 h else gA h v0 2 3 (fun r1 => gI h r1 4 1 (fun r2 => gA h v0 2 2 (fun r3 => gI h r3 4 1 (fun r4 => gR ((v1 * r2) + r4) ∧ (if ((v1 * r2) + r4) ≤ 64 then gHas h v2 4 ∧ w_X4_clear v2 h (fun hp5 => ∃ z, w_X0_goOn_L60 Q z v0 v1 v2 0 hp5) else Q 0 h))))))
def w_X0_goOn_J23 (Q : Int → gaH → Prop) (v0 : Nat) (v1 : Int) (v2 : Nat) (h : gaH) : Prop := w_X0_goOn_J24 Q v0 v1 v2 0 h
def w_X0_goOn (a0 : Nat) (a1 : Int) (a2 : Nat) (h : gaH) (Q : Int → gaH → Prop) : Prop := gI h a0 2 1 (fun r1 => gR r1 ∧ (if r1 < 0 then w_X0_goOn_J23 Q a0 a1 a2 h else gI h a0 2 1 (fun r2 => gA h a0 2 0 (fun r3 => gAL h r3 102 (fun r4 => gR r2 ∧ gR r4 ∧ (if r4 ≤ r2 then w_X0_goOn_J23 Q a0 a1 a2 h else w_X0_goOn_J24 Q a0 a1 a2 1 h))))))
abbrev rm_X0_goOn : Room := { frames := 2, cells := 0, slots := 0, locals := 45 }
theorem hd_X0_goOn : yX0_goOn.cls = RX0 ∧ (yX0_goOn.cls ≠ "java/lang/invoke/MethodHandle" ∧ yX0_goOn.cls ≠ "java/lang/invoke/VarHandle" ∧ (parseMethodDescriptor yX0_goOn.desc).map (fun d => d.parameters.length) = some 2) := by decide +kernel
theorem k_X0_goOn {l : Launch} (hst : l.stackTraces = false) {G : gaG} {X : String → gaH → Prop} {a0 : Nat} {a1 : Int} {a2 : Nat} {h : gaH} {Q : Int → gaH → Prop} (hw : w_X0_goOn a0 a1 a2 h Q) : gaC l G yX0_goOn (gaM yX0_goOn cX0_goOn 5 ((some .boolean))) rm_X0_goOn [.ref a0, gi a1, .ref a2] h (gQi Q) X := by
  refine g_start (lv := [some (.ref a0), some (gi a1), some (.ref a2), none, none]) hpl_RX0 hst (Nat.le_of_ble_eq_true rfl) (gaArgs_pad (z := 2) rfl) ww_3_216 ?_
  intro p e s m args below meth c V hT
  have h_X0_goOn_L60 : ∀ (n : Nat), ∀ (v0 : Nat) (v1 : Int) (v2 : Nat) (v4 : Int) (h : gaH), w_X0_goOn_L60 Q n v0 v1 v2 v4 h → gaP p l e rm_X0_goOn s m args below meth c G 5 (gaZ below G (gQi Q) X args s rm_X0_goOn) 60 [some (.ref v0), some (gi v1), some (.ref v2), none, some (gi v4)] [] h 0 0 := by
    intro n
    induction n with
    | zero =>
      intro v0 v1 v2 v4 h hw
      exact hw.elim
    | succ n ih =>
      intro v0 v1 v2 v4 h hw
      unfold w_X0_goOn_L60 at hw
      refine g_iload V dX0_goOn_60 rfl rfl ?_
      refine g_iload_n V dX0_goOn_62 rfl rfl ?_
      obtain ⟨hx0, hx1, hw⟩ := hw
      refine gi_icmp_ge V dX0_goOn_63 rfl rfl hx0 hx1 (fun q => ?_) (fun q => ?_)
      · have hw := ga_t q hw
        refine g_aload_n V dX0_goOn_88 rfl rfl ?_
        refine g_aload_n V dX0_goOn_89 rfl rfl ?_
        obtain ⟨fs, r1, ha, hv, hw⟩ := hw
        refine g_get (C := RX0) (T := TX0) (N := 4) V 2 rfl hin_RX0 (by decide) (by decide) ww_1_96 rfl ha hv dX0_goOn_90 rfl ?_
        refine g_iconst V (Int32.ofInt 0) dX0_goOn_93 rfl rfl ?_
        refine g_aload_n V dX0_goOn_94 rfl rfl ?_
        obtain ⟨fs, r2, ha, hv, hw⟩ := hw
        refine g_get (C := RX0) (T := TX0) (N := 4) V 2 rfl hin_RX0 (by decide) (by decide) ww_1_96 rfl ha hv dX0_goOn_95 rfl ?_
        obtain ⟨fs, r3, ha, hv, hw⟩ := hw
        refine g_getN (C := RX4) (T := TX4) (N := 2) (host := "Wordgarden") V 1 rfl hin_RX4 (by decide) (by decide) gn_6 rfl ha hv dX0_goOn_98 rfl ?_
        obtain ⟨hb, hw⟩ := hw
        obtain ⟨fb, hb⟩ := hb
        refine g_callV (C := RX4) (T := TX4) (N := 2) (st := []) V (k_X4_addPart hst hw) ww_3_217 ww_2_46 ww_2_47 ww_1_3 ww_2_48 hd_X4_addPart ⟨by decide, by decide⟩ rfl (by decide) hb rfl rfl (ga_cat rfl) dX0_goOn_101 (Nat.zero_le _) (Nat.zero_le _) rfl (gaX_all hT V) (ga_kv (fun hp4 hw => ?_))
        refine g_aload_n V dX0_goOn_104 rfl rfl ?_
        obtain ⟨fs, r6, ha, hv, hw⟩ := hw
        refine g_get (C := RX0) (T := TX0) (N := 4) V 2 rfl hin_RX0 (by decide) (by decide) ww_1_96 rfl ha hv dX0_goOn_105 rfl ?_
        refine g_aload_n V dX0_goOn_108 rfl rfl ?_
        obtain ⟨fs, r7, ha, hv, hw⟩ := hw
        refine g_get (C := RX0) (T := TX0) (N := 4) V 3 rfl hin_RX0 (by decide) (by decide) ww_1_98 rfl ha hv dX0_goOn_109 rfl ?_
        obtain ⟨hb, hw⟩ := hw
        obtain ⟨fb, hb⟩ := hb
        refine g_callV (C := RX4) (T := TX4) (N := 2) (st := []) V (k_X4_take hst hw) ww_2_49 ww_2_50 ww_2_51 ww_1_3 ww_2_52 hd_X4_take ⟨by decide, by decide⟩ rfl (by decide) hb rfl rfl (ga_cat rfl) dX0_goOn_112 (Nat.zero_le _) (Nat.zero_le _) rfl (gaX_all hT V) (ga_kv (fun hp8 hw => ?_))
        refine g_aload_n V dX0_goOn_115 rfl rfl ?_
        obtain ⟨fs, r10, ha, hv, hw⟩ := hw
        refine g_get (C := RX0) (T := TX0) (N := 4) V 3 rfl hin_RX0 (by decide) (by decide) ww_1_98 rfl ha hv dX0_goOn_116 rfl ?_
        refine g_aload_n V dX0_goOn_119 rfl rfl ?_
        obtain ⟨hb, hw⟩ := hw
        obtain ⟨fb, hb⟩ := hb
        refine g_callV (C := RX4) (T := TX4) (N := 2) (st := []) V (k_X4_take hst hw) ww_2_49 ww_2_50 ww_2_51 ww_1_3 ww_2_52 hd_X4_take ⟨by decide, by decide⟩ rfl (by decide) hb rfl rfl (ga_cat rfl) dX0_goOn_120 (Nat.zero_le _) (Nat.zero_le _) rfl (gaX_all hT V) (ga_kv (fun hp11 hw => ?_))
        refine g_aload_n V dX0_goOn_123 rfl rfl ?_
        obtain ⟨fs, r13, ha, hv, hw⟩ := hw
        refine g_get (C := RX0) (T := TX0) (N := 4) V 0 rfl hin_RX0 (by decide) (by decide) ww_1_93 rfl ha hv dX0_goOn_124 rfl ?_
        refine g_aload_n V dX0_goOn_127 rfl rfl ?_
        obtain ⟨fs, r14, ha, hv, hw⟩ := hw
        refine g_get (C := RX0) (T := TX0) (N := 4) V 1 rfl hin_RX0 (by decide) (by decide) ww_1_94 rfl ha hv dX0_goOn_128 rfl ?_
        refine g_iload_n V dX0_goOn_131 rfl rfl ?_
        obtain ⟨vs, ha, h0, h9, hi, hw⟩ := hw
        refine gi_iastore V ha h0 h9 hi dX0_goOn_132 rfl ?_
        generalize gaUp hp11 r13 _ = hp15 at hw ⊢
        refine g_aload_n V dX0_goOn_133 rfl rfl ?_
        refine g_dup V dX0_goOn_134 rfl rfl ?_
        obtain ⟨fs, r16, ha, hv, hw⟩ := hw
        refine g_get (C := RX0) (T := TX0) (N := 4) V 1 rfl hin_RX0 (by decide) (by decide) ww_1_94 rfl ha hv dX0_goOn_135 rfl ?_
        refine g_iconst V (Int32.ofInt 1) dX0_goOn_138 rfl rfl ?_
        refine gi_iadd V dX0_goOn_139 rfl ?_
        obtain ⟨fs, ha, hl, hw⟩ := hw
        refine g_put (C := RX0) (T := TX0) (N := 4) V 1 tyX0 tyX0_ok nmX0 rfl hin_RX0 (by decide) (by decide) ww_1_94 rfl rfl rfl rfl ha hl dX0_goOn_140 rfl ?_
        generalize gaUp hp15 v0 _ = hp17 at hw ⊢
        refine g_iconst V (Int32.ofInt 1) dX0_goOn_143 rfl rfl ?_
        exact g_iret V rfl rfl dX0_goOn_144 ⟨_, rfl, hw⟩
      · have hw := ga_f q hw
        refine g_aload_n V dX0_goOn_66 rfl rfl ?_
        refine g_aload_n V dX0_goOn_67 rfl rfl ?_
        obtain ⟨fs, r18, ha, hv, hw⟩ := hw
        refine g_get (C := RX0) (T := TX0) (N := 4) V 3 rfl hin_RX0 (by decide) (by decide) ww_1_98 rfl ha hv dX0_goOn_68 rfl ?_
        refine g_iconst V (Int32.ofInt 0) dX0_goOn_71 rfl rfl ?_
        refine g_aload_n V dX0_goOn_72 rfl rfl ?_
        obtain ⟨fs, r19, ha, hv, hw⟩ := hw
        refine g_get (C := RX0) (T := TX0) (N := 4) V 3 rfl hin_RX0 (by decide) (by decide) ww_1_98 rfl ha hv dX0_goOn_73 rfl ?_
        obtain ⟨fs, r20, ha, hv, hw⟩ := hw
        refine g_getN (C := RX4) (T := TX4) (N := 2) (host := "Wordgarden") V 1 rfl hin_RX4 (by decide) (by decide) gn_6 rfl ha hv dX0_goOn_76 rfl ?_
        obtain ⟨hb, hw⟩ := hw
        obtain ⟨fb, hb⟩ := hb
        refine g_callV (C := RX4) (T := TX4) (N := 2) (st := []) V (k_X4_addPart hst hw) ww_3_217 ww_2_46 ww_2_47 ww_1_3 ww_2_48 hd_X4_addPart ⟨by decide, by decide⟩ rfl (by decide) hb rfl rfl (ga_cat rfl) dX0_goOn_79 (Nat.zero_le _) (Nat.zero_le _) rfl (gaX_all hT V) (ga_kv (fun hp21 hw => ?_))
        refine gi_iinc (lv2 := [some (.ref v0), some (gi v1), some (.ref v2), none, some (gi (v4 + 1))]) V dX0_goOn_82 (by decide) rfl rfl rfl rfl ?_
        refine g_goto V dX0_goOn_85 rfl ?_
        exact ih v0 v1 v2 (v4 + 1) hp21 hw
  have h_X0_goOn_J24 : ∀ (v0 : Nat) (v1 : Int) (v2 : Nat) (t0 : Int) (h : gaH), w_X0_goOn_J24 Q v0 v1 v2 t0 h → gaP p l e rm_X0_goOn s m args below meth c G 5 (gaZ below G (gQi Q) X args s rm_X0_goOn) 24 [some (.ref v0), some (gi v1), some (.ref v2), none, none] [gi t0] h 0 0 := by
    intro v0 v1 v2 t0 h hw
    unfold w_X0_goOn_J24 at hw
    refine g_istore_n (lv2 := [some (.ref v0), some (gi v1), some (.ref v2), some (gi t0), none]) V dX0_goOn_24 (by decide) rfl rfl rfl ?_
    refine g_iload_n V dX0_goOn_25 rfl rfl ?_
    obtain ⟨hx0, hw⟩ := hw
    refine gi_if_eq V dX0_goOn_26 rfl rfl hx0 (fun q => ?_) (fun q => ?_)
    · have hw := ga_t q hw
      refine g_iconst V (Int32.ofInt 0) dX0_goOn_51 rfl rfl ?_
      exact g_iret V rfl rfl dX0_goOn_52 ⟨_, rfl, hw⟩
    · have hw := ga_f q hw
      refine g_iload_n V dX0_goOn_29 rfl rfl ?_
      refine g_aload_n V dX0_goOn_30 rfl rfl ?_
      obtain ⟨fs, r1, ha, hv, hw⟩ := hw
      refine g_get (C := RX0) (T := TX0) (N := 4) V 3 rfl hin_RX0 (by decide) (by decide) ww_1_98 rfl ha hv dX0_goOn_31 rfl ?_
      obtain ⟨fs, r2, ha, hv, hw⟩ := hw
      refine g_getN (C := RX4) (T := TX4) (N := 2) (host := "Wordgarden") V 1 rfl hin_RX4 (by decide) (by decide) gn_6 rfl ha hv dX0_goOn_34 rfl ?_
      refine gi_imul V dX0_goOn_37 rfl ?_
      refine g_aload_n V dX0_goOn_38 rfl rfl ?_
      obtain ⟨fs, r3, ha, hv, hw⟩ := hw
      refine g_get (C := RX0) (T := TX0) (N := 4) V 2 rfl hin_RX0 (by decide) (by decide) ww_1_96 rfl ha hv dX0_goOn_39 rfl ?_
      obtain ⟨fs, r4, ha, hv, hw⟩ := hw
      refine g_getN (C := RX4) (T := TX4) (N := 2) (host := "Wordgarden") V 1 rfl hin_RX4 (by decide) (by decide) gn_6 rfl ha hv dX0_goOn_42 rfl ?_
      refine gi_iadd V dX0_goOn_45 rfl ?_
      refine g_bipush V (Int32.ofInt 64) dX0_goOn_46 rfl rfl ?_
      obtain ⟨hx0, hw⟩ := hw
      refine gi_icmp_le V dX0_goOn_48 rfl rfl hx0 (by decide) (fun q => ?_) (fun q => ?_)
      · have hw := ga_t q hw
        refine g_aload_n V dX0_goOn_53 rfl rfl ?_
        obtain ⟨hb, hw⟩ := hw
        obtain ⟨fb, hb⟩ := hb
        refine g_callV (C := RX4) (T := TX4) (N := 2) (st := []) V (k_X4_clear hst hw) ww_1_85 ww_1_86 ww_1_87 ww_1_3 ww_1_88 hd_X4_clear ⟨by decide, by decide⟩ rfl (by decide) hb rfl rfl (ga_cat rfl) dX0_goOn_54 (Nat.zero_le _) (Nat.zero_le _) rfl (gaX_all hT V) (ga_kv (fun hp5 hw => ?_))
        refine g_iconst V (Int32.ofInt 0) dX0_goOn_57 rfl rfl ?_
        refine g_istore (lv2 := [some (.ref v0), some (gi v1), some (.ref v2), some (gi t0), some (gi 0)]) V dX0_goOn_58 (by decide) rfl rfl rfl ?_
        refine g_less (bs := [true, true, true, false, true]) (lv2 := [some (.ref v0), some (gi v1), some (.ref v2), none, some (gi 0)]) rfl ?_
        obtain ⟨z, hw⟩ := hw
        exact h_X0_goOn_L60 z v0 v1 v2 0 hp5 hw
      · have hw := ga_f q hw
        refine g_iconst V (Int32.ofInt 0) dX0_goOn_51 rfl rfl ?_
        exact g_iret V rfl rfl dX0_goOn_52 ⟨_, rfl, hw⟩
  have h_X0_goOn_J23 : ∀ (v0 : Nat) (v1 : Int) (v2 : Nat) (h : gaH), w_X0_goOn_J23 Q v0 v1 v2 h → gaP p l e rm_X0_goOn s m args below meth c G 5 (gaZ below G (gQi Q) X args s rm_X0_goOn) 23 [some (.ref v0), some (gi v1), some (.ref v2), none, none] [] h 0 0 := by
    intro v0 v1 v2 h hw
    unfold w_X0_goOn_J23 at hw
    refine g_iconst V (Int32.ofInt 0) dX0_goOn_23 rfl rfl ?_
    exact h_X0_goOn_J24 v0 v1 v2 0 h hw
  unfold w_X0_goOn at hw
  refine g_aload_n V dX0_goOn_0 rfl rfl ?_
  obtain ⟨fs, r1, ha, hv, hw⟩ := hw
  refine g_get (C := RX0) (T := TX0) (N := 4) V 1 rfl hin_RX0 (by decide) (by decide) ww_1_94 rfl ha hv dX0_goOn_1 rfl ?_
  obtain ⟨hx0, hw⟩ := hw
  refine gi_if_lt V dX0_goOn_4 rfl rfl hx0 (fun q => ?_) (fun q => ?_)
  · have hw := ga_t q hw
    exact h_X0_goOn_J23 a0 a1 a2 h hw
  · have hw := ga_f q hw
    refine g_aload_n V dX0_goOn_7 rfl rfl ?_
    obtain ⟨fs, r2, ha, hv, hw⟩ := hw
    refine g_get (C := RX0) (T := TX0) (N := 4) V 1 rfl hin_RX0 (by decide) (by decide) ww_1_94 rfl ha hv dX0_goOn_8 rfl ?_
    refine g_aload_n V dX0_goOn_11 rfl rfl ?_
    obtain ⟨fs, r3, ha, hv, hw⟩ := hw
    refine g_get (C := RX0) (T := TX0) (N := 4) V 0 rfl hin_RX0 (by decide) (by decide) ww_1_93 rfl ha hv dX0_goOn_12 rfl ?_
    obtain ⟨t9, vs, ha, ht, hw⟩ := hw
    refine gi_arraylength (t0 := 102) V (by simp [gaT]) ha ht dX0_goOn_15 rfl ?_
    generalize (vs.length : Int) = r4 at hw ⊢
    obtain ⟨hx0, hx1, hw⟩ := hw
    refine gi_icmp_ge V dX0_goOn_16 rfl rfl hx0 hx1 (fun q => ?_) (fun q => ?_)
    · have hw := ga_t q hw
      exact h_X0_goOn_J23 a0 a1 a2 h hw
    · have hw := ga_f q hw
      refine g_iconst V (Int32.ofInt 1) dX0_goOn_19 rfl rfl ?_
      refine g_goto V dX0_goOn_20 rfl ?_
      exact h_X0_goOn_J24 a0 a1 a2 1 h hw
def w_X4_init (a0 : Nat) (h : gaH) (Q : gaH → Prop) : Prop := gNA h 100 (gi 0) 64 1 64 (fun o1 hp2 c3 s4 => gPF hp2 a0 4 0 (.ref o1) (fun hp5 => Q hp5))
abbrev rm_X4_init : Room := { frames := 2, cells := 1, slots := 64, locals := 60 }
theorem hd_X4_init : (yX4_init.cls ≠ "java/lang/invoke/MethodHandle" ∧ yX4_init.cls ≠ "java/lang/invoke/VarHandle" ∧ (parseMethodDescriptor yX4_init.desc).map (fun d => d.parameters.length) = some 0) := by decide +kernel
theorem k_X4_init {l : Launch} (hst : l.stackTraces = false) {G : gaG} {X : String → gaH → Prop} {a0 : Nat} {h : gaH} {Q : gaH → Prop} (hw : w_X4_init a0 h Q) : gaC l G yX4_init (gaM yX4_init cX4_init 1 ((none : Option Jvm.ClassFile.FieldType))) rm_X4_init [.ref a0] h (gQv Q) X := by
  refine g_start (lv := [some (.ref a0)]) hpl_RX4 hst (Nat.le_of_ble_eq_true rfl) (gaArgs_pad (z := 0) rfl) ww_1_48 ?_
  intro p e s m args below meth c V hT
  show gaP p l e rm_X4_init s m args below meth c G 1 (gaZ below G (gQv Q) X args s rm_X4_init) 0 [some (.ref a0)] [] h 1 64
  unfold w_X4_init at hw
  refine g_aload_n V dX4_init_0 rfl rfl ?_
  refine g_objInit V ww_1_49 ww_1_32 ww_1_33 dX4_init_1 (by decide) (by decide) (ga_cat rfl) rfl ?_
  refine g_aload_n V dX4_init_4 rfl rfl ?_
  refine g_bipush V (Int32.ofInt 64) dX4_init_5 rfl rfl ?_
  obtain ⟨h0, h9, hk, hj, hw⟩ := hw
  refine gi_newarray (atype := .boolean) (t := 100) V (by decide) rfl ww_1_62 h0 h9 dX4_init_7 rfl hk hj (fun o1 hf => ?_)
  obtain ⟨c3, s4, ec, es, hw⟩ := hw o1 hf
  refine ga_re ec es ?_
  generalize gaUp h o1 _ = hp2 at hw ⊢
  obtain ⟨fs, ha, hl, hw⟩ := hw
  refine g_putF (C := RX4) (T := TX4) (N := 2) V 0 tyX4 tyX4_ok nmX4 rfl hin_RX4 (by decide) (by decide) ww_1_50 rfl rfl rfl rfl rfl rfl ha hl dX4_init_9 rfl ?_
  generalize gaUp hp2 a0 _ = hp5 at hw ⊢
  exact g_vret V rfl dX4_init_12 ⟨rfl, hw⟩
def w_X2_init (a0 : Nat) (h : gaH) (Q : gaH → Prop) : Prop := gNO h 4 2 ([.null, gi 0]) 5 197 (fun o1 hp2 c3 s4 => gCall 1 64 c3 s4 (fun c7 s8 => w_X4_init o1 hp2 (fun hp5 => gPF hp5 a0 3 0 (.ref o1) (fun hp9 => gNO hp9 4 2 ([.null, gi 0]) c7 s8 (fun o10 hp11 c12 s13 => gCall 1 64 c12 s13 (fun c16 s17 => w_X4_init o10 hp11 (fun hp14 => gPF hp14 a0 3 1 (.ref o10) (fun hp18 => gNA hp18 100 (gi 0) 65 c16 s17 (fun o19 hp20 c21 s22 => gPF hp20 a0 3 2 (.ref o19) (fun hp23 => Q hp23))))))))))
abbrev rm_X2_init : Room := { frames := 3, cells := 5, slots := 197, locals := 80 }
theorem hd_X2_init : (yX2_init.cls ≠ "java/lang/invoke/MethodHandle" ∧ yX2_init.cls ≠ "java/lang/invoke/VarHandle" ∧ (parseMethodDescriptor yX2_init.desc).map (fun d => d.parameters.length) = some 0) := by decide +kernel
theorem k_X2_init {l : Launch} (hst : l.stackTraces = false) {G : gaG} {X : String → gaH → Prop} {a0 : Nat} {h : gaH} {Q : gaH → Prop} (hw : w_X2_init a0 h Q) : gaC l G yX2_init (gaM yX2_init cX2_init 1 ((none : Option Jvm.ClassFile.FieldType))) rm_X2_init [.ref a0] h (gQv Q) X := by
  refine g_start (lv := [some (.ref a0)]) hpl_RX2 hst (Nat.le_of_ble_eq_true rfl) (gaArgs_pad (z := 0) rfl) ww_1_42 ?_
  intro p e s m args below meth c V hT
  show gaP p l e rm_X2_init s m args below meth c G 1 (gaZ below G (gQv Q) X args s rm_X2_init) 0 [some (.ref a0)] [] h 5 197
  unfold w_X2_init at hw
  refine g_aload_n V dX2_init_0 rfl rfl ?_
  refine g_objInit V ww_1_43 ww_1_32 ww_1_33 dX2_init_1 (by decide) (by decide) (ga_cat rfl) rfl ?_
  refine g_aload_n V dX2_init_4 rfl rfl ?_
  obtain ⟨hk, hj, hw⟩ := hw
  refine g_new (ci := 4) (C := RX4) (T := TX4) (N := 2) (fs := [.null, gi 0]) V tyX4 tyX4_ok rfl hin_RX4 (by decide) ww_1_44 ww_1_45 ww_1_3 hdf_RX4 dX2_init_5 rfl hk hj (fun o1 hf => ?_)
  obtain ⟨c3, s4, ec, es, hw⟩ := hw o1 hf
  refine ga_re ec es ?_
  generalize gaUp h o1 _ = hp2 at hw ⊢
  refine g_dup V dX2_init_8 rfl rfl ?_
  obtain ⟨hk, hj, c7, s8, ec, es, hw⟩ := hw
  refine g_callIN (host := "Wordgarden") (st := [.ref o1, .ref a0]) V (k_X4_init hst hw) gn_1 ww_1_47 ww_1_3 ww_1_48 rfl hd_X4_init ⟨by decide, by decide⟩ rfl rfl (ga_cat rfl) dX2_init_9 hk hj rfl (gaX_all hT V) (ga_kv (fun hp5 hw => ?_))
  refine ga_re ec es ?_
  obtain ⟨fs, ha, hl, hw⟩ := hw
  refine g_putF (C := RX2) (T := TX2) (N := 3) V 0 tyX2 tyX2_ok nmX2 rfl hin_RX2 (by decide) (by decide) ww_1_63 rfl rfl rfl rfl rfl rfl ha hl dX2_init_12 rfl ?_
  generalize gaUp hp5 a0 _ = hp9 at hw ⊢
  refine g_aload_n V dX2_init_15 rfl rfl ?_
  obtain ⟨hk, hj, hw⟩ := hw
  refine g_new (ci := 4) (C := RX4) (T := TX4) (N := 2) (fs := [.null, gi 0]) V tyX4 tyX4_ok rfl hin_RX4 (by decide) ww_1_44 ww_1_45 ww_1_3 hdf_RX4 dX2_init_16 rfl hk hj (fun o10 hf => ?_)
  obtain ⟨c12, s13, ec, es, hw⟩ := hw o10 hf
  refine ga_re ec es ?_
  generalize gaUp hp9 o10 _ = hp11 at hw ⊢
  refine g_dup V dX2_init_19 rfl rfl ?_
  obtain ⟨hk, hj, c16, s17, ec, es, hw⟩ := hw
  refine g_callIN (host := "Wordgarden") (st := [.ref o10, .ref a0]) V (k_X4_init hst hw) gn_1 ww_1_47 ww_1_3 ww_1_48 rfl hd_X4_init ⟨by decide, by decide⟩ rfl rfl (ga_cat rfl) dX2_init_20 hk hj rfl (gaX_all hT V) (ga_kv (fun hp14 hw => ?_))
  refine ga_re ec es ?_
  obtain ⟨fs, ha, hl, hw⟩ := hw
  refine g_putF (C := RX2) (T := TX2) (N := 3) V 1 tyX2 tyX2_ok nmX2 rfl hin_RX2 (by decide) (by decide) ww_1_64 rfl rfl rfl rfl rfl rfl ha hl dX2_init_23 rfl ?_
  generalize gaUp hp14 a0 _ = hp18 at hw ⊢
  refine g_aload_n V dX2_init_26 rfl rfl ?_
  refine g_bipush V (Int32.ofInt 65) dX2_init_27 rfl rfl ?_
  obtain ⟨h0, h9, hk, hj, hw⟩ := hw
  refine gi_newarray (atype := .boolean) (t := 100) V (by decide) rfl ww_1_62 h0 h9 dX2_init_29 rfl hk hj (fun o19 hf => ?_)
  obtain ⟨c21, s22, ec, es, hw⟩ := hw o19 hf
  refine ga_re ec es ?_
  generalize gaUp hp18 o19 _ = hp20 at hw ⊢
  obtain ⟨fs, ha, hl, hw⟩ := hw
  refine g_putF (C := RX2) (T := TX2) (N := 3) V 2 tyX2 tyX2_ok nmX2 rfl hin_RX2 (by decide) (by decide) ww_1_65 rfl rfl rfl rfl rfl rfl ha hl dX2_init_31 rfl ?_
  generalize gaUp hp20 a0 _ = hp23 at hw ⊢
  exact g_vret V rfl dX2_init_34 ⟨rfl, hw⟩
def w_X0_init (a0 : Nat) (h : gaH) (Q : gaH → Prop) : Prop := gNA h 102 (gi 0) 64 5 196 (fun o1 hp2 c3 s4 => gPF hp2 a0 2 0 (.ref o1) (fun hp5 => gNO hp5 4 2 ([.null, gi 0]) c3 s4 (fun o6 hp7 c8 s9 => gCall 1 64 c8 s9 (fun c12 s13 => w_X4_init o6 hp7 (fun hp10 => gPF hp10 a0 2 2 (.ref o6) (fun hp14 => gNO hp14 4 2 ([.null, gi 0]) c12 s13 (fun o15 hp16 c17 s18 => gCall 1 64 c17 s18 (fun c21 s22 => w_X4_init o15 hp16 (fun hp19 => gPF hp19 a0 2 3 (.ref o15) (fun hp23 => gHas hp23 a0 2 ∧ w_X0_begin a0 hp23 (fun hp24 => Q hp24)))))))))))
abbrev rm_X0_init : Room := { frames := 3, cells := 5, slots := 196, locals := 80 }
theorem hd_X0_init : (yX0_init.cls ≠ "java/lang/invoke/MethodHandle" ∧ yX0_init.cls ≠ "java/lang/invoke/VarHandle" ∧ (parseMethodDescriptor yX0_init.desc).map (fun d => d.parameters.length) = some 0) := by decide +kernel
theorem k_X0_init {l : Launch} (hst : l.stackTraces = false) {G : gaG} {X : String → gaH → Prop} {a0 : Nat} {h : gaH} {Q : gaH → Prop} (hw : w_X0_init a0 h Q) : gaC l G yX0_init (gaM yX0_init cX0_init 1 ((none : Option Jvm.ClassFile.FieldType))) rm_X0_init [.ref a0] h (gQv Q) X := by
  refine g_start (lv := [some (.ref a0)]) hpl_RX0 hst (Nat.le_of_ble_eq_true rfl) (gaArgs_pad (z := 0) rfl) ww_1_77 ?_
  intro p e s m args below meth c V hT
  show gaP p l e rm_X0_init s m args below meth c G 1 (gaZ below G (gQv Q) X args s rm_X0_init) 0 [some (.ref a0)] [] h 5 196
  unfold w_X0_init at hw
  refine g_aload_n V dX0_init_0 rfl rfl ?_
  refine g_objInit V ww_1_78 ww_1_32 ww_1_33 dX0_init_1 (by decide) (by decide) (ga_cat rfl) rfl ?_
  refine g_aload_n V dX0_init_4 rfl rfl ?_
  refine g_bipush V (Int32.ofInt 64) dX0_init_5 rfl rfl ?_
  obtain ⟨h0, h9, hk, hj, hw⟩ := hw
  refine gi_newarray (atype := .int) (t := 102) V (by decide) rfl ww_1_109 h0 h9 dX0_init_7 rfl hk hj (fun o1 hf => ?_)
  obtain ⟨c3, s4, ec, es, hw⟩ := hw o1 hf
  refine ga_re ec es ?_
  generalize gaUp h o1 _ = hp2 at hw ⊢
  obtain ⟨fs, ha, hl, hw⟩ := hw
  refine g_putF (C := RX0) (T := TX0) (N := 4) V 0 tyX0 tyX0_ok nmX0 rfl hin_RX0 (by decide) (by decide) ww_1_93 rfl rfl rfl rfl rfl rfl ha hl dX0_init_9 rfl ?_
  generalize gaUp hp2 a0 _ = hp5 at hw ⊢
  refine g_aload_n V dX0_init_12 rfl rfl ?_
  obtain ⟨hk, hj, hw⟩ := hw
  refine g_new (ci := 4) (C := RX4) (T := TX4) (N := 2) (fs := [.null, gi 0]) V tyX4 tyX4_ok rfl hin_RX4 (by decide) ww_1_79 ww_1_45 ww_1_3 hdf_RX4 dX0_init_13 rfl hk hj (fun o6 hf => ?_)
  obtain ⟨c8, s9, ec, es, hw⟩ := hw o6 hf
  refine ga_re ec es ?_
  generalize gaUp hp5 o6 _ = hp7 at hw ⊢
  refine g_dup V dX0_init_16 rfl rfl ?_
  obtain ⟨hk, hj, c12, s13, ec, es, hw⟩ := hw
  refine g_callIN (host := "Wordgarden") (st := [.ref o6, .ref a0]) V (k_X4_init hst hw) gn_8 ww_1_47 ww_1_3 ww_1_48 rfl hd_X4_init ⟨by decide, by decide⟩ rfl rfl (ga_cat rfl) dX0_init_17 hk hj rfl (gaX_all hT V) (ga_kv (fun hp10 hw => ?_))
  refine ga_re ec es ?_
  obtain ⟨fs, ha, hl, hw⟩ := hw
  refine g_putF (C := RX0) (T := TX0) (N := 4) V 2 tyX0 tyX0_ok nmX0 rfl hin_RX0 (by decide) (by decide) ww_1_96 rfl rfl rfl rfl rfl rfl ha hl dX0_init_20 rfl ?_
  generalize gaUp hp10 a0 _ = hp14 at hw ⊢
  refine g_aload_n V dX0_init_23 rfl rfl ?_
  obtain ⟨hk, hj, hw⟩ := hw
  refine g_new (ci := 4) (C := RX4) (T := TX4) (N := 2) (fs := [.null, gi 0]) V tyX4 tyX4_ok rfl hin_RX4 (by decide) ww_1_79 ww_1_45 ww_1_3 hdf_RX4 dX0_init_24 rfl hk hj (fun o15 hf => ?_)
  obtain ⟨c17, s18, ec, es, hw⟩ := hw o15 hf
  refine ga_re ec es ?_
  generalize gaUp hp14 o15 _ = hp16 at hw ⊢
  refine g_dup V dX0_init_27 rfl rfl ?_
  obtain ⟨hk, hj, c21, s22, ec, es, hw⟩ := hw
  refine g_callIN (host := "Wordgarden") (st := [.ref o15, .ref a0]) V (k_X4_init hst hw) gn_8 ww_1_47 ww_1_3 ww_1_48 rfl hd_X4_init ⟨by decide, by decide⟩ rfl rfl (ga_cat rfl) dX0_init_28 hk hj rfl (gaX_all hT V) (ga_kv (fun hp19 hw => ?_))
  refine ga_re ec es ?_
  obtain ⟨fs, ha, hl, hw⟩ := hw
  refine g_putF (C := RX0) (T := TX0) (N := 4) V 3 tyX0 tyX0_ok nmX0 rfl hin_RX0 (by decide) (by decide) ww_1_98 rfl rfl rfl rfl rfl rfl ha hl dX0_init_31 rfl ?_
  generalize gaUp hp19 a0 _ = hp23 at hw ⊢
  refine g_aload_n V dX0_init_34 rfl rfl ?_
  obtain ⟨hb, hw⟩ := hw
  obtain ⟨fb, hb⟩ := hb
  refine g_callV (C := RX0) (T := TX0) (N := 4) (st := []) V (k_X0_begin hst hw) ww_1_81 ww_1_82 ww_1_83 ww_1_4 ww_1_84 hd_X0_begin ⟨by decide, by decide⟩ rfl (by decide) hb rfl rfl (ga_cat rfl) dX0_init_35 (Nat.zero_le _) (Nat.zero_le _) rfl (gaX_all hT V) (ga_kv (fun hp24 hw => ?_))
  exact g_vret V rfl dX0_init_38 ⟨rfl, hw⟩
def w_X2_keepsApart (a0 : Nat) (h : gaH) (Q : Int → gaH → Prop) : Prop := gA h a0 3 0 (fun r1 => gA h a0 3 1 (fun r2 => w_X1_firstUnlikeJoined r1 r2 h (fun r4 hp3 => gR r4 ∧ (if r4 = (-1) then Q 0 hp3 else Q 1 hp3))))
abbrev rm_X2_keepsApart : Room := { frames := 3, cells := 0, slots := 0, locals := 65 }
theorem hd_X2_keepsApart : yX2_keepsApart.cls = RX2 ∧ (yX2_keepsApart.cls ≠ "java/lang/invoke/MethodHandle" ∧ yX2_keepsApart.cls ≠ "java/lang/invoke/VarHandle" ∧ (parseMethodDescriptor yX2_keepsApart.desc).map (fun d => d.parameters.length) = some 0) := by decide +kernel
theorem k_X2_keepsApart {l : Launch} (hst : l.stackTraces = false) {G : gaG} {X : String → gaH → Prop} {a0 : Nat} {h : gaH} {Q : Int → gaH → Prop} (hw : w_X2_keepsApart a0 h Q) : gaC l G yX2_keepsApart (gaM yX2_keepsApart cX2_keepsApart 1 ((some .boolean))) rm_X2_keepsApart [.ref a0] h (gQi Q) X := by
  refine g_start (lv := [some (.ref a0)]) hpl_RX2 hst (Nat.le_of_ble_eq_true rfl) (gaArgs_pad (z := 0) rfl) ww_3_122 ?_
  intro p e s m args below meth c V hT
  unfold w_X2_keepsApart at hw
  refine g_aload_n V dX2_keepsApart_0 rfl rfl ?_
  obtain ⟨fs, r1, ha, hv, hw⟩ := hw
  refine g_get (C := RX2) (T := TX2) (N := 3) V 0 rfl hin_RX2 (by decide) (by decide) ww_1_63 rfl ha hv dX2_keepsApart_1 rfl ?_
  refine g_aload_n V dX2_keepsApart_4 rfl rfl ?_
  obtain ⟨fs, r2, ha, hv, hw⟩ := hw
  refine g_get (C := RX2) (T := TX2) (N := 3) V 1 rfl hin_RX2 (by decide) (by decide) ww_1_64 rfl ha hv dX2_keepsApart_5 rfl ?_
  refine g_callS (st := []) V (k_X1_firstUnlikeJoined hst hw) ww_3_123 ww_2_77 ww_1_12 ww_2_78 hd_X1_firstUnlikeJoined ⟨by decide, by decide⟩ rfl rfl (ga_cat rfl) dX2_keepsApart_8 (Nat.zero_le _) (Nat.zero_le _) rfl (gaX_all hT V) (ga_ki (fun r4 hp3 hw => ?_))
  refine g_iconst V (Int32.ofInt (-1)) dX2_keepsApart_11 rfl rfl ?_
  obtain ⟨hx0, hw⟩ := hw
  refine gi_icmp_eq V dX2_keepsApart_12 rfl rfl hx0 (by decide) (fun q => ?_) (fun q => ?_)
  · have hw := ga_t q hw
    refine g_iconst V (Int32.ofInt 0) dX2_keepsApart_19 rfl rfl ?_
    exact g_iret V rfl rfl dX2_keepsApart_20 ⟨_, rfl, hw⟩
  · have hw := ga_f q hw
    refine g_iconst V (Int32.ofInt 1) dX2_keepsApart_15 rfl rfl ?_
    refine g_goto V dX2_keepsApart_16 rfl ?_
    exact g_iret V rfl rfl dX2_keepsApart_20 ⟨_, rfl, hw⟩
def w_X1_beginnings (a0 : Nat) (a1 : Int) (a2 : Int) (h : gaH) (Q : Int → gaH → Prop) : Prop := gR a2 ∧ (if a2 = 0 then gI h a0 4 1 (fun r1 => Q ((r1 - a1) + 1) h) else gI h a0 4 1 (fun r2 => gR r2 ∧ (Q (max r2 1) h)))
abbrev rm_X1_beginnings : Room := { frames := 2, cells := 0, slots := 0, locals := 60 }
theorem hd_X1_beginnings : (yX1_beginnings.cls ≠ "java/lang/invoke/MethodHandle" ∧ yX1_beginnings.cls ≠ "java/lang/invoke/VarHandle" ∧ (parseMethodDescriptor yX1_beginnings.desc).map (fun d => d.parameters.length) = some 3) := by decide +kernel
theorem k_X1_beginnings {l : Launch} (hst : l.stackTraces = false) {G : gaG} {X : String → gaH → Prop} {a0 : Nat} {a1 : Int} {a2 : Int} {h : gaH} {Q : Int → gaH → Prop} (hw : w_X1_beginnings a0 a1 a2 h Q) : gaC l G yX1_beginnings (gaM yX1_beginnings cX1_beginnings 3 ((some .int))) rm_X1_beginnings [.ref a0, gi a1, gi a2] h (gQi Q) X := by
  refine g_start (lv := [some (.ref a0), some (gi a1), some (gi a2)]) hpl_RX1 hst (Nat.le_of_ble_eq_true rfl) (gaArgs_pad (z := 0) rfl) ww_5_87 ?_
  intro p e s m args below meth c V hT
  unfold w_X1_beginnings at hw
  refine g_iload_n V dX1_beginnings_0 rfl rfl ?_
  obtain ⟨hx0, hw⟩ := hw
  refine gi_if_eq V dX1_beginnings_1 rfl rfl hx0 (fun q => ?_) (fun q => ?_)
  · have hw := ga_t q hw
    refine g_aload_n V dX1_beginnings_15 rfl rfl ?_
    obtain ⟨fs, r1, ha, hv, hw⟩ := hw
    refine g_getN (C := RX4) (T := TX4) (N := 2) (host := "Wordgarden") V 1 rfl hin_RX4 (by decide) (by decide) gn_2 rfl ha hv dX1_beginnings_16 rfl ?_
    refine g_iload_n V dX1_beginnings_19 rfl rfl ?_
    refine gi_isub V dX1_beginnings_20 rfl ?_
    refine g_iconst V (Int32.ofInt 1) dX1_beginnings_21 rfl rfl ?_
    refine gi_iadd V dX1_beginnings_22 rfl ?_
    exact g_iret V rfl rfl dX1_beginnings_23 ⟨_, rfl, hw⟩
  · have hw := ga_f q hw
    refine g_aload_n V dX1_beginnings_4 rfl rfl ?_
    obtain ⟨fs, r2, ha, hv, hw⟩ := hw
    refine g_getN (C := RX4) (T := TX4) (N := 2) (host := "Wordgarden") V 1 rfl hin_RX4 (by decide) (by decide) gn_2 rfl ha hv dX1_beginnings_5 rfl ?_
    refine g_iconst V (Int32.ofInt 1) dX1_beginnings_8 rfl rfl ?_
    obtain ⟨hx0, hw⟩ := hw
    refine gi_mmax V ww_2_117 ww_2_118 ww_1_13 ww_2_119 (by decide) (by decide) (ga_cat rfl) hx0 (by decide) dX1_beginnings_9 rfl ?_
    refine g_goto V dX1_beginnings_12 rfl ?_
    exact g_iret V rfl rfl dX1_beginnings_23 ⟨_, rfl, hw⟩
def w_X1_isReadEarlier_L2 (Q : Int → gaH → Prop) : Nat → (Nat → Int → Int → Int → gaH → Prop)
  | 0 => fun _ _ _ _ _ => False
  | n + 1 => fun v0 v1 v2 v3 h => gR v3 ∧ gR v1 ∧ (if v1 ≤ v3 then Q 0 h else w_X1_ringOrder v0 v3 v1 v2 h (fun r2 hp1 => gR r2 ∧ (if r2 = 0 then Q 1 hp1 else w_X1_isReadEarlier_L2 Q n v0 v1 v2 (v3 + 1) hp1)))
def w_X1_isReadEarlier (a0 : Nat) (a1 : Int) (a2 : Int) (h : gaH) (Q : Int → gaH → Prop) : Prop := ∃ z, w_X1_isReadEarlier_L2 Q z a0 a1 a2 0 h
abbrev rm_X1_isReadEarlier : Room := { frames := 3, cells := 0, slots := 0, locals := 67 }
theorem hd_X1_isReadEarlier : (yX1_isReadEarlier.cls ≠ "java/lang/invoke/MethodHandle" ∧ yX1_isReadEarlier.cls ≠ "java/lang/invoke/VarHandle" ∧ (parseMethodDescriptor yX1_isReadEarlier.desc).map (fun d => d.parameters.length) = some 3) := by decide +kernel
theorem k_X1_isReadEarlier {l : Launch} (hst : l.stackTraces = false) {G : gaG} {X : String → gaH → Prop} {a0 : Nat} {a1 : Int} {a2 : Int} {h : gaH} {Q : Int → gaH → Prop} (hw : w_X1_isReadEarlier a0 a1 a2 h Q) : gaC l G yX1_isReadEarlier (gaM yX1_isReadEarlier cX1_isReadEarlier 4 ((some .boolean))) rm_X1_isReadEarlier [.ref a0, gi a1, gi a2] h (gQi Q) X := by
  refine g_start (lv := [some (.ref a0), some (gi a1), some (gi a2), none]) hpl_RX1 hst (Nat.le_of_ble_eq_true rfl) (gaArgs_pad (z := 1) rfl) ww_5_101 ?_
  intro p e s m args below meth c V hT
  have h_X1_isReadEarlier_L2 : ∀ (n : Nat), ∀ (v0 : Nat) (v1 : Int) (v2 : Int) (v3 : Int) (h : gaH), w_X1_isReadEarlier_L2 Q n v0 v1 v2 v3 h → gaP p l e rm_X1_isReadEarlier s m args below meth c G 4 (gaZ below G (gQi Q) X args s rm_X1_isReadEarlier) 2 [some (.ref v0), some (gi v1), some (gi v2), some (gi v3)] [] h 0 0 := by
    intro n
    induction n with
    | zero =>
      intro v0 v1 v2 v3 h hw
      exact hw.elim
    | succ n ih =>
      intro v0 v1 v2 v3 h hw
      unfold w_X1_isReadEarlier_L2 at hw
      refine g_iload_n V dX1_isReadEarlier_2 rfl rfl ?_
      refine g_iload_n V dX1_isReadEarlier_3 rfl rfl ?_
      obtain ⟨hx0, hx1, hw⟩ := hw
      refine gi_icmp_ge V dX1_isReadEarlier_4 rfl rfl hx0 hx1 (fun q => ?_) (fun q => ?_)
      · have hw := ga_t q hw
        refine g_iconst V (Int32.ofInt 0) dX1_isReadEarlier_25 rfl rfl ?_
        exact g_iret V rfl rfl dX1_isReadEarlier_26 ⟨_, rfl, hw⟩
      · have hw := ga_f q hw
        refine g_aload_n V dX1_isReadEarlier_7 rfl rfl ?_
        refine g_iload_n V dX1_isReadEarlier_8 rfl rfl ?_
        refine g_iload_n V dX1_isReadEarlier_9 rfl rfl ?_
        refine g_iload_n V dX1_isReadEarlier_10 rfl rfl ?_
        refine g_callS (st := []) V (k_X1_ringOrder hst hw) ww_2_145 ww_2_146 ww_1_12 ww_2_147 hd_X1_ringOrder ⟨by decide, by decide⟩ rfl rfl (ga_cat rfl) dX1_isReadEarlier_11 (Nat.zero_le _) (Nat.zero_le _) rfl (gaX_all hT V) (ga_ki (fun r2 hp1 hw => ?_))
        obtain ⟨hx0, hw⟩ := hw
        refine gi_if_ne V dX1_isReadEarlier_14 rfl rfl hx0 (fun q => ?_) (fun q => ?_)
        · have hw := ga_f q hw
          refine gi_iinc (lv2 := [some (.ref v0), some (gi v1), some (gi v2), some (gi (v3 + 1))]) V dX1_isReadEarlier_19 (by decide) rfl rfl rfl rfl ?_
          refine g_goto V dX1_isReadEarlier_22 rfl ?_
          exact ih v0 v1 v2 (v3 + 1) hp1 hw
        · have hw := ga_t q hw
          refine g_iconst V (Int32.ofInt 1) dX1_isReadEarlier_17 rfl rfl ?_
          exact g_iret V rfl rfl dX1_isReadEarlier_18 ⟨_, rfl, hw⟩
  unfold w_X1_isReadEarlier at hw
  refine g_iconst V (Int32.ofInt 0) dX1_isReadEarlier_0 rfl rfl ?_
  refine g_istore_n (lv2 := [some (.ref a0), some (gi a1), some (gi a2), some (gi 0)]) V dX1_isReadEarlier_1 (by decide) rfl rfl rfl ?_
  obtain ⟨z, hw⟩ := hw
  exact h_X1_isReadEarlier_L2 z a0 a1 a2 0 h hw
def w_X1_kindsOf_L13 (Q : Int → gaH → Prop) : Nat → (Nat → Int → Int → Int → Int → gaH → Prop)
  | 0 => fun _ _ _ _ _ _ => False
  | n + 1 => fun v0 v1 v3 v4 v5 h => gR v5 ∧ gR v4 ∧ (if v4 ≤ v5 then Q v3 h else w_X1_isReadEarlier v0 v5 v1 h (fun r2 hp1 => gR r2 ∧ (if r2 = 0 then w_X1_kindsOf_L13 Q n v0 v1 (v3 + 1) v4 (v5 + 1) hp1 else w_X1_kindsOf_L13 Q n v0 v1 v3 v4 (v5 + 1) hp1)))
def w_X1_kindsOf (a0 : Nat) (a1 : Int) (a2 : Int) (h : gaH) (Q : Int → gaH → Prop) : Prop := w_X1_beginnings a0 a1 a2 h (fun r2 hp1 => ∃ z, w_X1_kindsOf_L13 Q z a0 a1 0 r2 0 hp1)
abbrev rm_X1_kindsOf : Room := { frames := 4, cells := 0, slots := 0, locals := 90 }
theorem hd_X1_kindsOf : (yX1_kindsOf.cls ≠ "java/lang/invoke/MethodHandle" ∧ yX1_kindsOf.cls ≠ "java/lang/invoke/VarHandle" ∧ (parseMethodDescriptor yX1_kindsOf.desc).map (fun d => d.parameters.length) = some 3) := by decide +kernel
theorem k_X1_kindsOf {l : Launch} (hst : l.stackTraces = false) {G : gaG} {X : String → gaH → Prop} {a0 : Nat} {a1 : Int} {a2 : Int} {h : gaH} {Q : Int → gaH → Prop} (hw : w_X1_kindsOf a0 a1 a2 h Q) : gaC l G yX1_kindsOf (gaM yX1_kindsOf cX1_kindsOf 6 ((some .int))) rm_X1_kindsOf [.ref a0, gi a1, gi a2] h (gQi Q) X := by
  refine g_start (lv := [some (.ref a0), some (gi a1), some (gi a2), none, none, none]) hpl_RX1 hst (Nat.le_of_ble_eq_true rfl) (gaArgs_pad (z := 3) rfl) ww_5_98 ?_
  intro p e s m args below meth c V hT
  have h_X1_kindsOf_L13 : ∀ (n : Nat), ∀ (v0 : Nat) (v1 : Int) (v3 : Int) (v4 : Int) (v5 : Int) (h : gaH), w_X1_kindsOf_L13 Q n v0 v1 v3 v4 v5 h → gaP p l e rm_X1_kindsOf s m args below meth c G 6 (gaZ below G (gQi Q) X args s rm_X1_kindsOf) 13 [some (.ref v0), some (gi v1), none, some (gi v3), some (gi v4), some (gi v5)] [] h 0 0 := by
    intro n
    induction n with
    | zero =>
      intro v0 v1 v3 v4 v5 h hw
      exact hw.elim
    | succ n ih =>
      intro v0 v1 v3 v4 v5 h hw
      unfold w_X1_kindsOf_L13 at hw
      refine g_iload V dX1_kindsOf_13 rfl rfl ?_
      refine g_iload V dX1_kindsOf_15 rfl rfl ?_
      obtain ⟨hx0, hx1, hw⟩ := hw
      refine gi_icmp_ge V dX1_kindsOf_17 rfl rfl hx0 hx1 (fun q => ?_) (fun q => ?_)
      · have hw := ga_t q hw
        refine g_iload_n V dX1_kindsOf_39 rfl rfl ?_
        exact g_iret V rfl rfl dX1_kindsOf_40 ⟨_, rfl, hw⟩
      · have hw := ga_f q hw
        refine g_aload_n V dX1_kindsOf_20 rfl rfl ?_
        refine g_iload V dX1_kindsOf_21 rfl rfl ?_
        refine g_iload_n V dX1_kindsOf_23 rfl rfl ?_
        refine g_callS (st := []) V (k_X1_isReadEarlier hst hw) ww_5_99 ww_5_100 ww_1_12 ww_5_101 hd_X1_isReadEarlier ⟨by decide, by decide⟩ rfl rfl (ga_cat rfl) dX1_kindsOf_24 (Nat.zero_le _) (Nat.zero_le _) rfl (gaX_all hT V) (ga_ki (fun r2 hp1 hw => ?_))
        obtain ⟨hx0, hw⟩ := hw
        refine gi_if_ne V dX1_kindsOf_27 rfl rfl hx0 (fun q => ?_) (fun q => ?_)
        · have hw := ga_f q hw
          refine gi_iinc (lv2 := [some (.ref v0), some (gi v1), none, some (gi v3), some (gi v4), some (gi (v5 + 1))]) V dX1_kindsOf_33 (by decide) rfl rfl rfl rfl ?_
          refine g_goto V dX1_kindsOf_36 rfl ?_
          exact ih v0 v1 v3 v4 (v5 + 1) hp1 hw
        · have hw := ga_t q hw
          refine gi_iinc (lv2 := [some (.ref v0), some (gi v1), none, some (gi (v3 + 1)), some (gi v4), some (gi v5)]) V dX1_kindsOf_30 (by decide) rfl rfl rfl rfl ?_
          refine gi_iinc (lv2 := [some (.ref v0), some (gi v1), none, some (gi (v3 + 1)), some (gi v4), some (gi (v5 + 1))]) V dX1_kindsOf_33 (by decide) rfl rfl rfl rfl ?_
          refine g_goto V dX1_kindsOf_36 rfl ?_
          exact ih v0 v1 (v3 + 1) v4 (v5 + 1) hp1 hw
  unfold w_X1_kindsOf at hw
  refine g_iconst V (Int32.ofInt 0) dX1_kindsOf_0 rfl rfl ?_
  refine g_istore_n (lv2 := [some (.ref a0), some (gi a1), some (gi a2), some (gi 0), none, none]) V dX1_kindsOf_1 (by decide) rfl rfl rfl ?_
  refine g_aload_n V dX1_kindsOf_2 rfl rfl ?_
  refine g_iload_n V dX1_kindsOf_3 rfl rfl ?_
  refine g_iload_n V dX1_kindsOf_4 rfl rfl ?_
  refine g_callS (st := []) V (k_X1_beginnings hst hw) ww_5_85 ww_5_86 ww_1_12 ww_5_87 hd_X1_beginnings ⟨by decide, by decide⟩ rfl rfl (ga_cat rfl) dX1_kindsOf_5 (Nat.zero_le _) (Nat.zero_le _) rfl (gaX_all hT V) (ga_ki (fun r2 hp1 hw => ?_))
  refine g_istore (lv2 := [some (.ref a0), some (gi a1), some (gi a2), some (gi 0), some (gi r2), none]) V dX1_kindsOf_8 (by decide) rfl rfl rfl ?_
  refine g_iconst V (Int32.ofInt 0) dX1_kindsOf_10 rfl rfl ?_
  refine g_istore (lv2 := [some (.ref a0), some (gi a1), some (gi a2), some (gi 0), some (gi r2), some (gi 0)]) V dX1_kindsOf_11 (by decide) rfl rfl rfl ?_
  refine g_less (bs := [true, true, false, true, true, true]) (lv2 := [some (.ref a0), some (gi a1), none, some (gi 0), some (gi r2), some (gi 0)]) rfl ?_
  obtain ⟨z, hw⟩ := hw
  exact h_X1_kindsOf_L13 z a0 a1 0 r2 0 hp1 hw
def w_X1_mirrorsOf_L14 (Q : Int → gaH → Prop) (K4 : Nat → Int → Int → gaH → Prop) : Nat → (Nat → Int → Int → Int → gaH → Prop)
  | 0 => fun _ _ _ _ _ => False
  | n + 1 => fun v0 v1 v2 v3 h => gI h v0 4 1 (fun r1 => gR v3 ∧ gR (r1 - v2) ∧ (if (r1 - v2) < v3 then K4 v0 v1 (v2 + 1) h else w_X1_isMirroredPart v0 v2 v3 h (fun r3 hp2 => gR r3 ∧ (if r3 = 0 then w_X1_mirrorsOf_L14 Q K4 n v0 v1 v2 (v3 + 1) hp2 else w_X1_isReadEarlier v0 v2 v3 hp2 (fun r5 hp4 => gR r5 ∧ (if r5 = 0 then w_X1_mirrorsOf_L14 Q K4 n v0 (v1 + 1) v2 (v3 + 1) hp4 else w_X1_mirrorsOf_L14 Q K4 n v0 v1 v2 (v3 + 1) hp4))))))
def w_X1_mirrorsOf_L4 (Q : Int → gaH → Prop) : Nat → (Nat → Int → Int → gaH → Prop)
  | 0 => fun _ _ _ _ => False
  | n + 1 => fun v0 v1 v2 h => gI h v0 4 1 (fun r1 => gR v2 ∧ gR r1 ∧ (if r1 ≤ v2 then Q v1 h else ∃ z, w_X1_mirrorsOf_L14 Q (w_X1_mirrorsOf_L4 Q n) z v0 v1 v2 1 h))
def w_X1_mirrorsOf (a0 : Nat) (h : gaH) (Q : Int → gaH → Prop) : Prop := ∃ z, w_X1_mirrorsOf_L4 Q z a0 0 0 h
abbrev rm_X1_mirrorsOf : Room := { frames := 4, cells := 0, slots := 0, locals := 90 }
theorem hd_X1_mirrorsOf : (yX1_mirrorsOf.cls ≠ "java/lang/invoke/MethodHandle" ∧ yX1_mirrorsOf.cls ≠ "java/lang/invoke/VarHandle" ∧ (parseMethodDescriptor yX1_mirrorsOf.desc).map (fun d => d.parameters.length) = some 1) := by decide +kernel
theorem k_X1_mirrorsOf {l : Launch} (hst : l.stackTraces = false) {G : gaG} {X : String → gaH → Prop} {a0 : Nat} {h : gaH} {Q : Int → gaH → Prop} (hw : w_X1_mirrorsOf a0 h Q) : gaC l G yX1_mirrorsOf (gaM yX1_mirrorsOf cX1_mirrorsOf 4 ((some .int))) rm_X1_mirrorsOf [.ref a0] h (gQi Q) X := by
  refine g_start (lv := [some (.ref a0), none, none, none]) hpl_RX1 hst (Nat.le_of_ble_eq_true rfl) (gaArgs_pad (z := 3) rfl) ww_5_119 ?_
  intro p e s m args below meth c V hT
  have h_X1_mirrorsOf_L14 : ∀ (K4 : Nat → Int → Int → gaH → Prop), ∀ (hK4 : ∀ (v0 : Nat) (v1 : Int) (v2 : Int) (h : gaH), K4 v0 v1 v2 h → gaP p l e rm_X1_mirrorsOf s m args below meth c G 4 (gaZ below G (gQi Q) X args s rm_X1_mirrorsOf) 4 [some (.ref v0), some (gi v1), some (gi v2), none] [] h 0 0), ∀ (n : Nat), ∀ (v0 : Nat) (v1 : Int) (v2 : Int) (v3 : Int) (h : gaH), w_X1_mirrorsOf_L14 Q K4 n v0 v1 v2 v3 h → gaP p l e rm_X1_mirrorsOf s m args below meth c G 4 (gaZ below G (gQi Q) X args s rm_X1_mirrorsOf) 14 [some (.ref v0), some (gi v1), some (gi v2), some (gi v3)] [] h 0 0 := by
    intro K4 hK4
    intro n
    induction n with
    | zero =>
      intro v0 v1 v2 v3 h hw
      exact hw.elim
    | succ n ih =>
      intro v0 v1 v2 v3 h hw
      unfold w_X1_mirrorsOf_L14 at hw
      refine g_iload_n V dX1_mirrorsOf_14 rfl rfl ?_
      refine g_aload_n V dX1_mirrorsOf_15 rfl rfl ?_
      obtain ⟨fs, r1, ha, hv, hw⟩ := hw
      refine g_getN (C := RX4) (T := TX4) (N := 2) (host := "Wordgarden") V 1 rfl hin_RX4 (by decide) (by decide) gn_2 rfl ha hv dX1_mirrorsOf_16 rfl ?_
      refine g_iload_n V dX1_mirrorsOf_19 rfl rfl ?_
      refine gi_isub V dX1_mirrorsOf_20 rfl ?_
      obtain ⟨hx0, hx1, hw⟩ := hw
      refine gi_icmp_gt V dX1_mirrorsOf_21 rfl rfl hx0 hx1 (fun q => ?_) (fun q => ?_)
      · have hw := ga_t q hw
        refine gi_iinc (lv2 := [some (.ref v0), some (gi v1), some (gi (v2 + 1)), some (gi v3)]) V dX1_mirrorsOf_51 (by decide) rfl rfl rfl rfl ?_
        refine g_goto V dX1_mirrorsOf_54 rfl ?_
        refine g_less (bs := [true, true, true, false]) (lv2 := [some (.ref v0), some (gi v1), some (gi (v2 + 1)), none]) rfl ?_
        exact hK4 v0 v1 (v2 + 1) h hw
      · have hw := ga_f q hw
        refine g_aload_n V dX1_mirrorsOf_24 rfl rfl ?_
        refine g_iload_n V dX1_mirrorsOf_25 rfl rfl ?_
        refine g_iload_n V dX1_mirrorsOf_26 rfl rfl ?_
        refine g_callS (st := []) V (k_X1_isMirroredPart hst hw) ww_2_137 ww_2_102 ww_1_12 ww_2_103 hd_X1_isMirroredPart ⟨by decide, by decide⟩ rfl rfl (ga_cat rfl) dX1_mirrorsOf_27 (Nat.zero_le _) (Nat.zero_le _) rfl (gaX_all hT V) (ga_ki (fun r3 hp2 hw => ?_))
        obtain ⟨hx0, hw⟩ := hw
        refine gi_if_eq V dX1_mirrorsOf_30 rfl rfl hx0 (fun q => ?_) (fun q => ?_)
        · have hw := ga_t q hw
          refine gi_iinc (lv2 := [some (.ref v0), some (gi v1), some (gi v2), some (gi (v3 + 1))]) V dX1_mirrorsOf_45 (by decide) rfl rfl rfl rfl ?_
          refine g_goto V dX1_mirrorsOf_48 rfl ?_
          exact ih v0 v1 v2 (v3 + 1) hp2 hw
        · have hw := ga_f q hw
          refine g_aload_n V dX1_mirrorsOf_33 rfl rfl ?_
          refine g_iload_n V dX1_mirrorsOf_34 rfl rfl ?_
          refine g_iload_n V dX1_mirrorsOf_35 rfl rfl ?_
          refine g_callS (st := []) V (k_X1_isReadEarlier hst hw) ww_5_99 ww_5_100 ww_1_12 ww_5_101 hd_X1_isReadEarlier ⟨by decide, by decide⟩ rfl rfl (ga_cat rfl) dX1_mirrorsOf_36 (Nat.zero_le _) (Nat.zero_le _) rfl (gaX_all hT V) (ga_ki (fun r5 hp4 hw => ?_))
          obtain ⟨hx0, hw⟩ := hw
          refine gi_if_ne V dX1_mirrorsOf_39 rfl rfl hx0 (fun q => ?_) (fun q => ?_)
          · have hw := ga_f q hw
            refine gi_iinc (lv2 := [some (.ref v0), some (gi v1), some (gi v2), some (gi (v3 + 1))]) V dX1_mirrorsOf_45 (by decide) rfl rfl rfl rfl ?_
            refine g_goto V dX1_mirrorsOf_48 rfl ?_
            exact ih v0 v1 v2 (v3 + 1) hp4 hw
          · have hw := ga_t q hw
            refine gi_iinc (lv2 := [some (.ref v0), some (gi (v1 + 1)), some (gi v2), some (gi v3)]) V dX1_mirrorsOf_42 (by decide) rfl rfl rfl rfl ?_
            refine gi_iinc (lv2 := [some (.ref v0), some (gi (v1 + 1)), some (gi v2), some (gi (v3 + 1))]) V dX1_mirrorsOf_45 (by decide) rfl rfl rfl rfl ?_
            refine g_goto V dX1_mirrorsOf_48 rfl ?_
            exact ih v0 (v1 + 1) v2 (v3 + 1) hp4 hw
  have h_X1_mirrorsOf_L4 : ∀ (n : Nat), ∀ (v0 : Nat) (v1 : Int) (v2 : Int) (h : gaH), w_X1_mirrorsOf_L4 Q n v0 v1 v2 h → gaP p l e rm_X1_mirrorsOf s m args below meth c G 4 (gaZ below G (gQi Q) X args s rm_X1_mirrorsOf) 4 [some (.ref v0), some (gi v1), some (gi v2), none] [] h 0 0 := by
    intro n
    induction n with
    | zero =>
      intro v0 v1 v2 h hw
      exact hw.elim
    | succ n ih =>
      intro v0 v1 v2 h hw
      unfold w_X1_mirrorsOf_L4 at hw
      refine g_iload_n V dX1_mirrorsOf_4 rfl rfl ?_
      refine g_aload_n V dX1_mirrorsOf_5 rfl rfl ?_
      obtain ⟨fs, r1, ha, hv, hw⟩ := hw
      refine g_getN (C := RX4) (T := TX4) (N := 2) (host := "Wordgarden") V 1 rfl hin_RX4 (by decide) (by decide) gn_2 rfl ha hv dX1_mirrorsOf_6 rfl ?_
      obtain ⟨hx0, hx1, hw⟩ := hw
      refine gi_icmp_ge V dX1_mirrorsOf_9 rfl rfl hx0 hx1 (fun q => ?_) (fun q => ?_)
      · have hw := ga_t q hw
        refine g_iload_n V dX1_mirrorsOf_57 rfl rfl ?_
        exact g_iret V rfl rfl dX1_mirrorsOf_58 ⟨_, rfl, hw⟩
      · have hw := ga_f q hw
        refine g_iconst V (Int32.ofInt 1) dX1_mirrorsOf_12 rfl rfl ?_
        refine g_istore_n (lv2 := [some (.ref v0), some (gi v1), some (gi v2), some (gi 1)]) V dX1_mirrorsOf_13 (by decide) rfl rfl rfl ?_
        obtain ⟨z, hw⟩ := hw
        exact h_X1_mirrorsOf_L14 (w_X1_mirrorsOf_L4 Q n) ih z v0 v1 v2 1 h hw
  unfold w_X1_mirrorsOf at hw
  refine g_iconst V (Int32.ofInt 0) dX1_mirrorsOf_0 rfl rfl ?_
  refine g_istore_n (lv2 := [some (.ref a0), some (gi 0), none, none]) V dX1_mirrorsOf_1 (by decide) rfl rfl rfl ?_
  refine g_iconst V (Int32.ofInt 0) dX1_mirrorsOf_2 rfl rfl ?_
  refine g_istore_n (lv2 := [some (.ref a0), some (gi 0), some (gi 0), none]) V dX1_mirrorsOf_3 (by decide) rfl rfl rfl ?_
  obtain ⟨z, hw⟩ := hw
  exact h_X1_mirrorsOf_L4 z a0 0 0 h hw
def w_X1_upsInPart_L5 (Q : Int → gaH → Prop) : Nat → (Nat → Int → Int → Int → Int → gaH → Prop)
  | 0 => fun _ _ _ _ _ _ => False
  | n + 1 => fun v0 v1 v2 v3 v4 h => gR v4 ∧ gR (v1 + v2) ∧ (if (v1 + v2) ≤ v4 then Q v3 h else w_X1_isUpOnRing v0 v4 h (fun r2 hp1 => gR r2 ∧ (if r2 = 0 then w_X1_upsInPart_L5 Q n v0 v1 v2 v3 (v4 + 1) hp1 else w_X1_upsInPart_L5 Q n v0 v1 v2 (v3 + 1) (v4 + 1) hp1)))
def w_X1_upsInPart (a0 : Nat) (a1 : Int) (a2 : Int) (h : gaH) (Q : Int → gaH → Prop) : Prop := ∃ z, w_X1_upsInPart_L5 Q z a0 a1 a2 0 a1 h
abbrev rm_X1_upsInPart : Room := { frames := 2, cells := 0, slots := 0, locals := 42 }
theorem hd_X1_upsInPart : (yX1_upsInPart.cls ≠ "java/lang/invoke/MethodHandle" ∧ yX1_upsInPart.cls ≠ "java/lang/invoke/VarHandle" ∧ (parseMethodDescriptor yX1_upsInPart.desc).map (fun d => d.parameters.length) = some 3) := by decide +kernel
theorem k_X1_upsInPart {l : Launch} (hst : l.stackTraces = false) {G : gaG} {X : String → gaH → Prop} {a0 : Nat} {a1 : Int} {a2 : Int} {h : gaH} {Q : Int → gaH → Prop} (hw : w_X1_upsInPart a0 a1 a2 h Q) : gaC l G yX1_upsInPart (gaM yX1_upsInPart cX1_upsInPart 5 ((some .int))) rm_X1_upsInPart [.ref a0, gi a1, gi a2] h (gQi Q) X := by
  refine g_start (lv := [some (.ref a0), some (gi a1), some (gi a2), none, none]) hpl_RX1 hst (Nat.le_of_ble_eq_true rfl) (gaArgs_pad (z := 2) rfl) ww_3_38 ?_
  intro p e s m args below meth c V hT
  have h_X1_upsInPart_L5 : ∀ (n : Nat), ∀ (v0 : Nat) (v1 : Int) (v2 : Int) (v3 : Int) (v4 : Int) (h : gaH), w_X1_upsInPart_L5 Q n v0 v1 v2 v3 v4 h → gaP p l e rm_X1_upsInPart s m args below meth c G 5 (gaZ below G (gQi Q) X args s rm_X1_upsInPart) 5 [some (.ref v0), some (gi v1), some (gi v2), some (gi v3), some (gi v4)] [] h 0 0 := by
    intro n
    induction n with
    | zero =>
      intro v0 v1 v2 v3 v4 h hw
      exact hw.elim
    | succ n ih =>
      intro v0 v1 v2 v3 v4 h hw
      unfold w_X1_upsInPart_L5 at hw
      refine g_iload V dX1_upsInPart_5 rfl rfl ?_
      refine g_iload_n V dX1_upsInPart_7 rfl rfl ?_
      refine g_iload_n V dX1_upsInPart_8 rfl rfl ?_
      refine gi_iadd V dX1_upsInPart_9 rfl ?_
      obtain ⟨hx0, hx1, hw⟩ := hw
      refine gi_icmp_ge V dX1_upsInPart_10 rfl rfl hx0 hx1 (fun q => ?_) (fun q => ?_)
      · have hw := ga_t q hw
        refine g_iload_n V dX1_upsInPart_31 rfl rfl ?_
        exact g_iret V rfl rfl dX1_upsInPart_32 ⟨_, rfl, hw⟩
      · have hw := ga_f q hw
        refine g_aload_n V dX1_upsInPart_13 rfl rfl ?_
        refine g_iload V dX1_upsInPart_14 rfl rfl ?_
        refine g_callS (st := []) V (k_X1_isUpOnRing hst hw) ww_2_148 ww_2_149 ww_1_12 ww_2_150 hd_X1_isUpOnRing ⟨by decide, by decide⟩ rfl rfl (ga_cat rfl) dX1_upsInPart_16 (Nat.zero_le _) (Nat.zero_le _) rfl (gaX_all hT V) (ga_ki (fun r2 hp1 hw => ?_))
        obtain ⟨hx0, hw⟩ := hw
        refine gi_if_eq V dX1_upsInPart_19 rfl rfl hx0 (fun q => ?_) (fun q => ?_)
        · have hw := ga_t q hw
          refine gi_iinc (lv2 := [some (.ref v0), some (gi v1), some (gi v2), some (gi v3), some (gi (v4 + 1))]) V dX1_upsInPart_25 (by decide) rfl rfl rfl rfl ?_
          refine g_goto V dX1_upsInPart_28 rfl ?_
          exact ih v0 v1 v2 v3 (v4 + 1) hp1 hw
        · have hw := ga_f q hw
          refine gi_iinc (lv2 := [some (.ref v0), some (gi v1), some (gi v2), some (gi (v3 + 1)), some (gi v4)]) V dX1_upsInPart_22 (by decide) rfl rfl rfl rfl ?_
          refine gi_iinc (lv2 := [some (.ref v0), some (gi v1), some (gi v2), some (gi (v3 + 1)), some (gi (v4 + 1))]) V dX1_upsInPart_25 (by decide) rfl rfl rfl rfl ?_
          refine g_goto V dX1_upsInPart_28 rfl ?_
          exact ih v0 v1 v2 (v3 + 1) (v4 + 1) hp1 hw
  unfold w_X1_upsInPart at hw
  refine g_iconst V (Int32.ofInt 0) dX1_upsInPart_0 rfl rfl ?_
  refine g_istore_n (lv2 := [some (.ref a0), some (gi a1), some (gi a2), some (gi 0), none]) V dX1_upsInPart_1 (by decide) rfl rfl rfl ?_
  refine g_iload_n V dX1_upsInPart_2 rfl rfl ?_
  refine g_istore (lv2 := [some (.ref a0), some (gi a1), some (gi a2), some (gi 0), some (gi a1)]) V dX1_upsInPart_3 (by decide) rfl rfl rfl ?_
  obtain ⟨z, hw⟩ := hw
  exact h_X1_upsInPart_L5 z a0 a1 a2 0 a1 h hw
def w_X0_goBack (a0 : Nat) (a1 : Nat) (h : gaH) (Q : Int → gaH → Prop) : Prop := gI h a0 2 1 (fun r1 => gHas h a0 2 ∧ w_X0_turnAt a0 (r1 - 1) h (fun r3 hp2 => gHas hp2 a1 4 ∧ w_X4_clear a1 hp2 (fun hp4 => gA hp4 a0 2 3 (fun r6 => gA hp4 a0 2 2 (fun r7 => gI hp4 r7 4 1 (fun r8 => gA hp4 a0 2 3 (fun r9 => gI hp4 r9 4 1 (fun r10 => gHas hp4 a1 4 ∧ w_X4_addPart a1 r6 (r3 * r8) r10 hp4 (fun hp11 => gA hp11 a0 2 3 (fun r13 => gA hp11 a0 2 2 (fun r14 => gHas hp11 r13 4 ∧ w_X4_take r13 r14 hp11 (fun hp15 => gA hp15 a0 2 2 (fun r17 => gHas hp15 r17 4 ∧ w_X4_take r17 a1 hp15 (fun hp18 => gI hp18 a0 2 1 (fun r20 => gPF hp18 a0 2 1 (gi (r20 - 1)) (fun hp21 => Q r3 hp21))))))))))))))))
abbrev rm_X0_goBack : Room := { frames := 2, cells := 0, slots := 0, locals := 45 }
theorem hd_X0_goBack : yX0_goBack.cls = RX0 ∧ (yX0_goBack.cls ≠ "java/lang/invoke/MethodHandle" ∧ yX0_goBack.cls ≠ "java/lang/invoke/VarHandle" ∧ (parseMethodDescriptor yX0_goBack.desc).map (fun d => d.parameters.length) = some 1) := by decide +kernel
theorem k_X0_goBack {l : Launch} (hst : l.stackTraces = false) {G : gaG} {X : String → gaH → Prop} {a0 : Nat} {a1 : Nat} {h : gaH} {Q : Int → gaH → Prop} (hw : w_X0_goBack a0 a1 h Q) : gaC l G yX0_goBack (gaM yX0_goBack cX0_goBack 3 ((some .int))) rm_X0_goBack [.ref a0, .ref a1] h (gQi Q) X := by
  refine g_start (lv := [some (.ref a0), some (.ref a1), none]) hpl_RX0 hst (Nat.le_of_ble_eq_true rfl) (gaArgs_pad (z := 1) rfl) ww_3_232 ?_
  intro p e s m args below meth c V hT
  unfold w_X0_goBack at hw
  refine g_aload_n V dX0_goBack_0 rfl rfl ?_
  refine g_aload_n V dX0_goBack_1 rfl rfl ?_
  obtain ⟨fs, r1, ha, hv, hw⟩ := hw
  refine g_get (C := RX0) (T := TX0) (N := 4) V 1 rfl hin_RX0 (by decide) (by decide) ww_1_94 rfl ha hv dX0_goBack_2 rfl ?_
  refine g_iconst V (Int32.ofInt 1) dX0_goBack_5 rfl rfl ?_
  refine gi_isub V dX0_goBack_6 rfl ?_
  obtain ⟨hb, hw⟩ := hw
  obtain ⟨fb, hb⟩ := hb
  refine g_callV (C := RX0) (T := TX0) (N := 4) (st := []) V (k_X0_turnAt hst hw) ww_2_22 ww_2_23 ww_2_24 ww_1_4 ww_2_25 hd_X0_turnAt ⟨by decide, by decide⟩ rfl (by decide) hb rfl rfl (ga_cat rfl) dX0_goBack_7 (Nat.zero_le _) (Nat.zero_le _) rfl (gaX_all hT V) (ga_ki (fun r3 hp2 hw => ?_))
  refine g_istore_n (lv2 := [some (.ref a0), some (.ref a1), some (gi r3)]) V dX0_goBack_10 (by decide) rfl rfl rfl ?_
  refine g_aload_n V dX0_goBack_11 rfl rfl ?_
  obtain ⟨hb, hw⟩ := hw
  obtain ⟨fb, hb⟩ := hb
  refine g_callV (C := RX4) (T := TX4) (N := 2) (st := []) V (k_X4_clear hst hw) ww_1_85 ww_1_86 ww_1_87 ww_1_3 ww_1_88 hd_X4_clear ⟨by decide, by decide⟩ rfl (by decide) hb rfl rfl (ga_cat rfl) dX0_goBack_12 (Nat.zero_le _) (Nat.zero_le _) rfl (gaX_all hT V) (ga_kv (fun hp4 hw => ?_))
  refine g_aload_n V dX0_goBack_15 rfl rfl ?_
  refine g_aload_n V dX0_goBack_16 rfl rfl ?_
  obtain ⟨fs, r6, ha, hv, hw⟩ := hw
  refine g_get (C := RX0) (T := TX0) (N := 4) V 3 rfl hin_RX0 (by decide) (by decide) ww_1_98 rfl ha hv dX0_goBack_17 rfl ?_
  refine g_iload_n V dX0_goBack_20 rfl rfl ?_
  refine g_aload_n V dX0_goBack_21 rfl rfl ?_
  obtain ⟨fs, r7, ha, hv, hw⟩ := hw
  refine g_get (C := RX0) (T := TX0) (N := 4) V 2 rfl hin_RX0 (by decide) (by decide) ww_1_96 rfl ha hv dX0_goBack_22 rfl ?_
  obtain ⟨fs, r8, ha, hv, hw⟩ := hw
  refine g_getN (C := RX4) (T := TX4) (N := 2) (host := "Wordgarden") V 1 rfl hin_RX4 (by decide) (by decide) gn_6 rfl ha hv dX0_goBack_25 rfl ?_
  refine gi_imul V dX0_goBack_28 rfl ?_
  refine g_aload_n V dX0_goBack_29 rfl rfl ?_
  obtain ⟨fs, r9, ha, hv, hw⟩ := hw
  refine g_get (C := RX0) (T := TX0) (N := 4) V 3 rfl hin_RX0 (by decide) (by decide) ww_1_98 rfl ha hv dX0_goBack_30 rfl ?_
  obtain ⟨fs, r10, ha, hv, hw⟩ := hw
  refine g_getN (C := RX4) (T := TX4) (N := 2) (host := "Wordgarden") V 1 rfl hin_RX4 (by decide) (by decide) gn_6 rfl ha hv dX0_goBack_33 rfl ?_
  obtain ⟨hb, hw⟩ := hw
  obtain ⟨fb, hb⟩ := hb
  refine g_callV (C := RX4) (T := TX4) (N := 2) (st := []) V (k_X4_addPart hst hw) ww_3_217 ww_2_46 ww_2_47 ww_1_3 ww_2_48 hd_X4_addPart ⟨by decide, by decide⟩ rfl (by decide) hb rfl rfl (ga_cat rfl) dX0_goBack_36 (Nat.zero_le _) (Nat.zero_le _) rfl (gaX_all hT V) (ga_kv (fun hp11 hw => ?_))
  refine g_aload_n V dX0_goBack_39 rfl rfl ?_
  obtain ⟨fs, r13, ha, hv, hw⟩ := hw
  refine g_get (C := RX0) (T := TX0) (N := 4) V 3 rfl hin_RX0 (by decide) (by decide) ww_1_98 rfl ha hv dX0_goBack_40 rfl ?_
  refine g_aload_n V dX0_goBack_43 rfl rfl ?_
  obtain ⟨fs, r14, ha, hv, hw⟩ := hw
  refine g_get (C := RX0) (T := TX0) (N := 4) V 2 rfl hin_RX0 (by decide) (by decide) ww_1_96 rfl ha hv dX0_goBack_44 rfl ?_
  obtain ⟨hb, hw⟩ := hw
  obtain ⟨fb, hb⟩ := hb
  refine g_callV (C := RX4) (T := TX4) (N := 2) (st := []) V (k_X4_take hst hw) ww_2_49 ww_2_50 ww_2_51 ww_1_3 ww_2_52 hd_X4_take ⟨by decide, by decide⟩ rfl (by decide) hb rfl rfl (ga_cat rfl) dX0_goBack_47 (Nat.zero_le _) (Nat.zero_le _) rfl (gaX_all hT V) (ga_kv (fun hp15 hw => ?_))
  refine g_aload_n V dX0_goBack_50 rfl rfl ?_
  obtain ⟨fs, r17, ha, hv, hw⟩ := hw
  refine g_get (C := RX0) (T := TX0) (N := 4) V 2 rfl hin_RX0 (by decide) (by decide) ww_1_96 rfl ha hv dX0_goBack_51 rfl ?_
  refine g_aload_n V dX0_goBack_54 rfl rfl ?_
  obtain ⟨hb, hw⟩ := hw
  obtain ⟨fb, hb⟩ := hb
  refine g_callV (C := RX4) (T := TX4) (N := 2) (st := []) V (k_X4_take hst hw) ww_2_49 ww_2_50 ww_2_51 ww_1_3 ww_2_52 hd_X4_take ⟨by decide, by decide⟩ rfl (by decide) hb rfl rfl (ga_cat rfl) dX0_goBack_55 (Nat.zero_le _) (Nat.zero_le _) rfl (gaX_all hT V) (ga_kv (fun hp18 hw => ?_))
  refine g_aload_n V dX0_goBack_58 rfl rfl ?_
  refine g_dup V dX0_goBack_59 rfl rfl ?_
  obtain ⟨fs, r20, ha, hv, hw⟩ := hw
  refine g_get (C := RX0) (T := TX0) (N := 4) V 1 rfl hin_RX0 (by decide) (by decide) ww_1_94 rfl ha hv dX0_goBack_60 rfl ?_
  refine g_iconst V (Int32.ofInt 1) dX0_goBack_63 rfl rfl ?_
  refine gi_isub V dX0_goBack_64 rfl ?_
  obtain ⟨fs, ha, hl, hw⟩ := hw
  refine g_put (C := RX0) (T := TX0) (N := 4) V 1 tyX0 tyX0_ok nmX0 rfl hin_RX0 (by decide) (by decide) ww_1_94 rfl rfl rfl rfl ha hl dX0_goBack_65 rfl ?_
  generalize gaUp hp18 a0 _ = hp21 at hw ⊢
  refine g_iload_n V dX0_goBack_68 rfl rfl ?_
  exact g_iret V rfl rfl dX0_goBack_69 ⟨_, rfl, hw⟩
def w_X1_spreadOf_L16 (Q : Int → gaH → Prop) : Nat → (Nat → Int → Int → Int → Int → Int → gaH → Prop)
  | 0 => fun _ _ _ _ _ _ _ => False
  | n + 1 => fun v0 v1 v3 v4 v5 v6 h => gR v6 ∧ gR v5 ∧ (if v5 ≤ v6 then Q (v3 - v4) h else w_X1_upsInPart v0 v6 v1 h (fun r2 hp1 => gR v3 ∧ gR r2 ∧ (gR v4 ∧ gR r2 ∧ (w_X1_spreadOf_L16 Q n v0 v1 (max v3 r2) (min v4 r2) v5 (v6 + 1) hp1))))
def w_X1_spreadOf (a0 : Nat) (a1 : Int) (a2 : Int) (h : gaH) (Q : Int → gaH → Prop) : Prop := w_X1_beginnings a0 a1 a2 h (fun r2 hp1 => ∃ z, w_X1_spreadOf_L16 Q z a0 a1 0 a1 r2 0 hp1)
abbrev rm_X1_spreadOf : Room := { frames := 3, cells := 0, slots := 0, locals := 82 }
theorem hd_X1_spreadOf : (yX1_spreadOf.cls ≠ "java/lang/invoke/MethodHandle" ∧ yX1_spreadOf.cls ≠ "java/lang/invoke/VarHandle" ∧ (parseMethodDescriptor yX1_spreadOf.desc).map (fun d => d.parameters.length) = some 3) := by decide +kernel
theorem k_X1_spreadOf {l : Launch} (hst : l.stackTraces = false) {G : gaG} {X : String → gaH → Prop} {a0 : Nat} {a1 : Int} {a2 : Int} {h : gaH} {Q : Int → gaH → Prop} (hw : w_X1_spreadOf a0 a1 a2 h Q) : gaC l G yX1_spreadOf (gaM yX1_spreadOf cX1_spreadOf 8 ((some .int))) rm_X1_spreadOf [.ref a0, gi a1, gi a2] h (gQi Q) X := by
  refine g_start (lv := [some (.ref a0), some (gi a1), some (gi a2), none, none, none, none, none]) hpl_RX1 hst (Nat.le_of_ble_eq_true rfl) (gaArgs_pad (z := 5) rfl) ww_5_84 ?_
  intro p e s m args below meth c V hT
  have h_X1_spreadOf_L16 : ∀ (n : Nat), ∀ (v0 : Nat) (v1 : Int) (v3 : Int) (v4 : Int) (v5 : Int) (v6 : Int) (h : gaH), w_X1_spreadOf_L16 Q n v0 v1 v3 v4 v5 v6 h → gaP p l e rm_X1_spreadOf s m args below meth c G 8 (gaZ below G (gQi Q) X args s rm_X1_spreadOf) 16 [some (.ref v0), some (gi v1), none, some (gi v3), some (gi v4), some (gi v5), some (gi v6), none] [] h 0 0 := by
    intro n
    induction n with
    | zero =>
      intro v0 v1 v3 v4 v5 v6 h hw
      exact hw.elim
    | succ n ih =>
      intro v0 v1 v3 v4 v5 v6 h hw
      unfold w_X1_spreadOf_L16 at hw
      refine g_iload V dX1_spreadOf_16 rfl rfl ?_
      refine g_iload V dX1_spreadOf_18 rfl rfl ?_
      obtain ⟨hx0, hx1, hw⟩ := hw
      refine gi_icmp_ge V dX1_spreadOf_20 rfl rfl hx0 hx1 (fun q => ?_) (fun q => ?_)
      · have hw := ga_t q hw
        refine g_iload_n V dX1_spreadOf_54 rfl rfl ?_
        refine g_iload V dX1_spreadOf_55 rfl rfl ?_
        refine gi_isub V dX1_spreadOf_57 rfl ?_
        exact g_iret V rfl rfl dX1_spreadOf_58 ⟨_, rfl, hw⟩
      · have hw := ga_f q hw
        refine g_aload_n V dX1_spreadOf_23 rfl rfl ?_
        refine g_iload V dX1_spreadOf_24 rfl rfl ?_
        refine g_iload_n V dX1_spreadOf_26 rfl rfl ?_
        refine g_callS (st := []) V (k_X1_upsInPart hst hw) ww_5_88 ww_3_37 ww_1_12 ww_3_38 hd_X1_upsInPart ⟨by decide, by decide⟩ rfl rfl (ga_cat rfl) dX1_spreadOf_27 (Nat.zero_le _) (Nat.zero_le _) rfl (gaX_all hT V) (ga_ki (fun r2 hp1 hw => ?_))
        refine g_istore (lv2 := [some (.ref v0), some (gi v1), none, some (gi v3), some (gi v4), some (gi v5), some (gi v6), some (gi r2)]) V dX1_spreadOf_30 (by decide) rfl rfl rfl ?_
        refine g_iload_n V dX1_spreadOf_32 rfl rfl ?_
        refine g_iload V dX1_spreadOf_33 rfl rfl ?_
        obtain ⟨hx0, hx1, hw⟩ := hw
        refine gi_mmax V ww_2_117 ww_2_118 ww_1_13 ww_2_119 (by decide) (by decide) (ga_cat rfl) hx0 hx1 dX1_spreadOf_35 rfl ?_
        refine g_istore_n (lv2 := [some (.ref v0), some (gi v1), none, some (gi (max v3 r2)), some (gi v4), some (gi v5), some (gi v6), some (gi r2)]) V dX1_spreadOf_38 (by decide) rfl rfl rfl ?_
        refine g_iload V dX1_spreadOf_39 rfl rfl ?_
        refine g_iload V dX1_spreadOf_41 rfl rfl ?_
        obtain ⟨hx0, hx1, hw⟩ := hw
        refine gi_mmin V ww_2_3 ww_2_4 ww_1_13 ww_2_5 (by decide) (by decide) (ga_cat rfl) hx0 hx1 dX1_spreadOf_43 rfl ?_
        refine g_istore (lv2 := [some (.ref v0), some (gi v1), none, some (gi (max v3 r2)), some (gi (min v4 r2)), some (gi v5), some (gi v6), some (gi r2)]) V dX1_spreadOf_46 (by decide) rfl rfl rfl ?_
        refine gi_iinc (lv2 := [some (.ref v0), some (gi v1), none, some (gi (max v3 r2)), some (gi (min v4 r2)), some (gi v5), some (gi (v6 + 1)), some (gi r2)]) V dX1_spreadOf_48 (by decide) rfl rfl rfl rfl ?_
        refine g_goto V dX1_spreadOf_51 rfl ?_
        refine g_less (bs := [true, true, true, true, true, true, true, false]) (lv2 := [some (.ref v0), some (gi v1), none, some (gi (max v3 r2)), some (gi (min v4 r2)), some (gi v5), some (gi (v6 + 1)), none]) rfl ?_
        exact ih v0 v1 (max v3 r2) (min v4 r2) v5 (v6 + 1) hp1 hw
  unfold w_X1_spreadOf at hw
  refine g_iconst V (Int32.ofInt 0) dX1_spreadOf_0 rfl rfl ?_
  refine g_istore_n (lv2 := [some (.ref a0), some (gi a1), some (gi a2), some (gi 0), none, none, none, none]) V dX1_spreadOf_1 (by decide) rfl rfl rfl ?_
  refine g_iload_n V dX1_spreadOf_2 rfl rfl ?_
  refine g_istore (lv2 := [some (.ref a0), some (gi a1), some (gi a2), some (gi 0), some (gi a1), none, none, none]) V dX1_spreadOf_3 (by decide) rfl rfl rfl ?_
  refine g_aload_n V dX1_spreadOf_5 rfl rfl ?_
  refine g_iload_n V dX1_spreadOf_6 rfl rfl ?_
  refine g_iload_n V dX1_spreadOf_7 rfl rfl ?_
  refine g_callS (st := []) V (k_X1_beginnings hst hw) ww_5_85 ww_5_86 ww_1_12 ww_5_87 hd_X1_beginnings ⟨by decide, by decide⟩ rfl rfl (ga_cat rfl) dX1_spreadOf_8 (Nat.zero_le _) (Nat.zero_le _) rfl (gaX_all hT V) (ga_ki (fun r2 hp1 hw => ?_))
  refine g_istore (lv2 := [some (.ref a0), some (gi a1), some (gi a2), some (gi 0), some (gi a1), some (gi r2), none, none]) V dX1_spreadOf_11 (by decide) rfl rfl rfl ?_
  refine g_iconst V (Int32.ofInt 0) dX1_spreadOf_13 rfl rfl ?_
  refine g_istore (lv2 := [some (.ref a0), some (gi a1), some (gi a2), some (gi 0), some (gi a1), some (gi r2), some (gi 0), none]) V dX1_spreadOf_14 (by decide) rfl rfl rfl ?_
  refine g_less (bs := [true, true, false, true, true, true, true, true]) (lv2 := [some (.ref a0), some (gi a1), none, some (gi 0), some (gi a1), some (gi r2), some (gi 0), none]) rfl ?_
  obtain ⟨z, hw⟩ := hw
  exact h_X1_spreadOf_L16 z a0 a1 0 a1 r2 0 hp1 hw
def w_X3_layByRule_L19 (Q : gaH → Prop) : Nat → (Int → Nat → Nat → Nat → Int → gaH → Prop)
  | 0 => fun _ _ _ _ _ _ => False
  | n + 1 => fun v0 v1 v2 v3 v4 h => gR v4 ∧ gR v0 ∧ (if v0 ≤ v4 then Q h else gHas h v3 3 ∧ w_X2_layImage v3 v1 v2 h (fun hp1 => gHas hp1 v1 4 ∧ w_X4_take v1 v2 hp1 (fun hp3 => w_X3_layByRule_L19 Q n v0 v1 v2 v3 (v4 + 1) hp3)))
def w_X3_layByRule (a0 : Int) (a1 : Nat) (a2 : Nat) (a3 : Nat) (h : gaH) (Q : gaH → Prop) : Prop := gHas h a3 3 ∧ w_X2_take a3 5 6 h (fun hp1 => gHas hp1 a1 4 ∧ w_X4_clear a1 hp1 (fun hp3 => gHas hp3 a1 4 ∧ w_X4_add a1 0 hp3 (fun hp5 => ∃ z, w_X3_layByRule_L19 Q z a0 a1 a2 a3 0 hp5)))
abbrev rm_X3_layByRule : Room := { frames := 3, cells := 0, slots := 0, locals := 69 }
theorem hd_X3_layByRule : (yX3_layByRule.cls ≠ "java/lang/invoke/MethodHandle" ∧ yX3_layByRule.cls ≠ "java/lang/invoke/VarHandle" ∧ (parseMethodDescriptor yX3_layByRule.desc).map (fun d => d.parameters.length) = some 4) := by decide +kernel
theorem k_X3_layByRule {l : Launch} (hst : l.stackTraces = false) {G : gaG} {X : String → gaH → Prop} {a0 : Int} {a1 : Nat} {a2 : Nat} {a3 : Nat} {h : gaH} {Q : gaH → Prop} (hw : w_X3_layByRule a0 a1 a2 a3 h Q) : gaC l G yX3_layByRule (gaM yX3_layByRule cX3_layByRule 5 ((none : Option Jvm.ClassFile.FieldType))) rm_X3_layByRule [gi a0, .ref a1, .ref a2, .ref a3] h (gQv Q) X := by
  refine g_start (lv := [some (gi a0), some (.ref a1), some (.ref a2), some (.ref a3), none]) hpl_RX3 hst (Nat.le_of_ble_eq_true rfl) (gaArgs_pad (z := 1) rfl) ww_3_179 ?_
  intro p e s m args below meth c V hT
  have h_X3_layByRule_L19 : ∀ (n : Nat), ∀ (v0 : Int) (v1 : Nat) (v2 : Nat) (v3 : Nat) (v4 : Int) (h : gaH), w_X3_layByRule_L19 Q n v0 v1 v2 v3 v4 h → gaP p l e rm_X3_layByRule s m args below meth c G 5 (gaZ below G (gQv Q) X args s rm_X3_layByRule) 19 [some (gi v0), some (.ref v1), some (.ref v2), some (.ref v3), some (gi v4)] [] h 0 0 := by
    intro n
    induction n with
    | zero =>
      intro v0 v1 v2 v3 v4 h hw
      exact hw.elim
    | succ n ih =>
      intro v0 v1 v2 v3 v4 h hw
      unfold w_X3_layByRule_L19 at hw
      refine g_iload V dX3_layByRule_19 rfl rfl ?_
      refine g_iload_n V dX3_layByRule_21 rfl rfl ?_
      obtain ⟨hx0, hx1, hw⟩ := hw
      refine gi_icmp_ge V dX3_layByRule_22 rfl rfl hx0 hx1 (fun q => ?_) (fun q => ?_)
      · have hw := ga_t q hw
        exact g_vret V rfl dX3_layByRule_42 ⟨rfl, hw⟩
      · have hw := ga_f q hw
        refine g_aload_n V dX3_layByRule_25 rfl rfl ?_
        refine g_aload_n V dX3_layByRule_26 rfl rfl ?_
        refine g_aload_n V dX3_layByRule_27 rfl rfl ?_
        obtain ⟨hb, hw⟩ := hw
        obtain ⟨fb, hb⟩ := hb
        refine g_callV (C := RX2) (T := TX2) (N := 3) (st := []) V (k_X2_layImage hst hw) ww_3_183 ww_2_40 ww_2_41 ww_1_2 ww_2_42 hd_X2_layImage ⟨by decide, by decide⟩ rfl (by decide) hb rfl rfl (ga_cat rfl) dX3_layByRule_28 (Nat.zero_le _) (Nat.zero_le _) rfl (gaX_all hT V) (ga_kv (fun hp1 hw => ?_))
        refine g_aload_n V dX3_layByRule_31 rfl rfl ?_
        refine g_aload_n V dX3_layByRule_32 rfl rfl ?_
        obtain ⟨hb, hw⟩ := hw
        obtain ⟨fb, hb⟩ := hb
        refine g_callV (C := RX4) (T := TX4) (N := 2) (st := []) V (k_X4_take hst hw) ww_3_184 ww_2_50 ww_2_51 ww_1_3 ww_2_52 hd_X4_take ⟨by decide, by decide⟩ rfl (by decide) hb rfl rfl (ga_cat rfl) dX3_layByRule_33 (Nat.zero_le _) (Nat.zero_le _) rfl (gaX_all hT V) (ga_kv (fun hp3 hw => ?_))
        refine gi_iinc (lv2 := [some (gi v0), some (.ref v1), some (.ref v2), some (.ref v3), some (gi (v4 + 1))]) V dX3_layByRule_36 (by decide) rfl rfl rfl rfl ?_
        refine g_goto V dX3_layByRule_39 rfl ?_
        exact ih v0 v1 v2 v3 (v4 + 1) hp3 hw
  unfold w_X3_layByRule at hw
  refine g_aload_n V dX3_layByRule_0 rfl rfl ?_
  refine g_iconst V (Int32.ofInt 5) dX3_layByRule_1 rfl rfl ?_
  refine g_bipush V (Int32.ofInt 6) dX3_layByRule_2 rfl rfl ?_
  obtain ⟨hb, hw⟩ := hw
  obtain ⟨fb, hb⟩ := hb
  refine g_callV (C := RX2) (T := TX2) (N := 3) (st := []) V (k_X2_take hst hw) ww_3_180 ww_2_32 ww_2_33 ww_1_2 ww_2_34 hd_X2_take ⟨by decide, by decide⟩ rfl (by decide) hb rfl rfl (ga_cat rfl) dX3_layByRule_4 (Nat.zero_le _) (Nat.zero_le _) rfl (gaX_all hT V) (ga_kv (fun hp1 hw => ?_))
  refine g_aload_n V dX3_layByRule_7 rfl rfl ?_
  obtain ⟨hb, hw⟩ := hw
  obtain ⟨fb, hb⟩ := hb
  refine g_callV (C := RX4) (T := TX4) (N := 2) (st := []) V (k_X4_clear hst hw) ww_3_181 ww_1_86 ww_1_87 ww_1_3 ww_1_88 hd_X4_clear ⟨by decide, by decide⟩ rfl (by decide) hb rfl rfl (ga_cat rfl) dX3_layByRule_8 (Nat.zero_le _) (Nat.zero_le _) rfl (gaX_all hT V) (ga_kv (fun hp3 hw => ?_))
  refine g_aload_n V dX3_layByRule_11 rfl rfl ?_
  refine g_iconst V (Int32.ofInt 0) dX3_layByRule_12 rfl rfl ?_
  obtain ⟨hb, hw⟩ := hw
  obtain ⟨fb, hb⟩ := hb
  refine g_callV (C := RX4) (T := TX4) (N := 2) (st := []) V (k_X4_add hst hw) ww_3_182 ww_1_90 ww_1_91 ww_1_3 ww_1_92 hd_X4_add ⟨by decide, by decide⟩ rfl (by decide) hb rfl rfl (ga_cat rfl) dX3_layByRule_13 (Nat.zero_le _) (Nat.zero_le _) rfl (gaX_all hT V) (ga_kv (fun hp5 hw => ?_))
  refine g_iconst V (Int32.ofInt 0) dX3_layByRule_16 rfl rfl ?_
  refine g_istore (lv2 := [some (gi a0), some (.ref a1), some (.ref a2), some (.ref a3), some (gi 0)]) V dX3_layByRule_17 (by decide) rfl rfl rfl ?_
  obtain ⟨z, hw⟩ := hw
  exact h_X3_layByRule_L19 z a0 a1 a2 a3 0 hp5 hw
def w_X3_layByCopies_J45 (Q : gaH → Prop) (K11 : Int → Nat → Int → gaH → Prop) (K24 : Int → Nat → Int → Int → Int → gaH → Prop) (v0 : Int) (v1 : Nat) (v2 : Int) (v3 : Int) (v4 : Int) (t0 : Nat) (t1 : Int) (h : gaH) : Prop := gHas h t0 4 ∧ w_X4_add t0 t1 h (fun hp1 => K24 v0 v1 v2 v3 (v4 + 1) hp1)
def w_X3_layByCopies_L24 (Q : gaH → Prop) (K11 : Int → Nat → Int → gaH → Prop) : Nat → (Int → Nat → Int → Int → Int → gaH → Prop)
  | 0 => fun _ _ _ _ _ _ => False
  | n + 1 => fun v0 v1 v2 v3 v4 h => gR v4 ∧ gR v3 ∧ (if v3 ≤ v4 then K11 v0 v1 (v2 + 1) h else gHas h v1 4 ∧ w_X4_isUp v1 v4 h (fun r2 hp1 => gR r2 ∧ (if r2 = 0 then w_X3_layByCopies_J45 Q K11 (w_X3_layByCopies_L24 Q K11 n) v0 v1 v2 v3 v4 v1 1 hp1 else w_X3_layByCopies_J45 Q K11 (w_X3_layByCopies_L24 Q K11 n) v0 v1 v2 v3 v4 v1 0 hp1)))
def w_X3_layByCopies_L11 (Q : gaH → Prop) : Nat → (Int → Nat → Int → gaH → Prop)
  | 0 => fun _ _ _ _ => False
  | n + 1 => fun v0 v1 v2 h => gR v2 ∧ gR v0 ∧ (if v0 ≤ v2 then Q h else gI h v1 4 1 (fun r1 => ∃ z, w_X3_layByCopies_L24 Q (w_X3_layByCopies_L11 Q n) z v0 v1 v2 r1 0 h))
def w_X3_layByCopies (a0 : Int) (a1 : Nat) (h : gaH) (Q : gaH → Prop) : Prop := gHas h a1 4 ∧ w_X4_clear a1 h (fun hp1 => gHas hp1 a1 4 ∧ w_X4_add a1 0 hp1 (fun hp3 => ∃ z, w_X3_layByCopies_L11 Q z a0 a1 0 hp3))
abbrev rm_X3_layByCopies : Room := { frames := 1, cells := 0, slots := 0, locals := 21 }
theorem hd_X3_layByCopies : (yX3_layByCopies.cls ≠ "java/lang/invoke/MethodHandle" ∧ yX3_layByCopies.cls ≠ "java/lang/invoke/VarHandle" ∧ (parseMethodDescriptor yX3_layByCopies.desc).map (fun d => d.parameters.length) = some 2) := by decide +kernel
theorem k_X3_layByCopies {l : Launch} (hst : l.stackTraces = false) {G : gaG} {X : String → gaH → Prop} {a0 : Int} {a1 : Nat} {h : gaH} {Q : gaH → Prop} (hw : w_X3_layByCopies a0 a1 h Q) : gaC l G yX3_layByCopies (gaM yX3_layByCopies cX3_layByCopies 5 ((none : Option Jvm.ClassFile.FieldType))) rm_X3_layByCopies [gi a0, .ref a1] h (gQv Q) X := by
  refine g_start (lv := [some (gi a0), some (.ref a1), none, none, none]) hpl_RX3 hst (Nat.le_of_ble_eq_true rfl) (gaArgs_pad (z := 3) rfl) ww_3_187 ?_
  intro p e s m args below meth c V hT
  have h_X3_layByCopies_J45 : ∀ (K11 : Int → Nat → Int → gaH → Prop), ∀ (K24 : Int → Nat → Int → Int → Int → gaH → Prop), ∀ (hK11 : ∀ (v0 : Int) (v1 : Nat) (v2 : Int) (h : gaH), K11 v0 v1 v2 h → gaP p l e rm_X3_layByCopies s m args below meth c G 5 (gaZ below G (gQv Q) X args s rm_X3_layByCopies) 11 [some (gi v0), some (.ref v1), some (gi v2), none, none] [] h 0 0), ∀ (hK24 : ∀ (v0 : Int) (v1 : Nat) (v2 : Int) (v3 : Int) (v4 : Int) (h : gaH), K24 v0 v1 v2 v3 v4 h → gaP p l e rm_X3_layByCopies s m args below meth c G 5 (gaZ below G (gQv Q) X args s rm_X3_layByCopies) 24 [some (gi v0), some (.ref v1), some (gi v2), some (gi v3), some (gi v4)] [] h 0 0), ∀ (v0 : Int) (v1 : Nat) (v2 : Int) (v3 : Int) (v4 : Int) (t0 : Nat) (t1 : Int) (h : gaH), w_X3_layByCopies_J45 Q K11 K24 v0 v1 v2 v3 v4 t0 t1 h → gaP p l e rm_X3_layByCopies s m args below meth c G 5 (gaZ below G (gQv Q) X args s rm_X3_layByCopies) 45 [some (gi v0), some (.ref v1), some (gi v2), some (gi v3), some (gi v4)] [gi t1, .ref t0] h 0 0 := by
    intro K11 K24 hK11 hK24
    intro v0 v1 v2 v3 v4 t0 t1 h hw
    unfold w_X3_layByCopies_J45 at hw
    obtain ⟨hb, hw⟩ := hw
    obtain ⟨fb, hb⟩ := hb
    refine g_callV (C := RX4) (T := TX4) (N := 2) (st := []) V (k_X4_add hst hw) ww_3_182 ww_1_90 ww_1_91 ww_1_3 ww_1_92 hd_X4_add ⟨by decide, by decide⟩ rfl (by decide) hb rfl rfl (ga_cat rfl) dX3_layByCopies_45 (Nat.zero_le _) (Nat.zero_le _) rfl (gaX_all hT V) (ga_kv (fun hp1 hw => ?_))
    refine gi_iinc (lv2 := [some (gi v0), some (.ref v1), some (gi v2), some (gi v3), some (gi (v4 + 1))]) V dX3_layByCopies_48 (by decide) rfl rfl rfl rfl ?_
    refine g_goto V dX3_layByCopies_51 rfl ?_
    exact hK24 v0 v1 v2 v3 (v4 + 1) hp1 hw
  have h_X3_layByCopies_L24 : ∀ (K11 : Int → Nat → Int → gaH → Prop), ∀ (hK11 : ∀ (v0 : Int) (v1 : Nat) (v2 : Int) (h : gaH), K11 v0 v1 v2 h → gaP p l e rm_X3_layByCopies s m args below meth c G 5 (gaZ below G (gQv Q) X args s rm_X3_layByCopies) 11 [some (gi v0), some (.ref v1), some (gi v2), none, none] [] h 0 0), ∀ (n : Nat), ∀ (v0 : Int) (v1 : Nat) (v2 : Int) (v3 : Int) (v4 : Int) (h : gaH), w_X3_layByCopies_L24 Q K11 n v0 v1 v2 v3 v4 h → gaP p l e rm_X3_layByCopies s m args below meth c G 5 (gaZ below G (gQv Q) X args s rm_X3_layByCopies) 24 [some (gi v0), some (.ref v1), some (gi v2), some (gi v3), some (gi v4)] [] h 0 0 := by
    intro K11 hK11
    intro n
    induction n with
    | zero =>
      intro v0 v1 v2 v3 v4 h hw
      exact hw.elim
    | succ n ih =>
      intro v0 v1 v2 v3 v4 h hw
      unfold w_X3_layByCopies_L24 at hw
      refine g_iload V dX3_layByCopies_24 rfl rfl ?_
      refine g_iload_n V dX3_layByCopies_26 rfl rfl ?_
      obtain ⟨hx0, hx1, hw⟩ := hw
      refine gi_icmp_ge V dX3_layByCopies_27 rfl rfl hx0 hx1 (fun q => ?_) (fun q => ?_)
      · have hw := ga_t q hw
        refine gi_iinc (lv2 := [some (gi v0), some (.ref v1), some (gi (v2 + 1)), some (gi v3), some (gi v4)]) V dX3_layByCopies_54 (by decide) rfl rfl rfl rfl ?_
        refine g_goto V dX3_layByCopies_57 rfl ?_
        refine g_less (bs := [true, true, true, false, false]) (lv2 := [some (gi v0), some (.ref v1), some (gi (v2 + 1)), none, none]) rfl ?_
        exact hK11 v0 v1 (v2 + 1) h hw
      · have hw := ga_f q hw
        refine g_aload_n V dX3_layByCopies_30 rfl rfl ?_
        refine g_aload_n V dX3_layByCopies_31 rfl rfl ?_
        refine g_iload V dX3_layByCopies_32 rfl rfl ?_
        obtain ⟨hb, hw⟩ := hw
        obtain ⟨fb, hb⟩ := hb
        refine g_callV (C := RX4) (T := TX4) (N := 2) (st := [.ref v1]) V (k_X4_isUp hst hw) ww_3_188 ww_1_228 ww_1_229 ww_1_3 ww_1_230 hd_X4_isUp ⟨by decide, by decide⟩ rfl (by decide) hb rfl rfl (ga_cat rfl) dX3_layByCopies_34 (Nat.zero_le _) (Nat.zero_le _) rfl (gaX_all hT V) (ga_ki (fun r2 hp1 hw => ?_))
        obtain ⟨hx0, hw⟩ := hw
        refine gi_if_ne V dX3_layByCopies_37 rfl rfl hx0 (fun q => ?_) (fun q => ?_)
        · have hw := ga_f q hw
          refine g_iconst V (Int32.ofInt 0) dX3_layByCopies_44 rfl rfl ?_
          exact h_X3_layByCopies_J45 K11 (w_X3_layByCopies_L24 Q K11 n) hK11 ih v0 v1 v2 v3 v4 v1 0 hp1 hw
        · have hw := ga_t q hw
          refine g_iconst V (Int32.ofInt 1) dX3_layByCopies_40 rfl rfl ?_
          refine g_goto V dX3_layByCopies_41 rfl ?_
          exact h_X3_layByCopies_J45 K11 (w_X3_layByCopies_L24 Q K11 n) hK11 ih v0 v1 v2 v3 v4 v1 1 hp1 hw
  have h_X3_layByCopies_L11 : ∀ (n : Nat), ∀ (v0 : Int) (v1 : Nat) (v2 : Int) (h : gaH), w_X3_layByCopies_L11 Q n v0 v1 v2 h → gaP p l e rm_X3_layByCopies s m args below meth c G 5 (gaZ below G (gQv Q) X args s rm_X3_layByCopies) 11 [some (gi v0), some (.ref v1), some (gi v2), none, none] [] h 0 0 := by
    intro n
    induction n with
    | zero =>
      intro v0 v1 v2 h hw
      exact hw.elim
    | succ n ih =>
      intro v0 v1 v2 h hw
      unfold w_X3_layByCopies_L11 at hw
      refine g_iload_n V dX3_layByCopies_11 rfl rfl ?_
      refine g_iload_n V dX3_layByCopies_12 rfl rfl ?_
      obtain ⟨hx0, hx1, hw⟩ := hw
      refine gi_icmp_ge V dX3_layByCopies_13 rfl rfl hx0 hx1 (fun q => ?_) (fun q => ?_)
      · have hw := ga_t q hw
        exact g_vret V rfl dX3_layByCopies_60 ⟨rfl, hw⟩
      · have hw := ga_f q hw
        refine g_aload_n V dX3_layByCopies_16 rfl rfl ?_
        obtain ⟨fs, r1, ha, hv, hw⟩ := hw
        refine g_getN (C := RX4) (T := TX4) (N := 2) (host := "Wordgarden") V 1 rfl hin_RX4 (by decide) (by decide) gn_4 rfl ha hv dX3_layByCopies_17 rfl ?_
        refine g_istore_n (lv2 := [some (gi v0), some (.ref v1), some (gi v2), some (gi r1), none]) V dX3_layByCopies_20 (by decide) rfl rfl rfl ?_
        refine g_iconst V (Int32.ofInt 0) dX3_layByCopies_21 rfl rfl ?_
        refine g_istore (lv2 := [some (gi v0), some (.ref v1), some (gi v2), some (gi r1), some (gi 0)]) V dX3_layByCopies_22 (by decide) rfl rfl rfl ?_
        obtain ⟨z, hw⟩ := hw
        exact h_X3_layByCopies_L24 (w_X3_layByCopies_L11 Q n) ih z v0 v1 v2 r1 0 h hw
  unfold w_X3_layByCopies at hw
  refine g_aload_n V dX3_layByCopies_0 rfl rfl ?_
  obtain ⟨hb, hw⟩ := hw
  obtain ⟨fb, hb⟩ := hb
  refine g_callV (C := RX4) (T := TX4) (N := 2) (st := []) V (k_X4_clear hst hw) ww_3_181 ww_1_86 ww_1_87 ww_1_3 ww_1_88 hd_X4_clear ⟨by decide, by decide⟩ rfl (by decide) hb rfl rfl (ga_cat rfl) dX3_layByCopies_1 (Nat.zero_le _) (Nat.zero_le _) rfl (gaX_all hT V) (ga_kv (fun hp1 hw => ?_))
  refine g_aload_n V dX3_layByCopies_4 rfl rfl ?_
  refine g_iconst V (Int32.ofInt 0) dX3_layByCopies_5 rfl rfl ?_
  obtain ⟨hb, hw⟩ := hw
  obtain ⟨fb, hb⟩ := hb
  refine g_callV (C := RX4) (T := TX4) (N := 2) (st := []) V (k_X4_add hst hw) ww_3_182 ww_1_90 ww_1_91 ww_1_3 ww_1_92 hd_X4_add ⟨by decide, by decide⟩ rfl (by decide) hb rfl rfl (ga_cat rfl) dX3_layByCopies_6 (Nat.zero_le _) (Nat.zero_le _) rfl (gaX_all hT V) (ga_kv (fun hp3 hw => ?_))
  refine g_iconst V (Int32.ofInt 0) dX3_layByCopies_9 rfl rfl ?_
  refine g_istore_n (lv2 := [some (gi a0), some (.ref a1), some (gi 0), none, none]) V dX3_layByCopies_10 (by decide) rfl rfl rfl ?_
  obtain ⟨z, hw⟩ := hw
  exact h_X3_layByCopies_L11 z a0 a1 0 hp3 hw
def w_J6_bitCount_0f7a4 (a0 : Int) (h : gaH) (Q : Int → gaH → Prop) : Prop := Q (gAnd (((gAnd (((gAnd (a0 - (gAnd (gUshr a0 1) 1431655765)) 858993459) + (gAnd (gUshr (a0 - (gAnd (gUshr a0 1) 1431655765)) 2) 858993459)) + (gUshr ((gAnd (a0 - (gAnd (gUshr a0 1) 1431655765)) 858993459) + (gAnd (gUshr (a0 - (gAnd (gUshr a0 1) 1431655765)) 2) 858993459)) 4)) 252645135) + (gUshr (gAnd (((gAnd (a0 - (gAnd (gUshr a0 1) 1431655765)) 858993459) + (gAnd (gUshr (a0 - (gAnd (gUshr a0 1) 1431655765)) 2) 858993459)) + (gUshr ((gAnd (a0 - (gAnd (gUshr a0 1) 1431655765)) 858993459) + (gAnd (gUshr (a0 - (gAnd (gUshr a0 1) 1431655765)) 2) 858993459)) 4)) 252645135) 8)) + (gUshr ((gAnd (((gAnd (a0 - (gAnd (gUshr a0 1) 1431655765)) 858993459) + (gAnd (gUshr (a0 - (gAnd (gUshr a0 1) 1431655765)) 2) 858993459)) + (gUshr ((gAnd (a0 - (gAnd (gUshr a0 1) 1431655765)) 858993459) + (gAnd (gUshr (a0 - (gAnd (gUshr a0 1) 1431655765)) 2) 858993459)) 4)) 252645135) + (gUshr (gAnd (((gAnd (a0 - (gAnd (gUshr a0 1) 1431655765)) 858993459) + (gAnd (gUshr (a0 - (gAnd (gUshr a0 1) 1431655765)) 2) 858993459)) + (gUshr ((gAnd (a0 - (gAnd (gUshr a0 1) 1431655765)) 858993459) + (gAnd (gUshr (a0 - (gAnd (gUshr a0 1) 1431655765)) 2) 858993459)) 4)) 252645135) 8)) 16)) 63) h
abbrev rm_J6_bitCount_0f7a4 : Room := { frames := 0, cells := 0, slots := 0, locals := 0 }
theorem hd_J6_bitCount_0f7a4 : (yJ6_bitCount_0f7a4.cls ≠ "java/lang/invoke/MethodHandle" ∧ yJ6_bitCount_0f7a4.cls ≠ "java/lang/invoke/VarHandle" ∧ (parseMethodDescriptor yJ6_bitCount_0f7a4.desc).map (fun d => d.parameters.length) = some 1) := by decide +kernel
theorem k_J6_bitCount_0f7a4 {l : Launch} (hst : l.stackTraces = false) {G : gaG} {X : String → gaH → Prop} {a0 : Int} {h : gaH} {Q : Int → gaH → Prop} (hw : w_J6_bitCount_0f7a4 a0 h Q) : gaC l G yJ6_bitCount_0f7a4 (gaM yJ6_bitCount_0f7a4 cJ6_bitCount_0f7a4 1 ((some .int))) rm_J6_bitCount_0f7a4 [gi a0] h (gQi Q) X := by
  refine g_start (lv := [some (gi a0)]) hpl_RJ6 hst (Nat.le_of_ble_eq_true rfl) (gaArgs_pad (z := 0) rfl) ww_3_194 ?_
  intro p e s m args below meth c V hT
  unfold w_J6_bitCount_0f7a4 at hw
  refine g_iload_n V dJ6_bitCount_0f7a4_0 rfl rfl ?_
  refine g_iload_n V dJ6_bitCount_0f7a4_1 rfl rfl ?_
  refine g_iconst V (Int32.ofInt 1) dJ6_bitCount_0f7a4_2 rfl rfl ?_
  refine gi_iushr V dJ6_bitCount_0f7a4_3 rfl ?_
  refine g_ldcw V (Int32.ofInt 1431655765) dJ6_bitCount_0f7a4_4 ww_3_195 rfl ?_
  refine gi_iand V dJ6_bitCount_0f7a4_7 rfl ?_
  refine gi_isub V dJ6_bitCount_0f7a4_8 rfl ?_
  refine g_istore_n (lv2 := [some (gi (a0 - (gAnd (gUshr a0 1) 1431655765)))]) V dJ6_bitCount_0f7a4_9 (by decide) rfl rfl rfl ?_
  refine g_iload_n V dJ6_bitCount_0f7a4_10 rfl rfl ?_
  refine g_ldcw V (Int32.ofInt 858993459) dJ6_bitCount_0f7a4_11 ww_3_196 rfl ?_
  refine gi_iand V dJ6_bitCount_0f7a4_14 rfl ?_
  refine g_iload_n V dJ6_bitCount_0f7a4_15 rfl rfl ?_
  refine g_iconst V (Int32.ofInt 2) dJ6_bitCount_0f7a4_16 rfl rfl ?_
  refine gi_iushr V dJ6_bitCount_0f7a4_17 rfl ?_
  refine g_ldcw V (Int32.ofInt 858993459) dJ6_bitCount_0f7a4_18 ww_3_196 rfl ?_
  refine gi_iand V dJ6_bitCount_0f7a4_21 rfl ?_
  refine gi_iadd V dJ6_bitCount_0f7a4_22 rfl ?_
  refine g_istore_n (lv2 := [some (gi ((gAnd (a0 - (gAnd (gUshr a0 1) 1431655765)) 858993459) + (gAnd (gUshr (a0 - (gAnd (gUshr a0 1) 1431655765)) 2) 858993459)))]) V dJ6_bitCount_0f7a4_23 (by decide) rfl rfl rfl ?_
  refine g_iload_n V dJ6_bitCount_0f7a4_24 rfl rfl ?_
  refine g_iload_n V dJ6_bitCount_0f7a4_25 rfl rfl ?_
  refine g_iconst V (Int32.ofInt 4) dJ6_bitCount_0f7a4_26 rfl rfl ?_
  refine gi_iushr V dJ6_bitCount_0f7a4_27 rfl ?_
  refine gi_iadd V dJ6_bitCount_0f7a4_28 rfl ?_
  refine g_ldcw V (Int32.ofInt 252645135) dJ6_bitCount_0f7a4_29 ww_3_197 rfl ?_
  refine gi_iand V dJ6_bitCount_0f7a4_32 rfl ?_
  refine g_istore_n (lv2 := [some (gi (gAnd (((gAnd (a0 - (gAnd (gUshr a0 1) 1431655765)) 858993459) + (gAnd (gUshr (a0 - (gAnd (gUshr a0 1) 1431655765)) 2) 858993459)) + (gUshr ((gAnd (a0 - (gAnd (gUshr a0 1) 1431655765)) 858993459) + (gAnd (gUshr (a0 - (gAnd (gUshr a0 1) 1431655765)) 2) 858993459)) 4)) 252645135))]) V dJ6_bitCount_0f7a4_33 (by decide) rfl rfl rfl ?_
  refine g_iload_n V dJ6_bitCount_0f7a4_34 rfl rfl ?_
  refine g_iload_n V dJ6_bitCount_0f7a4_35 rfl rfl ?_
  refine g_bipush V (Int32.ofInt 8) dJ6_bitCount_0f7a4_36 rfl rfl ?_
  refine gi_iushr V dJ6_bitCount_0f7a4_38 rfl ?_
  refine gi_iadd V dJ6_bitCount_0f7a4_39 rfl ?_
  refine g_istore_n (lv2 := [some (gi ((gAnd (((gAnd (a0 - (gAnd (gUshr a0 1) 1431655765)) 858993459) + (gAnd (gUshr (a0 - (gAnd (gUshr a0 1) 1431655765)) 2) 858993459)) + (gUshr ((gAnd (a0 - (gAnd (gUshr a0 1) 1431655765)) 858993459) + (gAnd (gUshr (a0 - (gAnd (gUshr a0 1) 1431655765)) 2) 858993459)) 4)) 252645135) + (gUshr (gAnd (((gAnd (a0 - (gAnd (gUshr a0 1) 1431655765)) 858993459) + (gAnd (gUshr (a0 - (gAnd (gUshr a0 1) 1431655765)) 2) 858993459)) + (gUshr ((gAnd (a0 - (gAnd (gUshr a0 1) 1431655765)) 858993459) + (gAnd (gUshr (a0 - (gAnd (gUshr a0 1) 1431655765)) 2) 858993459)) 4)) 252645135) 8)))]) V dJ6_bitCount_0f7a4_40 (by decide) rfl rfl rfl ?_
  refine g_iload_n V dJ6_bitCount_0f7a4_41 rfl rfl ?_
  refine g_iload_n V dJ6_bitCount_0f7a4_42 rfl rfl ?_
  refine g_bipush V (Int32.ofInt 16) dJ6_bitCount_0f7a4_43 rfl rfl ?_
  refine gi_iushr V dJ6_bitCount_0f7a4_45 rfl ?_
  refine gi_iadd V dJ6_bitCount_0f7a4_46 rfl ?_
  refine g_istore_n (lv2 := [some (gi (((gAnd (((gAnd (a0 - (gAnd (gUshr a0 1) 1431655765)) 858993459) + (gAnd (gUshr (a0 - (gAnd (gUshr a0 1) 1431655765)) 2) 858993459)) + (gUshr ((gAnd (a0 - (gAnd (gUshr a0 1) 1431655765)) 858993459) + (gAnd (gUshr (a0 - (gAnd (gUshr a0 1) 1431655765)) 2) 858993459)) 4)) 252645135) + (gUshr (gAnd (((gAnd (a0 - (gAnd (gUshr a0 1) 1431655765)) 858993459) + (gAnd (gUshr (a0 - (gAnd (gUshr a0 1) 1431655765)) 2) 858993459)) + (gUshr ((gAnd (a0 - (gAnd (gUshr a0 1) 1431655765)) 858993459) + (gAnd (gUshr (a0 - (gAnd (gUshr a0 1) 1431655765)) 2) 858993459)) 4)) 252645135) 8)) + (gUshr ((gAnd (((gAnd (a0 - (gAnd (gUshr a0 1) 1431655765)) 858993459) + (gAnd (gUshr (a0 - (gAnd (gUshr a0 1) 1431655765)) 2) 858993459)) + (gUshr ((gAnd (a0 - (gAnd (gUshr a0 1) 1431655765)) 858993459) + (gAnd (gUshr (a0 - (gAnd (gUshr a0 1) 1431655765)) 2) 858993459)) 4)) 252645135) + (gUshr (gAnd (((gAnd (a0 - (gAnd (gUshr a0 1) 1431655765)) 858993459) + (gAnd (gUshr (a0 - (gAnd (gUshr a0 1) 1431655765)) 2) 858993459)) + (gUshr ((gAnd (a0 - (gAnd (gUshr a0 1) 1431655765)) 858993459) + (gAnd (gUshr (a0 - (gAnd (gUshr a0 1) 1431655765)) 2) 858993459)) 4)) 252645135) 8)) 16)))]) V dJ6_bitCount_0f7a4_47 (by decide) rfl rfl rfl ?_
  refine g_iload_n V dJ6_bitCount_0f7a4_48 rfl rfl ?_
  refine g_bipush V (Int32.ofInt 63) dJ6_bitCount_0f7a4_49 rfl rfl ?_
  refine gi_iand V dJ6_bitCount_0f7a4_51 rfl ?_
  exact g_iret V rfl rfl dJ6_bitCount_0f7a4_52 ⟨_, rfl, hw⟩
def w_X3_laySignBySign_J29 (Q : gaH → Prop) (K6 : Int → Nat → Int → gaH → Prop) (v0 : Int) (v1 : Nat) (v2 : Int) (t0 : Nat) (t1 : Int) (h : gaH) : Prop := gHas h t0 4 ∧ w_X4_add t0 t1 h (fun hp1 => K6 v0 v1 (v2 + 1) hp1)
def w_X3_laySignBySign_L6 (Q : gaH → Prop) : Nat → (Int → Nat → Int → gaH → Prop)
  | 0 => fun _ _ _ _ => False
  | n + 1 => fun v0 v1 v2 h => gR v2 ∧ gR (gShl 1 v0) ∧ (if (gShl 1 v0) ≤ v2 then Q h else w_J6_bitCount_0f7a4 v2 h (fun r2 hp1 => gR (gAnd r2 1) ∧ (if (gAnd r2 1) = 1 then w_X3_laySignBySign_J29 Q (w_X3_laySignBySign_L6 Q n) v0 v1 v2 v1 1 hp1 else w_X3_laySignBySign_J29 Q (w_X3_laySignBySign_L6 Q n) v0 v1 v2 v1 0 hp1)))
def w_X3_laySignBySign (a0 : Int) (a1 : Nat) (h : gaH) (Q : gaH → Prop) : Prop := gHas h a1 4 ∧ w_X4_clear a1 h (fun hp1 => ∃ z, w_X3_laySignBySign_L6 Q z a0 a1 0 hp1)
abbrev rm_X3_laySignBySign : Room := { frames := 1, cells := 0, slots := 0, locals := 21 }
theorem hd_X3_laySignBySign : (yX3_laySignBySign.cls ≠ "java/lang/invoke/MethodHandle" ∧ yX3_laySignBySign.cls ≠ "java/lang/invoke/VarHandle" ∧ (parseMethodDescriptor yX3_laySignBySign.desc).map (fun d => d.parameters.length) = some 2) := by decide +kernel
theorem k_X3_laySignBySign {l : Launch} (hst : l.stackTraces = false) {G : gaG} {X : String → gaH → Prop} {a0 : Int} {a1 : Nat} {h : gaH} {Q : gaH → Prop} (hw : w_X3_laySignBySign a0 a1 h Q) : gaC l G yX3_laySignBySign (gaM yX3_laySignBySign cX3_laySignBySign 3 ((none : Option Jvm.ClassFile.FieldType))) rm_X3_laySignBySign [gi a0, .ref a1] h (gQv Q) X := by
  refine g_start (lv := [some (gi a0), some (.ref a1), none]) hpl_RX3 hst (Nat.le_of_ble_eq_true rfl) (gaArgs_pad (z := 1) rfl) ww_3_191 ?_
  intro p e s m args below meth c V hT
  have h_X3_laySignBySign_J29 : ∀ (K6 : Int → Nat → Int → gaH → Prop), ∀ (hK6 : ∀ (v0 : Int) (v1 : Nat) (v2 : Int) (h : gaH), K6 v0 v1 v2 h → gaP p l e rm_X3_laySignBySign s m args below meth c G 3 (gaZ below G (gQv Q) X args s rm_X3_laySignBySign) 6 [some (gi v0), some (.ref v1), some (gi v2)] [] h 0 0), ∀ (v0 : Int) (v1 : Nat) (v2 : Int) (t0 : Nat) (t1 : Int) (h : gaH), w_X3_laySignBySign_J29 Q K6 v0 v1 v2 t0 t1 h → gaP p l e rm_X3_laySignBySign s m args below meth c G 3 (gaZ below G (gQv Q) X args s rm_X3_laySignBySign) 29 [some (gi v0), some (.ref v1), some (gi v2)] [gi t1, .ref t0] h 0 0 := by
    intro K6 hK6
    intro v0 v1 v2 t0 t1 h hw
    unfold w_X3_laySignBySign_J29 at hw
    obtain ⟨hb, hw⟩ := hw
    obtain ⟨fb, hb⟩ := hb
    refine g_callV (C := RX4) (T := TX4) (N := 2) (st := []) V (k_X4_add hst hw) ww_3_182 ww_1_90 ww_1_91 ww_1_3 ww_1_92 hd_X4_add ⟨by decide, by decide⟩ rfl (by decide) hb rfl rfl (ga_cat rfl) dX3_laySignBySign_29 (Nat.zero_le _) (Nat.zero_le _) rfl (gaX_all hT V) (ga_kv (fun hp1 hw => ?_))
    refine gi_iinc (lv2 := [some (gi v0), some (.ref v1), some (gi (v2 + 1))]) V dX3_laySignBySign_32 (by decide) rfl rfl rfl rfl ?_
    refine g_goto V dX3_laySignBySign_35 rfl ?_
    exact hK6 v0 v1 (v2 + 1) hp1 hw
  have h_X3_laySignBySign_L6 : ∀ (n : Nat), ∀ (v0 : Int) (v1 : Nat) (v2 : Int) (h : gaH), w_X3_laySignBySign_L6 Q n v0 v1 v2 h → gaP p l e rm_X3_laySignBySign s m args below meth c G 3 (gaZ below G (gQv Q) X args s rm_X3_laySignBySign) 6 [some (gi v0), some (.ref v1), some (gi v2)] [] h 0 0 := by
    intro n
    induction n with
    | zero =>
      intro v0 v1 v2 h hw
      exact hw.elim
    | succ n ih =>
      intro v0 v1 v2 h hw
      unfold w_X3_laySignBySign_L6 at hw
      refine g_iload_n V dX3_laySignBySign_6 rfl rfl ?_
      refine g_iconst V (Int32.ofInt 1) dX3_laySignBySign_7 rfl rfl ?_
      refine g_iload_n V dX3_laySignBySign_8 rfl rfl ?_
      refine gi_ishl V dX3_laySignBySign_9 rfl ?_
      obtain ⟨hx0, hx1, hw⟩ := hw
      refine gi_icmp_ge V dX3_laySignBySign_10 rfl rfl hx0 hx1 (fun q => ?_) (fun q => ?_)
      · have hw := ga_t q hw
        exact g_vret V rfl dX3_laySignBySign_38 ⟨rfl, hw⟩
      · have hw := ga_f q hw
        refine g_aload_n V dX3_laySignBySign_13 rfl rfl ?_
        refine g_iload_n V dX3_laySignBySign_14 rfl rfl ?_
        refine g_callS (st := [.ref v1]) V (k_J6_bitCount_0f7a4 hst hw) ww_3_192 ww_3_193 ww_1_14 ww_3_194 hd_J6_bitCount_0f7a4 ⟨by decide, by decide⟩ rfl rfl (ga_cat rfl) dX3_laySignBySign_15 (Nat.zero_le _) (Nat.zero_le _) rfl (gaX_all hT V) (ga_ki (fun r2 hp1 hw => ?_))
        refine g_iconst V (Int32.ofInt 1) dX3_laySignBySign_18 rfl rfl ?_
        refine gi_iand V dX3_laySignBySign_19 rfl ?_
        refine g_iconst V (Int32.ofInt 1) dX3_laySignBySign_20 rfl rfl ?_
        obtain ⟨hx0, hw⟩ := hw
        refine gi_icmp_ne V dX3_laySignBySign_21 rfl rfl hx0 (by decide) (fun q => ?_) (fun q => ?_)
        · have hw := ga_f q hw
          refine g_iconst V (Int32.ofInt 0) dX3_laySignBySign_28 rfl rfl ?_
          exact h_X3_laySignBySign_J29 (w_X3_laySignBySign_L6 Q n) ih v0 v1 v2 v1 0 hp1 hw
        · have hw := ga_t q hw
          refine g_iconst V (Int32.ofInt 1) dX3_laySignBySign_24 rfl rfl ?_
          refine g_goto V dX3_laySignBySign_25 rfl ?_
          exact h_X3_laySignBySign_J29 (w_X3_laySignBySign_L6 Q n) ih v0 v1 v2 v1 1 hp1 hw
  unfold w_X3_laySignBySign at hw
  refine g_aload_n V dX3_laySignBySign_0 rfl rfl ?_
  obtain ⟨hb, hw⟩ := hw
  obtain ⟨fb, hb⟩ := hb
  refine g_callV (C := RX4) (T := TX4) (N := 2) (st := []) V (k_X4_clear hst hw) ww_3_181 ww_1_86 ww_1_87 ww_1_3 ww_1_88 hd_X4_clear ⟨by decide, by decide⟩ rfl (by decide) hb rfl rfl (ga_cat rfl) dX3_laySignBySign_1 (Nat.zero_le _) (Nat.zero_le _) rfl (gaX_all hT V) (ga_kv (fun hp1 hw => ?_))
  refine g_iconst V (Int32.ofInt 0) dX3_laySignBySign_4 rfl rfl ?_
  refine g_istore_n (lv2 := [some (gi a0), some (.ref a1), some (gi 0)]) V dX3_laySignBySign_5 (by decide) rfl rfl rfl ?_
  obtain ⟨z, hw⟩ := hw
  exact h_X3_laySignBySign_L6 z a0 a1 0 hp1 hw
def w_X2_isMarked (a0 : Nat) (a1 : Int) (h : gaH) (Q : Int → gaH → Prop) : Prop := gR a1 ∧ (if a1 < 0 then Q 0 h else gA h a0 3 2 (fun r1 => gAL h r1 100 (fun r2 => gR a1 ∧ gR r2 ∧ (if r2 ≤ a1 then Q 0 h else gA h a0 3 2 (fun r3 => gLI h r3 100 a1 (fun r4 => gR r4 ∧ (if r4 = 0 then Q 0 h else Q 1 h)))))))
abbrev rm_X2_isMarked : Room := { frames := 0, cells := 0, slots := 0, locals := 0 }
theorem hd_X2_isMarked : yX2_isMarked.cls = RX2 ∧ (yX2_isMarked.cls ≠ "java/lang/invoke/MethodHandle" ∧ yX2_isMarked.cls ≠ "java/lang/invoke/VarHandle" ∧ (parseMethodDescriptor yX2_isMarked.desc).map (fun d => d.parameters.length) = some 1) := by decide +kernel
theorem k_X2_isMarked {l : Launch} (hst : l.stackTraces = false) {G : gaG} {X : String → gaH → Prop} {a0 : Nat} {a1 : Int} {h : gaH} {Q : Int → gaH → Prop} (hw : w_X2_isMarked a0 a1 h Q) : gaC l G yX2_isMarked (gaM yX2_isMarked cX2_isMarked 2 ((some .boolean))) rm_X2_isMarked [.ref a0, gi a1] h (gQi Q) X := by
  refine g_start (lv := [some (.ref a0), some (gi a1)]) hpl_RX2 hst (Nat.le_of_ble_eq_true rfl) (gaArgs_pad (z := 0) rfl) ww_3_161 ?_
  intro p e s m args below meth c V hT
  unfold w_X2_isMarked at hw
  refine g_iload_n V dX2_isMarked_0 rfl rfl ?_
  obtain ⟨hx0, hw⟩ := hw
  refine gi_if_lt V dX2_isMarked_1 rfl rfl hx0 (fun q => ?_) (fun q => ?_)
  · have hw := ga_t q hw
    refine g_iconst V (Int32.ofInt 0) dX2_isMarked_26 rfl rfl ?_
    exact g_iret V rfl rfl dX2_isMarked_27 ⟨_, rfl, hw⟩
  · have hw := ga_f q hw
    refine g_iload_n V dX2_isMarked_4 rfl rfl ?_
    refine g_aload_n V dX2_isMarked_5 rfl rfl ?_
    obtain ⟨fs, r1, ha, hv, hw⟩ := hw
    refine g_get (C := RX2) (T := TX2) (N := 3) V 2 rfl hin_RX2 (by decide) (by decide) ww_1_65 rfl ha hv dX2_isMarked_6 rfl ?_
    obtain ⟨t9, vs, ha, ht, hw⟩ := hw
    refine gi_arraylength (t0 := 100) V (by simp [gaT]) ha ht dX2_isMarked_9 rfl ?_
    generalize (vs.length : Int) = r2 at hw ⊢
    obtain ⟨hx0, hx1, hw⟩ := hw
    refine gi_icmp_ge V dX2_isMarked_10 rfl rfl hx0 hx1 (fun q => ?_) (fun q => ?_)
    · have hw := ga_t q hw
      refine g_iconst V (Int32.ofInt 0) dX2_isMarked_26 rfl rfl ?_
      exact g_iret V rfl rfl dX2_isMarked_27 ⟨_, rfl, hw⟩
    · have hw := ga_f q hw
      refine g_aload_n V dX2_isMarked_13 rfl rfl ?_
      obtain ⟨fs, r3, ha, hv, hw⟩ := hw
      refine g_get (C := RX2) (T := TX2) (N := 3) V 2 rfl hin_RX2 (by decide) (by decide) ww_1_65 rfl ha hv dX2_isMarked_14 rfl ?_
      refine g_iload_n V dX2_isMarked_17 rfl rfl ?_
      obtain ⟨t9, vs, r4, ha, ht, h0, h9, hv, hw⟩ := hw
      refine gi_baloadZ V ha ht h0 h9 hv dX2_isMarked_18 rfl ?_
      obtain ⟨hx0, hw⟩ := hw
      refine gi_if_eq V dX2_isMarked_19 rfl rfl hx0 (fun q => ?_) (fun q => ?_)
      · have hw := ga_t q hw
        refine g_iconst V (Int32.ofInt 0) dX2_isMarked_26 rfl rfl ?_
        exact g_iret V rfl rfl dX2_isMarked_27 ⟨_, rfl, hw⟩
      · have hw := ga_f q hw
        refine g_iconst V (Int32.ofInt 1) dX2_isMarked_22 rfl rfl ?_
        refine g_goto V dX2_isMarked_23 rfl ?_
        exact g_iret V rfl rfl dX2_isMarked_27 ⟨_, rfl, hw⟩
def w_X2_goesOn (a0 : Nat) (a1 : Nat) (a2 : Int) (a3 : Nat) (h : gaH) (Q : Int → gaH → Prop) : Prop := w_X1_standsAt a1 a2 a3 h (fun r2 hp1 => gR r2 ∧ (if r2 = 0 then Q 0 hp1 else gI hp1 a3 4 1 (fun r3 => gHas hp1 a0 3 ∧ w_X2_isMarked a0 (a2 + r3) hp1 (fun r5 hp4 => gR r5 ∧ (if r5 = 0 then Q 0 hp4 else Q 1 hp4)))))
abbrev rm_X2_goesOn : Room := { frames := 2, cells := 0, slots := 0, locals := 44 }
theorem hd_X2_goesOn : yX2_goesOn.cls = RX2 ∧ (yX2_goesOn.cls ≠ "java/lang/invoke/MethodHandle" ∧ yX2_goesOn.cls ≠ "java/lang/invoke/VarHandle" ∧ (parseMethodDescriptor yX2_goesOn.desc).map (fun d => d.parameters.length) = some 3) := by decide +kernel
theorem k_X2_goesOn {l : Launch} (hst : l.stackTraces = false) {G : gaG} {X : String → gaH → Prop} {a0 : Nat} {a1 : Nat} {a2 : Int} {a3 : Nat} {h : gaH} {Q : Int → gaH → Prop} (hw : w_X2_goesOn a0 a1 a2 a3 h Q) : gaC l G yX2_goesOn (gaM yX2_goesOn cX2_goesOn 4 ((some .boolean))) rm_X2_goesOn [.ref a0, .ref a1, gi a2, .ref a3] h (gQi Q) X := by
  refine g_start (lv := [some (.ref a0), some (.ref a1), some (gi a2), some (.ref a3)]) hpl_RX2 hst (Nat.le_of_ble_eq_true rfl) (gaArgs_pad (z := 0) rfl) ww_3_154 ?_
  intro p e s m args below meth c V hT
  unfold w_X2_goesOn at hw
  refine g_aload_n V dX2_goesOn_0 rfl rfl ?_
  refine g_iload_n V dX2_goesOn_1 rfl rfl ?_
  refine g_aload_n V dX2_goesOn_2 rfl rfl ?_
  refine g_callS (st := []) V (k_X1_standsAt hst hw) ww_3_155 ww_3_156 ww_1_12 ww_3_157 hd_X1_standsAt ⟨by decide, by decide⟩ rfl rfl (ga_cat rfl) dX2_goesOn_3 (Nat.zero_le _) (Nat.zero_le _) rfl (gaX_all hT V) (ga_ki (fun r2 hp1 hw => ?_))
  obtain ⟨hx0, hw⟩ := hw
  refine gi_if_eq V dX2_goesOn_6 rfl rfl hx0 (fun q => ?_) (fun q => ?_)
  · have hw := ga_t q hw
    refine g_iconst V (Int32.ofInt 0) dX2_goesOn_26 rfl rfl ?_
    exact g_iret V rfl rfl dX2_goesOn_27 ⟨_, rfl, hw⟩
  · have hw := ga_f q hw
    refine g_aload_n V dX2_goesOn_9 rfl rfl ?_
    refine g_iload_n V dX2_goesOn_10 rfl rfl ?_
    refine g_aload_n V dX2_goesOn_11 rfl rfl ?_
    obtain ⟨fs, r3, ha, hv, hw⟩ := hw
    refine g_getN (C := RX4) (T := TX4) (N := 2) (host := "Wordgarden") V 1 rfl hin_RX4 (by decide) (by decide) gn_5 rfl ha hv dX2_goesOn_12 rfl ?_
    refine gi_iadd V dX2_goesOn_15 rfl ?_
    obtain ⟨hb, hw⟩ := hw
    obtain ⟨fb, hb⟩ := hb
    refine g_callV (C := RX2) (T := TX2) (N := 3) (st := []) V (k_X2_isMarked hst hw) ww_3_158 ww_3_160 wp_2_0 ww_1_2 ww_3_161 hd_X2_isMarked ⟨by decide, by decide⟩ rfl (by decide) hb rfl rfl (ga_cat rfl) dX2_goesOn_16 (Nat.zero_le _) (Nat.zero_le _) rfl (gaX_all hT V) (ga_ki (fun r5 hp4 hw => ?_))
    obtain ⟨hx0, hw⟩ := hw
    refine gi_if_eq V dX2_goesOn_19 rfl rfl hx0 (fun q => ?_) (fun q => ?_)
    · have hw := ga_t q hw
      refine g_iconst V (Int32.ofInt 0) dX2_goesOn_26 rfl rfl ?_
      exact g_iret V rfl rfl dX2_goesOn_27 ⟨_, rfl, hw⟩
    · have hw := ga_f q hw
      refine g_iconst V (Int32.ofInt 1) dX2_goesOn_22 rfl rfl ?_
      refine g_goto V dX2_goesOn_23 rfl ?_
      exact g_iret V rfl rfl dX2_goesOn_27 ⟨_, rfl, hw⟩
def w_X2_markImages_J56 (Q : gaH → Prop) (K8 : Nat → Nat → Int → gaH → Prop) (v0 : Nat) (v1 : Nat) (v2 : Int) (t0 : Nat) (t1 : Int) (t2 : Int) (h : gaH) : Prop := narrow .boolean (gi t2) = gi t2 ∧ gSI h t0 100 t1 (gi t2) (fun hp1 => K8 v0 v1 (v2 + (-1)) hp1)
def w_X2_markImages_J51 (Q : gaH → Prop) (K8 : Nat → Nat → Int → gaH → Prop) (v0 : Nat) (v1 : Nat) (v2 : Int) (t0 : Nat) (t1 : Int) (h : gaH) : Prop := w_X2_markImages_J56 Q K8 v0 v1 v2 t0 t1 1 h
def w_X2_markImages_L8 (Q : gaH → Prop) : Nat → (Nat → Nat → Int → gaH → Prop)
  | 0 => fun _ _ _ _ => False
  | n + 1 => fun v0 v1 v2 h => gR v2 ∧ (if v2 < 0 then Q h else gA h v0 3 2 (fun r1 => gI h v1 4 1 (fun r2 => gR v2 ∧ gR r2 ∧ (if v2 = r2 then w_X2_markImages_J51 Q (w_X2_markImages_L8 Q n) v0 v1 v2 r1 v2 h else gA h v0 3 0 (fun r3 => gHas h v0 3 ∧ w_X2_goesOn v0 v1 v2 r3 h (fun r5 hp4 => gR r5 ∧ (if r5 = 0 then gA hp4 v0 3 1 (fun r6 => gHas hp4 v0 3 ∧ w_X2_goesOn v0 v1 v2 r6 hp4 (fun r8 hp7 => gR r8 ∧ (if r8 = 0 then w_X2_markImages_J56 Q (w_X2_markImages_L8 Q n) v0 v1 v2 r1 v2 0 hp7 else w_X2_markImages_J51 Q (w_X2_markImages_L8 Q n) v0 v1 v2 r1 v2 hp7))) else w_X2_markImages_J51 Q (w_X2_markImages_L8 Q n) v0 v1 v2 r1 v2 hp4)))))))
def w_X2_markImages (a0 : Nat) (a1 : Nat) (h : gaH) (Q : gaH → Prop) : Prop := gA h a0 3 2 (fun r1 => gAL h r1 100 (fun r2 => ∃ z, w_X2_markImages_L8 Q z a0 a1 (r2 - 1) h))
abbrev rm_X2_markImages : Room := { frames := 3, cells := 0, slots := 0, locals := 67 }
theorem hd_X2_markImages : yX2_markImages.cls = RX2 ∧ (yX2_markImages.cls ≠ "java/lang/invoke/MethodHandle" ∧ yX2_markImages.cls ≠ "java/lang/invoke/VarHandle" ∧ (parseMethodDescriptor yX2_markImages.desc).map (fun d => d.parameters.length) = some 1) := by decide +kernel
theorem k_X2_markImages {l : Launch} (hst : l.stackTraces = false) {G : gaG} {X : String → gaH → Prop} {a0 : Nat} {a1 : Nat} {h : gaH} {Q : gaH → Prop} (hw : w_X2_markImages a0 a1 h Q) : gaC l G yX2_markImages (gaM yX2_markImages cX2_markImages 3 ((none : Option Jvm.ClassFile.FieldType))) rm_X2_markImages [.ref a0, .ref a1] h (gQv Q) X := by
  refine g_start (lv := [some (.ref a0), some (.ref a1), none]) hpl_RX2 hst (Nat.le_of_ble_eq_true rfl) (gaArgs_pad (z := 1) rfl) ww_3_150 ?_
  intro p e s m args below meth c V hT
  have h_X2_markImages_J56 : ∀ (K8 : Nat → Nat → Int → gaH → Prop), ∀ (hK8 : ∀ (v0 : Nat) (v1 : Nat) (v2 : Int) (h : gaH), K8 v0 v1 v2 h → gaP p l e rm_X2_markImages s m args below meth c G 3 (gaZ below G (gQv Q) X args s rm_X2_markImages) 8 [some (.ref v0), some (.ref v1), some (gi v2)] [] h 0 0), ∀ (v0 : Nat) (v1 : Nat) (v2 : Int) (t0 : Nat) (t1 : Int) (t2 : Int) (h : gaH), w_X2_markImages_J56 Q K8 v0 v1 v2 t0 t1 t2 h → gaP p l e rm_X2_markImages s m args below meth c G 3 (gaZ below G (gQv Q) X args s rm_X2_markImages) 56 [some (.ref v0), some (.ref v1), some (gi v2)] [gi t2, gi t1, .ref t0] h 0 0 := by
    intro K8 hK8
    intro v0 v1 v2 t0 t1 t2 h hw
    unfold w_X2_markImages_J56 at hw
    obtain ⟨hb, hw⟩ := hw
    obtain ⟨vs, ha, h0, h9, hi, hw⟩ := hw
    refine gi_bastoreZ V hb ha h0 h9 hi dX2_markImages_56 rfl ?_
    generalize gaUp h t0 _ = hp1 at hw ⊢
    refine gi_iinc (lv2 := [some (.ref v0), some (.ref v1), some (gi (v2 + (-1)))]) V dX2_markImages_57 (by decide) rfl rfl rfl rfl ?_
    refine g_goto V dX2_markImages_60 rfl ?_
    exact hK8 v0 v1 (v2 + (-1)) hp1 hw
  have h_X2_markImages_J51 : ∀ (K8 : Nat → Nat → Int → gaH → Prop), ∀ (hK8 : ∀ (v0 : Nat) (v1 : Nat) (v2 : Int) (h : gaH), K8 v0 v1 v2 h → gaP p l e rm_X2_markImages s m args below meth c G 3 (gaZ below G (gQv Q) X args s rm_X2_markImages) 8 [some (.ref v0), some (.ref v1), some (gi v2)] [] h 0 0), ∀ (v0 : Nat) (v1 : Nat) (v2 : Int) (t0 : Nat) (t1 : Int) (h : gaH), w_X2_markImages_J51 Q K8 v0 v1 v2 t0 t1 h → gaP p l e rm_X2_markImages s m args below meth c G 3 (gaZ below G (gQv Q) X args s rm_X2_markImages) 51 [some (.ref v0), some (.ref v1), some (gi v2)] [gi t1, .ref t0] h 0 0 := by
    intro K8 hK8
    intro v0 v1 v2 t0 t1 h hw
    unfold w_X2_markImages_J51 at hw
    refine g_iconst V (Int32.ofInt 1) dX2_markImages_51 rfl rfl ?_
    refine g_goto V dX2_markImages_52 rfl ?_
    exact h_X2_markImages_J56 K8 hK8 v0 v1 v2 t0 t1 1 h hw
  have h_X2_markImages_L8 : ∀ (n : Nat), ∀ (v0 : Nat) (v1 : Nat) (v2 : Int) (h : gaH), w_X2_markImages_L8 Q n v0 v1 v2 h → gaP p l e rm_X2_markImages s m args below meth c G 3 (gaZ below G (gQv Q) X args s rm_X2_markImages) 8 [some (.ref v0), some (.ref v1), some (gi v2)] [] h 0 0 := by
    intro n
    induction n with
    | zero =>
      intro v0 v1 v2 h hw
      exact hw.elim
    | succ n ih =>
      intro v0 v1 v2 h hw
      unfold w_X2_markImages_L8 at hw
      refine g_iload_n V dX2_markImages_8 rfl rfl ?_
      obtain ⟨hx0, hw⟩ := hw
      refine gi_if_lt V dX2_markImages_9 rfl rfl hx0 (fun q => ?_) (fun q => ?_)
      · have hw := ga_t q hw
        exact g_vret V rfl dX2_markImages_63 ⟨rfl, hw⟩
      · have hw := ga_f q hw
        refine g_aload_n V dX2_markImages_12 rfl rfl ?_
        obtain ⟨fs, r1, ha, hv, hw⟩ := hw
        refine g_get (C := RX2) (T := TX2) (N := 3) V 2 rfl hin_RX2 (by decide) (by decide) ww_1_65 rfl ha hv dX2_markImages_13 rfl ?_
        refine g_iload_n V dX2_markImages_16 rfl rfl ?_
        refine g_iload_n V dX2_markImages_17 rfl rfl ?_
        refine g_aload_n V dX2_markImages_18 rfl rfl ?_
        obtain ⟨fs, r2, ha, hv, hw⟩ := hw
        refine g_getN (C := RX4) (T := TX4) (N := 2) (host := "Wordgarden") V 1 rfl hin_RX4 (by decide) (by decide) gn_5 rfl ha hv dX2_markImages_19 rfl ?_
        obtain ⟨hx0, hx1, hw⟩ := hw
        refine gi_icmp_eq V dX2_markImages_22 rfl rfl hx0 hx1 (fun q => ?_) (fun q => ?_)
        · have hw := ga_t q hw
          exact h_X2_markImages_J51 (w_X2_markImages_L8 Q n) ih v0 v1 v2 r1 v2 h hw
        · have hw := ga_f q hw
          refine g_aload_n V dX2_markImages_25 rfl rfl ?_
          refine g_aload_n V dX2_markImages_26 rfl rfl ?_
          refine g_iload_n V dX2_markImages_27 rfl rfl ?_
          refine g_aload_n V dX2_markImages_28 rfl rfl ?_
          obtain ⟨fs, r3, ha, hv, hw⟩ := hw
          refine g_get (C := RX2) (T := TX2) (N := 3) V 0 rfl hin_RX2 (by decide) (by decide) ww_1_63 rfl ha hv dX2_markImages_29 rfl ?_
          obtain ⟨hb, hw⟩ := hw
          obtain ⟨fb, hb⟩ := hb
          refine g_callV (C := RX2) (T := TX2) (N := 3) (st := [gi v2, .ref r1]) V (k_X2_goesOn hst hw) ww_3_151 ww_3_153 wp_1_15 ww_1_2 ww_3_154 hd_X2_goesOn ⟨by decide, by decide⟩ rfl (by decide) hb rfl rfl (ga_cat rfl) dX2_markImages_32 (Nat.zero_le _) (Nat.zero_le _) rfl (gaX_all hT V) (ga_ki (fun r5 hp4 hw => ?_))
          obtain ⟨hx0, hw⟩ := hw
          refine gi_if_ne V dX2_markImages_35 rfl rfl hx0 (fun q => ?_) (fun q => ?_)
          · have hw := ga_f q hw
            exact h_X2_markImages_J51 (w_X2_markImages_L8 Q n) ih v0 v1 v2 r1 v2 hp4 hw
          · have hw := ga_t q hw
            refine g_aload_n V dX2_markImages_38 rfl rfl ?_
            refine g_aload_n V dX2_markImages_39 rfl rfl ?_
            refine g_iload_n V dX2_markImages_40 rfl rfl ?_
            refine g_aload_n V dX2_markImages_41 rfl rfl ?_
            obtain ⟨fs, r6, ha, hv, hw⟩ := hw
            refine g_get (C := RX2) (T := TX2) (N := 3) V 1 rfl hin_RX2 (by decide) (by decide) ww_1_64 rfl ha hv dX2_markImages_42 rfl ?_
            obtain ⟨hb, hw⟩ := hw
            obtain ⟨fb, hb⟩ := hb
            refine g_callV (C := RX2) (T := TX2) (N := 3) (st := [gi v2, .ref r1]) V (k_X2_goesOn hst hw) ww_3_151 ww_3_153 wp_1_15 ww_1_2 ww_3_154 hd_X2_goesOn ⟨by decide, by decide⟩ rfl (by decide) hb rfl rfl (ga_cat rfl) dX2_markImages_45 (Nat.zero_le _) (Nat.zero_le _) rfl (gaX_all hT V) (ga_ki (fun r8 hp7 hw => ?_))
            obtain ⟨hx0, hw⟩ := hw
            refine gi_if_eq V dX2_markImages_48 rfl rfl hx0 (fun q => ?_) (fun q => ?_)
            · have hw := ga_t q hw
              refine g_iconst V (Int32.ofInt 0) dX2_markImages_55 rfl rfl ?_
              exact h_X2_markImages_J56 (w_X2_markImages_L8 Q n) ih v0 v1 v2 r1 v2 0 hp7 hw
            · have hw := ga_f q hw
              exact h_X2_markImages_J51 (w_X2_markImages_L8 Q n) ih v0 v1 v2 r1 v2 hp7 hw
  unfold w_X2_markImages at hw
  refine g_aload_n V dX2_markImages_0 rfl rfl ?_
  obtain ⟨fs, r1, ha, hv, hw⟩ := hw
  refine g_get (C := RX2) (T := TX2) (N := 3) V 2 rfl hin_RX2 (by decide) (by decide) ww_1_65 rfl ha hv dX2_markImages_1 rfl ?_
  obtain ⟨t9, vs, ha, ht, hw⟩ := hw
  refine gi_arraylength (t0 := 100) V (by simp [gaT]) ha ht dX2_markImages_4 rfl ?_
  generalize (vs.length : Int) = r2 at hw ⊢
  refine g_iconst V (Int32.ofInt 1) dX2_markImages_5 rfl rfl ?_
  refine gi_isub V dX2_markImages_6 rfl ?_
  refine g_istore_n (lv2 := [some (.ref a0), some (.ref a1), some (gi (r2 - 1))]) V dX2_markImages_7 (by decide) rfl rfl rfl ?_
  obtain ⟨z, hw⟩ := hw
  exact h_X2_markImages_L8 z a0 a1 (r2 - 1) h hw
def w_X2_layOrigin_J58 (Q : Int → gaH → Prop) (K24 : Nat → Nat → Nat → Int → Int → gaH → Prop) (v0 : Nat) (v1 : Nat) (v2 : Nat) (v4 : Int) (t0 : Int) (h : gaH) : Prop := gHas h v2 4 ∧ w_X4_add v2 t0 h (fun hp1 => gR t0 ∧ (if t0 = 0 then gA hp1 v0 3 0 (fun r3 => gI hp1 r3 4 1 (fun r4 => K24 v0 v1 v2 (v4 + r4) (v4 + 1) hp1)) else gA hp1 v0 3 1 (fun r5 => gI hp1 r5 4 1 (fun r6 => K24 v0 v1 v2 (v4 + r6) (v4 + 1) hp1))))
def w_X2_layOrigin_L24 (Q : Int → gaH → Prop) : Nat → (Nat → Nat → Nat → Int → Int → gaH → Prop)
  | 0 => fun _ _ _ _ _ _ => False
  | n + 1 => fun v0 v1 v2 v3 v4 h => gI h v1 4 1 (fun r1 => gR v4 ∧ gR r1 ∧ (if r1 ≤ v4 then Q 1 h else gR v4 ∧ gR v3 ∧ (if v4 = v3 then gA h v0 3 0 (fun r2 => gHas h v0 3 ∧ w_X2_goesOn v0 v1 v4 r2 h (fun r4 hp3 => gR r4 ∧ (if r4 = 0 then w_X2_layOrigin_J58 Q (w_X2_layOrigin_L24 Q n) v0 v1 v2 v4 1 hp3 else w_X2_layOrigin_J58 Q (w_X2_layOrigin_L24 Q n) v0 v1 v2 v4 0 hp3))) else w_X2_layOrigin_L24 Q n v0 v1 v2 v3 (v4 + 1) h)))
def w_X2_layOrigin (a0 : Nat) (a1 : Nat) (a2 : Nat) (h : gaH) (Q : Int → gaH → Prop) : Prop := gHas h a0 3 ∧ w_X2_markImages a0 a1 h (fun hp1 => gHas hp1 a0 3 ∧ w_X2_isMarked a0 0 hp1 (fun r4 hp3 => gR r4 ∧ (if r4 = 0 then Q 0 hp3 else gHas hp3 a2 4 ∧ w_X4_clear a2 hp3 (fun hp5 => ∃ z, w_X2_layOrigin_L24 Q z a0 a1 a2 0 0 hp5))))
abbrev rm_X2_layOrigin : Room := { frames := 4, cells := 0, slots := 0, locals := 89 }
theorem hd_X2_layOrigin : yX2_layOrigin.cls = RX2 ∧ (yX2_layOrigin.cls ≠ "java/lang/invoke/MethodHandle" ∧ yX2_layOrigin.cls ≠ "java/lang/invoke/VarHandle" ∧ (parseMethodDescriptor yX2_layOrigin.desc).map (fun d => d.parameters.length) = some 2) := by decide +kernel
theorem k_X2_layOrigin {l : Launch} (hst : l.stackTraces = false) {G : gaG} {X : String → gaH → Prop} {a0 : Nat} {a1 : Nat} {a2 : Nat} {h : gaH} {Q : Int → gaH → Prop} (hw : w_X2_layOrigin a0 a1 a2 h Q) : gaC l G yX2_layOrigin (gaM yX2_layOrigin cX2_layOrigin 6 ((some .boolean))) rm_X2_layOrigin [.ref a0, .ref a1, .ref a2] h (gQi Q) X := by
  refine g_start (lv := [some (.ref a0), some (.ref a1), some (.ref a2), none, none, none]) hpl_RX2 hst (Nat.le_of_ble_eq_true rfl) (gaArgs_pad (z := 3) rfl) ww_3_146 ?_
  intro p e s m args below meth c V hT
  have h_X2_layOrigin_J58 : ∀ (K24 : Nat → Nat → Nat → Int → Int → gaH → Prop), ∀ (hK24 : ∀ (v0 : Nat) (v1 : Nat) (v2 : Nat) (v3 : Int) (v4 : Int) (h : gaH), K24 v0 v1 v2 v3 v4 h → gaP p l e rm_X2_layOrigin s m args below meth c G 6 (gaZ below G (gQi Q) X args s rm_X2_layOrigin) 24 [some (.ref v0), some (.ref v1), some (.ref v2), some (gi v3), some (gi v4), none] [] h 0 0), ∀ (v0 : Nat) (v1 : Nat) (v2 : Nat) (v4 : Int) (t0 : Int) (h : gaH), w_X2_layOrigin_J58 Q K24 v0 v1 v2 v4 t0 h → gaP p l e rm_X2_layOrigin s m args below meth c G 6 (gaZ below G (gQi Q) X args s rm_X2_layOrigin) 58 [some (.ref v0), some (.ref v1), some (.ref v2), none, some (gi v4), none] [gi t0] h 0 0 := by
    intro K24 hK24
    intro v0 v1 v2 v4 t0 h hw
    unfold w_X2_layOrigin_J58 at hw
    refine g_istore (lv2 := [some (.ref v0), some (.ref v1), some (.ref v2), none, some (gi v4), some (gi t0)]) V dX2_layOrigin_58 (by decide) rfl rfl rfl ?_
    refine g_aload_n V dX2_layOrigin_60 rfl rfl ?_
    refine g_iload V dX2_layOrigin_61 rfl rfl ?_
    obtain ⟨hb, hw⟩ := hw
    obtain ⟨fb, hb⟩ := hb
    refine g_callV (C := RX4) (T := TX4) (N := 2) (st := []) V (k_X4_add hst hw) ww_3_162 ww_1_90 ww_1_91 ww_1_3 ww_1_92 hd_X4_add ⟨by decide, by decide⟩ rfl (by decide) hb rfl rfl (ga_cat rfl) dX2_layOrigin_63 (Nat.zero_le _) (Nat.zero_le _) rfl (gaX_all hT V) (ga_kv (fun hp1 hw => ?_))
    refine g_iload V dX2_layOrigin_66 rfl rfl ?_
    refine g_iload V dX2_layOrigin_68 rfl rfl ?_
    obtain ⟨hx0, hw⟩ := hw
    refine gi_if_eq V dX2_layOrigin_70 rfl rfl hx0 (fun q => ?_) (fun q => ?_)
    · have hw := ga_t q hw
      refine g_aload_n V dX2_layOrigin_83 rfl rfl ?_
      obtain ⟨fs, r3, ha, hv, hw⟩ := hw
      refine g_get (C := RX2) (T := TX2) (N := 3) V 0 rfl hin_RX2 (by decide) (by decide) ww_1_63 rfl ha hv dX2_layOrigin_84 rfl ?_
      obtain ⟨fs, r4, ha, hv, hw⟩ := hw
      refine g_getN (C := RX4) (T := TX4) (N := 2) (host := "Wordgarden") V 1 rfl hin_RX4 (by decide) (by decide) gn_5 rfl ha hv dX2_layOrigin_87 rfl ?_
      refine gi_iadd V dX2_layOrigin_90 rfl ?_
      refine g_istore_n (lv2 := [some (.ref v0), some (.ref v1), some (.ref v2), some (gi (v4 + r4)), some (gi v4), some (gi t0)]) V dX2_layOrigin_91 (by decide) rfl rfl rfl ?_
      refine gi_iinc (lv2 := [some (.ref v0), some (.ref v1), some (.ref v2), some (gi (v4 + r4)), some (gi (v4 + 1)), some (gi t0)]) V dX2_layOrigin_92 (by decide) rfl rfl rfl rfl ?_
      refine g_goto V dX2_layOrigin_95 rfl ?_
      refine g_less (bs := [true, true, true, true, true, false]) (lv2 := [some (.ref v0), some (.ref v1), some (.ref v2), some (gi (v4 + r4)), some (gi (v4 + 1)), none]) rfl ?_
      exact hK24 v0 v1 v2 (v4 + r4) (v4 + 1) hp1 hw
    · have hw := ga_f q hw
      refine g_aload_n V dX2_layOrigin_73 rfl rfl ?_
      obtain ⟨fs, r5, ha, hv, hw⟩ := hw
      refine g_get (C := RX2) (T := TX2) (N := 3) V 1 rfl hin_RX2 (by decide) (by decide) ww_1_64 rfl ha hv dX2_layOrigin_74 rfl ?_
      obtain ⟨fs, r6, ha, hv, hw⟩ := hw
      refine g_getN (C := RX4) (T := TX4) (N := 2) (host := "Wordgarden") V 1 rfl hin_RX4 (by decide) (by decide) gn_5 rfl ha hv dX2_layOrigin_77 rfl ?_
      refine g_goto V dX2_layOrigin_80 rfl ?_
      refine gi_iadd V dX2_layOrigin_90 rfl ?_
      refine g_istore_n (lv2 := [some (.ref v0), some (.ref v1), some (.ref v2), some (gi (v4 + r6)), some (gi v4), some (gi t0)]) V dX2_layOrigin_91 (by decide) rfl rfl rfl ?_
      refine gi_iinc (lv2 := [some (.ref v0), some (.ref v1), some (.ref v2), some (gi (v4 + r6)), some (gi (v4 + 1)), some (gi t0)]) V dX2_layOrigin_92 (by decide) rfl rfl rfl rfl ?_
      refine g_goto V dX2_layOrigin_95 rfl ?_
      refine g_less (bs := [true, true, true, true, true, false]) (lv2 := [some (.ref v0), some (.ref v1), some (.ref v2), some (gi (v4 + r6)), some (gi (v4 + 1)), none]) rfl ?_
      exact hK24 v0 v1 v2 (v4 + r6) (v4 + 1) hp1 hw
  have h_X2_layOrigin_L24 : ∀ (n : Nat), ∀ (v0 : Nat) (v1 : Nat) (v2 : Nat) (v3 : Int) (v4 : Int) (h : gaH), w_X2_layOrigin_L24 Q n v0 v1 v2 v3 v4 h → gaP p l e rm_X2_layOrigin s m args below meth c G 6 (gaZ below G (gQi Q) X args s rm_X2_layOrigin) 24 [some (.ref v0), some (.ref v1), some (.ref v2), some (gi v3), some (gi v4), none] [] h 0 0 := by
    intro n
    induction n with
    | zero =>
      intro v0 v1 v2 v3 v4 h hw
      exact hw.elim
    | succ n ih =>
      intro v0 v1 v2 v3 v4 h hw
      unfold w_X2_layOrigin_L24 at hw
      refine g_iload V dX2_layOrigin_24 rfl rfl ?_
      refine g_aload_n V dX2_layOrigin_26 rfl rfl ?_
      obtain ⟨fs, r1, ha, hv, hw⟩ := hw
      refine g_getN (C := RX4) (T := TX4) (N := 2) (host := "Wordgarden") V 1 rfl hin_RX4 (by decide) (by decide) gn_5 rfl ha hv dX2_layOrigin_27 rfl ?_
      obtain ⟨hx0, hx1, hw⟩ := hw
      refine gi_icmp_ge V dX2_layOrigin_30 rfl rfl hx0 hx1 (fun q => ?_) (fun q => ?_)
      · have hw := ga_t q hw
        refine g_iconst V (Int32.ofInt 1) dX2_layOrigin_98 rfl rfl ?_
        exact g_iret V rfl rfl dX2_layOrigin_99 ⟨_, rfl, hw⟩
      · have hw := ga_f q hw
        refine g_iload V dX2_layOrigin_33 rfl rfl ?_
        refine g_iload_n V dX2_layOrigin_35 rfl rfl ?_
        obtain ⟨hx0, hx1, hw⟩ := hw
        refine gi_icmp_ne V dX2_layOrigin_36 rfl rfl hx0 hx1 (fun q => ?_) (fun q => ?_)
        · have hw := ga_f q hw
          refine gi_iinc (lv2 := [some (.ref v0), some (.ref v1), some (.ref v2), some (gi v3), some (gi (v4 + 1)), none]) V dX2_layOrigin_92 (by decide) rfl rfl rfl rfl ?_
          refine g_goto V dX2_layOrigin_95 rfl ?_
          exact ih v0 v1 v2 v3 (v4 + 1) h hw
        · have hw := ga_t q hw
          refine g_aload_n V dX2_layOrigin_39 rfl rfl ?_
          refine g_aload_n V dX2_layOrigin_40 rfl rfl ?_
          refine g_iload V dX2_layOrigin_41 rfl rfl ?_
          refine g_aload_n V dX2_layOrigin_43 rfl rfl ?_
          obtain ⟨fs, r2, ha, hv, hw⟩ := hw
          refine g_get (C := RX2) (T := TX2) (N := 3) V 0 rfl hin_RX2 (by decide) (by decide) ww_1_63 rfl ha hv dX2_layOrigin_44 rfl ?_
          obtain ⟨hb, hw⟩ := hw
          obtain ⟨fb, hb⟩ := hb
          refine g_callV (C := RX2) (T := TX2) (N := 3) (st := []) V (k_X2_goesOn hst hw) ww_3_151 ww_3_153 wp_1_15 ww_1_2 ww_3_154 hd_X2_goesOn ⟨by decide, by decide⟩ rfl (by decide) hb rfl rfl (ga_cat rfl) dX2_layOrigin_47 (Nat.zero_le _) (Nat.zero_le _) rfl (gaX_all hT V) (ga_ki (fun r4 hp3 hw => ?_))
          obtain ⟨hx0, hw⟩ := hw
          refine gi_if_ne V dX2_layOrigin_50 rfl rfl hx0 (fun q => ?_) (fun q => ?_)
          · have hw := ga_f q hw
            refine g_iconst V (Int32.ofInt 0) dX2_layOrigin_57 rfl rfl ?_
            refine g_less (bs := [true, true, true, false, true, true]) (lv2 := [some (.ref v0), some (.ref v1), some (.ref v2), none, some (gi v4), none]) rfl ?_
            exact h_X2_layOrigin_J58 (w_X2_layOrigin_L24 Q n) ih v0 v1 v2 v4 0 hp3 hw
          · have hw := ga_t q hw
            refine g_iconst V (Int32.ofInt 1) dX2_layOrigin_53 rfl rfl ?_
            refine g_goto V dX2_layOrigin_54 rfl ?_
            refine g_less (bs := [true, true, true, false, true, true]) (lv2 := [some (.ref v0), some (.ref v1), some (.ref v2), none, some (gi v4), none]) rfl ?_
            exact h_X2_layOrigin_J58 (w_X2_layOrigin_L24 Q n) ih v0 v1 v2 v4 1 hp3 hw
  unfold w_X2_layOrigin at hw
  refine g_aload_n V dX2_layOrigin_0 rfl rfl ?_
  refine g_aload_n V dX2_layOrigin_1 rfl rfl ?_
  obtain ⟨hb, hw⟩ := hw
  obtain ⟨fb, hb⟩ := hb
  refine g_callV (C := RX2) (T := TX2) (N := 3) (st := []) V (k_X2_markImages hst hw) ww_3_147 ww_3_149 wp_1_14 ww_1_2 ww_3_150 hd_X2_markImages ⟨by decide, by decide⟩ rfl (by decide) hb rfl rfl (ga_cat rfl) dX2_layOrigin_2 (Nat.zero_le _) (Nat.zero_le _) rfl (gaX_all hT V) (ga_kv (fun hp1 hw => ?_))
  refine g_aload_n V dX2_layOrigin_5 rfl rfl ?_
  refine g_iconst V (Int32.ofInt 0) dX2_layOrigin_6 rfl rfl ?_
  obtain ⟨hb, hw⟩ := hw
  obtain ⟨fb, hb⟩ := hb
  refine g_callV (C := RX2) (T := TX2) (N := 3) (st := []) V (k_X2_isMarked hst hw) ww_3_158 ww_3_160 wp_2_0 ww_1_2 ww_3_161 hd_X2_isMarked ⟨by decide, by decide⟩ rfl (by decide) hb rfl rfl (ga_cat rfl) dX2_layOrigin_7 (Nat.zero_le _) (Nat.zero_le _) rfl (gaX_all hT V) (ga_ki (fun r4 hp3 hw => ?_))
  obtain ⟨hx0, hw⟩ := hw
  refine gi_if_ne V dX2_layOrigin_10 rfl rfl hx0 (fun q => ?_) (fun q => ?_)
  · have hw := ga_f q hw
    refine g_aload_n V dX2_layOrigin_15 rfl rfl ?_
    obtain ⟨hb, hw⟩ := hw
    obtain ⟨fb, hb⟩ := hb
    refine g_callV (C := RX4) (T := TX4) (N := 2) (st := []) V (k_X4_clear hst hw) ww_2_43 ww_1_86 ww_1_87 ww_1_3 ww_1_88 hd_X4_clear ⟨by decide, by decide⟩ rfl (by decide) hb rfl rfl (ga_cat rfl) dX2_layOrigin_16 (Nat.zero_le _) (Nat.zero_le _) rfl (gaX_all hT V) (ga_kv (fun hp5 hw => ?_))
    refine g_iconst V (Int32.ofInt 0) dX2_layOrigin_19 rfl rfl ?_
    refine g_istore_n (lv2 := [some (.ref a0), some (.ref a1), some (.ref a2), some (gi 0), none, none]) V dX2_layOrigin_20 (by decide) rfl rfl rfl ?_
    refine g_iconst V (Int32.ofInt 0) dX2_layOrigin_21 rfl rfl ?_
    refine g_istore (lv2 := [some (.ref a0), some (.ref a1), some (.ref a2), some (gi 0), some (gi 0), none]) V dX2_layOrigin_22 (by decide) rfl rfl rfl ?_
    obtain ⟨z, hw⟩ := hw
    exact h_X2_layOrigin_L24 z a0 a1 a2 0 0 hp5 hw
  · have hw := ga_t q hw
    refine g_iconst V (Int32.ofInt 0) dX2_layOrigin_13 rfl rfl ?_
    exact g_iret V rfl rfl dX2_layOrigin_14 ⟨_, rfl, hw⟩
def w_X6_init (a0 : Nat) (h : gaH) (Q : gaH → Prop) : Prop := Q h
abbrev rm_X6_init : Room := { frames := 2, cells := 0, slots := 0, locals := 60 }
theorem hd_X6_init : (yX6_init.cls ≠ "java/lang/invoke/MethodHandle" ∧ yX6_init.cls ≠ "java/lang/invoke/VarHandle" ∧ (parseMethodDescriptor yX6_init.desc).map (fun d => d.parameters.length) = some 0) := by decide +kernel
theorem k_X6_init {l : Launch} (hst : l.stackTraces = false) {G : gaG} {X : String → gaH → Prop} {a0 : Nat} {h : gaH} {Q : gaH → Prop} (hw : w_X6_init a0 h Q) : gaC l G yX6_init (gaM yX6_init cX6_init 1 ((none : Option Jvm.ClassFile.FieldType))) rm_X6_init [.ref a0] h (gQv Q) X := by
  refine g_start (lv := [some (.ref a0)]) hpl_RX6 hst (Nat.le_of_ble_eq_true rfl) (gaArgs_pad (z := 0) rfl) ww_2_196 ?_
  intro p e s m args below meth c V hT
  unfold w_X6_init at hw
  refine g_aload_n V dX6_init_0 rfl rfl ?_
  refine g_objInit V ww_2_197 ww_1_32 ww_1_33 dX6_init_1 (by decide) (by decide) (ga_cat rfl) rfl ?_
  exact g_vret V rfl dX6_init_4 ⟨rfl, hw⟩
