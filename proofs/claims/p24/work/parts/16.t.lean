def w_X1_textOf_J34 (G : gaG) (Q : Nat → gaH → Prop) (K10 : Nat → Nat → Int → gaH → Nat → Nat → Prop) (v0 : Nat) (v1 : Nat) (v2 : Int) (t0 : Nat) (t1 : Int) (h : gaH) (kc ks : Nat) : Prop := gHas h t0 1 ∧ gCall 2 134 kc ks (fun c3 s4 => w_J4_append_cf468 G t0 t1 h (fun r2 hp1 => K10 v0 v1 (v2 + 1) hp1 c3 s4))
def w_X1_textOf_L10 (G : gaG) (Q : Nat → gaH → Prop) : Nat → (Nat → Nat → Int → gaH → Nat → Nat → Prop)
  | 0 => fun _ _ _ _ _ _ => False
  | n + 1 => fun v0 v1 v2 h kc ks => gI h v0 4 1 (fun r1 => gR v2 ∧ gR r1 ∧ (if r1 ≤ v2 then gHas h v1 1 ∧ gCall 5 272 kc ks (fun c4 s5 => w_J4_toString_0e30d G v1 h (fun r3 hp2 => Q r3 hp2)) else gHas h v0 4 ∧ w_X4_isUp v0 v2 h (fun r7 hp6 => gR r7 ∧ (if r7 = 0 then w_X1_textOf_J34 G Q (w_X1_textOf_L10 G Q n) v0 v1 v2 v1 97 hp6 kc ks else w_X1_textOf_J34 G Q (w_X1_textOf_L10 G Q n) v0 v1 v2 v1 98 hp6 kc ks))))
def w_X1_textOf (G : gaG) (a0 : Nat) (h : gaH) (Q : Nat → gaH → Prop) : Prop := gNO h 1 4 ([.null, gi 0, gi 0, gi 0]) 135 8916 (fun o1 hp2 c3 s4 => gCall 1 64 c3 s4 (fun c7 s8 => w_J4_init_da8c8 G o1 hp2 (fun hp5 => ∃ z, w_X1_textOf_L10 G Q z a0 o1 0 hp5 c7 s8)))
abbrev rm_X1_textOf : Room := { frames := 7, cells := 135, slots := 8916, locals := 172 }
theorem hd_X1_textOf : (yX1_textOf.cls ≠ "java/lang/invoke/MethodHandle" ∧ yX1_textOf.cls ≠ "java/lang/invoke/VarHandle" ∧ (parseMethodDescriptor yX1_textOf.desc).map (fun d => d.parameters.length) = some 1) := by decide +kernel
theorem k_X1_textOf {l : Launch} (hst : l.stackTraces = false) {G : gaG} {X : String → gaH → Prop} {a0 : Nat} {h : gaH} {Q : Nat → gaH → Prop} (hw : w_X1_textOf G a0 h Q) : gaC l G yX1_textOf (gaM yX1_textOf cX1_textOf 3 ((some (.object "java/lang/String")))) rm_X1_textOf [.ref a0] h (gQa Q) X := by
  refine g_start (lv := [some (.ref a0), none, none]) hpl_RX1 hst (Nat.le_of_ble_eq_true rfl) (gaArgs_pad (z := 2) rfl) ww_4_24 ?_
  intro p e s m args below meth c V hT
  have h_X1_textOf_J34 : ∀ (K10 : Nat → Nat → Int → gaH → Nat → Nat → Prop), ∀ (hK10 : ∀ (v0 : Nat) (v1 : Nat) (v2 : Int) (h : gaH) (kc ks : Nat), K10 v0 v1 v2 h kc ks → gaP p l e rm_X1_textOf s m args below meth c G 3 (gaZ below G (gQa Q) X args s rm_X1_textOf) 10 [some (.ref v0), some (.ref v1), some (gi v2)] [] h kc ks), ∀ (v0 : Nat) (v1 : Nat) (v2 : Int) (t0 : Nat) (t1 : Int) (h : gaH) (kc ks : Nat), w_X1_textOf_J34 G Q K10 v0 v1 v2 t0 t1 h kc ks → gaP p l e rm_X1_textOf s m args below meth c G 3 (gaZ below G (gQa Q) X args s rm_X1_textOf) 34 [some (.ref v0), some (.ref v1), some (gi v2)] [gi t1, .ref t0] h kc ks := by
    intro K10 hK10
    intro v0 v1 v2 t0 t1 h kc ks hw
    unfold w_X1_textOf_J34 at hw
    obtain ⟨hb, hw⟩ := hw
    obtain ⟨fb, hb⟩ := hb
    obtain ⟨hk, hj, c3, s4, ec, es, hw⟩ := hw
    refine g_callV (C := RJ4) (T := TJ4) (N := 4) (st := []) V (k_J4_append_cf468 hst hw) ww_4_56 ww_4_57 ww_4_58 ww_1_18 ww_4_59 hd_J4_append_cf468 ⟨by decide, by decide⟩ rfl (by decide) hb rfl rfl (ga_cat rfl) dX1_textOf_34 hk hj rfl (gaX_all hT V) (ga_ka (fun r2 hp1 hw => ?_))
    refine ga_re ec es ?_
    refine g_pop V dX1_textOf_37 rfl rfl ?_
    refine gi_iinc (lv2 := [some (.ref v0), some (.ref v1), some (gi (v2 + 1))]) V dX1_textOf_38 (by decide) rfl rfl rfl rfl ?_
    refine g_goto V dX1_textOf_41 rfl ?_
    exact hK10 v0 v1 (v2 + 1) hp1 c3 s4 hw
  have h_X1_textOf_L10 : ∀ (n : Nat), ∀ (v0 : Nat) (v1 : Nat) (v2 : Int) (h : gaH) (kc ks : Nat), w_X1_textOf_L10 G Q n v0 v1 v2 h kc ks → gaP p l e rm_X1_textOf s m args below meth c G 3 (gaZ below G (gQa Q) X args s rm_X1_textOf) 10 [some (.ref v0), some (.ref v1), some (gi v2)] [] h kc ks := by
    intro n
    induction n with
    | zero =>
      intro v0 v1 v2 h kc ks hw
      exact hw.elim
    | succ n ih =>
      intro v0 v1 v2 h kc ks hw
      unfold w_X1_textOf_L10 at hw
      refine g_iload_n V dX1_textOf_10 rfl rfl ?_
      refine g_aload_n V dX1_textOf_11 rfl rfl ?_
      obtain ⟨fs, r1, ha, hv, hw⟩ := hw
      refine g_getN (C := RX4) (T := TX4) (N := 2) (host := "Wordgarden") V 1 rfl hin_RX4 (by decide) (by decide) gn_2 rfl ha hv dX1_textOf_12 rfl ?_
      obtain ⟨hx0, hx1, hw⟩ := hw
      refine gi_icmp_ge V dX1_textOf_15 rfl rfl hx0 hx1 (fun q => ?_) (fun q => ?_)
      · have hw := ga_t q hw
        refine g_aload_n V dX1_textOf_44 rfl rfl ?_
        obtain ⟨hb, hw⟩ := hw
        obtain ⟨fb, hb⟩ := hb
        obtain ⟨hk, hj, c4, s5, ec, es, hw⟩ := hw
        refine g_callV (C := RJ4) (T := TJ4) (N := 4) (st := []) V (k_J4_toString_0e30d hst hw) ww_4_147 ww_4_148 ww_4_149 ww_1_18 ww_4_150 hd_J4_toString_0e30d ⟨by decide, by decide⟩ rfl (by decide) hb rfl rfl (ga_cat rfl) dX1_textOf_45 hk hj rfl (gaX_all hT V) (ga_ka (fun r3 hp2 hw => ?_))
        refine ga_re ec es ?_
        exact g_aret V rfl (by first | exact Or.inl ⟨_, rfl⟩ | exact Or.inr ⟨_, rfl⟩) dX1_textOf_48 ⟨_, rfl, hw⟩
      · have hw := ga_f q hw
        refine g_aload_n V dX1_textOf_18 rfl rfl ?_
        refine g_aload_n V dX1_textOf_19 rfl rfl ?_
        refine g_iload_n V dX1_textOf_20 rfl rfl ?_
        obtain ⟨hb, hw⟩ := hw
        obtain ⟨fb, hb⟩ := hb
        refine g_callV (C := RX4) (T := TX4) (N := 2) (st := [.ref v1]) V (k_X4_isUp hst hw) ww_1_239 ww_1_228 ww_1_229 ww_1_3 ww_1_230 hd_X4_isUp ⟨by decide, by decide⟩ rfl (by decide) hb rfl rfl (ga_cat rfl) dX1_textOf_21 (Nat.zero_le _) (Nat.zero_le _) rfl (gaX_all hT V) (ga_ki (fun r7 hp6 hw => ?_))
        obtain ⟨hx0, hw⟩ := hw
        refine gi_if_eq V dX1_textOf_24 rfl rfl hx0 (fun q => ?_) (fun q => ?_)
        · have hw := ga_t q hw
          refine g_bipush V (Int32.ofInt 97) dX1_textOf_32 rfl rfl ?_
          exact h_X1_textOf_J34 (w_X1_textOf_L10 G Q n) ih v0 v1 v2 v1 97 hp6 kc ks hw
        · have hw := ga_f q hw
          refine g_bipush V (Int32.ofInt 98) dX1_textOf_27 rfl rfl ?_
          refine g_goto V dX1_textOf_29 rfl ?_
          exact h_X1_textOf_J34 (w_X1_textOf_L10 G Q n) ih v0 v1 v2 v1 98 hp6 kc ks hw
  show gaP p l e rm_X1_textOf s m args below meth c G 3 (gaZ below G (gQa Q) X args s rm_X1_textOf) 0 [some (.ref a0), none, none] [] h 135 8916
  unfold w_X1_textOf at hw
  obtain ⟨hk, hj, hw⟩ := hw
  refine g_new (ci := 1) (C := RJ4) (T := TJ4) (N := 4) (fs := [.null, gi 0, gi 0, gi 0]) V tyJ4 tyJ4_ok rfl hin_RJ4 (by decide) ww_4_25 ww_4_26 ww_1_18 hdf_RJ4 dX1_textOf_0 rfl hk hj (fun o1 hf => ?_)
  obtain ⟨c3, s4, ec, es, hw⟩ := hw o1 hf
  refine ga_re ec es ?_
  generalize gaUp h o1 _ = hp2 at hw ⊢
  refine g_dup V dX1_textOf_3 rfl rfl ?_
  obtain ⟨hk, hj, c7, s8, ec, es, hw⟩ := hw
  refine g_callI (st := [.ref o1]) V (k_J4_init_da8c8 hst hw) ww_4_27 ww_4_28 ww_1_18 ww_4_29 rfl hd_J4_init_da8c8 ⟨by decide, by decide⟩ rfl rfl (ga_cat rfl) dX1_textOf_4 hk hj rfl (gaX_all hT V) (ga_kv (fun hp5 hw => ?_))
  refine ga_re ec es ?_
  refine g_astore_n (lv2 := [some (.ref a0), some (.ref o1), none]) V dX1_textOf_7 (by decide) rfl rfl rfl ?_
  refine g_iconst V (Int32.ofInt 0) dX1_textOf_8 rfl rfl ?_
  refine g_istore_n (lv2 := [some (.ref a0), some (.ref o1), some (gi 0)]) V dX1_textOf_9 (by decide) rfl rfl rfl ?_
  obtain ⟨z, hw⟩ := hw
  exact h_X1_textOf_L10 z a0 o1 0 hp5 c7 s8 hw
def w_X5_grown (G : gaG) (X : String → gaH → Prop) (a0 : Nat) (a1 : Int) (a2 : Int) (h : gaH) (Q : Nat → gaH → Prop) : Prop := gHas h a0 5 ∧ gCall 1 6 136 8922 (fun c3 s4 => w_X5_growthOf X a0 a1 h (fun r2 hp1 => gHas hp1 r2 2 ∧ w_X0_wordBy r2 a2 hp1 (fun r6 hp5 => gCall 135 8916 c3 s4 (fun c9 s10 => w_X1_textOf G r6 hp5 (fun r8 hp7 => Q r8 hp7)))))
abbrev rm_X5_grown : Room := { frames := 9, cells := 136, slots := 8922, locals := 221 }
theorem hd_X5_grown : yX5_grown.cls = RX5 ∧ (yX5_grown.cls ≠ "java/lang/invoke/MethodHandle" ∧ yX5_grown.cls ≠ "java/lang/invoke/VarHandle" ∧ (parseMethodDescriptor yX5_grown.desc).map (fun d => d.parameters.length) = some 2) := by decide +kernel
theorem k_X5_grown {l : Launch} (hst : l.stackTraces = false) {G : gaG} {X : String → gaH → Prop} {a0 : Nat} {a1 : Int} {a2 : Int} {h : gaH} {Q : Nat → gaH → Prop} (hw : w_X5_grown G X a0 a1 a2 h Q) : gaC l G yX5_grown (gaM yX5_grown cX5_grown 3 ((some (.object "java/lang/String")))) rm_X5_grown [.ref a0, gi a1, gi a2] h (gQa Q) X := by
  refine g_start (lv := [some (.ref a0), some (gi a1), some (gi a2)]) hpl_RX5 hst (Nat.le_of_ble_eq_true rfl) (gaArgs_pad (z := 0) rfl) ww_5_152 ?_
  intro p e s m args below meth c V hT
  show gaP p l e rm_X5_grown s m args below meth c G 3 (gaZ below G (gQa Q) X args s rm_X5_grown) 0 [some (.ref a0), some (gi a1), some (gi a2)] [] h 136 8922
  unfold w_X5_grown at hw
  refine g_aload_n V dX5_grown_0 rfl rfl ?_
  refine g_iload_n V dX5_grown_1 rfl rfl ?_
  obtain ⟨hb, hw⟩ := hw
  obtain ⟨fb, hb⟩ := hb
  obtain ⟨hk, hj, c3, s4, ec, es, hw⟩ := hw
  refine g_callV (C := RX5) (T := TX5) (N := 9) (st := []) V (k_X5_growthOf hst hw) ww_2_13 ww_2_15 wp_1_4 ww_1_1 ww_2_16 hd_X5_growthOf ⟨by decide, by decide⟩ rfl (by decide) hb rfl rfl (ga_cat rfl) dX5_grown_2 hk hj rfl (gaX_all hT V) (ga_ka (fun r2 hp1 hw => ?_))
  refine ga_re ec es ?_
  refine g_iload_n V dX5_grown_5 rfl rfl ?_
  obtain ⟨hb, hw⟩ := hw
  obtain ⟨fb, hb⟩ := hb
  refine g_callV (C := RX0) (T := TX0) (N := 4) (st := []) V (k_X0_wordBy hst hw) ww_2_160 ww_2_161 ww_2_162 ww_1_4 ww_2_163 hd_X0_wordBy ⟨by decide, by decide⟩ rfl (by decide) hb rfl rfl (ga_cat rfl) dX5_grown_6 (Nat.zero_le _) (Nat.zero_le _) rfl (gaX_all hT V) (ga_ka (fun r6 hp5 hw => ?_))
  obtain ⟨hk, hj, c9, s10, ec, es, hw⟩ := hw
  refine g_callS (st := []) V (k_X1_textOf hst hw) ww_4_22 ww_4_23 ww_1_12 ww_4_24 hd_X1_textOf ⟨by decide, by decide⟩ rfl rfl (ga_cat rfl) dX5_grown_9 hk hj rfl (gaX_all hT V) (ga_ka (fun r8 hp7 hw => ?_))
  refine ga_re ec es ?_
  exact g_aret V rfl (by first | exact Or.inl ⟨_, rfl⟩ | exact Or.inr ⟨_, rfl⟩) dX5_grown_12 ⟨_, rfl, hw⟩
def w_X5_text (G : gaG) (X : String → gaH → Prop) (a0 : Nat) (a1 : Int) (h : gaH) (Q : Nat → gaH → Prop) : Prop := gHas h a0 5 ∧ gCall 1 6 136 8922 (fun c3 s4 => w_X5_wordOf X a0 a1 h (fun r2 hp1 => gCall 135 8916 c3 s4 (fun c7 s8 => w_X1_textOf G r2 hp1 (fun r6 hp5 => Q r6 hp5))))
abbrev rm_X5_text : Room := { frames := 9, cells := 136, slots := 8922, locals := 221 }
theorem hd_X5_text : yX5_text.cls = RX5 ∧ (yX5_text.cls ≠ "java/lang/invoke/MethodHandle" ∧ yX5_text.cls ≠ "java/lang/invoke/VarHandle" ∧ (parseMethodDescriptor yX5_text.desc).map (fun d => d.parameters.length) = some 1) := by decide +kernel
theorem k_X5_text {l : Launch} (hst : l.stackTraces = false) {G : gaG} {X : String → gaH → Prop} {a0 : Nat} {a1 : Int} {h : gaH} {Q : Nat → gaH → Prop} (hw : w_X5_text G X a0 a1 h Q) : gaC l G yX5_text (gaM yX5_text cX5_text 2 ((some (.object "java/lang/String")))) rm_X5_text [.ref a0, gi a1] h (gQa Q) X := by
  refine g_start (lv := [some (.ref a0), some (gi a1)]) hpl_RX5 hst (Nat.le_of_ble_eq_true rfl) (gaArgs_pad (z := 0) rfl) ww_4_21 ?_
  intro p e s m args below meth c V hT
  show gaP p l e rm_X5_text s m args below meth c G 2 (gaZ below G (gQa Q) X args s rm_X5_text) 0 [some (.ref a0), some (gi a1)] [] h 136 8922
  unfold w_X5_text at hw
  refine g_aload_n V dX5_text_0 rfl rfl ?_
  refine g_iload_n V dX5_text_1 rfl rfl ?_
  obtain ⟨hb, hw⟩ := hw
  obtain ⟨fb, hb⟩ := hb
  obtain ⟨hk, hj, c3, s4, ec, es, hw⟩ := hw
  refine g_callV (C := RX5) (T := TX5) (N := 9) (st := []) V (k_X5_wordOf hst hw) ww_1_150 ww_1_152 wp_1_1 ww_1_1 ww_1_153 hd_X5_wordOf ⟨by decide, by decide⟩ rfl (by decide) hb rfl rfl (ga_cat rfl) dX5_text_2 hk hj rfl (gaX_all hT V) (ga_ka (fun r2 hp1 hw => ?_))
  refine ga_re ec es ?_
  obtain ⟨hk, hj, c7, s8, ec, es, hw⟩ := hw
  refine g_callS (st := []) V (k_X1_textOf hst hw) ww_4_22 ww_4_23 ww_1_12 ww_4_24 hd_X1_textOf ⟨by decide, by decide⟩ rfl rfl (ga_cat rfl) dX5_text_5 hk hj rfl (gaX_all hT V) (ga_ka (fun r6 hp5 hw => ?_))
  refine ga_re ec es ?_
  exact g_aret V rfl (by first | exact Or.inl ⟨_, rfl⟩ | exact Or.inr ⟨_, rfl⟩) dX5_text_8 ⟨_, rfl, hw⟩
def w_X5_turns_L17 (G : gaG) (X : String → gaH → Prop) (Q : Nat → gaH → Prop) : Nat → (Nat → Nat → Int → gaH → Nat → Nat → Prop)
  | 0 => fun _ _ _ _ _ _ => False
  | n + 1 => fun v2 v3 v4 h kc ks => gI h v2 2 1 (fun r1 => gR v4 ∧ gR r1 ∧ (if r1 ≤ v4 then gHas h v3 1 ∧ gCall 5 272 kc ks (fun c4 s5 => w_J4_toString_0e30d G v3 h (fun r3 hp2 => Q r3 hp2)) else gHas h v2 2 ∧ w_X0_turnAt v2 v4 h (fun r7 hp6 => gHas hp6 v3 1 ∧ gCall 2 134 kc ks (fun c10 s11 => w_J4_append_bf812 G v3 r7 hp6 (fun r9 hp8 => w_X5_turns_L17 G X Q n v2 v3 (v4 + 1) hp8 c10 s11)))))
def w_X5_turns (G : gaG) (X : String → gaH → Prop) (a0 : Nat) (a1 : Int) (h : gaH) (Q : Nat → gaH → Prop) : Prop := gHas h a0 5 ∧ gCall 1 6 136 8922 (fun c3 s4 => w_X5_growthOf X a0 a1 h (fun r2 hp1 => gNO hp1 1 4 ([.null, gi 0, gi 0, gi 0]) c3 s4 (fun o5 hp6 c7 s8 => gCall 1 64 c7 s8 (fun c11 s12 => w_J4_init_da8c8 G o5 hp6 (fun hp9 => ∃ z, w_X5_turns_L17 G X Q z r2 o5 0 hp9 c11 s12)))))
abbrev rm_X5_turns : Room := { frames := 9, cells := 136, slots := 8922, locals := 221 }
theorem hd_X5_turns : yX5_turns.cls = RX5 ∧ (yX5_turns.cls ≠ "java/lang/invoke/MethodHandle" ∧ yX5_turns.cls ≠ "java/lang/invoke/VarHandle" ∧ (parseMethodDescriptor yX5_turns.desc).map (fun d => d.parameters.length) = some 1) := by decide +kernel
theorem k_X5_turns {l : Launch} (hst : l.stackTraces = false) {G : gaG} {X : String → gaH → Prop} {a0 : Nat} {a1 : Int} {h : gaH} {Q : Nat → gaH → Prop} (hw : w_X5_turns G X a0 a1 h Q) : gaC l G yX5_turns (gaM yX5_turns cX5_turns 5 ((some (.object "java/lang/String")))) rm_X5_turns [.ref a0, gi a1] h (gQa Q) X := by
  refine g_start (lv := [some (.ref a0), some (gi a1), none, none, none]) hpl_RX5 hst (Nat.le_of_ble_eq_true rfl) (gaArgs_pad (z := 3) rfl) ww_5_141 ?_
  intro p e s m args below meth c V hT
  have h_X5_turns_L17 : ∀ (n : Nat), ∀ (v2 : Nat) (v3 : Nat) (v4 : Int) (h : gaH) (kc ks : Nat), w_X5_turns_L17 G X Q n v2 v3 v4 h kc ks → gaP p l e rm_X5_turns s m args below meth c G 5 (gaZ below G (gQa Q) X args s rm_X5_turns) 17 [none, none, some (.ref v2), some (.ref v3), some (gi v4)] [] h kc ks := by
    intro n
    induction n with
    | zero =>
      intro v2 v3 v4 h kc ks hw
      exact hw.elim
    | succ n ih =>
      intro v2 v3 v4 h kc ks hw
      unfold w_X5_turns_L17 at hw
      refine g_iload V dX5_turns_17 rfl rfl ?_
      refine g_aload_n V dX5_turns_19 rfl rfl ?_
      obtain ⟨fs, r1, ha, hv, hw⟩ := hw
      refine g_getN (C := RX0) (T := TX0) (N := 4) (host := "Wordgarden") V 1 rfl hin_RX0 (by decide) (by decide) gn_9 rfl ha hv dX5_turns_20 rfl ?_
      obtain ⟨hx0, hx1, hw⟩ := hw
      refine gi_icmp_ge V dX5_turns_23 rfl rfl hx0 hx1 (fun q => ?_) (fun q => ?_)
      · have hw := ga_t q hw
        refine g_aload_n V dX5_turns_43 rfl rfl ?_
        obtain ⟨hb, hw⟩ := hw
        obtain ⟨fb, hb⟩ := hb
        obtain ⟨hk, hj, c4, s5, ec, es, hw⟩ := hw
        refine g_callV (C := RJ4) (T := TJ4) (N := 4) (st := []) V (k_J4_toString_0e30d hst hw) ww_5_145 ww_4_148 ww_4_149 ww_1_18 ww_4_150 hd_J4_toString_0e30d ⟨by decide, by decide⟩ rfl (by decide) hb rfl rfl (ga_cat rfl) dX5_turns_44 hk hj rfl (gaX_all hT V) (ga_ka (fun r3 hp2 hw => ?_))
        refine ga_re ec es ?_
        exact g_aret V rfl (by first | exact Or.inl ⟨_, rfl⟩ | exact Or.inr ⟨_, rfl⟩) dX5_turns_47 ⟨_, rfl, hw⟩
      · have hw := ga_f q hw
        refine g_aload_n V dX5_turns_26 rfl rfl ?_
        refine g_aload_n V dX5_turns_27 rfl rfl ?_
        refine g_iload V dX5_turns_28 rfl rfl ?_
        obtain ⟨hb, hw⟩ := hw
        obtain ⟨fb, hb⟩ := hb
        refine g_callV (C := RX0) (T := TX0) (N := 4) (st := [.ref v3]) V (k_X0_turnAt hst hw) ww_2_155 ww_2_23 ww_2_24 ww_1_4 ww_2_25 hd_X0_turnAt ⟨by decide, by decide⟩ rfl (by decide) hb rfl rfl (ga_cat rfl) dX5_turns_30 (Nat.zero_le _) (Nat.zero_le _) rfl (gaX_all hT V) (ga_ki (fun r7 hp6 hw => ?_))
        obtain ⟨hb, hw⟩ := hw
        obtain ⟨fb, hb⟩ := hb
        obtain ⟨hk, hj, c10, s11, ec, es, hw⟩ := hw
        refine g_callV (C := RJ4) (T := TJ4) (N := 4) (st := []) V (k_J4_append_bf812 hst hw) ww_5_144 ww_4_187 ww_4_188 ww_1_18 ww_4_189 hd_J4_append_bf812 ⟨by decide, by decide⟩ rfl (by decide) hb rfl rfl (ga_cat rfl) dX5_turns_33 hk hj rfl (gaX_all hT V) (ga_ka (fun r9 hp8 hw => ?_))
        refine ga_re ec es ?_
        refine g_pop V dX5_turns_36 rfl rfl ?_
        refine gi_iinc (lv2 := [none, none, some (.ref v2), some (.ref v3), some (gi (v4 + 1))]) V dX5_turns_37 (by decide) rfl rfl rfl rfl ?_
        refine g_goto V dX5_turns_40 rfl ?_
        exact ih v2 v3 (v4 + 1) hp8 c10 s11 hw
  show gaP p l e rm_X5_turns s m args below meth c G 5 (gaZ below G (gQa Q) X args s rm_X5_turns) 0 [some (.ref a0), some (gi a1), none, none, none] [] h 136 8922
  unfold w_X5_turns at hw
  refine g_aload_n V dX5_turns_0 rfl rfl ?_
  refine g_iload_n V dX5_turns_1 rfl rfl ?_
  obtain ⟨hb, hw⟩ := hw
  obtain ⟨fb, hb⟩ := hb
  obtain ⟨hk, hj, c3, s4, ec, es, hw⟩ := hw
  refine g_callV (C := RX5) (T := TX5) (N := 9) (st := []) V (k_X5_growthOf hst hw) ww_2_13 ww_2_15 wp_1_4 ww_1_1 ww_2_16 hd_X5_growthOf ⟨by decide, by decide⟩ rfl (by decide) hb rfl rfl (ga_cat rfl) dX5_turns_2 hk hj rfl (gaX_all hT V) (ga_ka (fun r2 hp1 hw => ?_))
  refine ga_re ec es ?_
  refine g_astore_n (lv2 := [some (.ref a0), some (gi a1), some (.ref r2), none, none]) V dX5_turns_5 (by decide) rfl rfl rfl ?_
  obtain ⟨hk, hj, hw⟩ := hw
  refine g_new (ci := 1) (C := RJ4) (T := TJ4) (N := 4) (fs := [.null, gi 0, gi 0, gi 0]) V tyJ4 tyJ4_ok rfl hin_RJ4 (by decide) ww_5_142 ww_4_26 ww_1_18 hdf_RJ4 dX5_turns_6 rfl hk hj (fun o5 hf => ?_)
  obtain ⟨c7, s8, ec, es, hw⟩ := hw o5 hf
  refine ga_re ec es ?_
  generalize gaUp hp1 o5 _ = hp6 at hw ⊢
  refine g_dup V dX5_turns_9 rfl rfl ?_
  obtain ⟨hk, hj, c11, s12, ec, es, hw⟩ := hw
  refine g_callI (st := [.ref o5]) V (k_J4_init_da8c8 hst hw) ww_5_143 ww_4_28 ww_1_18 ww_4_29 rfl hd_J4_init_da8c8 ⟨by decide, by decide⟩ rfl rfl (ga_cat rfl) dX5_turns_10 hk hj rfl (gaX_all hT V) (ga_kv (fun hp9 hw => ?_))
  refine ga_re ec es ?_
  refine g_astore_n (lv2 := [some (.ref a0), some (gi a1), some (.ref r2), some (.ref o5), none]) V dX5_turns_13 (by decide) rfl rfl rfl ?_
  refine g_iconst V (Int32.ofInt 0) dX5_turns_14 rfl rfl ?_
  refine g_istore (lv2 := [some (.ref a0), some (gi a1), some (.ref r2), some (.ref o5), some (gi 0)]) V dX5_turns_15 (by decide) rfl rfl rfl ?_
  refine g_less (bs := [false, false, true, true, true]) (lv2 := [none, none, some (.ref r2), some (.ref o5), some (gi 0)]) rfl ?_
  obtain ⟨z, hw⟩ := hw
  exact h_X5_turns_L17 z r2 o5 0 hp9 c11 s12 hw
def w_X7_textOf_J42 (G : gaG) (Q : Nat → gaH → Prop) (K16 : Nat → Nat → Int → Int → gaH → Nat → Nat → Prop) (v1 : Nat) (v2 : Nat) (v3 : Int) (v4 : Int) (t0 : Nat) (t1 : Int) (h : gaH) (kc ks : Nat) : Prop := gHas h t0 1 ∧ gCall 2 134 kc ks (fun c3 s4 => w_J4_append_cf468 G t0 t1 h (fun r2 hp1 => K16 v1 v2 v3 (v4 + 1) hp1 c3 s4))
def w_X7_textOf_L16 (G : gaG) (Q : Nat → gaH → Prop) : Nat → (Nat → Nat → Int → Int → gaH → Nat → Nat → Prop)
  | 0 => fun _ _ _ _ _ _ _ => False
  | n + 1 => fun v1 v2 v3 v4 h kc ks => gR v4 ∧ gR v3 ∧ (if v3 ≤ v4 then gHas h v1 1 ∧ gCall 5 272 kc ks (fun c3 s4 => w_J4_toString_0e30d G v1 h (fun r2 hp1 => Q r2 hp1)) else gLI h v2 102 v4 (fun r5 => gR r5 ∧ (if r5 = 1 then w_X7_textOf_J42 G Q (w_X7_textOf_L16 G Q n) v1 v2 v3 v4 v1 98 h kc ks else w_X7_textOf_J42 G Q (w_X7_textOf_L16 G Q n) v1 v2 v3 v4 v1 97 h kc ks)))
def w_X7_textOf (G : gaG) (a0 : Nat) (h : gaH) (Q : Nat → gaH → Prop) : Prop := gNO h 1 4 ([.null, gi 0, gi 0, gi 0]) 135 8916 (fun o1 hp2 c3 s4 => gCall 1 64 c3 s4 (fun c7 s8 => w_J4_init_da8c8 G o1 hp2 (fun hp5 => gAL hp5 a0 102 (fun r9 => ∃ z, w_X7_textOf_L16 G Q z o1 a0 r9 0 hp5 c7 s8))))
abbrev rm_X7_textOf : Room := { frames := 7, cells := 135, slots := 8916, locals := 172 }
theorem hd_X7_textOf : (yX7_textOf.cls ≠ "java/lang/invoke/MethodHandle" ∧ yX7_textOf.cls ≠ "java/lang/invoke/VarHandle" ∧ (parseMethodDescriptor yX7_textOf.desc).map (fun d => d.parameters.length) = some 1) := by decide +kernel
theorem k_X7_textOf {l : Launch} (hst : l.stackTraces = false) {G : gaG} {X : String → gaH → Prop} {a0 : Nat} {h : gaH} {Q : Nat → gaH → Prop} (hw : w_X7_textOf G a0 h Q) : gaC l G yX7_textOf (gaM yX7_textOf cX7_textOf 6 ((some (.object "java/lang/String")))) rm_X7_textOf [.ref a0] h (gQa Q) X := by
  refine g_start (lv := [some (.ref a0), none, none, none, none, none]) hpl_RX7 hst (Nat.le_of_ble_eq_true rfl) (gaArgs_pad (z := 5) rfl) ww_6_170 ?_
  intro p e s m args below meth c V hT
  have h_X7_textOf_J42 : ∀ (K16 : Nat → Nat → Int → Int → gaH → Nat → Nat → Prop), ∀ (hK16 : ∀ (v1 : Nat) (v2 : Nat) (v3 : Int) (v4 : Int) (h : gaH) (kc ks : Nat), K16 v1 v2 v3 v4 h kc ks → gaP p l e rm_X7_textOf s m args below meth c G 6 (gaZ below G (gQa Q) X args s rm_X7_textOf) 16 [none, some (.ref v1), some (.ref v2), some (gi v3), some (gi v4), none] [] h kc ks), ∀ (v1 : Nat) (v2 : Nat) (v3 : Int) (v4 : Int) (t0 : Nat) (t1 : Int) (h : gaH) (kc ks : Nat), w_X7_textOf_J42 G Q K16 v1 v2 v3 v4 t0 t1 h kc ks → gaP p l e rm_X7_textOf s m args below meth c G 6 (gaZ below G (gQa Q) X args s rm_X7_textOf) 42 [none, some (.ref v1), some (.ref v2), some (gi v3), some (gi v4), none] [gi t1, .ref t0] h kc ks := by
    intro K16 hK16
    intro v1 v2 v3 v4 t0 t1 h kc ks hw
    unfold w_X7_textOf_J42 at hw
    obtain ⟨hb, hw⟩ := hw
    obtain ⟨fb, hb⟩ := hb
    obtain ⟨hk, hj, c3, s4, ec, es, hw⟩ := hw
    refine g_callV (C := RJ4) (T := TJ4) (N := 4) (st := []) V (k_J4_append_cf468 hst hw) ww_6_173 ww_4_57 ww_4_58 ww_1_18 ww_4_59 hd_J4_append_cf468 ⟨by decide, by decide⟩ rfl (by decide) hb rfl rfl (ga_cat rfl) dX7_textOf_42 hk hj rfl (gaX_all hT V) (ga_ka (fun r2 hp1 hw => ?_))
    refine ga_re ec es ?_
    refine g_pop V dX7_textOf_45 rfl rfl ?_
    refine gi_iinc (lv2 := [none, some (.ref v1), some (.ref v2), some (gi v3), some (gi (v4 + 1)), none]) V dX7_textOf_46 (by decide) rfl rfl rfl rfl ?_
    refine g_goto V dX7_textOf_49 rfl ?_
    exact hK16 v1 v2 v3 (v4 + 1) hp1 c3 s4 hw
  have h_X7_textOf_L16 : ∀ (n : Nat), ∀ (v1 : Nat) (v2 : Nat) (v3 : Int) (v4 : Int) (h : gaH) (kc ks : Nat), w_X7_textOf_L16 G Q n v1 v2 v3 v4 h kc ks → gaP p l e rm_X7_textOf s m args below meth c G 6 (gaZ below G (gQa Q) X args s rm_X7_textOf) 16 [none, some (.ref v1), some (.ref v2), some (gi v3), some (gi v4), none] [] h kc ks := by
    intro n
    induction n with
    | zero =>
      intro v1 v2 v3 v4 h kc ks hw
      exact hw.elim
    | succ n ih =>
      intro v1 v2 v3 v4 h kc ks hw
      unfold w_X7_textOf_L16 at hw
      refine g_iload V dX7_textOf_16 rfl rfl ?_
      refine g_iload_n V dX7_textOf_18 rfl rfl ?_
      obtain ⟨hx0, hx1, hw⟩ := hw
      refine gi_icmp_ge V dX7_textOf_19 rfl rfl hx0 hx1 (fun q => ?_) (fun q => ?_)
      · have hw := ga_t q hw
        refine g_aload_n V dX7_textOf_52 rfl rfl ?_
        obtain ⟨hb, hw⟩ := hw
        obtain ⟨fb, hb⟩ := hb
        obtain ⟨hk, hj, c3, s4, ec, es, hw⟩ := hw
        refine g_callV (C := RJ4) (T := TJ4) (N := 4) (st := []) V (k_J4_toString_0e30d hst hw) ww_6_174 ww_4_148 ww_4_149 ww_1_18 ww_4_150 hd_J4_toString_0e30d ⟨by decide, by decide⟩ rfl (by decide) hb rfl rfl (ga_cat rfl) dX7_textOf_53 hk hj rfl (gaX_all hT V) (ga_ka (fun r2 hp1 hw => ?_))
        refine ga_re ec es ?_
        exact g_aret V rfl (by first | exact Or.inl ⟨_, rfl⟩ | exact Or.inr ⟨_, rfl⟩) dX7_textOf_56 ⟨_, rfl, hw⟩
      · have hw := ga_f q hw
        refine g_aload_n V dX7_textOf_22 rfl rfl ?_
        refine g_iload V dX7_textOf_23 rfl rfl ?_
        obtain ⟨t9, vs, r5, ha, ht, h0, h9, hv, hw⟩ := hw
        refine gi_iaload V ha ht h0 h9 hv dX7_textOf_25 rfl ?_
        refine g_istore (lv2 := [none, some (.ref v1), some (.ref v2), some (gi v3), some (gi v4), some (gi r5)]) V dX7_textOf_26 (by decide) rfl rfl rfl ?_
        refine g_aload_n V dX7_textOf_28 rfl rfl ?_
        refine g_iload V dX7_textOf_29 rfl rfl ?_
        refine g_iconst V (Int32.ofInt 1) dX7_textOf_31 rfl rfl ?_
        obtain ⟨hx0, hw⟩ := hw
        refine gi_icmp_ne V dX7_textOf_32 rfl rfl hx0 (by decide) (fun q => ?_) (fun q => ?_)
        · have hw := ga_f q hw
          refine g_bipush V (Int32.ofInt 97) dX7_textOf_40 rfl rfl ?_
          refine g_less (bs := [true, true, true, true, true, false]) (lv2 := [none, some (.ref v1), some (.ref v2), some (gi v3), some (gi v4), none]) rfl ?_
          exact h_X7_textOf_J42 (w_X7_textOf_L16 G Q n) ih v1 v2 v3 v4 v1 97 h kc ks hw
        · have hw := ga_t q hw
          refine g_bipush V (Int32.ofInt 98) dX7_textOf_35 rfl rfl ?_
          refine g_goto V dX7_textOf_37 rfl ?_
          refine g_less (bs := [true, true, true, true, true, false]) (lv2 := [none, some (.ref v1), some (.ref v2), some (gi v3), some (gi v4), none]) rfl ?_
          exact h_X7_textOf_J42 (w_X7_textOf_L16 G Q n) ih v1 v2 v3 v4 v1 98 h kc ks hw
  show gaP p l e rm_X7_textOf s m args below meth c G 6 (gaZ below G (gQa Q) X args s rm_X7_textOf) 0 [some (.ref a0), none, none, none, none, none] [] h 135 8916
  unfold w_X7_textOf at hw
  obtain ⟨hk, hj, hw⟩ := hw
  refine g_new (ci := 1) (C := RJ4) (T := TJ4) (N := 4) (fs := [.null, gi 0, gi 0, gi 0]) V tyJ4 tyJ4_ok rfl hin_RJ4 (by decide) ww_6_171 ww_4_26 ww_1_18 hdf_RJ4 dX7_textOf_0 rfl hk hj (fun o1 hf => ?_)
  obtain ⟨c3, s4, ec, es, hw⟩ := hw o1 hf
  refine ga_re ec es ?_
  generalize gaUp h o1 _ = hp2 at hw ⊢
  refine g_dup V dX7_textOf_3 rfl rfl ?_
  obtain ⟨hk, hj, c7, s8, ec, es, hw⟩ := hw
  refine g_callI (st := [.ref o1]) V (k_J4_init_da8c8 hst hw) ww_6_172 ww_4_28 ww_1_18 ww_4_29 rfl hd_J4_init_da8c8 ⟨by decide, by decide⟩ rfl rfl (ga_cat rfl) dX7_textOf_4 hk hj rfl (gaX_all hT V) (ga_kv (fun hp5 hw => ?_))
  refine ga_re ec es ?_
  refine g_astore_n (lv2 := [some (.ref a0), some (.ref o1), none, none, none, none]) V dX7_textOf_7 (by decide) rfl rfl rfl ?_
  refine g_aload_n V dX7_textOf_8 rfl rfl ?_
  refine g_astore_n (lv2 := [some (.ref a0), some (.ref o1), some (.ref a0), none, none, none]) V dX7_textOf_9 (by decide) rfl rfl rfl ?_
  refine g_aload_n V dX7_textOf_10 rfl rfl ?_
  obtain ⟨t9, vs, ha, ht, hw⟩ := hw
  refine gi_arraylength (t0 := 102) V (by simp [gaT]) ha ht dX7_textOf_11 rfl ?_
  generalize (vs.length : Int) = r9 at hw ⊢
  refine g_istore_n (lv2 := [some (.ref a0), some (.ref o1), some (.ref a0), some (gi r9), none, none]) V dX7_textOf_12 (by decide) rfl rfl rfl ?_
  refine g_iconst V (Int32.ofInt 0) dX7_textOf_13 rfl rfl ?_
  refine g_istore (lv2 := [some (.ref a0), some (.ref o1), some (.ref a0), some (gi r9), some (gi 0), none]) V dX7_textOf_14 (by decide) rfl rfl rfl ?_
  refine g_less (bs := [false, true, true, true, true, true]) (lv2 := [none, some (.ref o1), some (.ref a0), some (gi r9), some (gi 0), none]) rfl ?_
  obtain ⟨z, hw⟩ := hw
  exact h_X7_textOf_L16 z o1 a0 r9 0 hp5 c7 s8 hw
def w_X7_grown (G : gaG) (a0 : Nat) (a1 : Int) (a2 : Int) (h : gaH) (Q : Nat → gaH → Prop) : Prop := w_X7_isNoGrowth a1 h (fun r2 hp1 => gHas hp1 a0 7 ∧ w_X7_start a0 r2 1 hp1 (fun r4 hp3 => gR r4 ∧ (if r4 = 0 then gHas hp3 a0 7 ∧ gCall 67 4288 202 13204 (fun c7 s8 => w_X7_word a0 a1 a2 hp3 (fun r6 hp5 => gCall 135 8916 c7 s8 (fun c11 s12 => w_X7_textOf G r6 hp5 (fun r10 hp9 => Q r10 hp9)))) else Q (G.2.2.2 15) hp3)))
abbrev rm_X7_grown : Room := { frames := 8, cells := 202, slots := 13204, locals := 197 }
theorem hd_X7_grown : yX7_grown.cls = RX7 ∧ (yX7_grown.cls ≠ "java/lang/invoke/MethodHandle" ∧ yX7_grown.cls ≠ "java/lang/invoke/VarHandle" ∧ (parseMethodDescriptor yX7_grown.desc).map (fun d => d.parameters.length) = some 2) := by decide +kernel
theorem k_X7_grown {l : Launch} (hst : l.stackTraces = false) {G : gaG} {X : String → gaH → Prop} {a0 : Nat} {a1 : Int} {a2 : Int} {h : gaH} {Q : Nat → gaH → Prop} (hw : w_X7_grown G a0 a1 a2 h Q) : gaC l G yX7_grown (gaM yX7_grown cX7_grown 3 ((some (.object "java/lang/String")))) rm_X7_grown [.ref a0, gi a1, gi a2] h (gQa Q) X := by
  refine g_start (lv := [some (.ref a0), some (gi a1), some (gi a2)]) hpl_RX7 hst (Nat.le_of_ble_eq_true rfl) (gaArgs_pad (z := 0) rfl) ww_7_18 ?_
  intro p e s m args below meth c V hT
  show gaP p l e rm_X7_grown s m args below meth c G 3 (gaZ below G (gQa Q) X args s rm_X7_grown) 0 [some (.ref a0), some (gi a1), some (gi a2)] [] h 202 13204
  unfold w_X7_grown at hw
  refine g_aload_n V dX7_grown_0 rfl rfl ?_
  refine g_iload_n V dX7_grown_1 rfl rfl ?_
  refine g_callS (st := [.ref a0]) V (k_X7_isNoGrowth hst hw) ww_6_110 ww_6_111 ww_1_5 ww_6_112 hd_X7_isNoGrowth ⟨by decide, by decide⟩ rfl rfl (ga_cat rfl) dX7_grown_2 (Nat.zero_le _) (Nat.zero_le _) rfl (gaX_all hT V) (ga_ki (fun r2 hp1 hw => ?_))
  refine g_iconst V (Int32.ofInt 1) dX7_grown_5 rfl rfl ?_
  obtain ⟨hb, hw⟩ := hw
  obtain ⟨fb, hb⟩ := hb
  refine g_callV (C := RX7) (T := TX7) (N := 8) (st := []) V (k_X7_start hst hw) ww_5_220 ww_5_222 wp_2_2 ww_1_5 ww_5_223 hd_X7_start ⟨by decide, by decide⟩ rfl (by decide) hb rfl rfl (ga_cat rfl) dX7_grown_6 (Nat.zero_le _) (Nat.zero_le _) rfl (gaX_all hT V) (ga_ki (fun r4 hp3 hw => ?_))
  obtain ⟨hx0, hw⟩ := hw
  refine gi_if_eq V dX7_grown_9 rfl rfl hx0 (fun q => ?_) (fun q => ?_)
  · have hw := ga_t q hw
    refine g_aload_n V dX7_grown_17 rfl rfl ?_
    refine g_iload_n V dX7_grown_18 rfl rfl ?_
    refine g_iload_n V dX7_grown_19 rfl rfl ?_
    obtain ⟨hb, hw⟩ := hw
    obtain ⟨fb, hb⟩ := hb
    obtain ⟨hk, hj, c7, s8, ec, es, hw⟩ := hw
    refine g_callV (C := RX7) (T := TX7) (N := 8) (st := []) V (k_X7_word hst hw) ww_7_19 ww_7_21 wp_2_15 ww_1_5 ww_7_22 hd_X7_word ⟨by decide, by decide⟩ rfl (by decide) hb rfl rfl (ga_cat rfl) dX7_grown_20 hk hj rfl (gaX_all hT V) (ga_ka (fun r6 hp5 hw => ?_))
    refine ga_re ec es ?_
    obtain ⟨hk, hj, c11, s12, ec, es, hw⟩ := hw
    refine g_callS (st := []) V (k_X7_textOf hst hw) ww_6_168 ww_6_169 ww_1_5 ww_6_170 hd_X7_textOf ⟨by decide, by decide⟩ rfl rfl (ga_cat rfl) dX7_grown_23 hk hj rfl (gaX_all hT V) (ga_ka (fun r10 hp9 hw => ?_))
    refine ga_re ec es ?_
    exact g_aret V rfl (by first | exact Or.inl ⟨_, rfl⟩ | exact Or.inr ⟨_, rfl⟩) dX7_grown_26 ⟨_, rfl, hw⟩
  · have hw := ga_f q hw
    refine g_ldcS V gs_5 dX7_grown_12 rfl ?_
    refine g_goto V dX7_grown_14 rfl ?_
    exact g_aret V rfl (by first | exact Or.inl ⟨_, rfl⟩ | exact Or.inr ⟨_, rfl⟩) dX7_grown_26 ⟨_, rfl, hw⟩
def w_X7_text (G : gaG) (a0 : Nat) (a1 : Int) (h : gaH) (Q : Nat → gaH → Prop) : Prop := w_X7_isNoSheet a1 h (fun r2 hp1 => gHas hp1 a0 7 ∧ w_X7_start a0 r2 1 hp1 (fun r4 hp3 => gR r4 ∧ (if r4 = 0 then gA hp3 a0 7 0 (fun r5 => gLA hp3 r5 112 a1 (fun r6 => gCall 135 8916 135 8916 (fun c9 s10 => w_X7_textOf G r6 hp3 (fun r8 hp7 => Q r8 hp7)))) else Q (G.2.2.2 15) hp3)))
abbrev rm_X7_text : Room := { frames := 8, cells := 135, slots := 8916, locals := 197 }
theorem hd_X7_text : yX7_text.cls = RX7 ∧ (yX7_text.cls ≠ "java/lang/invoke/MethodHandle" ∧ yX7_text.cls ≠ "java/lang/invoke/VarHandle" ∧ (parseMethodDescriptor yX7_text.desc).map (fun d => d.parameters.length) = some 1) := by decide +kernel
theorem k_X7_text {l : Launch} (hst : l.stackTraces = false) {G : gaG} {X : String → gaH → Prop} {a0 : Nat} {a1 : Int} {h : gaH} {Q : Nat → gaH → Prop} (hw : w_X7_text G a0 a1 h Q) : gaC l G yX7_text (gaM yX7_text cX7_text 2 ((some (.object "java/lang/String")))) rm_X7_text [.ref a0, gi a1] h (gQa Q) X := by
  refine g_start (lv := [some (.ref a0), some (gi a1)]) hpl_RX7 hst (Nat.le_of_ble_eq_true rfl) (gaArgs_pad (z := 0) rfl) ww_6_166 ?_
  intro p e s m args below meth c V hT
  show gaP p l e rm_X7_text s m args below meth c G 2 (gaZ below G (gQa Q) X args s rm_X7_text) 0 [some (.ref a0), some (gi a1)] [] h 135 8916
  unfold w_X7_text at hw
  refine g_aload_n V dX7_text_0 rfl rfl ?_
  refine g_iload_n V dX7_text_1 rfl rfl ?_
  refine g_callS (st := [.ref a0]) V (k_X7_isNoSheet hst hw) ww_5_214 ww_5_215 ww_1_5 ww_5_216 hd_X7_isNoSheet ⟨by decide, by decide⟩ rfl rfl (ga_cat rfl) dX7_text_2 (Nat.zero_le _) (Nat.zero_le _) rfl (gaX_all hT V) (ga_ki (fun r2 hp1 hw => ?_))
  refine g_iconst V (Int32.ofInt 1) dX7_text_5 rfl rfl ?_
  obtain ⟨hb, hw⟩ := hw
  obtain ⟨fb, hb⟩ := hb
  refine g_callV (C := RX7) (T := TX7) (N := 8) (st := []) V (k_X7_start hst hw) ww_5_220 ww_5_222 wp_2_2 ww_1_5 ww_5_223 hd_X7_start ⟨by decide, by decide⟩ rfl (by decide) hb rfl rfl (ga_cat rfl) dX7_text_6 (Nat.zero_le _) (Nat.zero_le _) rfl (gaX_all hT V) (ga_ki (fun r4 hp3 hw => ?_))
  obtain ⟨hx0, hw⟩ := hw
  refine gi_if_eq V dX7_text_9 rfl rfl hx0 (fun q => ?_) (fun q => ?_)
  · have hw := ga_t q hw
    refine g_aload_n V dX7_text_17 rfl rfl ?_
    obtain ⟨fs, r5, ha, hv, hw⟩ := hw
    refine g_get (C := RX7) (T := TX7) (N := 8) V 0 rfl hin_RX7 (by decide) (by decide) ww_5_181 rfl ha hv dX7_text_18 rfl ?_
    refine g_iload_n V dX7_text_21 rfl rfl ?_
    obtain ⟨vs, r6, ha, h0, h9, hv, hw⟩ := hw
    refine gi_aaload V ha (by decide) h0 h9 hv dX7_text_22 rfl ?_
    obtain ⟨hk, hj, c9, s10, ec, es, hw⟩ := hw
    refine g_callS (st := []) V (k_X7_textOf hst hw) ww_6_168 ww_6_169 ww_1_5 ww_6_170 hd_X7_textOf ⟨by decide, by decide⟩ rfl rfl (ga_cat rfl) dX7_text_23 hk hj rfl (gaX_all hT V) (ga_ka (fun r8 hp7 hw => ?_))
    refine ga_re ec es ?_
    exact g_aret V rfl (by first | exact Or.inl ⟨_, rfl⟩ | exact Or.inr ⟨_, rfl⟩) dX7_text_26 ⟨_, rfl, hw⟩
  · have hw := ga_f q hw
    refine g_ldcS V gs_5 dX7_text_12 rfl ?_
    refine g_goto V dX7_text_14 rfl ?_
    exact g_aret V rfl (by first | exact Or.inl ⟨_, rfl⟩ | exact Or.inr ⟨_, rfl⟩) dX7_text_26 ⟨_, rfl, hw⟩
def w_X7_turns_L25 (G : gaG) (Q : Nat → gaH → Prop) : Nat → (Nat → Int → Nat → Int → gaH → Nat → Nat → Prop)
  | 0 => fun _ _ _ _ _ _ _ => False
  | n + 1 => fun v0 v1 v2 v3 h kc ks => gA h v0 7 2 (fun r1 => gLI h r1 102 v1 (fun r2 => gR v3 ∧ gR r2 ∧ (if r2 ≤ v3 then gHas h v2 1 ∧ gCall 5 272 kc ks (fun c5 s6 => w_J4_toString_0e30d G v2 h (fun r4 hp3 => Q r4 hp3)) else gA h v0 7 1 (fun r7 => gLA h r7 112 v1 (fun r8 => gLI h r8 102 v3 (fun r9 => gHas h v2 1 ∧ gCall 2 134 kc ks (fun c12 s13 => w_J4_append_bf812 G v2 r9 h (fun r11 hp10 => w_X7_turns_L25 G Q n v0 v1 v2 (v3 + 1) hp10 c12 s13))))))))
def w_X7_turns (G : gaG) (a0 : Nat) (a1 : Int) (h : gaH) (Q : Nat → gaH → Prop) : Prop := w_X7_isNoGrowth a1 h (fun r2 hp1 => gHas hp1 a0 7 ∧ w_X7_start a0 r2 1 hp1 (fun r4 hp3 => gR r4 ∧ (if r4 = 0 then gNO hp3 1 4 ([.null, gi 0, gi 0, gi 0]) 135 8916 (fun o5 hp6 c7 s8 => gCall 1 64 c7 s8 (fun c11 s12 => w_J4_init_da8c8 G o5 hp6 (fun hp9 => ∃ z, w_X7_turns_L25 G Q z a0 a1 o5 0 hp9 c11 s12))) else Q (G.2.2.2 15) hp3)))
abbrev rm_X7_turns : Room := { frames := 7, cells := 135, slots := 8916, locals := 174 }
theorem hd_X7_turns : yX7_turns.cls = RX7 ∧ (yX7_turns.cls ≠ "java/lang/invoke/MethodHandle" ∧ yX7_turns.cls ≠ "java/lang/invoke/VarHandle" ∧ (parseMethodDescriptor yX7_turns.desc).map (fun d => d.parameters.length) = some 1) := by decide +kernel
theorem k_X7_turns {l : Launch} (hst : l.stackTraces = false) {G : gaG} {X : String → gaH → Prop} {a0 : Nat} {a1 : Int} {h : gaH} {Q : Nat → gaH → Prop} (hw : w_X7_turns G a0 a1 h Q) : gaC l G yX7_turns (gaM yX7_turns cX7_turns 4 ((some (.object "java/lang/String")))) rm_X7_turns [.ref a0, gi a1] h (gQa Q) X := by
  refine g_start (lv := [some (.ref a0), some (gi a1), none, none]) hpl_RX7 hst (Nat.le_of_ble_eq_true rfl) (gaArgs_pad (z := 2) rfl) ww_7_13 ?_
  intro p e s m args below meth c V hT
  have h_X7_turns_L25 : ∀ (n : Nat), ∀ (v0 : Nat) (v1 : Int) (v2 : Nat) (v3 : Int) (h : gaH) (kc ks : Nat), w_X7_turns_L25 G Q n v0 v1 v2 v3 h kc ks → gaP p l e rm_X7_turns s m args below meth c G 4 (gaZ below G (gQa Q) X args s rm_X7_turns) 25 [some (.ref v0), some (gi v1), some (.ref v2), some (gi v3)] [] h kc ks := by
    intro n
    induction n with
    | zero =>
      intro v0 v1 v2 v3 h kc ks hw
      exact hw.elim
    | succ n ih =>
      intro v0 v1 v2 v3 h kc ks hw
      unfold w_X7_turns_L25 at hw
      refine g_iload_n V dX7_turns_25 rfl rfl ?_
      refine g_aload_n V dX7_turns_26 rfl rfl ?_
      obtain ⟨fs, r1, ha, hv, hw⟩ := hw
      refine g_get (C := RX7) (T := TX7) (N := 8) V 2 rfl hin_RX7 (by decide) (by decide) ww_5_183 rfl ha hv dX7_turns_27 rfl ?_
      refine g_iload_n V dX7_turns_30 rfl rfl ?_
      obtain ⟨t9, vs, r2, ha, ht, h0, h9, hv, hw⟩ := hw
      refine gi_iaload V ha ht h0 h9 hv dX7_turns_31 rfl ?_
      obtain ⟨hx0, hx1, hw⟩ := hw
      refine gi_icmp_ge V dX7_turns_32 rfl rfl hx0 hx1 (fun q => ?_) (fun q => ?_)
      · have hw := ga_t q hw
        refine g_aload_n V dX7_turns_54 rfl rfl ?_
        obtain ⟨hb, hw⟩ := hw
        obtain ⟨fb, hb⟩ := hb
        obtain ⟨hk, hj, c5, s6, ec, es, hw⟩ := hw
        refine g_callV (C := RJ4) (T := TJ4) (N := 4) (st := []) V (k_J4_toString_0e30d hst hw) ww_6_174 ww_4_148 ww_4_149 ww_1_18 ww_4_150 hd_J4_toString_0e30d ⟨by decide, by decide⟩ rfl (by decide) hb rfl rfl (ga_cat rfl) dX7_turns_55 hk hj rfl (gaX_all hT V) (ga_ka (fun r4 hp3 hw => ?_))
        refine ga_re ec es ?_
        exact g_aret V rfl (by first | exact Or.inl ⟨_, rfl⟩ | exact Or.inr ⟨_, rfl⟩) dX7_turns_58 ⟨_, rfl, hw⟩
      · have hw := ga_f q hw
        refine g_aload_n V dX7_turns_35 rfl rfl ?_
        refine g_aload_n V dX7_turns_36 rfl rfl ?_
        obtain ⟨fs, r7, ha, hv, hw⟩ := hw
        refine g_get (C := RX7) (T := TX7) (N := 8) V 1 rfl hin_RX7 (by decide) (by decide) ww_5_182 rfl ha hv dX7_turns_37 rfl ?_
        refine g_iload_n V dX7_turns_40 rfl rfl ?_
        obtain ⟨vs, r8, ha, h0, h9, hv, hw⟩ := hw
        refine gi_aaload V ha (by decide) h0 h9 hv dX7_turns_41 rfl ?_
        refine g_iload_n V dX7_turns_42 rfl rfl ?_
        obtain ⟨t9, vs, r9, ha, ht, h0, h9, hv, hw⟩ := hw
        refine gi_iaload V ha ht h0 h9 hv dX7_turns_43 rfl ?_
        obtain ⟨hb, hw⟩ := hw
        obtain ⟨fb, hb⟩ := hb
        obtain ⟨hk, hj, c12, s13, ec, es, hw⟩ := hw
        refine g_callV (C := RJ4) (T := TJ4) (N := 4) (st := []) V (k_J4_append_bf812 hst hw) ww_7_14 ww_4_187 ww_4_188 ww_1_18 ww_4_189 hd_J4_append_bf812 ⟨by decide, by decide⟩ rfl (by decide) hb rfl rfl (ga_cat rfl) dX7_turns_44 hk hj rfl (gaX_all hT V) (ga_ka (fun r11 hp10 hw => ?_))
        refine ga_re ec es ?_
        refine g_pop V dX7_turns_47 rfl rfl ?_
        refine gi_iinc (lv2 := [some (.ref v0), some (gi v1), some (.ref v2), some (gi (v3 + 1))]) V dX7_turns_48 (by decide) rfl rfl rfl rfl ?_
        refine g_goto V dX7_turns_51 rfl ?_
        exact ih v0 v1 v2 (v3 + 1) hp10 c12 s13 hw
  show gaP p l e rm_X7_turns s m args below meth c G 4 (gaZ below G (gQa Q) X args s rm_X7_turns) 0 [some (.ref a0), some (gi a1), none, none] [] h 135 8916
  unfold w_X7_turns at hw
  refine g_aload_n V dX7_turns_0 rfl rfl ?_
  refine g_iload_n V dX7_turns_1 rfl rfl ?_
  refine g_callS (st := [.ref a0]) V (k_X7_isNoGrowth hst hw) ww_6_110 ww_6_111 ww_1_5 ww_6_112 hd_X7_isNoGrowth ⟨by decide, by decide⟩ rfl rfl (ga_cat rfl) dX7_turns_2 (Nat.zero_le _) (Nat.zero_le _) rfl (gaX_all hT V) (ga_ki (fun r2 hp1 hw => ?_))
  refine g_iconst V (Int32.ofInt 1) dX7_turns_5 rfl rfl ?_
  obtain ⟨hb, hw⟩ := hw
  obtain ⟨fb, hb⟩ := hb
  refine g_callV (C := RX7) (T := TX7) (N := 8) (st := []) V (k_X7_start hst hw) ww_5_220 ww_5_222 wp_2_2 ww_1_5 ww_5_223 hd_X7_start ⟨by decide, by decide⟩ rfl (by decide) hb rfl rfl (ga_cat rfl) dX7_turns_6 (Nat.zero_le _) (Nat.zero_le _) rfl (gaX_all hT V) (ga_ki (fun r4 hp3 hw => ?_))
  obtain ⟨hx0, hw⟩ := hw
  refine gi_if_eq V dX7_turns_9 rfl rfl hx0 (fun q => ?_) (fun q => ?_)
  · have hw := ga_t q hw
    obtain ⟨hk, hj, hw⟩ := hw
    refine g_new (ci := 1) (C := RJ4) (T := TJ4) (N := 4) (fs := [.null, gi 0, gi 0, gi 0]) V tyJ4 tyJ4_ok rfl hin_RJ4 (by decide) ww_6_171 ww_4_26 ww_1_18 hdf_RJ4 dX7_turns_15 rfl hk hj (fun o5 hf => ?_)
    obtain ⟨c7, s8, ec, es, hw⟩ := hw o5 hf
    refine ga_re ec es ?_
    generalize gaUp hp3 o5 _ = hp6 at hw ⊢
    refine g_dup V dX7_turns_18 rfl rfl ?_
    obtain ⟨hk, hj, c11, s12, ec, es, hw⟩ := hw
    refine g_callI (st := [.ref o5]) V (k_J4_init_da8c8 hst hw) ww_6_172 ww_4_28 ww_1_18 ww_4_29 rfl hd_J4_init_da8c8 ⟨by decide, by decide⟩ rfl rfl (ga_cat rfl) dX7_turns_19 hk hj rfl (gaX_all hT V) (ga_kv (fun hp9 hw => ?_))
    refine ga_re ec es ?_
    refine g_astore_n (lv2 := [some (.ref a0), some (gi a1), some (.ref o5), none]) V dX7_turns_22 (by decide) rfl rfl rfl ?_
    refine g_iconst V (Int32.ofInt 0) dX7_turns_23 rfl rfl ?_
    refine g_istore_n (lv2 := [some (.ref a0), some (gi a1), some (.ref o5), some (gi 0)]) V dX7_turns_24 (by decide) rfl rfl rfl ?_
    obtain ⟨z, hw⟩ := hw
    exact h_X7_turns_L25 z a0 a1 o5 0 hp9 c11 s12 hw
  · have hw := ga_f q hw
    refine g_ldcS V gs_5 dX7_turns_12 rfl ?_
    exact g_aret V rfl (by first | exact Or.inl ⟨_, rfl⟩ | exact Or.inr ⟨_, rfl⟩) dX7_turns_14 ⟨_, rfl, hw⟩
