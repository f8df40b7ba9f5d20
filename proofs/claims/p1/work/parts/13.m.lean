def w_X7_add (a0 : Int64) (a2 : Int64) (h : gaH) (Q : Int64 → gaH → Prop) : Prop := Q ((a0 * (31 : Int64)) + a2) h
abbrev rm_X7_add : Room := { frames := 0, cells := 0, slots := 0, locals := 0 }
theorem hd_X7_add : (yX7_add.cls ≠ "java/lang/invoke/MethodHandle" ∧ yX7_add.cls ≠ "java/lang/invoke/VarHandle" ∧ (parseMethodDescriptor yX7_add.desc).map (fun d => d.parameters.length) = some 2) := by decide +kernel
theorem k_X7_add {l : Launch} (hst : l.stackTraces = false) {G : gaG} {X : String → gaH → Prop} {a0 : Int64} {a2 : Int64} {h : gaH} {Q : Int64 → gaH → Prop} (hw : w_X7_add a0 a2 h Q) : gaC l G yX7_add (gaM yX7_add cX7_add 4 ((some .long))) rm_X7_add [.long a0, .long a2] h (gQl Q) X := by
  refine g_start (lv := [some (.long a0), none, some (.long a2), none]) hpl_RX7 hst (Nat.le_of_ble_eq_true rfl) (gaArgs_pad (z := 0) rfl) ww_7_72 ?_
  intro p e s m args below meth c V hT
  unfold w_X7_add at hw
  refine g_lload_n V dX7_add_0 rfl rfl ?_
  refine g_ldc2 V (31 : Int64) dX7_add_1 ww_7_73 rfl ?_
  refine g_lmul V dX7_add_4 rfl ?_
  refine g_lload_n V dX7_add_5 rfl rfl ?_
  refine g_ladd V dX7_add_6 rfl ?_
  exact g_lret V rfl dX7_add_7 ⟨_, rfl, hw⟩
def w_X7_byCopies_J106 (Q : Nat → gaH → Prop) (K20 : Nat → Int → Int → Nat → Nat → Int → gaH → Nat → Nat → Prop) (K60 : Nat → Int → Int → Nat → Nat → Int → Int → Nat → Int → gaH → Nat → Nat → Prop) (v0 : Nat) (v1 : Int) (v2 : Int) (v3 : Nat) (v4 : Nat) (v5 : Int) (v6 : Int) (v7 : Nat) (v8 : Int) (t0 : Nat) (t1 : Int) (t2 : Int) (h : gaH) (kc ks : Nat) : Prop := gSI h t0 102 t1 (gi t2) (fun hp1 => K60 v0 v1 v2 v3 v4 v5 v6 v7 (v8 + 1) hp1 kc ks)
def w_X7_byCopies_L60 (Q : Nat → gaH → Prop) (K20 : Nat → Int → Int → Nat → Nat → Int → gaH → Nat → Nat → Prop) : Nat → (Nat → Int → Int → Nat → Nat → Int → Int → Nat → Int → gaH → Nat → Nat → Prop)
  | 0 => fun _ _ _ _ _ _ _ _ _ _ _ _ => False
  | n + 1 => fun v0 v1 v2 v3 v4 v5 v6 v7 v8 h kc ks => gAL h v7 102 (fun r1 => gR v8 ∧ gR r1 ∧ (if r1 ≤ v8 then K20 v0 v1 v2 v4 v7 (v5 + 1) h kc ks else gAL h v4 102 (fun r2 => gR v8 ∧ gR (v6 * r2) ∧ (if (v6 * r2) ≤ v8 then gAL h v4 102 (fun r3 => gLI h v3 102 (v8 - (v6 * r3)) (fun r4 => w_X7_byCopies_J106 Q K20 (w_X7_byCopies_L60 Q K20 n) v0 v1 v2 v3 v4 v5 v6 v7 v8 v7 v8 r4 h kc ks)) else gAL h v4 102 (fun r5 => gR r5 ∧ ¬ r5 = 0 ∧ (gLI h v4 102 (gRem v8 r5) (fun r6 => w_X7_byCopies_J106 Q K20 (w_X7_byCopies_L60 Q K20 n) v0 v1 v2 v3 v4 v5 v6 v7 v8 v7 v8 r6 h kc ks)))))))
def w_X7_byCopies_L20 (Q : Nat → gaH → Prop) : Nat → (Nat → Int → Int → Nat → Nat → Int → gaH → Nat → Nat → Prop)
  | 0 => fun _ _ _ _ _ _ _ _ _ => False
  | n + 1 => fun v0 v1 v2 v3 v4 v5 h kc ks => gA h v0 7 2 (fun r1 => gLI h r1 102 v1 (fun r2 => gR v5 ∧ gR (r2 - v2) ∧ (if (r2 - v2) ≤ v5 then Q v4 h else gA h v0 7 1 (fun r3 => gLA h r3 112 v1 (fun r4 => gLI h r4 102 v5 (fun r5 => gAL h v4 102 (fun r6 => gAL h v3 102 (fun r7 => gNA h 102 (gi 0) ((r5 * r6) + r7) kc ks (fun o8 hp9 c10 s11 => ∃ z, w_X7_byCopies_L60 Q (w_X7_byCopies_L20 Q n) z v0 v1 v2 v3 v4 v5 r5 o8 0 hp9 c10 s11)))))))))
def w_X7_byCopies (a0 : Nat) (a1 : Int) (a2 : Int) (h : gaH) (Q : Nat → gaH → Prop) : Prop := gNA h 102 (gi 0) 1 66 4098 (fun o1 hp2 c3 s4 => gSI hp2 o1 102 0 (gi 1) (fun hp5 => gNA hp5 102 (gi 0) 1 c3 s4 (fun o6 hp7 c8 s9 => gSI hp7 o6 102 0 (gi 0) (fun hp10 => ∃ z, w_X7_byCopies_L20 Q z a0 a1 a2 o1 o6 0 hp10 c8 s9))))
abbrev rm_X7_byCopies : Room := { frames := 0, cells := 66, slots := 4098, locals := 0 }
theorem hd_X7_byCopies : yX7_byCopies.cls = RX7 ∧ (yX7_byCopies.cls ≠ "java/lang/invoke/MethodHandle" ∧ yX7_byCopies.cls ≠ "java/lang/invoke/VarHandle" ∧ (parseMethodDescriptor yX7_byCopies.desc).map (fun d => d.parameters.length) = some 2) := by decide +kernel
theorem k_X7_byCopies {l : Launch} (hst : l.stackTraces = false) {G : gaG} {X : String → gaH → Prop} {a0 : Nat} {a1 : Int} {a2 : Int} {h : gaH} {Q : Nat → gaH → Prop} (hw : w_X7_byCopies a0 a1 a2 h Q) : gaC l G yX7_byCopies (gaM yX7_byCopies cX7_byCopies 9 ((some (.array .int)))) rm_X7_byCopies [.ref a0, gi a1, gi a2] h (gQa Q) X := by
  refine g_start (lv := [some (.ref a0), some (gi a1), some (gi a2), none, none, none, none, none, none]) hpl_RX7 hst (Nat.le_of_ble_eq_true rfl) (gaArgs_pad (z := 6) rfl) ww_6_116 ?_
  intro p e s m args below meth c V hT
  have h_X7_byCopies_J106 : ∀ (K20 : Nat → Int → Int → Nat → Nat → Int → gaH → Nat → Nat → Prop), ∀ (K60 : Nat → Int → Int → Nat → Nat → Int → Int → Nat → Int → gaH → Nat → Nat → Prop), ∀ (hK20 : ∀ (v0 : Nat) (v1 : Int) (v2 : Int) (v3 : Nat) (v4 : Nat) (v5 : Int) (h : gaH) (kc ks : Nat), K20 v0 v1 v2 v3 v4 v5 h kc ks → gaP p l e rm_X7_byCopies s m args below meth c G 9 (gaZ below G (gQa Q) X args s rm_X7_byCopies) 20 [some (.ref v0), some (gi v1), some (gi v2), some (.ref v3), some (.ref v4), some (gi v5), none, none, none] [] h kc ks), ∀ (hK60 : ∀ (v0 : Nat) (v1 : Int) (v2 : Int) (v3 : Nat) (v4 : Nat) (v5 : Int) (v6 : Int) (v7 : Nat) (v8 : Int) (h : gaH) (kc ks : Nat), K60 v0 v1 v2 v3 v4 v5 v6 v7 v8 h kc ks → gaP p l e rm_X7_byCopies s m args below meth c G 9 (gaZ below G (gQa Q) X args s rm_X7_byCopies) 60 [some (.ref v0), some (gi v1), some (gi v2), some (.ref v3), some (.ref v4), some (gi v5), some (gi v6), some (.ref v7), some (gi v8)] [] h kc ks), ∀ (v0 : Nat) (v1 : Int) (v2 : Int) (v3 : Nat) (v4 : Nat) (v5 : Int) (v6 : Int) (v7 : Nat) (v8 : Int) (t0 : Nat) (t1 : Int) (t2 : Int) (h : gaH) (kc ks : Nat), w_X7_byCopies_J106 Q K20 K60 v0 v1 v2 v3 v4 v5 v6 v7 v8 t0 t1 t2 h kc ks → gaP p l e rm_X7_byCopies s m args below meth c G 9 (gaZ below G (gQa Q) X args s rm_X7_byCopies) 106 [some (.ref v0), some (gi v1), some (gi v2), some (.ref v3), some (.ref v4), some (gi v5), some (gi v6), some (.ref v7), some (gi v8)] [gi t2, gi t1, .ref t0] h kc ks := by
    intro K20 K60 hK20 hK60
    intro v0 v1 v2 v3 v4 v5 v6 v7 v8 t0 t1 t2 h kc ks hw
    unfold w_X7_byCopies_J106 at hw
    obtain ⟨vs, ha, h0, h9, hi, hw⟩ := hw
    refine gi_iastore V ha h0 h9 hi dX7_byCopies_106 rfl ?_
    generalize gaUp h t0 _ = hp1 at hw ⊢
    refine gi_iinc (lv2 := [some (.ref v0), some (gi v1), some (gi v2), some (.ref v3), some (.ref v4), some (gi v5), some (gi v6), some (.ref v7), some (gi (v8 + 1))]) V dX7_byCopies_107 (by decide) rfl rfl rfl rfl ?_
    refine g_goto V dX7_byCopies_110 rfl ?_
    exact hK60 v0 v1 v2 v3 v4 v5 v6 v7 (v8 + 1) hp1 kc ks hw
  have h_X7_byCopies_L60 : ∀ (K20 : Nat → Int → Int → Nat → Nat → Int → gaH → Nat → Nat → Prop), ∀ (hK20 : ∀ (v0 : Nat) (v1 : Int) (v2 : Int) (v3 : Nat) (v4 : Nat) (v5 : Int) (h : gaH) (kc ks : Nat), K20 v0 v1 v2 v3 v4 v5 h kc ks → gaP p l e rm_X7_byCopies s m args below meth c G 9 (gaZ below G (gQa Q) X args s rm_X7_byCopies) 20 [some (.ref v0), some (gi v1), some (gi v2), some (.ref v3), some (.ref v4), some (gi v5), none, none, none] [] h kc ks), ∀ (n : Nat), ∀ (v0 : Nat) (v1 : Int) (v2 : Int) (v3 : Nat) (v4 : Nat) (v5 : Int) (v6 : Int) (v7 : Nat) (v8 : Int) (h : gaH) (kc ks : Nat), w_X7_byCopies_L60 Q K20 n v0 v1 v2 v3 v4 v5 v6 v7 v8 h kc ks → gaP p l e rm_X7_byCopies s m args below meth c G 9 (gaZ below G (gQa Q) X args s rm_X7_byCopies) 60 [some (.ref v0), some (gi v1), some (gi v2), some (.ref v3), some (.ref v4), some (gi v5), some (gi v6), some (.ref v7), some (gi v8)] [] h kc ks := by
    intro K20 hK20
    intro n
    induction n with
    | zero =>
      intro v0 v1 v2 v3 v4 v5 v6 v7 v8 h kc ks hw
      exact hw.elim
    | succ n ih =>
      intro v0 v1 v2 v3 v4 v5 v6 v7 v8 h kc ks hw
      unfold w_X7_byCopies_L60 at hw
      refine g_iload V dX7_byCopies_60 rfl rfl ?_
      refine g_aload V dX7_byCopies_62 rfl rfl ?_
      obtain ⟨t9, vs, ha, ht, hw⟩ := hw
      refine gi_arraylength (t0 := 102) V (by simp [gaT]) ha ht dX7_byCopies_64 rfl ?_
      generalize (vs.length : Int) = r1 at hw ⊢
      obtain ⟨hx0, hx1, hw⟩ := hw
      refine gi_icmp_ge V dX7_byCopies_65 rfl rfl hx0 hx1 (fun q => ?_) (fun q => ?_)
      · have hw := ga_t q hw
        refine g_aload V dX7_byCopies_113 rfl rfl ?_
        refine g_astore_n (lv2 := [some (.ref v0), some (gi v1), some (gi v2), some (.ref v4), some (.ref v4), some (gi v5), some (gi v6), some (.ref v7), some (gi v8)]) V dX7_byCopies_115 (by decide) rfl rfl rfl ?_
        refine g_aload V dX7_byCopies_116 rfl rfl ?_
        refine g_astore (lv2 := [some (.ref v0), some (gi v1), some (gi v2), some (.ref v4), some (.ref v7), some (gi v5), some (gi v6), some (.ref v7), some (gi v8)]) V dX7_byCopies_118 (by decide) rfl rfl rfl ?_
        refine gi_iinc (lv2 := [some (.ref v0), some (gi v1), some (gi v2), some (.ref v4), some (.ref v7), some (gi (v5 + 1)), some (gi v6), some (.ref v7), some (gi v8)]) V dX7_byCopies_120 (by decide) rfl rfl rfl rfl ?_
        refine g_goto V dX7_byCopies_123 rfl ?_
        refine g_less (bs := [true, true, true, true, true, true, false, false, false]) (lv2 := [some (.ref v0), some (gi v1), some (gi v2), some (.ref v4), some (.ref v7), some (gi (v5 + 1)), none, none, none]) rfl ?_
        exact hK20 v0 v1 v2 v4 v7 (v5 + 1) h kc ks hw
      · have hw := ga_f q hw
        refine g_aload V dX7_byCopies_68 rfl rfl ?_
        refine g_iload V dX7_byCopies_70 rfl rfl ?_
        refine g_iload V dX7_byCopies_72 rfl rfl ?_
        refine g_iload V dX7_byCopies_74 rfl rfl ?_
        refine g_aload V dX7_byCopies_76 rfl rfl ?_
        obtain ⟨t9, vs, ha, ht, hw⟩ := hw
        refine gi_arraylength (t0 := 102) V (by simp [gaT]) ha ht dX7_byCopies_78 rfl ?_
        generalize (vs.length : Int) = r2 at hw ⊢
        refine gi_imul V dX7_byCopies_79 rfl ?_
        obtain ⟨hx0, hx1, hw⟩ := hw
        refine gi_icmp_ge V dX7_byCopies_80 rfl rfl hx0 hx1 (fun q => ?_) (fun q => ?_)
        · have hw := ga_t q hw
          refine g_aload_n V dX7_byCopies_95 rfl rfl ?_
          refine g_iload V dX7_byCopies_96 rfl rfl ?_
          refine g_iload V dX7_byCopies_98 rfl rfl ?_
          refine g_aload V dX7_byCopies_100 rfl rfl ?_
          obtain ⟨t9, vs, ha, ht, hw⟩ := hw
          refine gi_arraylength (t0 := 102) V (by simp [gaT]) ha ht dX7_byCopies_102 rfl ?_
          generalize (vs.length : Int) = r3 at hw ⊢
          refine gi_imul V dX7_byCopies_103 rfl ?_
          refine gi_isub V dX7_byCopies_104 rfl ?_
          obtain ⟨t9, vs, r4, ha, ht, h0, h9, hv, hw⟩ := hw
          refine gi_iaload V ha ht h0 h9 hv dX7_byCopies_105 rfl ?_
          exact h_X7_byCopies_J106 K20 (w_X7_byCopies_L60 Q K20 n) hK20 ih v0 v1 v2 v3 v4 v5 v6 v7 v8 v7 v8 r4 h kc ks hw
        · have hw := ga_f q hw
          refine g_aload V dX7_byCopies_83 rfl rfl ?_
          refine g_iload V dX7_byCopies_85 rfl rfl ?_
          refine g_aload V dX7_byCopies_87 rfl rfl ?_
          obtain ⟨t9, vs, ha, ht, hw⟩ := hw
          refine gi_arraylength (t0 := 102) V (by simp [gaT]) ha ht dX7_byCopies_89 rfl ?_
          generalize (vs.length : Int) = r5 at hw ⊢
          obtain ⟨hx, h0, hw⟩ := hw
          refine gi_irem V dX7_byCopies_90 hx h0 rfl ?_
          obtain ⟨t9, vs, r6, ha, ht, h0, h9, hv, hw⟩ := hw
          refine gi_iaload V ha ht h0 h9 hv dX7_byCopies_91 rfl ?_
          refine g_goto V dX7_byCopies_92 rfl ?_
          exact h_X7_byCopies_J106 K20 (w_X7_byCopies_L60 Q K20 n) hK20 ih v0 v1 v2 v3 v4 v5 v6 v7 v8 v7 v8 r6 h kc ks hw
  have h_X7_byCopies_L20 : ∀ (n : Nat), ∀ (v0 : Nat) (v1 : Int) (v2 : Int) (v3 : Nat) (v4 : Nat) (v5 : Int) (h : gaH) (kc ks : Nat), w_X7_byCopies_L20 Q n v0 v1 v2 v3 v4 v5 h kc ks → gaP p l e rm_X7_byCopies s m args below meth c G 9 (gaZ below G (gQa Q) X args s rm_X7_byCopies) 20 [some (.ref v0), some (gi v1), some (gi v2), some (.ref v3), some (.ref v4), some (gi v5), none, none, none] [] h kc ks := by
    intro n
    induction n with
    | zero =>
      intro v0 v1 v2 v3 v4 v5 h kc ks hw
      exact hw.elim
    | succ n ih =>
      intro v0 v1 v2 v3 v4 v5 h kc ks hw
      unfold w_X7_byCopies_L20 at hw
      refine g_iload V dX7_byCopies_20 rfl rfl ?_
      refine g_aload_n V dX7_byCopies_22 rfl rfl ?_
      obtain ⟨fs, r1, ha, hv, hw⟩ := hw
      refine g_get (C := RX7) (T := TX7) (N := 8) V 2 rfl hin_RX7 (by decide) (by decide) ww_5_183 rfl ha hv dX7_byCopies_23 rfl ?_
      refine g_iload_n V dX7_byCopies_26 rfl rfl ?_
      obtain ⟨t9, vs, r2, ha, ht, h0, h9, hv, hw⟩ := hw
      refine gi_iaload V ha ht h0 h9 hv dX7_byCopies_27 rfl ?_
      refine g_iload_n V dX7_byCopies_28 rfl rfl ?_
      refine gi_isub V dX7_byCopies_29 rfl ?_
      obtain ⟨hx0, hx1, hw⟩ := hw
      refine gi_icmp_ge V dX7_byCopies_30 rfl rfl hx0 hx1 (fun q => ?_) (fun q => ?_)
      · have hw := ga_t q hw
        refine g_aload V dX7_byCopies_126 rfl rfl ?_
        exact g_aret V rfl (by first | exact Or.inl ⟨_, rfl⟩ | exact Or.inr ⟨_, rfl⟩) dX7_byCopies_128 ⟨_, rfl, hw⟩
      · have hw := ga_f q hw
        refine g_aload_n V dX7_byCopies_33 rfl rfl ?_
        obtain ⟨fs, r3, ha, hv, hw⟩ := hw
        refine g_get (C := RX7) (T := TX7) (N := 8) V 1 rfl hin_RX7 (by decide) (by decide) ww_5_182 rfl ha hv dX7_byCopies_34 rfl ?_
        refine g_iload_n V dX7_byCopies_37 rfl rfl ?_
        obtain ⟨vs, r4, ha, h0, h9, hv, hw⟩ := hw
        refine gi_aaload V ha (by decide) h0 h9 hv dX7_byCopies_38 rfl ?_
        refine g_iload V dX7_byCopies_39 rfl rfl ?_
        obtain ⟨t9, vs, r5, ha, ht, h0, h9, hv, hw⟩ := hw
        refine gi_iaload V ha ht h0 h9 hv dX7_byCopies_41 rfl ?_
        refine g_istore (lv2 := [some (.ref v0), some (gi v1), some (gi v2), some (.ref v3), some (.ref v4), some (gi v5), some (gi r5), none, none]) V dX7_byCopies_42 (by decide) rfl rfl rfl ?_
        refine g_iload V dX7_byCopies_44 rfl rfl ?_
        refine g_aload V dX7_byCopies_46 rfl rfl ?_
        obtain ⟨t9, vs, ha, ht, hw⟩ := hw
        refine gi_arraylength (t0 := 102) V (by simp [gaT]) ha ht dX7_byCopies_48 rfl ?_
        generalize (vs.length : Int) = r6 at hw ⊢
        refine gi_imul V dX7_byCopies_49 rfl ?_
        refine g_aload_n V dX7_byCopies_50 rfl rfl ?_
        obtain ⟨t9, vs, ha, ht, hw⟩ := hw
        refine gi_arraylength (t0 := 102) V (by simp [gaT]) ha ht dX7_byCopies_51 rfl ?_
        generalize (vs.length : Int) = r7 at hw ⊢
        refine gi_iadd V dX7_byCopies_52 rfl ?_
        obtain ⟨h0, h9, hk, hj, hw⟩ := hw
        refine gi_newarray (atype := .int) (t := 102) V (by decide) rfl ww_1_109 h0 h9 dX7_byCopies_53 rfl hk hj (fun o8 hf => ?_)
        obtain ⟨c10, s11, ec, es, hw⟩ := hw o8 hf
        refine ga_re ec es ?_
        generalize gaUp h o8 _ = hp9 at hw ⊢
        refine g_astore (lv2 := [some (.ref v0), some (gi v1), some (gi v2), some (.ref v3), some (.ref v4), some (gi v5), some (gi r5), some (.ref o8), none]) V dX7_byCopies_55 (by decide) rfl rfl rfl ?_
        refine g_iconst V (Int32.ofInt 0) dX7_byCopies_57 rfl rfl ?_
        refine g_istore (lv2 := [some (.ref v0), some (gi v1), some (gi v2), some (.ref v3), some (.ref v4), some (gi v5), some (gi r5), some (.ref o8), some (gi 0)]) V dX7_byCopies_58 (by decide) rfl rfl rfl ?_
        obtain ⟨z, hw⟩ := hw
        exact h_X7_byCopies_L60 (w_X7_byCopies_L20 Q n) ih z v0 v1 v2 v3 v4 v5 r5 o8 0 hp9 c10 s11 hw
  show gaP p l e rm_X7_byCopies s m args below meth c G 9 (gaZ below G (gQa Q) X args s rm_X7_byCopies) 0 [some (.ref a0), some (gi a1), some (gi a2), none, none, none, none, none, none] [] h 66 4098
  unfold w_X7_byCopies at hw
  refine g_iconst V (Int32.ofInt 1) dX7_byCopies_0 rfl rfl ?_
  obtain ⟨h0, h9, hk, hj, hw⟩ := hw
  refine gi_newarray (atype := .int) (t := 102) V (by decide) rfl ww_1_109 h0 h9 dX7_byCopies_1 rfl hk hj (fun o1 hf => ?_)
  obtain ⟨c3, s4, ec, es, hw⟩ := hw o1 hf
  refine ga_re ec es ?_
  generalize gaUp h o1 _ = hp2 at hw ⊢
  refine g_dup V dX7_byCopies_3 rfl rfl ?_
  refine g_iconst V (Int32.ofInt 0) dX7_byCopies_4 rfl rfl ?_
  refine g_iconst V (Int32.ofInt 1) dX7_byCopies_5 rfl rfl ?_
  obtain ⟨vs, ha, h0, h9, hi, hw⟩ := hw
  refine gi_iastore V ha h0 h9 hi dX7_byCopies_6 rfl ?_
  generalize gaUp hp2 o1 _ = hp5 at hw ⊢
  refine g_astore_n (lv2 := [some (.ref a0), some (gi a1), some (gi a2), some (.ref o1), none, none, none, none, none]) V dX7_byCopies_7 (by decide) rfl rfl rfl ?_
  refine g_iconst V (Int32.ofInt 1) dX7_byCopies_8 rfl rfl ?_
  obtain ⟨h0, h9, hk, hj, hw⟩ := hw
  refine gi_newarray (atype := .int) (t := 102) V (by decide) rfl ww_1_109 h0 h9 dX7_byCopies_9 rfl hk hj (fun o6 hf => ?_)
  obtain ⟨c8, s9, ec, es, hw⟩ := hw o6 hf
  refine ga_re ec es ?_
  generalize gaUp hp5 o6 _ = hp7 at hw ⊢
  refine g_dup V dX7_byCopies_11 rfl rfl ?_
  refine g_iconst V (Int32.ofInt 0) dX7_byCopies_12 rfl rfl ?_
  refine g_iconst V (Int32.ofInt 0) dX7_byCopies_13 rfl rfl ?_
  obtain ⟨vs, ha, h0, h9, hi, hw⟩ := hw
  refine gi_iastore V ha h0 h9 hi dX7_byCopies_14 rfl ?_
  generalize gaUp hp7 o6 _ = hp10 at hw ⊢
  refine g_astore (lv2 := [some (.ref a0), some (gi a1), some (gi a2), some (.ref o1), some (.ref o6), none, none, none, none]) V dX7_byCopies_15 (by decide) rfl rfl rfl ?_
  refine g_iconst V (Int32.ofInt 0) dX7_byCopies_17 rfl rfl ?_
  refine g_istore (lv2 := [some (.ref a0), some (gi a1), some (gi a2), some (.ref o1), some (.ref o6), some (gi 0), none, none, none]) V dX7_byCopies_18 (by decide) rfl rfl rfl ?_
  obtain ⟨z, hw⟩ := hw
  exact h_X7_byCopies_L20 z a0 a1 a2 o1 o6 0 hp10 c8 s9 hw
def w_X7_elder (a0 : Nat) (a1 : Int) (h : gaH) (Q : Nat → gaH → Prop) : Prop := gA h a0 7 2 (fun r1 => gLI h r1 102 a1 (fun r2 => gR r2 ∧ (if r2 = 0 then gNA h 102 (gi 0) 1 67 4099 (fun o7 hp8 c9 s10 => gSI hp8 o7 102 0 (gi 1) (fun hp11 => Q o7 hp11)) else gHas h a0 7 ∧ gCall 66 4098 67 4099 (fun c5 s6 => w_X7_byCopies a0 a1 1 h (fun r4 hp3 => Q r4 hp3)))))
abbrev rm_X7_elder : Room := { frames := 1, cells := 67, slots := 4099, locals := 28 }
theorem hd_X7_elder : yX7_elder.cls = RX7 ∧ (yX7_elder.cls ≠ "java/lang/invoke/MethodHandle" ∧ yX7_elder.cls ≠ "java/lang/invoke/VarHandle" ∧ (parseMethodDescriptor yX7_elder.desc).map (fun d => d.parameters.length) = some 1) := by decide +kernel
theorem k_X7_elder {l : Launch} (hst : l.stackTraces = false) {G : gaG} {X : String → gaH → Prop} {a0 : Nat} {a1 : Int} {h : gaH} {Q : Nat → gaH → Prop} (hw : w_X7_elder a0 a1 h Q) : gaC l G yX7_elder (gaM yX7_elder cX7_elder 2 ((some (.array .int)))) rm_X7_elder [.ref a0, gi a1] h (gQa Q) X := by
  refine g_start (lv := [some (.ref a0), some (gi a1)]) hpl_RX7 hst (Nat.le_of_ble_eq_true rfl) (gaArgs_pad (z := 0) rfl) ww_6_146 ?_
  intro p e s m args below meth c V hT
  show gaP p l e rm_X7_elder s m args below meth c G 2 (gaZ below G (gQa Q) X args s rm_X7_elder) 0 [some (.ref a0), some (gi a1)] [] h 67 4099
  unfold w_X7_elder at hw
  refine g_aload_n V dX7_elder_0 rfl rfl ?_
  obtain ⟨fs, r1, ha, hv, hw⟩ := hw
  refine g_get (C := RX7) (T := TX7) (N := 8) V 2 rfl hin_RX7 (by decide) (by decide) ww_5_183 rfl ha hv dX7_elder_1 rfl ?_
  refine g_iload_n V dX7_elder_4 rfl rfl ?_
  obtain ⟨t9, vs, r2, ha, ht, h0, h9, hv, hw⟩ := hw
  refine gi_iaload V ha ht h0 h9 hv dX7_elder_5 rfl ?_
  obtain ⟨hx0, hw⟩ := hw
  refine gi_if_ne V dX7_elder_6 rfl rfl hx0 (fun q => ?_) (fun q => ?_)
  · have hw := ga_f q hw
    refine g_aload_n V dX7_elder_19 rfl rfl ?_
    refine g_iload_n V dX7_elder_20 rfl rfl ?_
    refine g_iconst V (Int32.ofInt 1) dX7_elder_21 rfl rfl ?_
    obtain ⟨hb, hw⟩ := hw
    obtain ⟨fb, hb⟩ := hb
    obtain ⟨hk, hj, c5, s6, ec, es, hw⟩ := hw
    refine g_callV (C := RX7) (T := TX7) (N := 8) (st := []) V (k_X7_byCopies hst hw) ww_6_113 ww_6_115 wp_2_11 ww_1_5 ww_6_116 hd_X7_byCopies ⟨by decide, by decide⟩ rfl (by decide) hb rfl rfl (ga_cat rfl) dX7_elder_22 hk hj rfl (gaX_all hT V) (ga_ka (fun r4 hp3 hw => ?_))
    refine ga_re ec es ?_
    exact g_aret V rfl (by first | exact Or.inl ⟨_, rfl⟩ | exact Or.inr ⟨_, rfl⟩) dX7_elder_25 ⟨_, rfl, hw⟩
  · have hw := ga_t q hw
    refine g_iconst V (Int32.ofInt 1) dX7_elder_9 rfl rfl ?_
    obtain ⟨h0, h9, hk, hj, hw⟩ := hw
    refine gi_newarray (atype := .int) (t := 102) V (by decide) rfl ww_1_109 h0 h9 dX7_elder_10 rfl hk hj (fun o7 hf => ?_)
    obtain ⟨c9, s10, ec, es, hw⟩ := hw o7 hf
    refine ga_re ec es ?_
    generalize gaUp h o7 _ = hp8 at hw ⊢
    refine g_dup V dX7_elder_12 rfl rfl ?_
    refine g_iconst V (Int32.ofInt 0) dX7_elder_13 rfl rfl ?_
    refine g_iconst V (Int32.ofInt 1) dX7_elder_14 rfl rfl ?_
    obtain ⟨vs, ha, h0, h9, hi, hw⟩ := hw
    refine gi_iastore V ha h0 h9 hi dX7_elder_15 rfl ?_
    generalize gaUp hp8 o7 _ = hp11 at hw ⊢
    refine g_goto V dX7_elder_16 rfl ?_
    exact g_aret V rfl (by first | exact Or.inl ⟨_, rfl⟩ | exact Or.inr ⟨_, rfl⟩) dX7_elder_25 ⟨_, rfl, hw⟩
def w_X7_word (a0 : Nat) (a1 : Int) (a2 : Int) (h : gaH) (Q : Nat → gaH → Prop) : Prop := gR a2 ∧ (if a2 = 0 then gHas h a0 7 ∧ gCall 66 4098 67 4288 (fun c3 s4 => w_X7_byCopies a0 a1 0 h (fun r2 hp1 => Q r2 hp1)) else gHas h a0 7 ∧ gCall 67 4099 67 4288 (fun c7 s8 => w_X7_elder a0 a1 h (fun r6 hp5 => Q r6 hp5)))
abbrev rm_X7_word : Room := { frames := 2, cells := 67, slots := 4288, locals := 49 }
theorem hd_X7_word : yX7_word.cls = RX7 ∧ (yX7_word.cls ≠ "java/lang/invoke/MethodHandle" ∧ yX7_word.cls ≠ "java/lang/invoke/VarHandle" ∧ (parseMethodDescriptor yX7_word.desc).map (fun d => d.parameters.length) = some 2) := by decide +kernel
theorem k_X7_word {l : Launch} (hst : l.stackTraces = false) {G : gaG} {X : String → gaH → Prop} {a0 : Nat} {a1 : Int} {a2 : Int} {h : gaH} {Q : Nat → gaH → Prop} (hw : w_X7_word a0 a1 a2 h Q) : gaC l G yX7_word (gaM yX7_word cX7_word 3 ((some (.array .int)))) rm_X7_word [.ref a0, gi a1, gi a2] h (gQa Q) X := by
  refine g_start (lv := [some (.ref a0), some (gi a1), some (gi a2)]) hpl_RX7 hst (Nat.le_of_ble_eq_true rfl) (gaArgs_pad (z := 0) rfl) ww_7_22 ?_
  intro p e s m args below meth c V hT
  show gaP p l e rm_X7_word s m args below meth c G 3 (gaZ below G (gQa Q) X args s rm_X7_word) 0 [some (.ref a0), some (gi a1), some (gi a2)] [] h 67 4288
  unfold w_X7_word at hw
  refine g_iload_n V dX7_word_0 rfl rfl ?_
  obtain ⟨hx0, hw⟩ := hw
  refine gi_if_eq V dX7_word_1 rfl rfl hx0 (fun q => ?_) (fun q => ?_)
  · have hw := ga_t q hw
    refine g_aload_n V dX7_word_12 rfl rfl ?_
    refine g_iload_n V dX7_word_13 rfl rfl ?_
    refine g_iconst V (Int32.ofInt 0) dX7_word_14 rfl rfl ?_
    obtain ⟨hb, hw⟩ := hw
    obtain ⟨fb, hb⟩ := hb
    obtain ⟨hk, hj, c3, s4, ec, es, hw⟩ := hw
    refine g_callV (C := RX7) (T := TX7) (N := 8) (st := []) V (k_X7_byCopies hst hw) ww_6_113 ww_6_115 wp_2_11 ww_1_5 ww_6_116 hd_X7_byCopies ⟨by decide, by decide⟩ rfl (by decide) hb rfl rfl (ga_cat rfl) dX7_word_15 hk hj rfl (gaX_all hT V) (ga_ka (fun r2 hp1 hw => ?_))
    refine ga_re ec es ?_
    exact g_aret V rfl (by first | exact Or.inl ⟨_, rfl⟩ | exact Or.inr ⟨_, rfl⟩) dX7_word_18 ⟨_, rfl, hw⟩
  · have hw := ga_f q hw
    refine g_aload_n V dX7_word_4 rfl rfl ?_
    refine g_iload_n V dX7_word_5 rfl rfl ?_
    obtain ⟨hb, hw⟩ := hw
    obtain ⟨fb, hb⟩ := hb
    obtain ⟨hk, hj, c7, s8, ec, es, hw⟩ := hw
    refine g_callV (C := RX7) (T := TX7) (N := 8) (st := []) V (k_X7_elder hst hw) ww_6_143 ww_6_145 wp_2_14 ww_1_5 ww_6_146 hd_X7_elder ⟨by decide, by decide⟩ rfl (by decide) hb rfl rfl (ga_cat rfl) dX7_word_6 hk hj rfl (gaX_all hT V) (ga_ka (fun r6 hp5 hw => ?_))
    refine ga_re ec es ?_
    refine g_goto V dX7_word_9 rfl ?_
    exact g_aret V rfl (by first | exact Or.inl ⟨_, rfl⟩ | exact Or.inr ⟨_, rfl⟩) dX7_word_18 ⟨_, rfl, hw⟩
def w_X7_bs_L10 (Q : Int → gaH → Prop) : Nat → (Int → Nat → Int → Int → gaH → Prop)
  | 0 => fun _ _ _ _ _ => False
  | n + 1 => fun v1 v2 v3 v4 h => gR v4 ∧ gR v3 ∧ (if v3 ≤ v4 then Q v1 h else gLI h v2 102 v4 (fun r1 => w_X7_bs_L10 Q n (v1 + r1) v2 v3 (v4 + 1) h))
def w_X7_bs (a0 : Nat) (h : gaH) (Q : Int → gaH → Prop) : Prop := gAL h a0 102 (fun r1 => ∃ z, w_X7_bs_L10 Q z 0 a0 r1 0 h)
abbrev rm_X7_bs : Room := { frames := 0, cells := 0, slots := 0, locals := 0 }
theorem hd_X7_bs : (yX7_bs.cls ≠ "java/lang/invoke/MethodHandle" ∧ yX7_bs.cls ≠ "java/lang/invoke/VarHandle" ∧ (parseMethodDescriptor yX7_bs.desc).map (fun d => d.parameters.length) = some 1) := by decide +kernel
theorem k_X7_bs {l : Launch} (hst : l.stackTraces = false) {G : gaG} {X : String → gaH → Prop} {a0 : Nat} {h : gaH} {Q : Int → gaH → Prop} (hw : w_X7_bs a0 h Q) : gaC l G yX7_bs (gaM yX7_bs cX7_bs 6 ((some .int))) rm_X7_bs [.ref a0] h (gQi Q) X := by
  refine g_start (lv := [some (.ref a0), none, none, none, none, none]) hpl_RX7 hst (Nat.le_of_ble_eq_true rfl) (gaArgs_pad (z := 5) rfl) ww_6_48 ?_
  intro p e s m args below meth c V hT
  have h_X7_bs_L10 : ∀ (n : Nat), ∀ (v1 : Int) (v2 : Nat) (v3 : Int) (v4 : Int) (h : gaH), w_X7_bs_L10 Q n v1 v2 v3 v4 h → gaP p l e rm_X7_bs s m args below meth c G 6 (gaZ below G (gQi Q) X args s rm_X7_bs) 10 [none, some (gi v1), some (.ref v2), some (gi v3), some (gi v4), none] [] h 0 0 := by
    intro n
    induction n with
    | zero =>
      intro v1 v2 v3 v4 h hw
      exact hw.elim
    | succ n ih =>
      intro v1 v2 v3 v4 h hw
      unfold w_X7_bs_L10 at hw
      refine g_iload V dX7_bs_10 rfl rfl ?_
      refine g_iload_n V dX7_bs_12 rfl rfl ?_
      obtain ⟨hx0, hx1, hw⟩ := hw
      refine gi_icmp_ge V dX7_bs_13 rfl rfl hx0 hx1 (fun q => ?_) (fun q => ?_)
      · have hw := ga_t q hw
        refine g_iload_n V dX7_bs_33 rfl rfl ?_
        exact g_iret V rfl rfl dX7_bs_34 ⟨_, rfl, hw⟩
      · have hw := ga_f q hw
        refine g_aload_n V dX7_bs_16 rfl rfl ?_
        refine g_iload V dX7_bs_17 rfl rfl ?_
        obtain ⟨t9, vs, r1, ha, ht, h0, h9, hv, hw⟩ := hw
        refine gi_iaload V ha ht h0 h9 hv dX7_bs_19 rfl ?_
        refine g_istore (lv2 := [none, some (gi v1), some (.ref v2), some (gi v3), some (gi v4), some (gi r1)]) V dX7_bs_20 (by decide) rfl rfl rfl ?_
        refine g_iload_n V dX7_bs_22 rfl rfl ?_
        refine g_iload V dX7_bs_23 rfl rfl ?_
        refine gi_iadd V dX7_bs_25 rfl ?_
        refine g_istore_n (lv2 := [none, some (gi (v1 + r1)), some (.ref v2), some (gi v3), some (gi v4), some (gi r1)]) V dX7_bs_26 (by decide) rfl rfl rfl ?_
        refine gi_iinc (lv2 := [none, some (gi (v1 + r1)), some (.ref v2), some (gi v3), some (gi (v4 + 1)), some (gi r1)]) V dX7_bs_27 (by decide) rfl rfl rfl rfl ?_
        refine g_goto V dX7_bs_30 rfl ?_
        refine g_less (bs := [true, true, true, true, true, false]) (lv2 := [none, some (gi (v1 + r1)), some (.ref v2), some (gi v3), some (gi (v4 + 1)), none]) rfl ?_
        exact ih (v1 + r1) v2 v3 (v4 + 1) h hw
  unfold w_X7_bs at hw
  refine g_iconst V (Int32.ofInt 0) dX7_bs_0 rfl rfl ?_
  refine g_istore_n (lv2 := [some (.ref a0), some (gi 0), none, none, none, none]) V dX7_bs_1 (by decide) rfl rfl rfl ?_
  refine g_aload_n V dX7_bs_2 rfl rfl ?_
  refine g_astore_n (lv2 := [some (.ref a0), some (gi 0), some (.ref a0), none, none, none]) V dX7_bs_3 (by decide) rfl rfl rfl ?_
  refine g_aload_n V dX7_bs_4 rfl rfl ?_
  obtain ⟨t9, vs, ha, ht, hw⟩ := hw
  refine gi_arraylength (t0 := 102) V (by simp [gaT]) ha ht dX7_bs_5 rfl ?_
  generalize (vs.length : Int) = r1 at hw ⊢
  refine g_istore_n (lv2 := [some (.ref a0), some (gi 0), some (.ref a0), some (gi r1), none, none]) V dX7_bs_6 (by decide) rfl rfl rfl ?_
  refine g_iconst V (Int32.ofInt 0) dX7_bs_7 rfl rfl ?_
  refine g_istore (lv2 := [some (.ref a0), some (gi 0), some (.ref a0), some (gi r1), some (gi 0), none]) V dX7_bs_8 (by decide) rfl rfl rfl ?_
  refine g_less (bs := [false, true, true, true, true, true]) (lv2 := [none, some (gi 0), some (.ref a0), some (gi r1), some (gi 0), none]) rfl ?_
  obtain ⟨z, hw⟩ := hw
  exact h_X7_bs_L10 z 0 a0 r1 0 h hw
def w_X7_crossOf (a0 : Nat) (a1 : Nat) (h : gaH) (Q : Int → gaH → Prop) : Prop := gAL h a0 102 (fun r1 => w_X7_bs a1 h (fun r3 hp2 => gAL hp2 a1 102 (fun r4 => w_X7_bs a0 hp2 (fun r6 hp5 => Q ((r1 * r3) - (r4 * r6)) hp5))))
abbrev rm_X7_crossOf : Room := { frames := 1, cells := 0, slots := 0, locals := 25 }
theorem hd_X7_crossOf : (yX7_crossOf.cls ≠ "java/lang/invoke/MethodHandle" ∧ yX7_crossOf.cls ≠ "java/lang/invoke/VarHandle" ∧ (parseMethodDescriptor yX7_crossOf.desc).map (fun d => d.parameters.length) = some 2) := by decide +kernel
theorem k_X7_crossOf {l : Launch} (hst : l.stackTraces = false) {G : gaG} {X : String → gaH → Prop} {a0 : Nat} {a1 : Nat} {h : gaH} {Q : Int → gaH → Prop} (hw : w_X7_crossOf a0 a1 h Q) : gaC l G yX7_crossOf (gaM yX7_crossOf cX7_crossOf 2 ((some .int))) rm_X7_crossOf [.ref a0, .ref a1] h (gQi Q) X := by
  refine g_start (lv := [some (.ref a0), some (.ref a1)]) hpl_RX7 hst (Nat.le_of_ble_eq_true rfl) (gaArgs_pad (z := 0) rfl) ww_7_37 ?_
  intro p e s m args below meth c V hT
  unfold w_X7_crossOf at hw
  refine g_aload_n V dX7_crossOf_0 rfl rfl ?_
  obtain ⟨t9, vs, ha, ht, hw⟩ := hw
  refine gi_arraylength (t0 := 102) V (by simp [gaT]) ha ht dX7_crossOf_1 rfl ?_
  generalize (vs.length : Int) = r1 at hw ⊢
  refine g_aload_n V dX7_crossOf_2 rfl rfl ?_
  refine g_callS (st := [gi r1]) V (k_X7_bs hst hw) ww_6_46 ww_6_47 ww_1_5 ww_6_48 hd_X7_bs ⟨by decide, by decide⟩ rfl rfl (ga_cat rfl) dX7_crossOf_3 (Nat.zero_le _) (Nat.zero_le _) rfl (gaX_all hT V) (ga_ki (fun r3 hp2 hw => ?_))
  refine gi_imul V dX7_crossOf_6 rfl ?_
  refine g_aload_n V dX7_crossOf_7 rfl rfl ?_
  obtain ⟨t9, vs, ha, ht, hw⟩ := hw
  refine gi_arraylength (t0 := 102) V (by simp [gaT]) ha ht dX7_crossOf_8 rfl ?_
  generalize (vs.length : Int) = r4 at hw ⊢
  refine g_aload_n V dX7_crossOf_9 rfl rfl ?_
  refine g_callS (st := [gi r4, gi (r1 * r3)]) V (k_X7_bs hst hw) ww_6_46 ww_6_47 ww_1_5 ww_6_48 hd_X7_bs ⟨by decide, by decide⟩ rfl rfl (ga_cat rfl) dX7_crossOf_10 (Nat.zero_le _) (Nat.zero_le _) rfl (gaX_all hT V) (ga_ki (fun r6 hp5 hw => ?_))
  refine gi_imul V dX7_crossOf_13 rfl ?_
  refine gi_isub V dX7_crossOf_14 rfl ?_
  exact g_iret V rfl rfl dX7_crossOf_15 ⟨_, rfl, hw⟩
def w_X7_spliced_J70 (Q : Nat → gaH → Prop) (K16 : Nat → Int → Int → Nat → Nat → Int → gaH → Nat → Nat → Prop) (v0 : Nat) (v1 : Int) (v2 : Int) (v3 : Nat) (v4 : Nat) (v5 : Int) (t0 : Nat) (t1 : Int) (t2 : Int) (h : gaH) (kc ks : Nat) : Prop := gSI h t0 102 t1 (gi t2) (fun hp1 => K16 v0 v1 v2 v3 v4 (v5 + 1) hp1 kc ks)
def w_X7_spliced_L16 (Q : Nat → gaH → Prop) : Nat → (Nat → Int → Int → Nat → Nat → Int → gaH → Nat → Nat → Prop)
  | 0 => fun _ _ _ _ _ _ _ _ _ => False
  | n + 1 => fun v0 v1 v2 v3 v4 v5 h kc ks => gAL h v4 102 (fun r1 => gR v5 ∧ gR r1 ∧ (if r1 ≤ v5 then Q v4 h else gR v5 ∧ gR v1 ∧ (if v1 ≤ v5 then gAL h v3 102 (fun r2 => gR v5 ∧ gR (v1 + r2) ∧ (if (v1 + r2) ≤ v5 then gAL h v3 102 (fun r3 => gLI h v0 102 (((v5 - r3) + v2) - v1) (fun r4 => w_X7_spliced_J70 Q (w_X7_spliced_L16 Q n) v0 v1 v2 v3 v4 v5 v4 v5 r4 h kc ks)) else gLI h v3 102 (v5 - v1) (fun r5 => w_X7_spliced_J70 Q (w_X7_spliced_L16 Q n) v0 v1 v2 v3 v4 v5 v4 v5 r5 h kc ks))) else gLI h v0 102 v5 (fun r6 => w_X7_spliced_J70 Q (w_X7_spliced_L16 Q n) v0 v1 v2 v3 v4 v5 v4 v5 r6 h kc ks))))
def w_X7_spliced (a0 : Nat) (a1 : Int) (a2 : Int) (a3 : Nat) (h : gaH) (Q : Nat → gaH → Prop) : Prop := gAL h a0 102 (fun r1 => gAL h a3 102 (fun r2 => gNA h 102 (gi 0) ((r1 - (a2 - a1)) + r2) 1 128 (fun o3 hp4 c5 s6 => ∃ z, w_X7_spliced_L16 Q z a0 a1 a2 a3 o3 0 hp4 c5 s6)))
abbrev rm_X7_spliced : Room := { frames := 0, cells := 1, slots := 128, locals := 0 }
theorem hd_X7_spliced : (yX7_spliced.cls ≠ "java/lang/invoke/MethodHandle" ∧ yX7_spliced.cls ≠ "java/lang/invoke/VarHandle" ∧ (parseMethodDescriptor yX7_spliced.desc).map (fun d => d.parameters.length) = some 4) := by decide +kernel
theorem k_X7_spliced {l : Launch} (hst : l.stackTraces = false) {G : gaG} {X : String → gaH → Prop} {a0 : Nat} {a1 : Int} {a2 : Int} {a3 : Nat} {h : gaH} {Q : Nat → gaH → Prop} (hw : w_X7_spliced a0 a1 a2 a3 h Q) : gaC l G yX7_spliced (gaM yX7_spliced cX7_spliced 6 ((some (.array .int)))) rm_X7_spliced [.ref a0, gi a1, gi a2, .ref a3] h (gQa Q) X := by
  refine g_start (lv := [some (.ref a0), some (gi a1), some (gi a2), some (.ref a3), none, none]) hpl_RX7 hst (Nat.le_of_ble_eq_true rfl) (gaArgs_pad (z := 2) rfl) ww_6_10 ?_
  intro p e s m args below meth c V hT
  have h_X7_spliced_J70 : ∀ (K16 : Nat → Int → Int → Nat → Nat → Int → gaH → Nat → Nat → Prop), ∀ (hK16 : ∀ (v0 : Nat) (v1 : Int) (v2 : Int) (v3 : Nat) (v4 : Nat) (v5 : Int) (h : gaH) (kc ks : Nat), K16 v0 v1 v2 v3 v4 v5 h kc ks → gaP p l e rm_X7_spliced s m args below meth c G 6 (gaZ below G (gQa Q) X args s rm_X7_spliced) 16 [some (.ref v0), some (gi v1), some (gi v2), some (.ref v3), some (.ref v4), some (gi v5)] [] h kc ks), ∀ (v0 : Nat) (v1 : Int) (v2 : Int) (v3 : Nat) (v4 : Nat) (v5 : Int) (t0 : Nat) (t1 : Int) (t2 : Int) (h : gaH) (kc ks : Nat), w_X7_spliced_J70 Q K16 v0 v1 v2 v3 v4 v5 t0 t1 t2 h kc ks → gaP p l e rm_X7_spliced s m args below meth c G 6 (gaZ below G (gQa Q) X args s rm_X7_spliced) 70 [some (.ref v0), some (gi v1), some (gi v2), some (.ref v3), some (.ref v4), some (gi v5)] [gi t2, gi t1, .ref t0] h kc ks := by
    intro K16 hK16
    intro v0 v1 v2 v3 v4 v5 t0 t1 t2 h kc ks hw
    unfold w_X7_spliced_J70 at hw
    obtain ⟨vs, ha, h0, h9, hi, hw⟩ := hw
    refine gi_iastore V ha h0 h9 hi dX7_spliced_70 rfl ?_
    generalize gaUp h t0 _ = hp1 at hw ⊢
    refine gi_iinc (lv2 := [some (.ref v0), some (gi v1), some (gi v2), some (.ref v3), some (.ref v4), some (gi (v5 + 1))]) V dX7_spliced_71 (by decide) rfl rfl rfl rfl ?_
    refine g_goto V dX7_spliced_74 rfl ?_
    exact hK16 v0 v1 v2 v3 v4 (v5 + 1) hp1 kc ks hw
  have h_X7_spliced_L16 : ∀ (n : Nat), ∀ (v0 : Nat) (v1 : Int) (v2 : Int) (v3 : Nat) (v4 : Nat) (v5 : Int) (h : gaH) (kc ks : Nat), w_X7_spliced_L16 Q n v0 v1 v2 v3 v4 v5 h kc ks → gaP p l e rm_X7_spliced s m args below meth c G 6 (gaZ below G (gQa Q) X args s rm_X7_spliced) 16 [some (.ref v0), some (gi v1), some (gi v2), some (.ref v3), some (.ref v4), some (gi v5)] [] h kc ks := by
    intro n
    induction n with
    | zero =>
      intro v0 v1 v2 v3 v4 v5 h kc ks hw
      exact hw.elim
    | succ n ih =>
      intro v0 v1 v2 v3 v4 v5 h kc ks hw
      unfold w_X7_spliced_L16 at hw
      refine g_iload V dX7_spliced_16 rfl rfl ?_
      refine g_aload V dX7_spliced_18 rfl rfl ?_
      obtain ⟨t9, vs, ha, ht, hw⟩ := hw
      refine gi_arraylength (t0 := 102) V (by simp [gaT]) ha ht dX7_spliced_20 rfl ?_
      generalize (vs.length : Int) = r1 at hw ⊢
      obtain ⟨hx0, hx1, hw⟩ := hw
      refine gi_icmp_ge V dX7_spliced_21 rfl rfl hx0 hx1 (fun q => ?_) (fun q => ?_)
      · have hw := ga_t q hw
        refine g_aload V dX7_spliced_77 rfl rfl ?_
        exact g_aret V rfl (by first | exact Or.inl ⟨_, rfl⟩ | exact Or.inr ⟨_, rfl⟩) dX7_spliced_79 ⟨_, rfl, hw⟩
      · have hw := ga_f q hw
        refine g_aload V dX7_spliced_24 rfl rfl ?_
        refine g_iload V dX7_spliced_26 rfl rfl ?_
        refine g_iload V dX7_spliced_28 rfl rfl ?_
        refine g_iload_n V dX7_spliced_30 rfl rfl ?_
        obtain ⟨hx0, hx1, hw⟩ := hw
        refine gi_icmp_ge V dX7_spliced_31 rfl rfl hx0 hx1 (fun q => ?_) (fun q => ?_)
        · have hw := ga_t q hw
          refine g_iload V dX7_spliced_41 rfl rfl ?_
          refine g_iload_n V dX7_spliced_43 rfl rfl ?_
          refine g_aload_n V dX7_spliced_44 rfl rfl ?_
          obtain ⟨t9, vs, ha, ht, hw⟩ := hw
          refine gi_arraylength (t0 := 102) V (by simp [gaT]) ha ht dX7_spliced_45 rfl ?_
          generalize (vs.length : Int) = r2 at hw ⊢
          refine gi_iadd V dX7_spliced_46 rfl ?_
          obtain ⟨hx0, hx1, hw⟩ := hw
          refine gi_icmp_ge V dX7_spliced_47 rfl rfl hx0 hx1 (fun q => ?_) (fun q => ?_)
          · have hw := ga_t q hw
            refine g_aload_n V dX7_spliced_59 rfl rfl ?_
            refine g_iload V dX7_spliced_60 rfl rfl ?_
            refine g_aload_n V dX7_spliced_62 rfl rfl ?_
            obtain ⟨t9, vs, ha, ht, hw⟩ := hw
            refine gi_arraylength (t0 := 102) V (by simp [gaT]) ha ht dX7_spliced_63 rfl ?_
            generalize (vs.length : Int) = r3 at hw ⊢
            refine gi_isub V dX7_spliced_64 rfl ?_
            refine g_iload_n V dX7_spliced_65 rfl rfl ?_
            refine gi_iadd V dX7_spliced_66 rfl ?_
            refine g_iload_n V dX7_spliced_67 rfl rfl ?_
            refine gi_isub V dX7_spliced_68 rfl ?_
            obtain ⟨t9, vs, r4, ha, ht, h0, h9, hv, hw⟩ := hw
            refine gi_iaload V ha ht h0 h9 hv dX7_spliced_69 rfl ?_
            exact h_X7_spliced_J70 (w_X7_spliced_L16 Q n) ih v0 v1 v2 v3 v4 v5 v4 v5 r4 h kc ks hw
          · have hw := ga_f q hw
            refine g_aload_n V dX7_spliced_50 rfl rfl ?_
            refine g_iload V dX7_spliced_51 rfl rfl ?_
            refine g_iload_n V dX7_spliced_53 rfl rfl ?_
            refine gi_isub V dX7_spliced_54 rfl ?_
            obtain ⟨t9, vs, r5, ha, ht, h0, h9, hv, hw⟩ := hw
            refine gi_iaload V ha ht h0 h9 hv dX7_spliced_55 rfl ?_
            refine g_goto V dX7_spliced_56 rfl ?_
            exact h_X7_spliced_J70 (w_X7_spliced_L16 Q n) ih v0 v1 v2 v3 v4 v5 v4 v5 r5 h kc ks hw
        · have hw := ga_f q hw
          refine g_aload_n V dX7_spliced_34 rfl rfl ?_
          refine g_iload V dX7_spliced_35 rfl rfl ?_
          obtain ⟨t9, vs, r6, ha, ht, h0, h9, hv, hw⟩ := hw
          refine gi_iaload V ha ht h0 h9 hv dX7_spliced_37 rfl ?_
          refine g_goto V dX7_spliced_38 rfl ?_
          exact h_X7_spliced_J70 (w_X7_spliced_L16 Q n) ih v0 v1 v2 v3 v4 v5 v4 v5 r6 h kc ks hw
  show gaP p l e rm_X7_spliced s m args below meth c G 6 (gaZ below G (gQa Q) X args s rm_X7_spliced) 0 [some (.ref a0), some (gi a1), some (gi a2), some (.ref a3), none, none] [] h 1 128
  unfold w_X7_spliced at hw
  refine g_aload_n V dX7_spliced_0 rfl rfl ?_
  obtain ⟨t9, vs, ha, ht, hw⟩ := hw
  refine gi_arraylength (t0 := 102) V (by simp [gaT]) ha ht dX7_spliced_1 rfl ?_
  generalize (vs.length : Int) = r1 at hw ⊢
  refine g_iload_n V dX7_spliced_2 rfl rfl ?_
  refine g_iload_n V dX7_spliced_3 rfl rfl ?_
  refine gi_isub V dX7_spliced_4 rfl ?_
  refine gi_isub V dX7_spliced_5 rfl ?_
  refine g_aload_n V dX7_spliced_6 rfl rfl ?_
  obtain ⟨t9, vs, ha, ht, hw⟩ := hw
  refine gi_arraylength (t0 := 102) V (by simp [gaT]) ha ht dX7_spliced_7 rfl ?_
  generalize (vs.length : Int) = r2 at hw ⊢
  refine gi_iadd V dX7_spliced_8 rfl ?_
  obtain ⟨h0, h9, hk, hj, hw⟩ := hw
  refine gi_newarray (atype := .int) (t := 102) V (by decide) rfl ww_1_109 h0 h9 dX7_spliced_9 rfl hk hj (fun o3 hf => ?_)
  obtain ⟨c5, s6, ec, es, hw⟩ := hw o3 hf
  refine ga_re ec es ?_
  generalize gaUp h o3 _ = hp4 at hw ⊢
  refine g_astore (lv2 := [some (.ref a0), some (gi a1), some (gi a2), some (.ref a3), some (.ref o3), none]) V dX7_spliced_11 (by decide) rfl rfl rfl ?_
  refine g_iconst V (Int32.ofInt 0) dX7_spliced_13 rfl rfl ?_
  refine g_istore (lv2 := [some (.ref a0), some (gi a1), some (gi a2), some (.ref a3), some (.ref o3), some (gi 0)]) V dX7_spliced_14 (by decide) rfl rfl rfl ?_
  obtain ⟨z, hw⟩ := hw
  exact h_X7_spliced_L16 z a0 a1 a2 a3 o3 0 hp4 c5 s6 hw
def w_X7_alikeOf_L23 (Q : Int → gaH → Prop) : Nat → (Nat → Nat → Int → gaH → Nat → Nat → Prop)
  | 0 => fun _ _ _ _ _ _ => False
  | n + 1 => fun v2 v3 v4 h kc ks => gLI h v2 102 v4 (fun r1 => gLI h v3 102 v4 (fun r2 => gR r1 ∧ gR r2 ∧ (if r1 = r2 then w_X7_alikeOf_L23 Q n v2 v3 (v4 + 1) h kc ks else Q v4 h)))
def w_X7_alikeOf (a0 : Nat) (a1 : Nat) (h : gaH) (Q : Int → gaH → Prop) : Prop := gAL h a0 102 (fun r1 => gAL h a0 102 (fun r2 => gCall 1 128 2 256 (fun c5 s6 => w_X7_spliced a0 r1 r2 a1 h (fun r4 hp3 => gAL hp3 a1 102 (fun r7 => gAL hp3 a1 102 (fun r8 => gCall 1 128 c5 s6 (fun c11 s12 => w_X7_spliced a1 r7 r8 a0 hp3 (fun r10 hp9 => ∃ z, w_X7_alikeOf_L23 Q z r4 r10 0 hp9 c11 s12))))))))
abbrev rm_X7_alikeOf : Room := { frames := 1, cells := 2, slots := 256, locals := 25 }
theorem hd_X7_alikeOf : (yX7_alikeOf.cls ≠ "java/lang/invoke/MethodHandle" ∧ yX7_alikeOf.cls ≠ "java/lang/invoke/VarHandle" ∧ (parseMethodDescriptor yX7_alikeOf.desc).map (fun d => d.parameters.length) = some 2) := by decide +kernel
theorem k_X7_alikeOf {l : Launch} (hst : l.stackTraces = false) {G : gaG} {X : String → gaH → Prop} {a0 : Nat} {a1 : Nat} {h : gaH} {Q : Int → gaH → Prop} (hw : w_X7_alikeOf a0 a1 h Q) : gaC l G yX7_alikeOf (gaM yX7_alikeOf cX7_alikeOf 5 ((some .int))) rm_X7_alikeOf [.ref a0, .ref a1] h (gQi Q) X := by
  refine g_start (lv := [some (.ref a0), some (.ref a1), none, none, none]) hpl_RX7 hst (Nat.le_of_ble_eq_true rfl) (gaArgs_pad (z := 3) rfl) ww_7_44 ?_
  intro p e s m args below meth c V hT
  have h_X7_alikeOf_L23 : ∀ (n : Nat), ∀ (v2 : Nat) (v3 : Nat) (v4 : Int) (h : gaH) (kc ks : Nat), w_X7_alikeOf_L23 Q n v2 v3 v4 h kc ks → gaP p l e rm_X7_alikeOf s m args below meth c G 5 (gaZ below G (gQi Q) X args s rm_X7_alikeOf) 23 [none, none, some (.ref v2), some (.ref v3), some (gi v4)] [] h kc ks := by
    intro n
    induction n with
    | zero =>
      intro v2 v3 v4 h kc ks hw
      exact hw.elim
    | succ n ih =>
      intro v2 v3 v4 h kc ks hw
      unfold w_X7_alikeOf_L23 at hw
      refine g_aload_n V dX7_alikeOf_23 rfl rfl ?_
      refine g_iload V dX7_alikeOf_24 rfl rfl ?_
      obtain ⟨t9, vs, r1, ha, ht, h0, h9, hv, hw⟩ := hw
      refine gi_iaload V ha ht h0 h9 hv dX7_alikeOf_26 rfl ?_
      refine g_aload_n V dX7_alikeOf_27 rfl rfl ?_
      refine g_iload V dX7_alikeOf_28 rfl rfl ?_
      obtain ⟨t9, vs, r2, ha, ht, h0, h9, hv, hw⟩ := hw
      refine gi_iaload V ha ht h0 h9 hv dX7_alikeOf_30 rfl ?_
      obtain ⟨hx0, hx1, hw⟩ := hw
      refine gi_icmp_ne V dX7_alikeOf_31 rfl rfl hx0 hx1 (fun q => ?_) (fun q => ?_)
      · have hw := ga_f q hw
        refine g_iload V dX7_alikeOf_40 rfl rfl ?_
        exact g_iret V rfl rfl dX7_alikeOf_42 ⟨_, rfl, hw⟩
      · have hw := ga_t q hw
        refine gi_iinc (lv2 := [none, none, some (.ref v2), some (.ref v3), some (gi (v4 + 1))]) V dX7_alikeOf_34 (by decide) rfl rfl rfl rfl ?_
        refine g_goto V dX7_alikeOf_37 rfl ?_
        exact ih v2 v3 (v4 + 1) h kc ks hw
  show gaP p l e rm_X7_alikeOf s m args below meth c G 5 (gaZ below G (gQi Q) X args s rm_X7_alikeOf) 0 [some (.ref a0), some (.ref a1), none, none, none] [] h 2 256
  unfold w_X7_alikeOf at hw
  refine g_aload_n V dX7_alikeOf_0 rfl rfl ?_
  refine g_aload_n V dX7_alikeOf_1 rfl rfl ?_
  obtain ⟨t9, vs, ha, ht, hw⟩ := hw
  refine gi_arraylength (t0 := 102) V (by simp [gaT]) ha ht dX7_alikeOf_2 rfl ?_
  generalize (vs.length : Int) = r1 at hw ⊢
  refine g_aload_n V dX7_alikeOf_3 rfl rfl ?_
  obtain ⟨t9, vs, ha, ht, hw⟩ := hw
  refine gi_arraylength (t0 := 102) V (by simp [gaT]) ha ht dX7_alikeOf_4 rfl ?_
  generalize (vs.length : Int) = r2 at hw ⊢
  refine g_aload_n V dX7_alikeOf_5 rfl rfl ?_
  obtain ⟨hk, hj, c5, s6, ec, es, hw⟩ := hw
  refine g_callS (st := []) V (k_X7_spliced hst hw) ww_6_8 ww_6_9 ww_1_5 ww_6_10 hd_X7_spliced ⟨by decide, by decide⟩ rfl rfl (ga_cat rfl) dX7_alikeOf_6 hk hj rfl (gaX_all hT V) (ga_ka (fun r4 hp3 hw => ?_))
  refine ga_re ec es ?_
  refine g_astore_n (lv2 := [some (.ref a0), some (.ref a1), some (.ref r4), none, none]) V dX7_alikeOf_9 (by decide) rfl rfl rfl ?_
  refine g_aload_n V dX7_alikeOf_10 rfl rfl ?_
  refine g_aload_n V dX7_alikeOf_11 rfl rfl ?_
  obtain ⟨t9, vs, ha, ht, hw⟩ := hw
  refine gi_arraylength (t0 := 102) V (by simp [gaT]) ha ht dX7_alikeOf_12 rfl ?_
  generalize (vs.length : Int) = r7 at hw ⊢
  refine g_aload_n V dX7_alikeOf_13 rfl rfl ?_
  obtain ⟨t9, vs, ha, ht, hw⟩ := hw
  refine gi_arraylength (t0 := 102) V (by simp [gaT]) ha ht dX7_alikeOf_14 rfl ?_
  generalize (vs.length : Int) = r8 at hw ⊢
  refine g_aload_n V dX7_alikeOf_15 rfl rfl ?_
  obtain ⟨hk, hj, c11, s12, ec, es, hw⟩ := hw
  refine g_callS (st := []) V (k_X7_spliced hst hw) ww_6_8 ww_6_9 ww_1_5 ww_6_10 hd_X7_spliced ⟨by decide, by decide⟩ rfl rfl (ga_cat rfl) dX7_alikeOf_16 hk hj rfl (gaX_all hT V) (ga_ka (fun r10 hp9 hw => ?_))
  refine ga_re ec es ?_
  refine g_astore_n (lv2 := [some (.ref a0), some (.ref a1), some (.ref r4), some (.ref r10), none]) V dX7_alikeOf_19 (by decide) rfl rfl rfl ?_
  refine g_iconst V (Int32.ofInt 0) dX7_alikeOf_20 rfl rfl ?_
  refine g_istore (lv2 := [some (.ref a0), some (.ref a1), some (.ref r4), some (.ref r10), some (gi 0)]) V dX7_alikeOf_21 (by decide) rfl rfl rfl ?_
  refine g_less (bs := [false, false, true, true, true]) (lv2 := [none, none, some (.ref r4), some (.ref r10), some (gi 0)]) rfl ?_
  obtain ⟨z, hw⟩ := hw
  exact h_X7_alikeOf_L23 z r4 r10 0 hp9 c11 s12 hw
def w_X7_added_L32 (Q : Int64 → gaH → Prop) : Nat → (Nat → Int → Nat → Nat → Int64 → Int → gaH → Nat → Nat → Prop)
  | 0 => fun _ _ _ _ _ _ _ _ _ => False
  | n + 1 => fun v0 v3 v4 v5 v6 v8 h kc ks => gA h v0 7 2 (fun r1 => gLI h r1 102 v3 (fun r2 => gR v8 ∧ gR r2 ∧ (if r2 ≤ v8 then gAL h v4 102 (fun r3 => w_X7_add v6 (gI2l r3) h (fun r5 hp4 => gAL hp4 v5 102 (fun r6 => w_X7_add r5 (gI2l r6) hp4 (fun r8 hp7 => w_X7_bs v4 hp7 (fun r10 hp9 => w_X7_add r8 (gI2l r10) hp9 (fun r12 hp11 => w_X7_bs v5 hp11 (fun r14 hp13 => w_X7_add r12 (gI2l r14) hp13 (fun r16 hp15 => w_X7_crossOf v4 v5 hp15 (fun r18 hp17 => w_X7_add r16 (gI2l r18) hp17 (fun r20 hp19 => gCall 2 256 kc ks (fun c23 s24 => w_X7_alikeOf v4 v5 hp19 (fun r22 hp21 => w_X7_add r20 (gI2l r22) hp21 (fun r26 hp25 => Q r26 hp25))))))))))))) else gA h v0 7 1 (fun r27 => gLA h r27 112 v3 (fun r28 => gLI h r28 102 v8 (fun r29 => w_X7_add v6 (gI2l r29) h (fun r31 hp30 => w_X7_added_L32 Q n v0 v3 v4 v5 r31 (v8 + 1) hp30 kc ks)))))))
def w_X7_added (a0 : Nat) (a1 : Int64) (a3 : Int) (h : gaH) (Q : Int64 → gaH → Prop) : Prop := gHas h a0 7 ∧ gCall 67 4288 136 8832 (fun c3 s4 => w_X7_word a0 a3 0 h (fun r2 hp1 => gHas hp1 a0 7 ∧ gCall 67 4288 c3 s4 (fun c7 s8 => w_X7_word a0 a3 1 hp1 (fun r6 hp5 => gA hp5 a0 7 2 (fun r9 => gLI hp5 r9 102 a3 (fun r10 => w_X7_add a1 (gI2l r10) hp5 (fun r12 hp11 => ∃ z, w_X7_added_L32 Q z a0 a3 r2 r6 r12 0 hp11 c7 s8)))))))
abbrev rm_X7_added : Room := { frames := 3, cells := 136, slots := 8832, locals := 71 }
theorem hd_X7_added : yX7_added.cls = RX7 ∧ (yX7_added.cls ≠ "java/lang/invoke/MethodHandle" ∧ yX7_added.cls ≠ "java/lang/invoke/VarHandle" ∧ (parseMethodDescriptor yX7_added.desc).map (fun d => d.parameters.length) = some 2) := by decide +kernel
theorem k_X7_added {l : Launch} (hst : l.stackTraces = false) {G : gaG} {X : String → gaH → Prop} {a0 : Nat} {a1 : Int64} {a3 : Int} {h : gaH} {Q : Int64 → gaH → Prop} (hw : w_X7_added a0 a1 a3 h Q) : gaC l G yX7_added (gaM yX7_added cX7_added 9 ((some .long))) rm_X7_added [.ref a0, .long a1, gi a3] h (gQl Q) X := by
  refine g_start (lv := [some (.ref a0), some (.long a1), none, some (gi a3), none, none, none, none, none]) hpl_RX7 hst (Nat.le_of_ble_eq_true rfl) (gaArgs_pad (z := 5) rfl) ww_7_77 ?_
  intro p e s m args below meth c V hT
  have h_X7_added_L32 : ∀ (n : Nat), ∀ (v0 : Nat) (v3 : Int) (v4 : Nat) (v5 : Nat) (v6 : Int64) (v8 : Int) (h : gaH) (kc ks : Nat), w_X7_added_L32 Q n v0 v3 v4 v5 v6 v8 h kc ks → gaP p l e rm_X7_added s m args below meth c G 9 (gaZ below G (gQl Q) X args s rm_X7_added) 32 [some (.ref v0), none, none, some (gi v3), some (.ref v4), some (.ref v5), some (.long v6), none, some (gi v8)] [] h kc ks := by
    intro n
    induction n with
    | zero =>
      intro v0 v3 v4 v5 v6 v8 h kc ks hw
      exact hw.elim
    | succ n ih =>
      intro v0 v3 v4 v5 v6 v8 h kc ks hw
      unfold w_X7_added_L32 at hw
      refine g_iload V dX7_added_32 rfl rfl ?_
      refine g_aload_n V dX7_added_34 rfl rfl ?_
      obtain ⟨fs, r1, ha, hv, hw⟩ := hw
      refine g_get (C := RX7) (T := TX7) (N := 8) V 2 rfl hin_RX7 (by decide) (by decide) ww_5_183 rfl ha hv dX7_added_35 rfl ?_
      refine g_iload_n V dX7_added_38 rfl rfl ?_
      obtain ⟨t9, vs, r2, ha, ht, h0, h9, hv, hw⟩ := hw
      refine gi_iaload V ha ht h0 h9 hv dX7_added_39 rfl ?_
      obtain ⟨hx0, hx1, hw⟩ := hw
      refine gi_icmp_ge V dX7_added_40 rfl rfl hx0 hx1 (fun q => ?_) (fun q => ?_)
      · have hw := ga_t q hw
        refine g_lload V dX7_added_66 rfl rfl ?_
        refine g_aload V dX7_added_68 rfl rfl ?_
        obtain ⟨t9, vs, ha, ht, hw⟩ := hw
        refine gi_arraylength (t0 := 102) V (by simp [gaT]) ha ht dX7_added_70 rfl ?_
        generalize (vs.length : Int) = r3 at hw ⊢
        refine gi_i2l V dX7_added_71 rfl ?_
        refine g_callS (st := []) V (k_X7_add hst hw) ww_7_70 ww_7_71 ww_1_5 ww_7_72 hd_X7_add ⟨by decide, by decide⟩ rfl rfl (ga_cat rfl) dX7_added_72 (Nat.zero_le _) (Nat.zero_le _) rfl (gaX_all hT V) (ga_kl (fun r5 hp4 hw => ?_))
        refine g_aload V dX7_added_75 rfl rfl ?_
        obtain ⟨t9, vs, ha, ht, hw⟩ := hw
        refine gi_arraylength (t0 := 102) V (by simp [gaT]) ha ht dX7_added_77 rfl ?_
        generalize (vs.length : Int) = r6 at hw ⊢
        refine gi_i2l V dX7_added_78 rfl ?_
        refine g_callS (st := []) V (k_X7_add hst hw) ww_7_70 ww_7_71 ww_1_5 ww_7_72 hd_X7_add ⟨by decide, by decide⟩ rfl rfl (ga_cat rfl) dX7_added_79 (Nat.zero_le _) (Nat.zero_le _) rfl (gaX_all hT V) (ga_kl (fun r8 hp7 hw => ?_))
        refine g_lstore (lv2 := [some (.ref v0), none, none, some (gi v3), some (.ref v4), some (.ref v5), some (.long r8), none, some (gi v8)]) V dX7_added_82 (by decide) rfl rfl rfl ?_
        refine g_lload V dX7_added_84 rfl rfl ?_
        refine g_aload V dX7_added_86 rfl rfl ?_
        refine g_callS (st := [.long r8]) V (k_X7_bs hst hw) ww_6_46 ww_6_47 ww_1_5 ww_6_48 hd_X7_bs ⟨by decide, by decide⟩ rfl rfl (ga_cat rfl) dX7_added_88 (Nat.zero_le _) (Nat.zero_le _) rfl (gaX_all hT V) (ga_ki (fun r10 hp9 hw => ?_))
        refine gi_i2l V dX7_added_91 rfl ?_
        refine g_callS (st := []) V (k_X7_add hst hw) ww_7_70 ww_7_71 ww_1_5 ww_7_72 hd_X7_add ⟨by decide, by decide⟩ rfl rfl (ga_cat rfl) dX7_added_92 (Nat.zero_le _) (Nat.zero_le _) rfl (gaX_all hT V) (ga_kl (fun r12 hp11 hw => ?_))
        refine g_aload V dX7_added_95 rfl rfl ?_
        refine g_callS (st := [.long r12]) V (k_X7_bs hst hw) ww_6_46 ww_6_47 ww_1_5 ww_6_48 hd_X7_bs ⟨by decide, by decide⟩ rfl rfl (ga_cat rfl) dX7_added_97 (Nat.zero_le _) (Nat.zero_le _) rfl (gaX_all hT V) (ga_ki (fun r14 hp13 hw => ?_))
        refine gi_i2l V dX7_added_100 rfl ?_
        refine g_callS (st := []) V (k_X7_add hst hw) ww_7_70 ww_7_71 ww_1_5 ww_7_72 hd_X7_add ⟨by decide, by decide⟩ rfl rfl (ga_cat rfl) dX7_added_101 (Nat.zero_le _) (Nat.zero_le _) rfl (gaX_all hT V) (ga_kl (fun r16 hp15 hw => ?_))
        refine g_lstore (lv2 := [some (.ref v0), none, none, some (gi v3), some (.ref v4), some (.ref v5), some (.long r16), none, some (gi v8)]) V dX7_added_104 (by decide) rfl rfl rfl ?_
        refine g_lload V dX7_added_106 rfl rfl ?_
        refine g_aload V dX7_added_108 rfl rfl ?_
        refine g_aload V dX7_added_110 rfl rfl ?_
        refine g_callS (st := [.long r16]) V (k_X7_crossOf hst hw) ww_7_35 ww_7_36 ww_1_5 ww_7_37 hd_X7_crossOf ⟨by decide, by decide⟩ rfl rfl (ga_cat rfl) dX7_added_112 (Nat.zero_le _) (Nat.zero_le _) rfl (gaX_all hT V) (ga_ki (fun r18 hp17 hw => ?_))
        refine gi_i2l V dX7_added_115 rfl ?_
        refine g_callS (st := []) V (k_X7_add hst hw) ww_7_70 ww_7_71 ww_1_5 ww_7_72 hd_X7_add ⟨by decide, by decide⟩ rfl rfl (ga_cat rfl) dX7_added_116 (Nat.zero_le _) (Nat.zero_le _) rfl (gaX_all hT V) (ga_kl (fun r20 hp19 hw => ?_))
        refine g_aload V dX7_added_119 rfl rfl ?_
        refine g_aload V dX7_added_121 rfl rfl ?_
        obtain ⟨hk, hj, c23, s24, ec, es, hw⟩ := hw
        refine g_callS (st := [.long r20]) V (k_X7_alikeOf hst hw) ww_7_42 ww_7_43 ww_1_5 ww_7_44 hd_X7_alikeOf ⟨by decide, by decide⟩ rfl rfl (ga_cat rfl) dX7_added_123 hk hj rfl (gaX_all hT V) (ga_ki (fun r22 hp21 hw => ?_))
        refine ga_re ec es ?_
        refine gi_i2l V dX7_added_126 rfl ?_
        refine g_callS (st := []) V (k_X7_add hst hw) ww_7_70 ww_7_71 ww_1_5 ww_7_72 hd_X7_add ⟨by decide, by decide⟩ rfl rfl (ga_cat rfl) dX7_added_127 (Nat.zero_le _) (Nat.zero_le _) rfl (gaX_all hT V) (ga_kl (fun r26 hp25 hw => ?_))
        exact g_lret V rfl dX7_added_130 ⟨_, rfl, hw⟩
      · have hw := ga_f q hw
        refine g_lload V dX7_added_43 rfl rfl ?_
        refine g_aload_n V dX7_added_45 rfl rfl ?_
        obtain ⟨fs, r27, ha, hv, hw⟩ := hw
        refine g_get (C := RX7) (T := TX7) (N := 8) V 1 rfl hin_RX7 (by decide) (by decide) ww_5_182 rfl ha hv dX7_added_46 rfl ?_
        refine g_iload_n V dX7_added_49 rfl rfl ?_
        obtain ⟨vs, r28, ha, h0, h9, hv, hw⟩ := hw
        refine gi_aaload V ha (by decide) h0 h9 hv dX7_added_50 rfl ?_
        refine g_iload V dX7_added_51 rfl rfl ?_
        obtain ⟨t9, vs, r29, ha, ht, h0, h9, hv, hw⟩ := hw
        refine gi_iaload V ha ht h0 h9 hv dX7_added_53 rfl ?_
        refine gi_i2l V dX7_added_54 rfl ?_
        refine g_callS (st := []) V (k_X7_add hst hw) ww_7_70 ww_7_71 ww_1_5 ww_7_72 hd_X7_add ⟨by decide, by decide⟩ rfl rfl (ga_cat rfl) dX7_added_55 (Nat.zero_le _) (Nat.zero_le _) rfl (gaX_all hT V) (ga_kl (fun r31 hp30 hw => ?_))
        refine g_lstore (lv2 := [some (.ref v0), none, none, some (gi v3), some (.ref v4), some (.ref v5), some (.long r31), none, some (gi v8)]) V dX7_added_58 (by decide) rfl rfl rfl ?_
        refine gi_iinc (lv2 := [some (.ref v0), none, none, some (gi v3), some (.ref v4), some (.ref v5), some (.long r31), none, some (gi (v8 + 1))]) V dX7_added_60 (by decide) rfl rfl rfl rfl ?_
        refine g_goto V dX7_added_63 rfl ?_
        exact ih v0 v3 v4 v5 r31 (v8 + 1) hp30 kc ks hw
  show gaP p l e rm_X7_added s m args below meth c G 9 (gaZ below G (gQl Q) X args s rm_X7_added) 0 [some (.ref a0), some (.long a1), none, some (gi a3), none, none, none, none, none] [] h 136 8832
  unfold w_X7_added at hw
  refine g_aload_n V dX7_added_0 rfl rfl ?_
  refine g_iload_n V dX7_added_1 rfl rfl ?_
  refine g_iconst V (Int32.ofInt 0) dX7_added_2 rfl rfl ?_
  obtain ⟨hb, hw⟩ := hw
  obtain ⟨fb, hb⟩ := hb
  obtain ⟨hk, hj, c3, s4, ec, es, hw⟩ := hw
  refine g_callV (C := RX7) (T := TX7) (N := 8) (st := []) V (k_X7_word hst hw) ww_7_19 ww_7_21 wp_2_15 ww_1_5 ww_7_22 hd_X7_word ⟨by decide, by decide⟩ rfl (by decide) hb rfl rfl (ga_cat rfl) dX7_added_3 hk hj rfl (gaX_all hT V) (ga_ka (fun r2 hp1 hw => ?_))
  refine ga_re ec es ?_
  refine g_astore (lv2 := [some (.ref a0), some (.long a1), none, some (gi a3), some (.ref r2), none, none, none, none]) V dX7_added_6 (by decide) rfl rfl rfl ?_
  refine g_aload_n V dX7_added_8 rfl rfl ?_
  refine g_iload_n V dX7_added_9 rfl rfl ?_
  refine g_iconst V (Int32.ofInt 1) dX7_added_10 rfl rfl ?_
  obtain ⟨hb, hw⟩ := hw
  obtain ⟨fb, hb⟩ := hb
  obtain ⟨hk, hj, c7, s8, ec, es, hw⟩ := hw
  refine g_callV (C := RX7) (T := TX7) (N := 8) (st := []) V (k_X7_word hst hw) ww_7_19 ww_7_21 wp_2_15 ww_1_5 ww_7_22 hd_X7_word ⟨by decide, by decide⟩ rfl (by decide) hb rfl rfl (ga_cat rfl) dX7_added_11 hk hj rfl (gaX_all hT V) (ga_ka (fun r6 hp5 hw => ?_))
  refine ga_re ec es ?_
  refine g_astore (lv2 := [some (.ref a0), some (.long a1), none, some (gi a3), some (.ref r2), some (.ref r6), none, none, none]) V dX7_added_14 (by decide) rfl rfl rfl ?_
  refine g_lload_n V dX7_added_16 rfl rfl ?_
  refine g_aload_n V dX7_added_17 rfl rfl ?_
  obtain ⟨fs, r9, ha, hv, hw⟩ := hw
  refine g_get (C := RX7) (T := TX7) (N := 8) V 2 rfl hin_RX7 (by decide) (by decide) ww_5_183 rfl ha hv dX7_added_18 rfl ?_
  refine g_iload_n V dX7_added_21 rfl rfl ?_
  obtain ⟨t9, vs, r10, ha, ht, h0, h9, hv, hw⟩ := hw
  refine gi_iaload V ha ht h0 h9 hv dX7_added_22 rfl ?_
  refine gi_i2l V dX7_added_23 rfl ?_
  refine g_callS (st := []) V (k_X7_add hst hw) ww_7_70 ww_7_71 ww_1_5 ww_7_72 hd_X7_add ⟨by decide, by decide⟩ rfl rfl (ga_cat rfl) dX7_added_24 (Nat.zero_le _) (Nat.zero_le _) rfl (gaX_all hT V) (ga_kl (fun r12 hp11 hw => ?_))
  refine g_lstore (lv2 := [some (.ref a0), some (.long a1), none, some (gi a3), some (.ref r2), some (.ref r6), some (.long r12), none, none]) V dX7_added_27 (by decide) rfl rfl rfl ?_
  refine g_iconst V (Int32.ofInt 0) dX7_added_29 rfl rfl ?_
  refine g_istore (lv2 := [some (.ref a0), some (.long a1), none, some (gi a3), some (.ref r2), some (.ref r6), some (.long r12), none, some (gi 0)]) V dX7_added_30 (by decide) rfl rfl rfl ?_
  refine g_less (bs := [true, false, true, true, true, true, true, true, true]) (lv2 := [some (.ref a0), none, none, some (gi a3), some (.ref r2), some (.ref r6), some (.long r12), none, some (gi 0)]) rfl ?_
  obtain ⟨z, hw⟩ := hw
  exact h_X7_added_L32 z a0 a3 r2 r6 r12 0 hp11 c7 s8 hw
def w_X7_isIn (a0 : Int) (a1 : Int) (a2 : Int) (h : gaH) (Q : Int → gaH → Prop) : Prop := gR a0 ∧ gR a1 ∧ (if a0 < a1 then Q 0 h else gR a0 ∧ gR a2 ∧ (if a2 < a0 then Q 0 h else Q 1 h))
abbrev rm_X7_isIn : Room := { frames := 0, cells := 0, slots := 0, locals := 0 }
theorem hd_X7_isIn : (yX7_isIn.cls ≠ "java/lang/invoke/MethodHandle" ∧ yX7_isIn.cls ≠ "java/lang/invoke/VarHandle" ∧ (parseMethodDescriptor yX7_isIn.desc).map (fun d => d.parameters.length) = some 3) := by decide +kernel
theorem k_X7_isIn {l : Launch} (hst : l.stackTraces = false) {G : gaG} {X : String → gaH → Prop} {a0 : Int} {a1 : Int} {a2 : Int} {h : gaH} {Q : Int → gaH → Prop} (hw : w_X7_isIn a0 a1 a2 h Q) : gaC l G yX7_isIn (gaM yX7_isIn cX7_isIn 3 ((some .boolean))) rm_X7_isIn [gi a0, gi a1, gi a2] h (gQi Q) X := by
  refine g_start (lv := [some (gi a0), some (gi a1), some (gi a2)]) hpl_RX7 hst (Nat.le_of_ble_eq_true rfl) (gaArgs_pad (z := 0) rfl) ww_5_219 ?_
  intro p e s m args below meth c V hT
  unfold w_X7_isIn at hw
  refine g_iload_n V dX7_isIn_0 rfl rfl ?_
  refine g_iload_n V dX7_isIn_1 rfl rfl ?_
  obtain ⟨hx0, hx1, hw⟩ := hw
  refine gi_icmp_lt V dX7_isIn_2 rfl rfl hx0 hx1 (fun q => ?_) (fun q => ?_)
  · have hw := ga_t q hw
    refine g_iconst V (Int32.ofInt 0) dX7_isIn_14 rfl rfl ?_
    exact g_iret V rfl rfl dX7_isIn_15 ⟨_, rfl, hw⟩
  · have hw := ga_f q hw
    refine g_iload_n V dX7_isIn_5 rfl rfl ?_
    refine g_iload_n V dX7_isIn_6 rfl rfl ?_
    obtain ⟨hx0, hx1, hw⟩ := hw
    refine gi_icmp_gt V dX7_isIn_7 rfl rfl hx0 hx1 (fun q => ?_) (fun q => ?_)
    · have hw := ga_t q hw
      refine g_iconst V (Int32.ofInt 0) dX7_isIn_14 rfl rfl ?_
      exact g_iret V rfl rfl dX7_isIn_15 ⟨_, rfl, hw⟩
    · have hw := ga_f q hw
      refine g_iconst V (Int32.ofInt 1) dX7_isIn_10 rfl rfl ?_
      refine g_goto V dX7_isIn_11 rfl ?_
      exact g_iret V rfl rfl dX7_isIn_15 ⟨_, rfl, hw⟩
def w_X7_isNoGrowth (a0 : Int) (h : gaH) (Q : Int → gaH → Prop) : Prop := w_X7_isIn a0 0 1 h (fun r2 hp1 => gR r2 ∧ (if r2 = 0 then Q 1 hp1 else Q 0 hp1))
abbrev rm_X7_isNoGrowth : Room := { frames := 1, cells := 0, slots := 0, locals := 22 }
theorem hd_X7_isNoGrowth : (yX7_isNoGrowth.cls ≠ "java/lang/invoke/MethodHandle" ∧ yX7_isNoGrowth.cls ≠ "java/lang/invoke/VarHandle" ∧ (parseMethodDescriptor yX7_isNoGrowth.desc).map (fun d => d.parameters.length) = some 1) := by decide +kernel
theorem k_X7_isNoGrowth {l : Launch} (hst : l.stackTraces = false) {G : gaG} {X : String → gaH → Prop} {a0 : Int} {h : gaH} {Q : Int → gaH → Prop} (hw : w_X7_isNoGrowth a0 h Q) : gaC l G yX7_isNoGrowth (gaM yX7_isNoGrowth cX7_isNoGrowth 1 ((some .boolean))) rm_X7_isNoGrowth [gi a0] h (gQi Q) X := by
  refine g_start (lv := [some (gi a0)]) hpl_RX7 hst (Nat.le_of_ble_eq_true rfl) (gaArgs_pad (z := 0) rfl) ww_6_112 ?_
  intro p e s m args below meth c V hT
  unfold w_X7_isNoGrowth at hw
  refine g_iload_n V dX7_isNoGrowth_0 rfl rfl ?_
  refine g_iconst V (Int32.ofInt 0) dX7_isNoGrowth_1 rfl rfl ?_
  refine g_iconst V (Int32.ofInt 1) dX7_isNoGrowth_2 rfl rfl ?_
  refine g_callS (st := []) V (k_X7_isIn hst hw) ww_5_217 ww_5_218 ww_1_5 ww_5_219 hd_X7_isIn ⟨by decide, by decide⟩ rfl rfl (ga_cat rfl) dX7_isNoGrowth_3 (Nat.zero_le _) (Nat.zero_le _) rfl (gaX_all hT V) (ga_ki (fun r2 hp1 hw => ?_))
  obtain ⟨hx0, hw⟩ := hw
  refine gi_if_ne V dX7_isNoGrowth_6 rfl rfl hx0 (fun q => ?_) (fun q => ?_)
  · have hw := ga_f q hw
    refine g_iconst V (Int32.ofInt 0) dX7_isNoGrowth_13 rfl rfl ?_
    exact g_iret V rfl rfl dX7_isNoGrowth_14 ⟨_, rfl, hw⟩
  · have hw := ga_t q hw
    refine g_iconst V (Int32.ofInt 1) dX7_isNoGrowth_9 rfl rfl ?_
    refine g_goto V dX7_isNoGrowth_10 rfl ?_
    exact g_iret V rfl rfl dX7_isNoGrowth_14 ⟨_, rfl, hw⟩
def w_X7_refuse_J16 (Q : Int → gaH → Prop) (v0 : Nat) (h : gaH) : Prop := gI h v0 7 7 (fun r1 => gR r1 ∧ (if r1 ≤ 0 then Q 0 h else Q 1 h))
def w_X7_refuse (a0 : Nat) (a1 : Int) (a2 : Int) (h : gaH) (Q : Int → gaH → Prop) : Prop := gR a1 ∧ (if a1 = 0 then w_X7_refuse_J16 Q a0 h else gI h a0 7 7 (fun r1 => gR r1 ∧ (if r1 = 0 then gPF h a0 7 7 (gi a2) (fun hp2 => w_X7_refuse_J16 Q a0 hp2) else w_X7_refuse_J16 Q a0 h)))
abbrev rm_X7_refuse : Room := { frames := 0, cells := 0, slots := 0, locals := 0 }
theorem hd_X7_refuse : yX7_refuse.cls = RX7 ∧ (yX7_refuse.cls ≠ "java/lang/invoke/MethodHandle" ∧ yX7_refuse.cls ≠ "java/lang/invoke/VarHandle" ∧ (parseMethodDescriptor yX7_refuse.desc).map (fun d => d.parameters.length) = some 2) := by decide +kernel
theorem k_X7_refuse {l : Launch} (hst : l.stackTraces = false) {G : gaG} {X : String → gaH → Prop} {a0 : Nat} {a1 : Int} {a2 : Int} {h : gaH} {Q : Int → gaH → Prop} (hw : w_X7_refuse a0 a1 a2 h Q) : gaC l G yX7_refuse (gaM yX7_refuse cX7_refuse 3 ((some .boolean))) rm_X7_refuse [.ref a0, gi a1, gi a2] h (gQi Q) X := by
  refine g_start (lv := [some (.ref a0), some (gi a1), some (gi a2)]) hpl_RX7 hst (Nat.le_of_ble_eq_true rfl) (gaArgs_pad (z := 0) rfl) ww_5_227 ?_
  intro p e s m args below meth c V hT
  have h_X7_refuse_J16 : ∀ (v0 : Nat) (h : gaH), w_X7_refuse_J16 Q v0 h → gaP p l e rm_X7_refuse s m args below meth c G 3 (gaZ below G (gQi Q) X args s rm_X7_refuse) 16 [some (.ref v0), none, none] [] h 0 0 := by
    intro v0 h hw
    unfold w_X7_refuse_J16 at hw
    refine g_aload_n V dX7_refuse_16 rfl rfl ?_
    obtain ⟨fs, r1, ha, hv, hw⟩ := hw
    refine g_get (C := RX7) (T := TX7) (N := 8) V 7 rfl hin_RX7 (by decide) (by decide) ww_5_188 rfl ha hv dX7_refuse_17 rfl ?_
    obtain ⟨hx0, hw⟩ := hw
    refine gi_if_le V dX7_refuse_20 rfl rfl hx0 (fun q => ?_) (fun q => ?_)
    · have hw := ga_t q hw
      refine g_iconst V (Int32.ofInt 0) dX7_refuse_27 rfl rfl ?_
      exact g_iret V rfl rfl dX7_refuse_28 ⟨_, rfl, hw⟩
    · have hw := ga_f q hw
      refine g_iconst V (Int32.ofInt 1) dX7_refuse_23 rfl rfl ?_
      refine g_goto V dX7_refuse_24 rfl ?_
      exact g_iret V rfl rfl dX7_refuse_28 ⟨_, rfl, hw⟩
  unfold w_X7_refuse at hw
  refine g_iload_n V dX7_refuse_0 rfl rfl ?_
  obtain ⟨hx0, hw⟩ := hw
  refine gi_if_eq V dX7_refuse_1 rfl rfl hx0 (fun q => ?_) (fun q => ?_)
  · have hw := ga_t q hw
    refine g_less (bs := [true, false, false]) (lv2 := [some (.ref a0), none, none]) rfl ?_
    exact h_X7_refuse_J16 a0 h hw
  · have hw := ga_f q hw
    refine g_aload_n V dX7_refuse_4 rfl rfl ?_
    obtain ⟨fs, r1, ha, hv, hw⟩ := hw
    refine g_get (C := RX7) (T := TX7) (N := 8) V 7 rfl hin_RX7 (by decide) (by decide) ww_5_188 rfl ha hv dX7_refuse_5 rfl ?_
    obtain ⟨hx0, hw⟩ := hw
    refine gi_if_ne V dX7_refuse_8 rfl rfl hx0 (fun q => ?_) (fun q => ?_)
    · have hw := ga_f q hw
      refine g_less (bs := [true, false, false]) (lv2 := [some (.ref a0), none, none]) rfl ?_
      exact h_X7_refuse_J16 a0 h hw
    · have hw := ga_t q hw
      refine g_aload_n V dX7_refuse_11 rfl rfl ?_
      refine g_iload_n V dX7_refuse_12 rfl rfl ?_
      obtain ⟨fs, ha, hl, hw⟩ := hw
      refine g_put (C := RX7) (T := TX7) (N := 8) V 7 tyX7 tyX7_ok nmX7 rfl hin_RX7 (by decide) (by decide) ww_5_188 rfl rfl rfl rfl ha hl dX7_refuse_13 rfl ?_
      generalize gaUp h a0 _ = hp2 at hw ⊢
      refine g_less (bs := [true, false, false]) (lv2 := [some (.ref a0), none, none]) rfl ?_
      exact h_X7_refuse_J16 a0 hp2 hw
def w_X7_start (a0 : Nat) (a1 : Int) (a2 : Int) (h : gaH) (Q : Int → gaH → Prop) : Prop := gPF h a0 7 7 (gi 0) (fun hp1 => gHas hp1 a0 7 ∧ w_X7_refuse a0 a1 a2 hp1 (fun r3 hp2 => narrow .boolean (gi r3) = gi r3 ∧ Q r3 hp2))
abbrev rm_X7_start : Room := { frames := 1, cells := 0, slots := 0, locals := 22 }
theorem hd_X7_start : yX7_start.cls = RX7 ∧ (yX7_start.cls ≠ "java/lang/invoke/MethodHandle" ∧ yX7_start.cls ≠ "java/lang/invoke/VarHandle" ∧ (parseMethodDescriptor yX7_start.desc).map (fun d => d.parameters.length) = some 2) := by decide +kernel
theorem k_X7_start {l : Launch} (hst : l.stackTraces = false) {G : gaG} {X : String → gaH → Prop} {a0 : Nat} {a1 : Int} {a2 : Int} {h : gaH} {Q : Int → gaH → Prop} (hw : w_X7_start a0 a1 a2 h Q) : gaC l G yX7_start (gaM yX7_start cX7_start 3 ((some .boolean))) rm_X7_start [.ref a0, gi a1, gi a2] h (gQi Q) X := by
  refine g_start (lv := [some (.ref a0), some (gi a1), some (gi a2)]) hpl_RX7 hst (Nat.le_of_ble_eq_true rfl) (gaArgs_pad (z := 0) rfl) ww_5_223 ?_
  intro p e s m args below meth c V hT
  unfold w_X7_start at hw
  refine g_aload_n V dX7_start_0 rfl rfl ?_
  refine g_iconst V (Int32.ofInt 0) dX7_start_1 rfl rfl ?_
  obtain ⟨fs, ha, hl, hw⟩ := hw
  refine g_put (C := RX7) (T := TX7) (N := 8) V 7 tyX7 tyX7_ok nmX7 rfl hin_RX7 (by decide) (by decide) ww_5_188 rfl rfl rfl rfl ha hl dX7_start_2 rfl ?_
  generalize gaUp h a0 _ = hp1 at hw ⊢
  refine g_aload_n V dX7_start_5 rfl rfl ?_
  refine g_iload_n V dX7_start_6 rfl rfl ?_
  refine g_iload_n V dX7_start_7 rfl rfl ?_
  obtain ⟨hb, hw⟩ := hw
  obtain ⟨fb, hb⟩ := hb
  refine g_callV (C := RX7) (T := TX7) (N := 8) (st := []) V (k_X7_refuse hst hw) ww_5_224 ww_5_226 wp_2_3 ww_1_5 ww_5_227 hd_X7_refuse ⟨by decide, by decide⟩ rfl (by decide) hb rfl rfl (ga_cat rfl) dX7_start_8 (Nat.zero_le _) (Nat.zero_le _) rfl (gaX_all hT V) (ga_ki (fun r3 hp2 hw => ?_))
  exact g_iret V rfl hw.1 dX7_start_11 ⟨_, rfl, hw.2⟩
def w_X7_alike (a0 : Nat) (a1 : Int) (h : gaH) (Q : Int → gaH → Prop) : Prop := w_X7_isNoGrowth a1 h (fun r2 hp1 => gHas hp1 a0 7 ∧ w_X7_start a0 r2 1 hp1 (fun r4 hp3 => gR r4 ∧ (if r4 = 0 then gHas hp3 a0 7 ∧ gCall 67 4288 136 8832 (fun c7 s8 => w_X7_word a0 a1 0 hp3 (fun r6 hp5 => gHas hp5 a0 7 ∧ gCall 67 4288 c7 s8 (fun c11 s12 => w_X7_word a0 a1 1 hp5 (fun r10 hp9 => gCall 2 256 c11 s12 (fun c15 s16 => w_X7_alikeOf r6 r10 hp9 (fun r14 hp13 => Q r14 hp13)))))) else Q 0 hp3)))
abbrev rm_X7_alike : Room := { frames := 3, cells := 136, slots := 8832, locals := 71 }
theorem hd_X7_alike : yX7_alike.cls = RX7 ∧ (yX7_alike.cls ≠ "java/lang/invoke/MethodHandle" ∧ yX7_alike.cls ≠ "java/lang/invoke/VarHandle" ∧ (parseMethodDescriptor yX7_alike.desc).map (fun d => d.parameters.length) = some 1) := by decide +kernel
theorem k_X7_alike {l : Launch} (hst : l.stackTraces = false) {G : gaG} {X : String → gaH → Prop} {a0 : Nat} {a1 : Int} {h : gaH} {Q : Int → gaH → Prop} (hw : w_X7_alike a0 a1 h Q) : gaC l G yX7_alike (gaM yX7_alike cX7_alike 2 ((some .int))) rm_X7_alike [.ref a0, gi a1] h (gQi Q) X := by
  refine g_start (lv := [some (.ref a0), some (gi a1)]) hpl_RX7 hst (Nat.le_of_ble_eq_true rfl) (gaArgs_pad (z := 0) rfl) ww_7_41 ?_
  intro p e s m args below meth c V hT
  show gaP p l e rm_X7_alike s m args below meth c G 2 (gaZ below G (gQi Q) X args s rm_X7_alike) 0 [some (.ref a0), some (gi a1)] [] h 136 8832
  unfold w_X7_alike at hw
  refine g_aload_n V dX7_alike_0 rfl rfl ?_
  refine g_iload_n V dX7_alike_1 rfl rfl ?_
  refine g_callS (st := [.ref a0]) V (k_X7_isNoGrowth hst hw) ww_6_110 ww_6_111 ww_1_5 ww_6_112 hd_X7_isNoGrowth ⟨by decide, by decide⟩ rfl rfl (ga_cat rfl) dX7_alike_2 (Nat.zero_le _) (Nat.zero_le _) rfl (gaX_all hT V) (ga_ki (fun r2 hp1 hw => ?_))
  refine g_iconst V (Int32.ofInt 1) dX7_alike_5 rfl rfl ?_
  obtain ⟨hb, hw⟩ := hw
  obtain ⟨fb, hb⟩ := hb
  refine g_callV (C := RX7) (T := TX7) (N := 8) (st := []) V (k_X7_start hst hw) ww_5_220 ww_5_222 wp_2_2 ww_1_5 ww_5_223 hd_X7_start ⟨by decide, by decide⟩ rfl (by decide) hb rfl rfl (ga_cat rfl) dX7_alike_6 (Nat.zero_le _) (Nat.zero_le _) rfl (gaX_all hT V) (ga_ki (fun r4 hp3 hw => ?_))
  obtain ⟨hx0, hw⟩ := hw
  refine gi_if_eq V dX7_alike_9 rfl rfl hx0 (fun q => ?_) (fun q => ?_)
  · have hw := ga_t q hw
    refine g_aload_n V dX7_alike_16 rfl rfl ?_
    refine g_iload_n V dX7_alike_17 rfl rfl ?_
    refine g_iconst V (Int32.ofInt 0) dX7_alike_18 rfl rfl ?_
    obtain ⟨hb, hw⟩ := hw
    obtain ⟨fb, hb⟩ := hb
    obtain ⟨hk, hj, c7, s8, ec, es, hw⟩ := hw
    refine g_callV (C := RX7) (T := TX7) (N := 8) (st := []) V (k_X7_word hst hw) ww_7_19 ww_7_21 wp_2_15 ww_1_5 ww_7_22 hd_X7_word ⟨by decide, by decide⟩ rfl (by decide) hb rfl rfl (ga_cat rfl) dX7_alike_19 hk hj rfl (gaX_all hT V) (ga_ka (fun r6 hp5 hw => ?_))
    refine ga_re ec es ?_
    refine g_aload_n V dX7_alike_22 rfl rfl ?_
    refine g_iload_n V dX7_alike_23 rfl rfl ?_
    refine g_iconst V (Int32.ofInt 1) dX7_alike_24 rfl rfl ?_
    obtain ⟨hb, hw⟩ := hw
    obtain ⟨fb, hb⟩ := hb
    obtain ⟨hk, hj, c11, s12, ec, es, hw⟩ := hw
    refine g_callV (C := RX7) (T := TX7) (N := 8) (st := [.ref r6]) V (k_X7_word hst hw) ww_7_19 ww_7_21 wp_2_15 ww_1_5 ww_7_22 hd_X7_word ⟨by decide, by decide⟩ rfl (by decide) hb rfl rfl (ga_cat rfl) dX7_alike_25 hk hj rfl (gaX_all hT V) (ga_ka (fun r10 hp9 hw => ?_))
    refine ga_re ec es ?_
    obtain ⟨hk, hj, c15, s16, ec, es, hw⟩ := hw
    refine g_callS (st := []) V (k_X7_alikeOf hst hw) ww_7_42 ww_7_43 ww_1_5 ww_7_44 hd_X7_alikeOf ⟨by decide, by decide⟩ rfl rfl (ga_cat rfl) dX7_alike_28 hk hj rfl (gaX_all hT V) (ga_ki (fun r14 hp13 hw => ?_))
    refine ga_re ec es ?_
    exact g_iret V rfl rfl dX7_alike_31 ⟨_, rfl, hw⟩
  · have hw := ga_f q hw
    refine g_iconst V (Int32.ofInt 0) dX7_alike_12 rfl rfl ?_
    refine g_goto V dX7_alike_13 rfl ?_
    exact g_iret V rfl rfl dX7_alike_31 ⟨_, rfl, hw⟩
def w_X7_isNoSheet (a0 : Int) (h : gaH) (Q : Int → gaH → Prop) : Prop := w_X7_isIn a0 0 2 h (fun r2 hp1 => gR r2 ∧ (if r2 = 0 then Q 1 hp1 else Q 0 hp1))
abbrev rm_X7_isNoSheet : Room := { frames := 1, cells := 0, slots := 0, locals := 22 }
theorem hd_X7_isNoSheet : (yX7_isNoSheet.cls ≠ "java/lang/invoke/MethodHandle" ∧ yX7_isNoSheet.cls ≠ "java/lang/invoke/VarHandle" ∧ (parseMethodDescriptor yX7_isNoSheet.desc).map (fun d => d.parameters.length) = some 1) := by decide +kernel
theorem k_X7_isNoSheet {l : Launch} (hst : l.stackTraces = false) {G : gaG} {X : String → gaH → Prop} {a0 : Int} {h : gaH} {Q : Int → gaH → Prop} (hw : w_X7_isNoSheet a0 h Q) : gaC l G yX7_isNoSheet (gaM yX7_isNoSheet cX7_isNoSheet 1 ((some .boolean))) rm_X7_isNoSheet [gi a0] h (gQi Q) X := by
  refine g_start (lv := [some (gi a0)]) hpl_RX7 hst (Nat.le_of_ble_eq_true rfl) (gaArgs_pad (z := 0) rfl) ww_5_216 ?_
  intro p e s m args below meth c V hT
  unfold w_X7_isNoSheet at hw
  refine g_iload_n V dX7_isNoSheet_0 rfl rfl ?_
  refine g_iconst V (Int32.ofInt 0) dX7_isNoSheet_1 rfl rfl ?_
  refine g_iconst V (Int32.ofInt 2) dX7_isNoSheet_2 rfl rfl ?_
  refine g_callS (st := []) V (k_X7_isIn hst hw) ww_5_217 ww_5_218 ww_1_5 ww_5_219 hd_X7_isIn ⟨by decide, by decide⟩ rfl rfl (ga_cat rfl) dX7_isNoSheet_3 (Nat.zero_le _) (Nat.zero_le _) rfl (gaX_all hT V) (ga_ki (fun r2 hp1 hw => ?_))
  obtain ⟨hx0, hw⟩ := hw
  refine gi_if_ne V dX7_isNoSheet_6 rfl rfl hx0 (fun q => ?_) (fun q => ?_)
  · have hw := ga_f q hw
    refine g_iconst V (Int32.ofInt 0) dX7_isNoSheet_13 rfl rfl ?_
    exact g_iret V rfl rfl dX7_isNoSheet_14 ⟨_, rfl, hw⟩
  · have hw := ga_t q hw
    refine g_iconst V (Int32.ofInt 1) dX7_isNoSheet_9 rfl rfl ?_
    refine g_goto V dX7_isNoSheet_10 rfl ?_
    exact g_iret V rfl rfl dX7_isNoSheet_14 ⟨_, rfl, hw⟩
def w_X7_cannot (a0 : Nat) (h : gaH) (Q : Int → gaH → Prop) : Prop := gI h a0 7 5 (fun r1 => gPF h a0 7 5 (gi (r1 + 1)) (fun hp2 => Q (-9) hp2))
abbrev rm_X7_cannot : Room := { frames := 0, cells := 0, slots := 0, locals := 0 }
theorem hd_X7_cannot : yX7_cannot.cls = RX7 ∧ (yX7_cannot.cls ≠ "java/lang/invoke/MethodHandle" ∧ yX7_cannot.cls ≠ "java/lang/invoke/VarHandle" ∧ (parseMethodDescriptor yX7_cannot.desc).map (fun d => d.parameters.length) = some 0) := by decide +kernel
theorem k_X7_cannot {l : Launch} (hst : l.stackTraces = false) {G : gaG} {X : String → gaH → Prop} {a0 : Nat} {h : gaH} {Q : Int → gaH → Prop} (hw : w_X7_cannot a0 h Q) : gaC l G yX7_cannot (gaM yX7_cannot cX7_cannot 1 ((some .int))) rm_X7_cannot [.ref a0] h (gQi Q) X := by
  refine g_start (lv := [some (.ref a0)]) hpl_RX7 hst (Nat.le_of_ble_eq_true rfl) (gaArgs_pad (z := 0) rfl) ww_6_7 ?_
  intro p e s m args below meth c V hT
  unfold w_X7_cannot at hw
  refine g_aload_n V dX7_cannot_0 rfl rfl ?_
  refine g_dup V dX7_cannot_1 rfl rfl ?_
  obtain ⟨fs, r1, ha, hv, hw⟩ := hw
  refine g_get (C := RX7) (T := TX7) (N := 8) V 5 rfl hin_RX7 (by decide) (by decide) ww_5_186 rfl ha hv dX7_cannot_2 rfl ?_
  refine g_iconst V (Int32.ofInt 1) dX7_cannot_5 rfl rfl ?_
  refine gi_iadd V dX7_cannot_6 rfl ?_
  obtain ⟨fs, ha, hl, hw⟩ := hw
  refine g_put (C := RX7) (T := TX7) (N := 8) V 5 tyX7 tyX7_ok nmX7 rfl hin_RX7 (by decide) (by decide) ww_5_186 rfl rfl rfl rfl ha hl dX7_cannot_7 rfl ?_
  generalize gaUp h a0 _ = hp2 at hw ⊢
  refine g_bipush V (Int32.ofInt (-9)) dX7_cannot_10 rfl rfl ?_
  exact g_iret V rfl rfl dX7_cannot_12 ⟨_, rfl, hw⟩
def w_X7_comes (a0 : Nat) (a1 : Int) (a2 : Nat) (h : gaH) (Q : Int → gaH → Prop) : Prop := gA h a0 7 0 (fun r1 => gHas h a2 102 ∧ gSI h r1 112 a1 (.ref a2) (fun hp2 => gI hp2 a0 7 3 (fun r3 => gPF hp2 a0 7 3 (gi (r3 + 1)) (fun hp4 => gAL hp4 a2 102 (fun r5 => Q r5 hp4)))))
abbrev rm_X7_comes : Room := { frames := 0, cells := 0, slots := 0, locals := 0 }
theorem hd_X7_comes : yX7_comes.cls = RX7 ∧ (yX7_comes.cls ≠ "java/lang/invoke/MethodHandle" ∧ yX7_comes.cls ≠ "java/lang/invoke/VarHandle" ∧ (parseMethodDescriptor yX7_comes.desc).map (fun d => d.parameters.length) = some 2) := by decide +kernel
theorem k_X7_comes {l : Launch} (hst : l.stackTraces = false) {G : gaG} {X : String → gaH → Prop} {a0 : Nat} {a1 : Int} {a2 : Nat} {h : gaH} {Q : Int → gaH → Prop} (hw : w_X7_comes a0 a1 a2 h Q) : gaC l G yX7_comes (gaM yX7_comes cX7_comes 3 ((some .int))) rm_X7_comes [.ref a0, gi a1, .ref a2] h (gQi Q) X := by
  refine g_start (lv := [some (.ref a0), some (gi a1), some (.ref a2)]) hpl_RX7 hst (Nat.le_of_ble_eq_true rfl) (gaArgs_pad (z := 0) rfl) ww_5_235 ?_
  intro p e s m args below meth c V hT
  unfold w_X7_comes at hw
  refine g_aload_n V dX7_comes_0 rfl rfl ?_
  obtain ⟨fs, r1, ha, hv, hw⟩ := hw
  refine g_get (C := RX7) (T := TX7) (N := 8) V 0 rfl hin_RX7 (by decide) (by decide) ww_5_181 rfl ha hv dX7_comes_1 rfl ?_
  refine g_iload_n V dX7_comes_4 rfl rfl ?_
  refine g_aload_n V dX7_comes_5 rfl rfl ?_
  obtain ⟨hb, hw⟩ := hw
  obtain ⟨vs, ha, h0, h9, hi, hw⟩ := hw
  refine gi_aastoreA V ha hb h0 h9 hi dX7_comes_6 rfl ?_
  generalize gaUp h r1 _ = hp2 at hw ⊢
  refine g_aload_n V dX7_comes_7 rfl rfl ?_
  refine g_dup V dX7_comes_8 rfl rfl ?_
  obtain ⟨fs, r3, ha, hv, hw⟩ := hw
  refine g_get (C := RX7) (T := TX7) (N := 8) V 3 rfl hin_RX7 (by decide) (by decide) ww_5_184 rfl ha hv dX7_comes_9 rfl ?_
  refine g_iconst V (Int32.ofInt 1) dX7_comes_12 rfl rfl ?_
  refine gi_iadd V dX7_comes_13 rfl ?_
  obtain ⟨fs, ha, hl, hw⟩ := hw
  refine g_put (C := RX7) (T := TX7) (N := 8) V 3 tyX7 tyX7_ok nmX7 rfl hin_RX7 (by decide) (by decide) ww_5_184 rfl rfl rfl rfl ha hl dX7_comes_14 rfl ?_
  generalize gaUp hp2 a0 _ = hp4 at hw ⊢
  refine g_aload_n V dX7_comes_17 rfl rfl ?_
  obtain ⟨t9, vs, ha, ht, hw⟩ := hw
  refine gi_arraylength (t0 := 102) V (by simp [gaT]) ha ht dX7_comes_18 rfl ?_
  generalize (vs.length : Int) = r5 at hw ⊢
  exact g_iret V rfl rfl dX7_comes_19 ⟨_, rfl, hw⟩
def w_X7_put (a0 : Nat) (a1 : Int) (a2 : Int) (a3 : Int) (a4 : Nat) (h : gaH) (Q : Int → gaH → Prop) : Prop := gA h a0 7 0 (fun r1 => gLA h r1 112 a1 (fun r2 => gAL h r2 102 (fun r3 => gAL h a4 102 (fun r4 => gR ((r3 - (a3 - a2)) + r4) ∧ (if ((r3 - (a3 - a2)) + r4) ≤ 64 then gA h a0 7 0 (fun r5 => gLA h r5 112 a1 (fun r6 => gCall 1 128 1 128 (fun c9 s10 => w_X7_spliced r6 a2 a3 a4 h (fun r8 hp7 => gHas hp7 a0 7 ∧ w_X7_comes a0 a1 r8 hp7 (fun r12 hp11 => Q r12 hp11))))) else gHas h a0 7 ∧ w_X7_cannot a0 h (fun r14 hp13 => Q r14 hp13))))))
abbrev rm_X7_put : Room := { frames := 1, cells := 1, slots := 128, locals := 25 }
theorem hd_X7_put : yX7_put.cls = RX7 ∧ (yX7_put.cls ≠ "java/lang/invoke/MethodHandle" ∧ yX7_put.cls ≠ "java/lang/invoke/VarHandle" ∧ (parseMethodDescriptor yX7_put.desc).map (fun d => d.parameters.length) = some 4) := by decide +kernel
theorem k_X7_put {l : Launch} (hst : l.stackTraces = false) {G : gaG} {X : String → gaH → Prop} {a0 : Nat} {a1 : Int} {a2 : Int} {a3 : Int} {a4 : Nat} {h : gaH} {Q : Int → gaH → Prop} (hw : w_X7_put a0 a1 a2 a3 a4 h Q) : gaC l G yX7_put (gaM yX7_put cX7_put 5 ((some .int))) rm_X7_put [.ref a0, gi a1, gi a2, gi a3, .ref a4] h (gQi Q) X := by
  refine g_start (lv := [some (.ref a0), some (gi a1), some (gi a2), some (gi a3), some (.ref a4)]) hpl_RX7 hst (Nat.le_of_ble_eq_true rfl) (gaArgs_pad (z := 0) rfl) ww_6_3 ?_
  intro p e s m args below meth c V hT
  show gaP p l e rm_X7_put s m args below meth c G 5 (gaZ below G (gQi Q) X args s rm_X7_put) 0 [some (.ref a0), some (gi a1), some (gi a2), some (gi a3), some (.ref a4)] [] h 1 128
  unfold w_X7_put at hw
  refine g_aload_n V dX7_put_0 rfl rfl ?_
  obtain ⟨fs, r1, ha, hv, hw⟩ := hw
  refine g_get (C := RX7) (T := TX7) (N := 8) V 0 rfl hin_RX7 (by decide) (by decide) ww_5_181 rfl ha hv dX7_put_1 rfl ?_
  refine g_iload_n V dX7_put_4 rfl rfl ?_
  obtain ⟨vs, r2, ha, h0, h9, hv, hw⟩ := hw
  refine gi_aaload V ha (by decide) h0 h9 hv dX7_put_5 rfl ?_
  obtain ⟨t9, vs, ha, ht, hw⟩ := hw
  refine gi_arraylength (t0 := 102) V (by simp [gaT]) ha ht dX7_put_6 rfl ?_
  generalize (vs.length : Int) = r3 at hw ⊢
  refine g_iload_n V dX7_put_7 rfl rfl ?_
  refine g_iload_n V dX7_put_8 rfl rfl ?_
  refine gi_isub V dX7_put_9 rfl ?_
  refine gi_isub V dX7_put_10 rfl ?_
  refine g_aload V dX7_put_11 rfl rfl ?_
  obtain ⟨t9, vs, ha, ht, hw⟩ := hw
  refine gi_arraylength (t0 := 102) V (by simp [gaT]) ha ht dX7_put_13 rfl ?_
  generalize (vs.length : Int) = r4 at hw ⊢
  refine gi_iadd V dX7_put_14 rfl ?_
  refine g_bipush V (Int32.ofInt 64) dX7_put_15 rfl rfl ?_
  obtain ⟨hx0, hw⟩ := hw
  refine gi_icmp_le V dX7_put_17 rfl rfl hx0 (by decide) (fun q => ?_) (fun q => ?_)
  · have hw := ga_t q hw
    refine g_aload_n V dX7_put_25 rfl rfl ?_
    refine g_iload_n V dX7_put_26 rfl rfl ?_
    refine g_aload_n V dX7_put_27 rfl rfl ?_
    obtain ⟨fs, r5, ha, hv, hw⟩ := hw
    refine g_get (C := RX7) (T := TX7) (N := 8) V 0 rfl hin_RX7 (by decide) (by decide) ww_5_181 rfl ha hv dX7_put_28 rfl ?_
    refine g_iload_n V dX7_put_31 rfl rfl ?_
    obtain ⟨vs, r6, ha, h0, h9, hv, hw⟩ := hw
    refine gi_aaload V ha (by decide) h0 h9 hv dX7_put_32 rfl ?_
    refine g_iload_n V dX7_put_33 rfl rfl ?_
    refine g_iload_n V dX7_put_34 rfl rfl ?_
    refine g_aload V dX7_put_35 rfl rfl ?_
    obtain ⟨hk, hj, c9, s10, ec, es, hw⟩ := hw
    refine g_callS (st := [gi a1, .ref a0]) V (k_X7_spliced hst hw) ww_6_8 ww_6_9 ww_1_5 ww_6_10 hd_X7_spliced ⟨by decide, by decide⟩ rfl rfl (ga_cat rfl) dX7_put_37 hk hj rfl (gaX_all hT V) (ga_ka (fun r8 hp7 hw => ?_))
    refine ga_re ec es ?_
    obtain ⟨hb, hw⟩ := hw
    obtain ⟨fb, hb⟩ := hb
    refine g_callV (C := RX7) (T := TX7) (N := 8) (st := []) V (k_X7_comes hst hw) ww_5_232 ww_5_234 wp_2_4 ww_1_5 ww_5_235 hd_X7_comes ⟨by decide, by decide⟩ rfl (by decide) hb rfl rfl (ga_cat rfl) dX7_put_40 (Nat.zero_le _) (Nat.zero_le _) rfl (gaX_all hT V) (ga_ki (fun r12 hp11 hw => ?_))
    exact g_iret V rfl rfl dX7_put_43 ⟨_, rfl, hw⟩
  · have hw := ga_f q hw
    refine g_aload_n V dX7_put_20 rfl rfl ?_
    obtain ⟨hb, hw⟩ := hw
    obtain ⟨fb, hb⟩ := hb
    refine g_callV (C := RX7) (T := TX7) (N := 8) (st := []) V (k_X7_cannot hst hw) ww_6_4 ww_6_6 wp_2_6 ww_1_5 ww_6_7 hd_X7_cannot ⟨by decide, by decide⟩ rfl (by decide) hb rfl rfl (ga_cat rfl) dX7_put_21 (Nat.zero_le _) (Nat.zero_le _) rfl (gaX_all hT V) (ga_ki (fun r14 hp13 hw => ?_))
    exact g_iret V rfl rfl dX7_put_24 ⟨_, rfl, hw⟩
def w_X7_append_J20 (Q : Int → gaH → Prop) (v0 : Nat) (v1 : Int) (v2 : Int) (t0 : Nat) (t1 : Int) (h : gaH) (kc ks : Nat) : Prop := gHas h t0 7 ∧ w_X7_start t0 t1 1 h (fun r2 hp1 => gR r2 ∧ (if r2 = 0 then gA hp1 v0 7 0 (fun r3 => gLA hp1 r3 112 v1 (fun r4 => gAL hp1 r4 102 (fun r5 => gA hp1 v0 7 0 (fun r6 => gLA hp1 r6 112 v1 (fun r7 => gAL hp1 r7 102 (fun r8 => gA hp1 v0 7 0 (fun r9 => gLA hp1 r9 112 v2 (fun r10 => gHas hp1 v0 7 ∧ gCall 1 128 kc ks (fun c13 s14 => w_X7_put v0 v1 r5 r8 r10 hp1 (fun r12 hp11 => Q r12 hp11)))))))))) else Q 0 hp1))
def w_X7_append_J15 (Q : Int → gaH → Prop) (v0 : Nat) (v1 : Int) (v2 : Int) (t0 : Nat) (h : gaH) (kc ks : Nat) : Prop := w_X7_append_J20 Q v0 v1 v2 t0 1 h kc ks
def w_X7_append (a0 : Nat) (a1 : Int) (a2 : Int) (h : gaH) (Q : Int → gaH → Prop) : Prop := w_X7_isNoSheet a1 h (fun r2 hp1 => gR r2 ∧ (if r2 = 0 then w_X7_isNoSheet a2 hp1 (fun r4 hp3 => gR r4 ∧ (if r4 = 0 then w_X7_append_J20 Q a0 a1 a2 a0 0 hp3 1 128 else w_X7_append_J15 Q a0 a1 a2 a0 hp3 1 128)) else w_X7_append_J15 Q a0 a1 a2 a0 hp1 1 128))
abbrev rm_X7_append : Room := { frames := 2, cells := 1, slots := 128, locals := 49 }
theorem hd_X7_append : yX7_append.cls = RX7 ∧ (yX7_append.cls ≠ "java/lang/invoke/MethodHandle" ∧ yX7_append.cls ≠ "java/lang/invoke/VarHandle" ∧ (parseMethodDescriptor yX7_append.desc).map (fun d => d.parameters.length) = some 2) := by decide +kernel
theorem k_X7_append {l : Launch} (hst : l.stackTraces = false) {G : gaG} {X : String → gaH → Prop} {a0 : Nat} {a1 : Int} {a2 : Int} {h : gaH} {Q : Int → gaH → Prop} (hw : w_X7_append a0 a1 a2 h Q) : gaC l G yX7_append (gaM yX7_append cX7_append 3 ((some .int))) rm_X7_append [.ref a0, gi a1, gi a2] h (gQi Q) X := by
  refine g_start (lv := [some (.ref a0), some (gi a1), some (gi a2)]) hpl_RX7 hst (Nat.le_of_ble_eq_true rfl) (gaArgs_pad (z := 0) rfl) ww_5_239 ?_
  intro p e s m args below meth c V hT
  have h_X7_append_J20 : ∀ (v0 : Nat) (v1 : Int) (v2 : Int) (t0 : Nat) (t1 : Int) (h : gaH) (kc ks : Nat), w_X7_append_J20 Q v0 v1 v2 t0 t1 h kc ks → gaP p l e rm_X7_append s m args below meth c G 3 (gaZ below G (gQi Q) X args s rm_X7_append) 20 [some (.ref v0), some (gi v1), some (gi v2)] [gi t1, .ref t0] h kc ks := by
    intro v0 v1 v2 t0 t1 h kc ks hw
    unfold w_X7_append_J20 at hw
    refine g_iconst V (Int32.ofInt 1) dX7_append_20 rfl rfl ?_
    obtain ⟨hb, hw⟩ := hw
    obtain ⟨fb, hb⟩ := hb
    refine g_callV (C := RX7) (T := TX7) (N := 8) (st := []) V (k_X7_start hst hw) ww_5_220 ww_5_222 wp_2_2 ww_1_5 ww_5_223 hd_X7_start ⟨by decide, by decide⟩ rfl (by decide) hb rfl rfl (ga_cat rfl) dX7_append_21 (Nat.zero_le _) (Nat.zero_le _) rfl (gaX_all hT V) (ga_ki (fun r2 hp1 hw => ?_))
    obtain ⟨hx0, hw⟩ := hw
    refine gi_if_eq V dX7_append_24 rfl rfl hx0 (fun q => ?_) (fun q => ?_)
    · have hw := ga_t q hw
      refine g_aload_n V dX7_append_29 rfl rfl ?_
      refine g_iload_n V dX7_append_30 rfl rfl ?_
      refine g_aload_n V dX7_append_31 rfl rfl ?_
      obtain ⟨fs, r3, ha, hv, hw⟩ := hw
      refine g_get (C := RX7) (T := TX7) (N := 8) V 0 rfl hin_RX7 (by decide) (by decide) ww_5_181 rfl ha hv dX7_append_32 rfl ?_
      refine g_iload_n V dX7_append_35 rfl rfl ?_
      obtain ⟨vs, r4, ha, h0, h9, hv, hw⟩ := hw
      refine gi_aaload V ha (by decide) h0 h9 hv dX7_append_36 rfl ?_
      obtain ⟨t9, vs, ha, ht, hw⟩ := hw
      refine gi_arraylength (t0 := 102) V (by simp [gaT]) ha ht dX7_append_37 rfl ?_
      generalize (vs.length : Int) = r5 at hw ⊢
      refine g_aload_n V dX7_append_38 rfl rfl ?_
      obtain ⟨fs, r6, ha, hv, hw⟩ := hw
      refine g_get (C := RX7) (T := TX7) (N := 8) V 0 rfl hin_RX7 (by decide) (by decide) ww_5_181 rfl ha hv dX7_append_39 rfl ?_
      refine g_iload_n V dX7_append_42 rfl rfl ?_
      obtain ⟨vs, r7, ha, h0, h9, hv, hw⟩ := hw
      refine gi_aaload V ha (by decide) h0 h9 hv dX7_append_43 rfl ?_
      obtain ⟨t9, vs, ha, ht, hw⟩ := hw
      refine gi_arraylength (t0 := 102) V (by simp [gaT]) ha ht dX7_append_44 rfl ?_
      generalize (vs.length : Int) = r8 at hw ⊢
      refine g_aload_n V dX7_append_45 rfl rfl ?_
      obtain ⟨fs, r9, ha, hv, hw⟩ := hw
      refine g_get (C := RX7) (T := TX7) (N := 8) V 0 rfl hin_RX7 (by decide) (by decide) ww_5_181 rfl ha hv dX7_append_46 rfl ?_
      refine g_iload_n V dX7_append_49 rfl rfl ?_
      obtain ⟨vs, r10, ha, h0, h9, hv, hw⟩ := hw
      refine gi_aaload V ha (by decide) h0 h9 hv dX7_append_50 rfl ?_
      obtain ⟨hb, hw⟩ := hw
      obtain ⟨fb, hb⟩ := hb
      obtain ⟨hk, hj, c13, s14, ec, es, hw⟩ := hw
      refine g_callV (C := RX7) (T := TX7) (N := 8) (st := []) V (k_X7_put hst hw) ww_6_0 ww_6_2 wp_2_5 ww_1_5 ww_6_3 hd_X7_put ⟨by decide, by decide⟩ rfl (by decide) hb rfl rfl (ga_cat rfl) dX7_append_51 hk hj rfl (gaX_all hT V) (ga_ki (fun r12 hp11 hw => ?_))
      refine ga_re ec es ?_
      exact g_iret V rfl rfl dX7_append_54 ⟨_, rfl, hw⟩
    · have hw := ga_f q hw
      refine g_iconst V (Int32.ofInt 0) dX7_append_27 rfl rfl ?_
      exact g_iret V rfl rfl dX7_append_28 ⟨_, rfl, hw⟩
  have h_X7_append_J15 : ∀ (v0 : Nat) (v1 : Int) (v2 : Int) (t0 : Nat) (h : gaH) (kc ks : Nat), w_X7_append_J15 Q v0 v1 v2 t0 h kc ks → gaP p l e rm_X7_append s m args below meth c G 3 (gaZ below G (gQi Q) X args s rm_X7_append) 15 [some (.ref v0), some (gi v1), some (gi v2)] [.ref t0] h kc ks := by
    intro v0 v1 v2 t0 h kc ks hw
    unfold w_X7_append_J15 at hw
    refine g_iconst V (Int32.ofInt 1) dX7_append_15 rfl rfl ?_
    refine g_goto V dX7_append_16 rfl ?_
    exact h_X7_append_J20 v0 v1 v2 t0 1 h kc ks hw
  show gaP p l e rm_X7_append s m args below meth c G 3 (gaZ below G (gQi Q) X args s rm_X7_append) 0 [some (.ref a0), some (gi a1), some (gi a2)] [] h 1 128
  unfold w_X7_append at hw
  refine g_aload_n V dX7_append_0 rfl rfl ?_
  refine g_iload_n V dX7_append_1 rfl rfl ?_
  refine g_callS (st := [.ref a0]) V (k_X7_isNoSheet hst hw) ww_5_214 ww_5_215 ww_1_5 ww_5_216 hd_X7_isNoSheet ⟨by decide, by decide⟩ rfl rfl (ga_cat rfl) dX7_append_2 (Nat.zero_le _) (Nat.zero_le _) rfl (gaX_all hT V) (ga_ki (fun r2 hp1 hw => ?_))
  obtain ⟨hx0, hw⟩ := hw
  refine gi_if_ne V dX7_append_5 rfl rfl hx0 (fun q => ?_) (fun q => ?_)
  · have hw := ga_f q hw
    exact h_X7_append_J15 a0 a1 a2 a0 hp1 1 128 hw
  · have hw := ga_t q hw
    refine g_iload_n V dX7_append_8 rfl rfl ?_
    refine g_callS (st := [.ref a0]) V (k_X7_isNoSheet hst hw) ww_5_214 ww_5_215 ww_1_5 ww_5_216 hd_X7_isNoSheet ⟨by decide, by decide⟩ rfl rfl (ga_cat rfl) dX7_append_9 (Nat.zero_le _) (Nat.zero_le _) rfl (gaX_all hT V) (ga_ki (fun r4 hp3 hw => ?_))
    obtain ⟨hx0, hw⟩ := hw
    refine gi_if_eq V dX7_append_12 rfl rfl hx0 (fun q => ?_) (fun q => ?_)
    · have hw := ga_t q hw
      refine g_iconst V (Int32.ofInt 0) dX7_append_19 rfl rfl ?_
      exact h_X7_append_J20 a0 a1 a2 a0 0 hp3 1 128 hw
    · have hw := ga_f q hw
      exact h_X7_append_J15 a0 a1 a2 a0 hp3 1 128 hw
def w_X7_isNoRule (a0 : Int) (a1 : Int) (h : gaH) (Q : Int → gaH → Prop) : Prop := w_X7_isIn a0 2 31 h (fun r2 hp1 => gR r2 ∧ (if r2 = 0 then Q 1 hp1 else w_X7_isIn a1 2 31 hp1 (fun r4 hp3 => gR r4 ∧ (if r4 = 0 then Q 1 hp3 else Q 0 hp3))))
abbrev rm_X7_isNoRule : Room := { frames := 1, cells := 0, slots := 0, locals := 22 }
theorem hd_X7_isNoRule : (yX7_isNoRule.cls ≠ "java/lang/invoke/MethodHandle" ∧ yX7_isNoRule.cls ≠ "java/lang/invoke/VarHandle" ∧ (parseMethodDescriptor yX7_isNoRule.desc).map (fun d => d.parameters.length) = some 2) := by decide +kernel
theorem k_X7_isNoRule {l : Launch} (hst : l.stackTraces = false) {G : gaG} {X : String → gaH → Prop} {a0 : Int} {a1 : Int} {h : gaH} {Q : Int → gaH → Prop} (hw : w_X7_isNoRule a0 a1 h Q) : gaC l G yX7_isNoRule (gaM yX7_isNoRule cX7_isNoRule 2 ((some .boolean))) rm_X7_isNoRule [gi a0, gi a1] h (gQi Q) X := by
  refine g_start (lv := [some (gi a0), some (gi a1)]) hpl_RX7 hst (Nat.le_of_ble_eq_true rfl) (gaArgs_pad (z := 0) rfl) ww_6_95 ?_
  intro p e s m args below meth c V hT
  unfold w_X7_isNoRule at hw
  refine g_iload_n V dX7_isNoRule_0 rfl rfl ?_
  refine g_iconst V (Int32.ofInt 2) dX7_isNoRule_1 rfl rfl ?_
  refine g_bipush V (Int32.ofInt 31) dX7_isNoRule_2 rfl rfl ?_
  refine g_callS (st := []) V (k_X7_isIn hst hw) ww_5_217 ww_5_218 ww_1_5 ww_5_219 hd_X7_isIn ⟨by decide, by decide⟩ rfl rfl (ga_cat rfl) dX7_isNoRule_4 (Nat.zero_le _) (Nat.zero_le _) rfl (gaX_all hT V) (ga_ki (fun r2 hp1 hw => ?_))
  obtain ⟨hx0, hw⟩ := hw
  refine gi_if_eq V dX7_isNoRule_7 rfl rfl hx0 (fun q => ?_) (fun q => ?_)
  · have hw := ga_t q hw
    refine g_iconst V (Int32.ofInt 1) dX7_isNoRule_20 rfl rfl ?_
    refine g_goto V dX7_isNoRule_21 rfl ?_
    exact g_iret V rfl rfl dX7_isNoRule_25 ⟨_, rfl, hw⟩
  · have hw := ga_f q hw
    refine g_iload_n V dX7_isNoRule_10 rfl rfl ?_
    refine g_iconst V (Int32.ofInt 2) dX7_isNoRule_11 rfl rfl ?_
    refine g_bipush V (Int32.ofInt 31) dX7_isNoRule_12 rfl rfl ?_
    refine g_callS (st := []) V (k_X7_isIn hst hw) ww_5_217 ww_5_218 ww_1_5 ww_5_219 hd_X7_isIn ⟨by decide, by decide⟩ rfl rfl (ga_cat rfl) dX7_isNoRule_14 (Nat.zero_le _) (Nat.zero_le _) rfl (gaX_all hT V) (ga_ki (fun r4 hp3 hw => ?_))
    obtain ⟨hx0, hw⟩ := hw
    refine gi_if_ne V dX7_isNoRule_17 rfl rfl hx0 (fun q => ?_) (fun q => ?_)
    · have hw := ga_f q hw
      refine g_iconst V (Int32.ofInt 0) dX7_isNoRule_24 rfl rfl ?_
      exact g_iret V rfl rfl dX7_isNoRule_25 ⟨_, rfl, hw⟩
    · have hw := ga_t q hw
      refine g_iconst V (Int32.ofInt 1) dX7_isNoRule_20 rfl rfl ?_
      refine g_goto V dX7_isNoRule_21 rfl ?_
      exact g_iret V rfl rfl dX7_isNoRule_25 ⟨_, rfl, hw⟩
def w_X7_ofCode_L21 (Q : Nat → gaH → Prop) : Nat → (Int → Int → Nat → Int → gaH → Nat → Nat → Prop)
  | 0 => fun _ _ _ _ _ _ _ => False
  | n + 1 => fun v0 v1 v2 v3 h kc ks => gR v3 ∧ gR v1 ∧ (if v1 ≤ v3 then Q v2 h else gSI h v2 102 v3 (gi (gAnd (gShr v0 ((v1 - 1) - v3)) 1)) (fun hp1 => w_X7_ofCode_L21 Q n v0 v1 v2 (v3 + 1) hp1 kc ks))
def w_X7_ofCode_L2 (Q : Nat → gaH → Prop) : Nat → (Int → Int → gaH → Nat → Nat → Prop)
  | 0 => fun _ _ _ _ _ => False
  | n + 1 => fun v0 v1 h kc ks => gR (gShr v0 v1) ∧ (if (gShr v0 v1) ≤ 1 then gNA h 102 (gi 0) v1 kc ks (fun o1 hp2 c3 s4 => ∃ z, w_X7_ofCode_L21 Q z v0 v1 o1 0 hp2 c3 s4) else w_X7_ofCode_L2 Q n v0 (v1 + 1) h kc ks)
def w_X7_ofCode (a0 : Int) (h : gaH) (Q : Nat → gaH → Prop) : Prop := ∃ z, w_X7_ofCode_L2 Q z a0 0 h 1 16
abbrev rm_X7_ofCode : Room := { frames := 0, cells := 1, slots := 16, locals := 0 }
theorem hd_X7_ofCode : (yX7_ofCode.cls ≠ "java/lang/invoke/MethodHandle" ∧ yX7_ofCode.cls ≠ "java/lang/invoke/VarHandle" ∧ (parseMethodDescriptor yX7_ofCode.desc).map (fun d => d.parameters.length) = some 1) := by decide +kernel
theorem k_X7_ofCode {l : Launch} (hst : l.stackTraces = false) {G : gaG} {X : String → gaH → Prop} {a0 : Int} {h : gaH} {Q : Nat → gaH → Prop} (hw : w_X7_ofCode a0 h Q) : gaC l G yX7_ofCode (gaM yX7_ofCode cX7_ofCode 4 ((some (.array .int)))) rm_X7_ofCode [gi a0] h (gQa Q) X := by
  refine g_start (lv := [some (gi a0), none, none, none]) hpl_RX7 hst (Nat.le_of_ble_eq_true rfl) (gaArgs_pad (z := 3) rfl) ww_5_231 ?_
  intro p e s m args below meth c V hT
  have h_X7_ofCode_L21 : ∀ (n : Nat), ∀ (v0 : Int) (v1 : Int) (v2 : Nat) (v3 : Int) (h : gaH) (kc ks : Nat), w_X7_ofCode_L21 Q n v0 v1 v2 v3 h kc ks → gaP p l e rm_X7_ofCode s m args below meth c G 4 (gaZ below G (gQa Q) X args s rm_X7_ofCode) 21 [some (gi v0), some (gi v1), some (.ref v2), some (gi v3)] [] h kc ks := by
    intro n
    induction n with
    | zero =>
      intro v0 v1 v2 v3 h kc ks hw
      exact hw.elim
    | succ n ih =>
      intro v0 v1 v2 v3 h kc ks hw
      unfold w_X7_ofCode_L21 at hw
      refine g_iload_n V dX7_ofCode_21 rfl rfl ?_
      refine g_iload_n V dX7_ofCode_22 rfl rfl ?_
      obtain ⟨hx0, hx1, hw⟩ := hw
      refine gi_icmp_ge V dX7_ofCode_23 rfl rfl hx0 hx1 (fun q => ?_) (fun q => ?_)
      · have hw := ga_t q hw
        refine g_aload_n V dX7_ofCode_44 rfl rfl ?_
        exact g_aret V rfl (by first | exact Or.inl ⟨_, rfl⟩ | exact Or.inr ⟨_, rfl⟩) dX7_ofCode_45 ⟨_, rfl, hw⟩
      · have hw := ga_f q hw
        refine g_aload_n V dX7_ofCode_26 rfl rfl ?_
        refine g_iload_n V dX7_ofCode_27 rfl rfl ?_
        refine g_iload_n V dX7_ofCode_28 rfl rfl ?_
        refine g_iload_n V dX7_ofCode_29 rfl rfl ?_
        refine g_iconst V (Int32.ofInt 1) dX7_ofCode_30 rfl rfl ?_
        refine gi_isub V dX7_ofCode_31 rfl ?_
        refine g_iload_n V dX7_ofCode_32 rfl rfl ?_
        refine gi_isub V dX7_ofCode_33 rfl ?_
        refine gi_ishr V dX7_ofCode_34 rfl ?_
        refine g_iconst V (Int32.ofInt 1) dX7_ofCode_35 rfl rfl ?_
        refine gi_iand V dX7_ofCode_36 rfl ?_
        obtain ⟨vs, ha, h0, h9, hi, hw⟩ := hw
        refine gi_iastore V ha h0 h9 hi dX7_ofCode_37 rfl ?_
        generalize gaUp h v2 _ = hp1 at hw ⊢
        refine gi_iinc (lv2 := [some (gi v0), some (gi v1), some (.ref v2), some (gi (v3 + 1))]) V dX7_ofCode_38 (by decide) rfl rfl rfl rfl ?_
        refine g_goto V dX7_ofCode_41 rfl ?_
        exact ih v0 v1 v2 (v3 + 1) hp1 kc ks hw
  have h_X7_ofCode_L2 : ∀ (n : Nat), ∀ (v0 : Int) (v1 : Int) (h : gaH) (kc ks : Nat), w_X7_ofCode_L2 Q n v0 v1 h kc ks → gaP p l e rm_X7_ofCode s m args below meth c G 4 (gaZ below G (gQa Q) X args s rm_X7_ofCode) 2 [some (gi v0), some (gi v1), none, none] [] h kc ks := by
    intro n
    induction n with
    | zero =>
      intro v0 v1 h kc ks hw
      exact hw.elim
    | succ n ih =>
      intro v0 v1 h kc ks hw
      unfold w_X7_ofCode_L2 at hw
      refine g_iload_n V dX7_ofCode_2 rfl rfl ?_
      refine g_iload_n V dX7_ofCode_3 rfl rfl ?_
      refine gi_ishr V dX7_ofCode_4 rfl ?_
      refine g_iconst V (Int32.ofInt 1) dX7_ofCode_5 rfl rfl ?_
      obtain ⟨hx0, hw⟩ := hw
      refine gi_icmp_le V dX7_ofCode_6 rfl rfl hx0 (by decide) (fun q => ?_) (fun q => ?_)
      · have hw := ga_t q hw
        refine g_iload_n V dX7_ofCode_15 rfl rfl ?_
        obtain ⟨h0, h9, hk, hj, hw⟩ := hw
        refine gi_newarray (atype := .int) (t := 102) V (by decide) rfl ww_1_109 h0 h9 dX7_ofCode_16 rfl hk hj (fun o1 hf => ?_)
        obtain ⟨c3, s4, ec, es, hw⟩ := hw o1 hf
        refine ga_re ec es ?_
        generalize gaUp h o1 _ = hp2 at hw ⊢
        refine g_astore_n (lv2 := [some (gi v0), some (gi v1), some (.ref o1), none]) V dX7_ofCode_18 (by decide) rfl rfl rfl ?_
        refine g_iconst V (Int32.ofInt 0) dX7_ofCode_19 rfl rfl ?_
        refine g_istore_n (lv2 := [some (gi v0), some (gi v1), some (.ref o1), some (gi 0)]) V dX7_ofCode_20 (by decide) rfl rfl rfl ?_
        obtain ⟨z, hw⟩ := hw
        exact h_X7_ofCode_L21 z v0 v1 o1 0 hp2 c3 s4 hw
      · have hw := ga_f q hw
        refine gi_iinc (lv2 := [some (gi v0), some (gi (v1 + 1)), none, none]) V dX7_ofCode_9 (by decide) rfl rfl rfl rfl ?_
        refine g_goto V dX7_ofCode_12 rfl ?_
        exact ih v0 (v1 + 1) h kc ks hw
  show gaP p l e rm_X7_ofCode s m args below meth c G 4 (gaZ below G (gQa Q) X args s rm_X7_ofCode) 0 [some (gi a0), none, none, none] [] h 1 16
  unfold w_X7_ofCode at hw
  refine g_iconst V (Int32.ofInt 0) dX7_ofCode_0 rfl rfl ?_
  refine g_istore_n (lv2 := [some (gi a0), some (gi 0), none, none]) V dX7_ofCode_1 (by decide) rfl rfl rfl ?_
  obtain ⟨z, hw⟩ := hw
  exact h_X7_ofCode_L2 z a0 0 h 1 16 hw
def w_X7_image_L72 (Q : Nat → gaH → Prop) (K38 : Nat → Nat → Nat → Int → Nat → Int → Int → gaH → Nat → Nat → Prop) : Nat → (Nat → Nat → Nat → Int → Nat → Int → Int → Nat → Int → Int → gaH → Nat → Nat → Prop)
  | 0 => fun _ _ _ _ _ _ _ _ _ _ _ _ _ => False
  | n + 1 => fun v1 v2 v4 v5 v6 v7 v8 v10 v11 v12 h kc ks => gR v12 ∧ gR v11 ∧ (if v11 ≤ v12 then K38 v1 v2 v4 v5 v6 v7 (v8 + 1) h kc ks else gLI h v10 102 v12 (fun r1 => gSI h v4 102 v5 (gi r1) (fun hp2 => w_X7_image_L72 Q K38 n v1 v2 v4 (v5 + 1) v6 v7 v8 v10 v11 (v12 + 1) hp2 kc ks)))
def w_X7_image_J62 (Q : Nat → gaH → Prop) (K38 : Nat → Nat → Nat → Int → Nat → Int → Int → gaH → Nat → Nat → Prop) (v1 : Nat) (v2 : Nat) (v4 : Nat) (v5 : Int) (v6 : Nat) (v7 : Int) (v8 : Int) (t0 : Nat) (h : gaH) (kc ks : Nat) : Prop := gAL h t0 102 (fun r1 => ∃ z, w_X7_image_L72 Q K38 z v1 v2 v4 v5 v6 v7 v8 t0 r1 0 h kc ks)
def w_X7_image_L38 (Q : Nat → gaH → Prop) : Nat → (Nat → Nat → Nat → Int → Nat → Int → Int → gaH → Nat → Nat → Prop)
  | 0 => fun _ _ _ _ _ _ _ _ _ _ => False
  | n + 1 => fun v1 v2 v4 v5 v6 v7 v8 h kc ks => gR v8 ∧ gR v7 ∧ (if v7 ≤ v8 then Q v4 h else gLI h v6 102 v8 (fun r1 => gR r1 ∧ (if r1 = 0 then w_X7_image_J62 Q (w_X7_image_L38 Q n) v1 v2 v4 v5 v6 v7 v8 v1 h kc ks else w_X7_image_J62 Q (w_X7_image_L38 Q n) v1 v2 v4 v5 v6 v7 v8 v2 h kc ks)))
def w_X7_image (a0 : Nat) (a1 : Nat) (a2 : Nat) (h : gaH) (Q : Nat → gaH → Prop) : Prop := gAL h a0 102 (fun r1 => w_X7_bs a0 h (fun r3 hp2 => gAL hp2 a1 102 (fun r4 => w_X7_bs a0 hp2 (fun r6 hp5 => gAL hp5 a2 102 (fun r7 => gNA hp5 102 (gi 0) (((r1 - r3) * r4) + (r6 * r7)) 1 256 (fun o8 hp9 c10 s11 => gAL hp9 a0 102 (fun r12 => ∃ z, w_X7_image_L38 Q z a1 a2 o8 0 a0 r12 0 hp9 c10 s11)))))))
abbrev rm_X7_image : Room := { frames := 1, cells := 1, slots := 256, locals := 25 }
theorem hd_X7_image : (yX7_image.cls ≠ "java/lang/invoke/MethodHandle" ∧ yX7_image.cls ≠ "java/lang/invoke/VarHandle" ∧ (parseMethodDescriptor yX7_image.desc).map (fun d => d.parameters.length) = some 3) := by decide +kernel
theorem k_X7_image {l : Launch} (hst : l.stackTraces = false) {G : gaG} {X : String → gaH → Prop} {a0 : Nat} {a1 : Nat} {a2 : Nat} {h : gaH} {Q : Nat → gaH → Prop} (hw : w_X7_image a0 a1 a2 h Q) : gaC l G yX7_image (gaM yX7_image cX7_image 14 ((some (.array .int)))) rm_X7_image [.ref a0, .ref a1, .ref a2] h (gQa Q) X := by
  refine g_start (lv := [some (.ref a0), some (.ref a1), some (.ref a2), none, none, none, none, none, none, none, none, none, none, none]) hpl_RX7 hst (Nat.le_of_ble_eq_true rfl) (gaArgs_pad (z := 11) rfl) ww_6_80 ?_
  intro p e s m args below meth c V hT
  have h_X7_image_L72 : ∀ (K38 : Nat → Nat → Nat → Int → Nat → Int → Int → gaH → Nat → Nat → Prop), ∀ (hK38 : ∀ (v1 : Nat) (v2 : Nat) (v4 : Nat) (v5 : Int) (v6 : Nat) (v7 : Int) (v8 : Int) (h : gaH) (kc ks : Nat), K38 v1 v2 v4 v5 v6 v7 v8 h kc ks → gaP p l e rm_X7_image s m args below meth c G 14 (gaZ below G (gQa Q) X args s rm_X7_image) 38 [none, some (.ref v1), some (.ref v2), none, some (.ref v4), some (gi v5), some (.ref v6), some (gi v7), some (gi v8), none, none, none, none, none] [] h kc ks), ∀ (n : Nat), ∀ (v1 : Nat) (v2 : Nat) (v4 : Nat) (v5 : Int) (v6 : Nat) (v7 : Int) (v8 : Int) (v10 : Nat) (v11 : Int) (v12 : Int) (h : gaH) (kc ks : Nat), w_X7_image_L72 Q K38 n v1 v2 v4 v5 v6 v7 v8 v10 v11 v12 h kc ks → gaP p l e rm_X7_image s m args below meth c G 14 (gaZ below G (gQa Q) X args s rm_X7_image) 72 [none, some (.ref v1), some (.ref v2), none, some (.ref v4), some (gi v5), some (.ref v6), some (gi v7), some (gi v8), none, some (.ref v10), some (gi v11), some (gi v12), none] [] h kc ks := by
    intro K38 hK38
    intro n
    induction n with
    | zero =>
      intro v1 v2 v4 v5 v6 v7 v8 v10 v11 v12 h kc ks hw
      exact hw.elim
    | succ n ih =>
      intro v1 v2 v4 v5 v6 v7 v8 v10 v11 v12 h kc ks hw
      unfold w_X7_image_L72 at hw
      refine g_iload V dX7_image_72 rfl rfl ?_
      refine g_iload V dX7_image_74 rfl rfl ?_
      obtain ⟨hx0, hx1, hw⟩ := hw
      refine gi_icmp_ge V dX7_image_76 rfl rfl hx0 hx1 (fun q => ?_) (fun q => ?_)
      · have hw := ga_t q hw
        refine gi_iinc (lv2 := [none, some (.ref v1), some (.ref v2), none, some (.ref v4), some (gi v5), some (.ref v6), some (gi v7), some (gi (v8 + 1)), none, some (.ref v10), some (gi v11), some (gi v12), none]) V dX7_image_102 (by decide) rfl rfl rfl rfl ?_
        refine g_goto V dX7_image_105 rfl ?_
        refine g_less (bs := [true, true, true, true, true, true, true, true, true, true, false, false, false, true]) (lv2 := [none, some (.ref v1), some (.ref v2), none, some (.ref v4), some (gi v5), some (.ref v6), some (gi v7), some (gi (v8 + 1)), none, none, none, none, none]) rfl ?_
        exact hK38 v1 v2 v4 v5 v6 v7 (v8 + 1) h kc ks hw
      · have hw := ga_f q hw
        refine g_aload V dX7_image_79 rfl rfl ?_
        refine g_iload V dX7_image_81 rfl rfl ?_
        obtain ⟨t9, vs, r1, ha, ht, h0, h9, hv, hw⟩ := hw
        refine gi_iaload V ha ht h0 h9 hv dX7_image_83 rfl ?_
        refine g_istore (lv2 := [none, some (.ref v1), some (.ref v2), none, some (.ref v4), some (gi v5), some (.ref v6), some (gi v7), some (gi v8), none, some (.ref v10), some (gi v11), some (gi v12), some (gi r1)]) V dX7_image_84 (by decide) rfl rfl rfl ?_
        refine g_aload V dX7_image_86 rfl rfl ?_
        refine g_iload V dX7_image_88 rfl rfl ?_
        refine gi_iinc (lv2 := [none, some (.ref v1), some (.ref v2), none, some (.ref v4), some (gi (v5 + 1)), some (.ref v6), some (gi v7), some (gi v8), none, some (.ref v10), some (gi v11), some (gi v12), some (gi r1)]) V dX7_image_90 (by decide) rfl rfl rfl rfl ?_
        refine g_iload V dX7_image_93 rfl rfl ?_
        obtain ⟨vs, ha, h0, h9, hi, hw⟩ := hw
        refine gi_iastore V ha h0 h9 hi dX7_image_95 rfl ?_
        generalize gaUp h v4 _ = hp2 at hw ⊢
        refine gi_iinc (lv2 := [none, some (.ref v1), some (.ref v2), none, some (.ref v4), some (gi (v5 + 1)), some (.ref v6), some (gi v7), some (gi v8), none, some (.ref v10), some (gi v11), some (gi (v12 + 1)), some (gi r1)]) V dX7_image_96 (by decide) rfl rfl rfl rfl ?_
        refine g_goto V dX7_image_99 rfl ?_
        refine g_less (bs := [true, true, true, true, true, true, true, true, true, true, true, true, true, false]) (lv2 := [none, some (.ref v1), some (.ref v2), none, some (.ref v4), some (gi (v5 + 1)), some (.ref v6), some (gi v7), some (gi v8), none, some (.ref v10), some (gi v11), some (gi (v12 + 1)), none]) rfl ?_
        exact ih v1 v2 v4 (v5 + 1) v6 v7 v8 v10 v11 (v12 + 1) hp2 kc ks hw
  have h_X7_image_J62 : ∀ (K38 : Nat → Nat → Nat → Int → Nat → Int → Int → gaH → Nat → Nat → Prop), ∀ (hK38 : ∀ (v1 : Nat) (v2 : Nat) (v4 : Nat) (v5 : Int) (v6 : Nat) (v7 : Int) (v8 : Int) (h : gaH) (kc ks : Nat), K38 v1 v2 v4 v5 v6 v7 v8 h kc ks → gaP p l e rm_X7_image s m args below meth c G 14 (gaZ below G (gQa Q) X args s rm_X7_image) 38 [none, some (.ref v1), some (.ref v2), none, some (.ref v4), some (gi v5), some (.ref v6), some (gi v7), some (gi v8), none, none, none, none, none] [] h kc ks), ∀ (v1 : Nat) (v2 : Nat) (v4 : Nat) (v5 : Int) (v6 : Nat) (v7 : Int) (v8 : Int) (t0 : Nat) (h : gaH) (kc ks : Nat), w_X7_image_J62 Q K38 v1 v2 v4 v5 v6 v7 v8 t0 h kc ks → gaP p l e rm_X7_image s m args below meth c G 14 (gaZ below G (gQa Q) X args s rm_X7_image) 62 [none, some (.ref v1), some (.ref v2), none, some (.ref v4), some (gi v5), some (.ref v6), some (gi v7), some (gi v8), none, none, none, none, none] [.ref t0] h kc ks := by
    intro K38 hK38
    intro v1 v2 v4 v5 v6 v7 v8 t0 h kc ks hw
    unfold w_X7_image_J62 at hw
    refine g_astore (lv2 := [none, some (.ref v1), some (.ref v2), none, some (.ref v4), some (gi v5), some (.ref v6), some (gi v7), some (gi v8), none, some (.ref t0), none, none, none]) V dX7_image_62 (by decide) rfl rfl rfl ?_
    refine g_aload V dX7_image_64 rfl rfl ?_
    obtain ⟨t9, vs, ha, ht, hw⟩ := hw
    refine gi_arraylength (t0 := 102) V (by simp [gaT]) ha ht dX7_image_66 rfl ?_
    generalize (vs.length : Int) = r1 at hw ⊢
    refine g_istore (lv2 := [none, some (.ref v1), some (.ref v2), none, some (.ref v4), some (gi v5), some (.ref v6), some (gi v7), some (gi v8), none, some (.ref t0), some (gi r1), none, none]) V dX7_image_67 (by decide) rfl rfl rfl ?_
    refine g_iconst V (Int32.ofInt 0) dX7_image_69 rfl rfl ?_
    refine g_istore (lv2 := [none, some (.ref v1), some (.ref v2), none, some (.ref v4), some (gi v5), some (.ref v6), some (gi v7), some (gi v8), none, some (.ref t0), some (gi r1), some (gi 0), none]) V dX7_image_70 (by decide) rfl rfl rfl ?_
    obtain ⟨z, hw⟩ := hw
    exact h_X7_image_L72 K38 hK38 z v1 v2 v4 v5 v6 v7 v8 t0 r1 0 h kc ks hw
  have h_X7_image_L38 : ∀ (n : Nat), ∀ (v1 : Nat) (v2 : Nat) (v4 : Nat) (v5 : Int) (v6 : Nat) (v7 : Int) (v8 : Int) (h : gaH) (kc ks : Nat), w_X7_image_L38 Q n v1 v2 v4 v5 v6 v7 v8 h kc ks → gaP p l e rm_X7_image s m args below meth c G 14 (gaZ below G (gQa Q) X args s rm_X7_image) 38 [none, some (.ref v1), some (.ref v2), none, some (.ref v4), some (gi v5), some (.ref v6), some (gi v7), some (gi v8), none, none, none, none, none] [] h kc ks := by
    intro n
    induction n with
    | zero =>
      intro v1 v2 v4 v5 v6 v7 v8 h kc ks hw
      exact hw.elim
    | succ n ih =>
      intro v1 v2 v4 v5 v6 v7 v8 h kc ks hw
      unfold w_X7_image_L38 at hw
      refine g_iload V dX7_image_38 rfl rfl ?_
      refine g_iload V dX7_image_40 rfl rfl ?_
      obtain ⟨hx0, hx1, hw⟩ := hw
      refine gi_icmp_ge V dX7_image_42 rfl rfl hx0 hx1 (fun q => ?_) (fun q => ?_)
      · have hw := ga_t q hw
        refine g_aload V dX7_image_108 rfl rfl ?_
        exact g_aret V rfl (by first | exact Or.inl ⟨_, rfl⟩ | exact Or.inr ⟨_, rfl⟩) dX7_image_110 ⟨_, rfl, hw⟩
      · have hw := ga_f q hw
        refine g_aload V dX7_image_45 rfl rfl ?_
        refine g_iload V dX7_image_47 rfl rfl ?_
        obtain ⟨t9, vs, r1, ha, ht, h0, h9, hv, hw⟩ := hw
        refine gi_iaload V ha ht h0 h9 hv dX7_image_49 rfl ?_
        refine g_istore (lv2 := [none, some (.ref v1), some (.ref v2), none, some (.ref v4), some (gi v5), some (.ref v6), some (gi v7), some (gi v8), some (gi r1), none, none, none, none]) V dX7_image_50 (by decide) rfl rfl rfl ?_
        refine g_iload V dX7_image_52 rfl rfl ?_
        obtain ⟨hx0, hw⟩ := hw
        refine gi_if_ne V dX7_image_54 rfl rfl hx0 (fun q => ?_) (fun q => ?_)
        · have hw := ga_f q hw
          refine g_aload_n V dX7_image_61 rfl rfl ?_
          refine g_less (bs := [true, true, true, true, true, true, true, true, true, false, true, true, true, true]) (lv2 := [none, some (.ref v1), some (.ref v2), none, some (.ref v4), some (gi v5), some (.ref v6), some (gi v7), some (gi v8), none, none, none, none, none]) rfl ?_
          exact h_X7_image_J62 (w_X7_image_L38 Q n) ih v1 v2 v4 v5 v6 v7 v8 v2 h kc ks hw
        · have hw := ga_t q hw
          refine g_aload_n V dX7_image_57 rfl rfl ?_
          refine g_goto V dX7_image_58 rfl ?_
          refine g_less (bs := [true, true, true, true, true, true, true, true, true, false, true, true, true, true]) (lv2 := [none, some (.ref v1), some (.ref v2), none, some (.ref v4), some (gi v5), some (.ref v6), some (gi v7), some (gi v8), none, none, none, none, none]) rfl ?_
          exact h_X7_image_J62 (w_X7_image_L38 Q n) ih v1 v2 v4 v5 v6 v7 v8 v1 h kc ks hw
  show gaP p l e rm_X7_image s m args below meth c G 14 (gaZ below G (gQa Q) X args s rm_X7_image) 0 [some (.ref a0), some (.ref a1), some (.ref a2), none, none, none, none, none, none, none, none, none, none, none] [] h 1 256
  unfold w_X7_image at hw
  refine g_aload_n V dX7_image_0 rfl rfl ?_
  obtain ⟨t9, vs, ha, ht, hw⟩ := hw
  refine gi_arraylength (t0 := 102) V (by simp [gaT]) ha ht dX7_image_1 rfl ?_
  generalize (vs.length : Int) = r1 at hw ⊢
  refine g_aload_n V dX7_image_2 rfl rfl ?_
  refine g_callS (st := [gi r1]) V (k_X7_bs hst hw) ww_6_46 ww_6_47 ww_1_5 ww_6_48 hd_X7_bs ⟨by decide, by decide⟩ rfl rfl (ga_cat rfl) dX7_image_3 (Nat.zero_le _) (Nat.zero_le _) rfl (gaX_all hT V) (ga_ki (fun r3 hp2 hw => ?_))
  refine gi_isub V dX7_image_6 rfl ?_
  refine g_aload_n V dX7_image_7 rfl rfl ?_
  obtain ⟨t9, vs, ha, ht, hw⟩ := hw
  refine gi_arraylength (t0 := 102) V (by simp [gaT]) ha ht dX7_image_8 rfl ?_
  generalize (vs.length : Int) = r4 at hw ⊢
  refine gi_imul V dX7_image_9 rfl ?_
  refine g_aload_n V dX7_image_10 rfl rfl ?_
  refine g_callS (st := [gi ((r1 - r3) * r4)]) V (k_X7_bs hst hw) ww_6_46 ww_6_47 ww_1_5 ww_6_48 hd_X7_bs ⟨by decide, by decide⟩ rfl rfl (ga_cat rfl) dX7_image_11 (Nat.zero_le _) (Nat.zero_le _) rfl (gaX_all hT V) (ga_ki (fun r6 hp5 hw => ?_))
  refine g_aload_n V dX7_image_14 rfl rfl ?_
  obtain ⟨t9, vs, ha, ht, hw⟩ := hw
  refine gi_arraylength (t0 := 102) V (by simp [gaT]) ha ht dX7_image_15 rfl ?_
  generalize (vs.length : Int) = r7 at hw ⊢
  refine gi_imul V dX7_image_16 rfl ?_
  refine gi_iadd V dX7_image_17 rfl ?_
  refine g_istore_n (lv2 := [some (.ref a0), some (.ref a1), some (.ref a2), some (gi (((r1 - r3) * r4) + (r6 * r7))), none, none, none, none, none, none, none, none, none, none]) V dX7_image_18 (by decide) rfl rfl rfl ?_
  refine g_iload_n V dX7_image_19 rfl rfl ?_
  obtain ⟨h0, h9, hk, hj, hw⟩ := hw
  refine gi_newarray (atype := .int) (t := 102) V (by decide) rfl ww_1_109 h0 h9 dX7_image_20 rfl hk hj (fun o8 hf => ?_)
  obtain ⟨c10, s11, ec, es, hw⟩ := hw o8 hf
  refine ga_re ec es ?_
  generalize gaUp hp5 o8 _ = hp9 at hw ⊢
  refine g_astore (lv2 := [some (.ref a0), some (.ref a1), some (.ref a2), some (gi (((r1 - r3) * r4) + (r6 * r7))), some (.ref o8), none, none, none, none, none, none, none, none, none]) V dX7_image_22 (by decide) rfl rfl rfl ?_
  refine g_iconst V (Int32.ofInt 0) dX7_image_24 rfl rfl ?_
  refine g_istore (lv2 := [some (.ref a0), some (.ref a1), some (.ref a2), some (gi (((r1 - r3) * r4) + (r6 * r7))), some (.ref o8), some (gi 0), none, none, none, none, none, none, none, none]) V dX7_image_25 (by decide) rfl rfl rfl ?_
  refine g_aload_n V dX7_image_27 rfl rfl ?_
  refine g_astore (lv2 := [some (.ref a0), some (.ref a1), some (.ref a2), some (gi (((r1 - r3) * r4) + (r6 * r7))), some (.ref o8), some (gi 0), some (.ref a0), none, none, none, none, none, none, none]) V dX7_image_28 (by decide) rfl rfl rfl ?_
  refine g_aload V dX7_image_30 rfl rfl ?_
  obtain ⟨t9, vs, ha, ht, hw⟩ := hw
  refine gi_arraylength (t0 := 102) V (by simp [gaT]) ha ht dX7_image_32 rfl ?_
  generalize (vs.length : Int) = r12 at hw ⊢
  refine g_istore (lv2 := [some (.ref a0), some (.ref a1), some (.ref a2), some (gi (((r1 - r3) * r4) + (r6 * r7))), some (.ref o8), some (gi 0), some (.ref a0), some (gi r12), none, none, none, none, none, none]) V dX7_image_33 (by decide) rfl rfl rfl ?_
  refine g_iconst V (Int32.ofInt 0) dX7_image_35 rfl rfl ?_
  refine g_istore (lv2 := [some (.ref a0), some (.ref a1), some (.ref a2), some (gi (((r1 - r3) * r4) + (r6 * r7))), some (.ref o8), some (gi 0), some (.ref a0), some (gi r12), some (gi 0), none, none, none, none, none]) V dX7_image_36 (by decide) rfl rfl rfl ?_
  refine g_less (bs := [false, true, true, false, true, true, true, true, true, true, true, true, true, true]) (lv2 := [none, some (.ref a1), some (.ref a2), none, some (.ref o8), some (gi 0), some (.ref a0), some (gi r12), some (gi 0), none, none, none, none, none]) rfl ?_
  obtain ⟨z, hw⟩ := hw
  exact h_X7_image_L38 z a1 a2 o8 0 a0 r12 0 hp9 c10 s11 hw
def w_X7_apply (a0 : Nat) (a1 : Int) (a2 : Int) (a3 : Int) (h : gaH) (Q : Int → gaH → Prop) : Prop := w_X7_isNoSheet a1 h (fun r2 hp1 => gHas hp1 a0 7 ∧ w_X7_start a0 r2 1 hp1 (fun r4 hp3 => gR r4 ∧ (if r4 = 0 then w_X7_isNoRule a2 a3 hp3 (fun r6 hp5 => gHas hp5 a0 7 ∧ w_X7_refuse a0 r6 2 hp5 (fun r8 hp7 => gR r8 ∧ (if r8 = 0 then gA hp7 a0 7 0 (fun r9 => gLA hp7 r9 112 a1 (fun r10 => gCall 1 16 3 288 (fun c13 s14 => w_X7_ofCode a2 hp7 (fun r12 hp11 => gCall 1 16 c13 s14 (fun c17 s18 => w_X7_ofCode a3 hp11 (fun r16 hp15 => gCall 1 256 c17 s18 (fun c21 s22 => w_X7_image r10 r12 r16 hp15 (fun r20 hp19 => gAL hp19 r20 102 (fun r23 => gR r23 ∧ (if r23 ≤ 64 then gHas hp19 a0 7 ∧ w_X7_comes a0 a1 r20 hp19 (fun r25 hp24 => Q r25 hp24) else gHas hp19 a0 7 ∧ w_X7_cannot a0 hp19 (fun r27 hp26 => Q r27 hp26))))))))))) else Q 0 hp7))) else Q 0 hp3)))
abbrev rm_X7_apply : Room := { frames := 2, cells := 3, slots := 288, locals := 58 }
theorem hd_X7_apply : yX7_apply.cls = RX7 ∧ (yX7_apply.cls ≠ "java/lang/invoke/MethodHandle" ∧ yX7_apply.cls ≠ "java/lang/invoke/VarHandle" ∧ (parseMethodDescriptor yX7_apply.desc).map (fun d => d.parameters.length) = some 3) := by decide +kernel
theorem k_X7_apply {l : Launch} (hst : l.stackTraces = false) {G : gaG} {X : String → gaH → Prop} {a0 : Nat} {a1 : Int} {a2 : Int} {a3 : Int} {h : gaH} {Q : Int → gaH → Prop} (hw : w_X7_apply a0 a1 a2 a3 h Q) : gaC l G yX7_apply (gaM yX7_apply cX7_apply 5 ((some .int))) rm_X7_apply [.ref a0, gi a1, gi a2, gi a3] h (gQi Q) X := by
  refine g_start (lv := [some (.ref a0), some (gi a1), some (gi a2), some (gi a3), none]) hpl_RX7 hst (Nat.le_of_ble_eq_true rfl) (gaArgs_pad (z := 1) rfl) ww_6_92 ?_
  intro p e s m args below meth c V hT
  show gaP p l e rm_X7_apply s m args below meth c G 5 (gaZ below G (gQi Q) X args s rm_X7_apply) 0 [some (.ref a0), some (gi a1), some (gi a2), some (gi a3), none] [] h 3 288
  unfold w_X7_apply at hw
  refine g_aload_n V dX7_apply_0 rfl rfl ?_
  refine g_iload_n V dX7_apply_1 rfl rfl ?_
  refine g_callS (st := [.ref a0]) V (k_X7_isNoSheet hst hw) ww_5_214 ww_5_215 ww_1_5 ww_5_216 hd_X7_isNoSheet ⟨by decide, by decide⟩ rfl rfl (ga_cat rfl) dX7_apply_2 (Nat.zero_le _) (Nat.zero_le _) rfl (gaX_all hT V) (ga_ki (fun r2 hp1 hw => ?_))
  refine g_iconst V (Int32.ofInt 1) dX7_apply_5 rfl rfl ?_
  obtain ⟨hb, hw⟩ := hw
  obtain ⟨fb, hb⟩ := hb
  refine g_callV (C := RX7) (T := TX7) (N := 8) (st := []) V (k_X7_start hst hw) ww_5_220 ww_5_222 wp_2_2 ww_1_5 ww_5_223 hd_X7_start ⟨by decide, by decide⟩ rfl (by decide) hb rfl rfl (ga_cat rfl) dX7_apply_6 (Nat.zero_le _) (Nat.zero_le _) rfl (gaX_all hT V) (ga_ki (fun r4 hp3 hw => ?_))
  obtain ⟨hx0, hw⟩ := hw
  refine gi_if_ne V dX7_apply_9 rfl rfl hx0 (fun q => ?_) (fun q => ?_)
  · have hw := ga_f q hw
    refine g_iconst V (Int32.ofInt 0) dX7_apply_25 rfl rfl ?_
    exact g_iret V rfl rfl dX7_apply_26 ⟨_, rfl, hw⟩
  · have hw := ga_t q hw
    refine g_aload_n V dX7_apply_12 rfl rfl ?_
    refine g_iload_n V dX7_apply_13 rfl rfl ?_
    refine g_iload_n V dX7_apply_14 rfl rfl ?_
    refine g_callS (st := [.ref a0]) V (k_X7_isNoRule hst hw) ww_6_93 ww_6_94 ww_1_5 ww_6_95 hd_X7_isNoRule ⟨by decide, by decide⟩ rfl rfl (ga_cat rfl) dX7_apply_15 (Nat.zero_le _) (Nat.zero_le _) rfl (gaX_all hT V) (ga_ki (fun r6 hp5 hw => ?_))
    refine g_iconst V (Int32.ofInt 2) dX7_apply_18 rfl rfl ?_
    obtain ⟨hb, hw⟩ := hw
    obtain ⟨fb, hb⟩ := hb
    refine g_callV (C := RX7) (T := TX7) (N := 8) (st := []) V (k_X7_refuse hst hw) ww_5_224 ww_5_226 wp_2_3 ww_1_5 ww_5_227 hd_X7_refuse ⟨by decide, by decide⟩ rfl (by decide) hb rfl rfl (ga_cat rfl) dX7_apply_19 (Nat.zero_le _) (Nat.zero_le _) rfl (gaX_all hT V) (ga_ki (fun r8 hp7 hw => ?_))
    obtain ⟨hx0, hw⟩ := hw
    refine gi_if_eq V dX7_apply_22 rfl rfl hx0 (fun q => ?_) (fun q => ?_)
    · have hw := ga_t q hw
      refine g_aload_n V dX7_apply_27 rfl rfl ?_
      obtain ⟨fs, r9, ha, hv, hw⟩ := hw
      refine g_get (C := RX7) (T := TX7) (N := 8) V 0 rfl hin_RX7 (by decide) (by decide) ww_5_181 rfl ha hv dX7_apply_28 rfl ?_
      refine g_iload_n V dX7_apply_31 rfl rfl ?_
      obtain ⟨vs, r10, ha, h0, h9, hv, hw⟩ := hw
      refine gi_aaload V ha (by decide) h0 h9 hv dX7_apply_32 rfl ?_
      refine g_iload_n V dX7_apply_33 rfl rfl ?_
      obtain ⟨hk, hj, c13, s14, ec, es, hw⟩ := hw
      refine g_callS (st := [.ref r10]) V (k_X7_ofCode hst hw) ww_5_229 ww_5_230 ww_1_5 ww_5_231 hd_X7_ofCode ⟨by decide, by decide⟩ rfl rfl (ga_cat rfl) dX7_apply_34 hk hj rfl (gaX_all hT V) (ga_ka (fun r12 hp11 hw => ?_))
      refine ga_re ec es ?_
      refine g_iload_n V dX7_apply_37 rfl rfl ?_
      obtain ⟨hk, hj, c17, s18, ec, es, hw⟩ := hw
      refine g_callS (st := [.ref r12, .ref r10]) V (k_X7_ofCode hst hw) ww_5_229 ww_5_230 ww_1_5 ww_5_231 hd_X7_ofCode ⟨by decide, by decide⟩ rfl rfl (ga_cat rfl) dX7_apply_38 hk hj rfl (gaX_all hT V) (ga_ka (fun r16 hp15 hw => ?_))
      refine ga_re ec es ?_
      obtain ⟨hk, hj, c21, s22, ec, es, hw⟩ := hw
      refine g_callS (st := []) V (k_X7_image hst hw) ww_6_78 ww_6_79 ww_1_5 ww_6_80 hd_X7_image ⟨by decide, by decide⟩ rfl rfl (ga_cat rfl) dX7_apply_41 hk hj rfl (gaX_all hT V) (ga_ka (fun r20 hp19 hw => ?_))
      refine ga_re ec es ?_
      refine g_astore (lv2 := [some (.ref a0), some (gi a1), some (gi a2), some (gi a3), some (.ref r20)]) V dX7_apply_44 (by decide) rfl rfl rfl ?_
      refine g_aload V dX7_apply_46 rfl rfl ?_
      obtain ⟨t9, vs, ha, ht, hw⟩ := hw
      refine gi_arraylength (t0 := 102) V (by simp [gaT]) ha ht dX7_apply_48 rfl ?_
      generalize (vs.length : Int) = r23 at hw ⊢
      refine g_bipush V (Int32.ofInt 64) dX7_apply_49 rfl rfl ?_
      obtain ⟨hx0, hw⟩ := hw
      refine gi_icmp_le V dX7_apply_51 rfl rfl hx0 (by decide) (fun q => ?_) (fun q => ?_)
      · have hw := ga_t q hw
        refine g_aload_n V dX7_apply_61 rfl rfl ?_
        refine g_iload_n V dX7_apply_62 rfl rfl ?_
        refine g_aload V dX7_apply_63 rfl rfl ?_
        obtain ⟨hb, hw⟩ := hw
        obtain ⟨fb, hb⟩ := hb
        refine g_callV (C := RX7) (T := TX7) (N := 8) (st := []) V (k_X7_comes hst hw) ww_5_232 ww_5_234 wp_2_4 ww_1_5 ww_5_235 hd_X7_comes ⟨by decide, by decide⟩ rfl (by decide) hb rfl rfl (ga_cat rfl) dX7_apply_65 (Nat.zero_le _) (Nat.zero_le _) rfl (gaX_all hT V) (ga_ki (fun r25 hp24 hw => ?_))
        exact g_iret V rfl rfl dX7_apply_68 ⟨_, rfl, hw⟩
      · have hw := ga_f q hw
        refine g_aload_n V dX7_apply_54 rfl rfl ?_
        obtain ⟨hb, hw⟩ := hw
        obtain ⟨fb, hb⟩ := hb
        refine g_callV (C := RX7) (T := TX7) (N := 8) (st := []) V (k_X7_cannot hst hw) ww_6_4 ww_6_6 wp_2_6 ww_1_5 ww_6_7 hd_X7_cannot ⟨by decide, by decide⟩ rfl (by decide) hb rfl rfl (ga_cat rfl) dX7_apply_55 (Nat.zero_le _) (Nat.zero_le _) rfl (gaX_all hT V) (ga_ki (fun r27 hp26 hw => ?_))
        refine g_goto V dX7_apply_58 rfl ?_
        exact g_iret V rfl rfl dX7_apply_68 ⟨_, rfl, hw⟩
    · have hw := ga_f q hw
      refine g_iconst V (Int32.ofInt 0) dX7_apply_25 rfl rfl ?_
      exact g_iret V rfl rfl dX7_apply_26 ⟨_, rfl, hw⟩
def w_X7_areLike_L3 (Q : Int → gaH → Prop) : Nat → (Nat → Int → Int → Int → Int → gaH → Prop)
  | 0 => fun _ _ _ _ _ _ => False
  | n + 1 => fun v0 v1 v2 v3 v4 h => gR v4 ∧ gR v3 ∧ (if v3 ≤ v4 then Q 1 h else gAL h v0 102 (fun r1 => gR r1 ∧ ¬ r1 = 0 ∧ (gLI h v0 102 (gRem (v1 + v4) r1) (fun r2 => gAL h v0 102 (fun r3 => gR r3 ∧ ¬ r3 = 0 ∧ (gLI h v0 102 (gRem (v2 + v4) r3) (fun r4 => gR r2 ∧ gR r4 ∧ (if r2 = r4 then w_X7_areLike_L3 Q n v0 v1 v2 v3 (v4 + 1) h else Q 0 h))))))))
def w_X7_areLike (a0 : Nat) (a1 : Int) (a2 : Int) (a3 : Int) (h : gaH) (Q : Int → gaH → Prop) : Prop := ∃ z, w_X7_areLike_L3 Q z a0 a1 a2 a3 0 h
abbrev rm_X7_areLike : Room := { frames := 0, cells := 0, slots := 0, locals := 0 }
theorem hd_X7_areLike : (yX7_areLike.cls ≠ "java/lang/invoke/MethodHandle" ∧ yX7_areLike.cls ≠ "java/lang/invoke/VarHandle" ∧ (parseMethodDescriptor yX7_areLike.desc).map (fun d => d.parameters.length) = some 4) := by decide +kernel
theorem k_X7_areLike {l : Launch} (hst : l.stackTraces = false) {G : gaG} {X : String → gaH → Prop} {a0 : Nat} {a1 : Int} {a2 : Int} {a3 : Int} {h : gaH} {Q : Int → gaH → Prop} (hw : w_X7_areLike a0 a1 a2 a3 h Q) : gaC l G yX7_areLike (gaM yX7_areLike cX7_areLike 5 ((some .boolean))) rm_X7_areLike [.ref a0, gi a1, gi a2, gi a3] h (gQi Q) X := by
  refine g_start (lv := [some (.ref a0), some (gi a1), some (gi a2), some (gi a3), none]) hpl_RX7 hst (Nat.le_of_ble_eq_true rfl) (gaArgs_pad (z := 1) rfl) ww_6_213 ?_
  intro p e s m args below meth c V hT
  have h_X7_areLike_L3 : ∀ (n : Nat), ∀ (v0 : Nat) (v1 : Int) (v2 : Int) (v3 : Int) (v4 : Int) (h : gaH), w_X7_areLike_L3 Q n v0 v1 v2 v3 v4 h → gaP p l e rm_X7_areLike s m args below meth c G 5 (gaZ below G (gQi Q) X args s rm_X7_areLike) 3 [some (.ref v0), some (gi v1), some (gi v2), some (gi v3), some (gi v4)] [] h 0 0 := by
    intro n
    induction n with
    | zero =>
      intro v0 v1 v2 v3 v4 h hw
      exact hw.elim
    | succ n ih =>
      intro v0 v1 v2 v3 v4 h hw
      unfold w_X7_areLike_L3 at hw
      refine g_iload V dX7_areLike_3 rfl rfl ?_
      refine g_iload_n V dX7_areLike_5 rfl rfl ?_
      obtain ⟨hx0, hx1, hw⟩ := hw
      refine gi_icmp_ge V dX7_areLike_6 rfl rfl hx0 hx1 (fun q => ?_) (fun q => ?_)
      · have hw := ga_t q hw
        refine g_iconst V (Int32.ofInt 1) dX7_areLike_38 rfl rfl ?_
        exact g_iret V rfl rfl dX7_areLike_39 ⟨_, rfl, hw⟩
      · have hw := ga_f q hw
        refine g_aload_n V dX7_areLike_9 rfl rfl ?_
        refine g_iload_n V dX7_areLike_10 rfl rfl ?_
        refine g_iload V dX7_areLike_11 rfl rfl ?_
        refine gi_iadd V dX7_areLike_13 rfl ?_
        refine g_aload_n V dX7_areLike_14 rfl rfl ?_
        obtain ⟨t9, vs, ha, ht, hw⟩ := hw
        refine gi_arraylength (t0 := 102) V (by simp [gaT]) ha ht dX7_areLike_15 rfl ?_
        generalize (vs.length : Int) = r1 at hw ⊢
        obtain ⟨hx, h0, hw⟩ := hw
        refine gi_irem V dX7_areLike_16 hx h0 rfl ?_
        obtain ⟨t9, vs, r2, ha, ht, h0, h9, hv, hw⟩ := hw
        refine gi_iaload V ha ht h0 h9 hv dX7_areLike_17 rfl ?_
        refine g_aload_n V dX7_areLike_18 rfl rfl ?_
        refine g_iload_n V dX7_areLike_19 rfl rfl ?_
        refine g_iload V dX7_areLike_20 rfl rfl ?_
        refine gi_iadd V dX7_areLike_22 rfl ?_
        refine g_aload_n V dX7_areLike_23 rfl rfl ?_
        obtain ⟨t9, vs, ha, ht, hw⟩ := hw
        refine gi_arraylength (t0 := 102) V (by simp [gaT]) ha ht dX7_areLike_24 rfl ?_
        generalize (vs.length : Int) = r3 at hw ⊢
        obtain ⟨hx, h0, hw⟩ := hw
        refine gi_irem V dX7_areLike_25 hx h0 rfl ?_
        obtain ⟨t9, vs, r4, ha, ht, h0, h9, hv, hw⟩ := hw
        refine gi_iaload V ha ht h0 h9 hv dX7_areLike_26 rfl ?_
        obtain ⟨hx0, hx1, hw⟩ := hw
        refine gi_icmp_eq V dX7_areLike_27 rfl rfl hx0 hx1 (fun q => ?_) (fun q => ?_)
        · have hw := ga_t q hw
          refine gi_iinc (lv2 := [some (.ref v0), some (gi v1), some (gi v2), some (gi v3), some (gi (v4 + 1))]) V dX7_areLike_32 (by decide) rfl rfl rfl rfl ?_
          refine g_goto V dX7_areLike_35 rfl ?_
          exact ih v0 v1 v2 v3 (v4 + 1) h hw
        · have hw := ga_f q hw
          refine g_iconst V (Int32.ofInt 0) dX7_areLike_30 rfl rfl ?_
          exact g_iret V rfl rfl dX7_areLike_31 ⟨_, rfl, hw⟩
  unfold w_X7_areLike at hw
  refine g_iconst V (Int32.ofInt 0) dX7_areLike_0 rfl rfl ?_
  refine g_istore (lv2 := [some (.ref a0), some (gi a1), some (gi a2), some (gi a3), some (gi 0)]) V dX7_areLike_1 (by decide) rfl rfl rfl ?_
  obtain ⟨z, hw⟩ := hw
  exact h_X7_areLike_L3 z a0 a1 a2 a3 0 h hw
def w_X7_standsAt_L13 (Q : Int → gaH → Prop) : Nat → (Nat → Nat → Int → Int → gaH → Prop)
  | 0 => fun _ _ _ _ _ => False
  | n + 1 => fun v0 v1 v2 v3 h => gAL h v1 102 (fun r1 => gR v3 ∧ gR r1 ∧ (if r1 ≤ v3 then Q 1 h else gLI h v0 102 (v2 + v3) (fun r2 => gLI h v1 102 v3 (fun r3 => gR r2 ∧ gR r3 ∧ (if r2 = r3 then w_X7_standsAt_L13 Q n v0 v1 v2 (v3 + 1) h else Q 0 h)))))
def w_X7_standsAt (a0 : Nat) (a1 : Nat) (a2 : Int) (h : gaH) (Q : Int → gaH → Prop) : Prop := gAL h a1 102 (fun r1 => gAL h a0 102 (fun r2 => gR (a2 + r1) ∧ gR r2 ∧ (if (a2 + r1) ≤ r2 then ∃ z, w_X7_standsAt_L13 Q z a0 a1 a2 0 h else Q 0 h)))
abbrev rm_X7_standsAt : Room := { frames := 0, cells := 0, slots := 0, locals := 0 }
theorem hd_X7_standsAt : (yX7_standsAt.cls ≠ "java/lang/invoke/MethodHandle" ∧ yX7_standsAt.cls ≠ "java/lang/invoke/VarHandle" ∧ (parseMethodDescriptor yX7_standsAt.desc).map (fun d => d.parameters.length) = some 3) := by decide +kernel
theorem k_X7_standsAt {l : Launch} (hst : l.stackTraces = false) {G : gaG} {X : String → gaH → Prop} {a0 : Nat} {a1 : Nat} {a2 : Int} {h : gaH} {Q : Int → gaH → Prop} (hw : w_X7_standsAt a0 a1 a2 h Q) : gaC l G yX7_standsAt (gaM yX7_standsAt cX7_standsAt 4 ((some .boolean))) rm_X7_standsAt [.ref a0, .ref a1, gi a2] h (gQi Q) X := by
  refine g_start (lv := [some (.ref a0), some (.ref a1), some (gi a2), none]) hpl_RX7 hst (Nat.le_of_ble_eq_true rfl) (gaArgs_pad (z := 1) rfl) ww_6_73 ?_
  intro p e s m args below meth c V hT
  have h_X7_standsAt_L13 : ∀ (n : Nat), ∀ (v0 : Nat) (v1 : Nat) (v2 : Int) (v3 : Int) (h : gaH), w_X7_standsAt_L13 Q n v0 v1 v2 v3 h → gaP p l e rm_X7_standsAt s m args below meth c G 4 (gaZ below G (gQi Q) X args s rm_X7_standsAt) 13 [some (.ref v0), some (.ref v1), some (gi v2), some (gi v3)] [] h 0 0 := by
    intro n
    induction n with
    | zero =>
      intro v0 v1 v2 v3 h hw
      exact hw.elim
    | succ n ih =>
      intro v0 v1 v2 v3 h hw
      unfold w_X7_standsAt_L13 at hw
      refine g_iload_n V dX7_standsAt_13 rfl rfl ?_
      refine g_aload_n V dX7_standsAt_14 rfl rfl ?_
      obtain ⟨t9, vs, ha, ht, hw⟩ := hw
      refine gi_arraylength (t0 := 102) V (by simp [gaT]) ha ht dX7_standsAt_15 rfl ?_
      generalize (vs.length : Int) = r1 at hw ⊢
      obtain ⟨hx0, hx1, hw⟩ := hw
      refine gi_icmp_ge V dX7_standsAt_16 rfl rfl hx0 hx1 (fun q => ?_) (fun q => ?_)
      · have hw := ga_t q hw
        refine g_iconst V (Int32.ofInt 1) dX7_standsAt_38 rfl rfl ?_
        exact g_iret V rfl rfl dX7_standsAt_39 ⟨_, rfl, hw⟩
      · have hw := ga_f q hw
        refine g_aload_n V dX7_standsAt_19 rfl rfl ?_
        refine g_iload_n V dX7_standsAt_20 rfl rfl ?_
        refine g_iload_n V dX7_standsAt_21 rfl rfl ?_
        refine gi_iadd V dX7_standsAt_22 rfl ?_
        obtain ⟨t9, vs, r2, ha, ht, h0, h9, hv, hw⟩ := hw
        refine gi_iaload V ha ht h0 h9 hv dX7_standsAt_23 rfl ?_
        refine g_aload_n V dX7_standsAt_24 rfl rfl ?_
        refine g_iload_n V dX7_standsAt_25 rfl rfl ?_
        obtain ⟨t9, vs, r3, ha, ht, h0, h9, hv, hw⟩ := hw
        refine gi_iaload V ha ht h0 h9 hv dX7_standsAt_26 rfl ?_
        obtain ⟨hx0, hx1, hw⟩ := hw
        refine gi_icmp_eq V dX7_standsAt_27 rfl rfl hx0 hx1 (fun q => ?_) (fun q => ?_)
        · have hw := ga_t q hw
          refine gi_iinc (lv2 := [some (.ref v0), some (.ref v1), some (gi v2), some (gi (v3 + 1))]) V dX7_standsAt_32 (by decide) rfl rfl rfl rfl ?_
          refine g_goto V dX7_standsAt_35 rfl ?_
          exact ih v0 v1 v2 (v3 + 1) h hw
        · have hw := ga_f q hw
          refine g_iconst V (Int32.ofInt 0) dX7_standsAt_30 rfl rfl ?_
          exact g_iret V rfl rfl dX7_standsAt_31 ⟨_, rfl, hw⟩
  unfold w_X7_standsAt at hw
  refine g_iload_n V dX7_standsAt_0 rfl rfl ?_
  refine g_aload_n V dX7_standsAt_1 rfl rfl ?_
  obtain ⟨t9, vs, ha, ht, hw⟩ := hw
  refine gi_arraylength (t0 := 102) V (by simp [gaT]) ha ht dX7_standsAt_2 rfl ?_
  generalize (vs.length : Int) = r1 at hw ⊢
  refine gi_iadd V dX7_standsAt_3 rfl ?_
  refine g_aload_n V dX7_standsAt_4 rfl rfl ?_
  obtain ⟨t9, vs, ha, ht, hw⟩ := hw
  refine gi_arraylength (t0 := 102) V (by simp [gaT]) ha ht dX7_standsAt_5 rfl ?_
  generalize (vs.length : Int) = r2 at hw ⊢
  obtain ⟨hx0, hx1, hw⟩ := hw
  refine gi_icmp_le V dX7_standsAt_6 rfl rfl hx0 hx1 (fun q => ?_) (fun q => ?_)
  · have hw := ga_t q hw
    refine g_iconst V (Int32.ofInt 0) dX7_standsAt_11 rfl rfl ?_
    refine g_istore_n (lv2 := [some (.ref a0), some (.ref a1), some (gi a2), some (gi 0)]) V dX7_standsAt_12 (by decide) rfl rfl rfl ?_
    obtain ⟨z, hw⟩ := hw
    exact h_X7_standsAt_L13 z a0 a1 a2 0 h hw
  · have hw := ga_f q hw
    refine g_iconst V (Int32.ofInt 0) dX7_standsAt_9 rfl rfl ?_
    exact g_iret V rfl rfl dX7_standsAt_10 ⟨_, rfl, hw⟩
def w_X7_areSame (a0 : Nat) (a1 : Nat) (h : gaH) (Q : Int → gaH → Prop) : Prop := gAL h a0 102 (fun r1 => gAL h a1 102 (fun r2 => gR r1 ∧ gR r2 ∧ (if r1 = r2 then w_X7_standsAt a0 a1 0 h (fun r4 hp3 => gR r4 ∧ (if r4 = 0 then Q 0 hp3 else Q 1 hp3)) else Q 0 h)))
abbrev rm_X7_areSame : Room := { frames := 1, cells := 0, slots := 0, locals := 23 }
theorem hd_X7_areSame : (yX7_areSame.cls ≠ "java/lang/invoke/MethodHandle" ∧ yX7_areSame.cls ≠ "java/lang/invoke/VarHandle" ∧ (parseMethodDescriptor yX7_areSame.desc).map (fun d => d.parameters.length) = some 2) := by decide +kernel
theorem k_X7_areSame {l : Launch} (hst : l.stackTraces = false) {G : gaG} {X : String → gaH → Prop} {a0 : Nat} {a1 : Nat} {h : gaH} {Q : Int → gaH → Prop} (hw : w_X7_areSame a0 a1 h Q) : gaC l G yX7_areSame (gaM yX7_areSame cX7_areSame 2 ((some .boolean))) rm_X7_areSame [.ref a0, .ref a1] h (gQi Q) X := by
  refine g_start (lv := [some (.ref a0), some (.ref a1)]) hpl_RX7 hst (Nat.le_of_ble_eq_true rfl) (gaArgs_pad (z := 0) rfl) ww_6_70 ?_
  intro p e s m args below meth c V hT
  unfold w_X7_areSame at hw
  refine g_aload_n V dX7_areSame_0 rfl rfl ?_
  obtain ⟨t9, vs, ha, ht, hw⟩ := hw
  refine gi_arraylength (t0 := 102) V (by simp [gaT]) ha ht dX7_areSame_1 rfl ?_
  generalize (vs.length : Int) = r1 at hw ⊢
  refine g_aload_n V dX7_areSame_2 rfl rfl ?_
  obtain ⟨t9, vs, ha, ht, hw⟩ := hw
  refine gi_arraylength (t0 := 102) V (by simp [gaT]) ha ht dX7_areSame_3 rfl ?_
  generalize (vs.length : Int) = r2 at hw ⊢
  obtain ⟨hx0, hx1, hw⟩ := hw
  refine gi_icmp_ne V dX7_areSame_4 rfl rfl hx0 hx1 (fun q => ?_) (fun q => ?_)
  · have hw := ga_f q hw
    refine g_iconst V (Int32.ofInt 0) dX7_areSame_20 rfl rfl ?_
    exact g_iret V rfl rfl dX7_areSame_21 ⟨_, rfl, hw⟩
  · have hw := ga_t q hw
    refine g_aload_n V dX7_areSame_7 rfl rfl ?_
    refine g_aload_n V dX7_areSame_8 rfl rfl ?_
    refine g_iconst V (Int32.ofInt 0) dX7_areSame_9 rfl rfl ?_
    refine g_callS (st := []) V (k_X7_standsAt hst hw) ww_6_71 ww_6_72 ww_1_5 ww_6_73 hd_X7_standsAt ⟨by decide, by decide⟩ rfl rfl (ga_cat rfl) dX7_areSame_10 (Nat.zero_le _) (Nat.zero_le _) rfl (gaX_all hT V) (ga_ki (fun r4 hp3 hw => ?_))
    obtain ⟨hx0, hw⟩ := hw
    refine gi_if_eq V dX7_areSame_13 rfl rfl hx0 (fun q => ?_) (fun q => ?_)
    · have hw := ga_t q hw
      refine g_iconst V (Int32.ofInt 0) dX7_areSame_20 rfl rfl ?_
      exact g_iret V rfl rfl dX7_areSame_21 ⟨_, rfl, hw⟩
    · have hw := ga_f q hw
      refine g_iconst V (Int32.ofInt 1) dX7_areSame_16 rfl rfl ?_
      refine g_goto V dX7_areSame_17 rfl ?_
      exact g_iret V rfl rfl dX7_areSame_21 ⟨_, rfl, hw⟩
def w_X7_one (a0 : Int) (h : gaH) (Q : Int → gaH → Prop) : Prop := gR a0 ∧ (if a0 = 0 then Q 0 h else Q 1 h)
abbrev rm_X7_one : Room := { frames := 0, cells := 0, slots := 0, locals := 0 }
theorem hd_X7_one : (yX7_one.cls ≠ "java/lang/invoke/MethodHandle" ∧ yX7_one.cls ≠ "java/lang/invoke/VarHandle" ∧ (parseMethodDescriptor yX7_one.desc).map (fun d => d.parameters.length) = some 1) := by decide +kernel
theorem k_X7_one {l : Launch} (hst : l.stackTraces = false) {G : gaG} {X : String → gaH → Prop} {a0 : Int} {h : gaH} {Q : Int → gaH → Prop} (hw : w_X7_one a0 h Q) : gaC l G yX7_one (gaM yX7_one cX7_one 1 ((some .int))) rm_X7_one [gi a0] h (gQi Q) X := by
  refine g_start (lv := [some (gi a0)]) hpl_RX7 hst (Nat.le_of_ble_eq_true rfl) (gaArgs_pad (z := 0) rfl) ww_6_21 ?_
  intro p e s m args below meth c V hT
  unfold w_X7_one at hw
  refine g_iload_n V dX7_one_0 rfl rfl ?_
  obtain ⟨hx0, hw⟩ := hw
  refine gi_if_eq V dX7_one_1 rfl rfl hx0 (fun q => ?_) (fun q => ?_)
  · have hw := ga_t q hw
    refine g_iconst V (Int32.ofInt 0) dX7_one_8 rfl rfl ?_
    exact g_iret V rfl rfl dX7_one_9 ⟨_, rfl, hw⟩
  · have hw := ga_f q hw
    refine g_iconst V (Int32.ofInt 1) dX7_one_4 rfl rfl ?_
    refine g_goto V dX7_one_5 rfl ?_
    exact g_iret V rfl rfl dX7_one_9 ⟨_, rfl, hw⟩
def w_X7_becomes_J18 (Q : Int → gaH → Prop) (v0 : Nat) (v1 : Int) (v2 : Nat) (t0 : Int) (h : gaH) : Prop := w_X7_one t0 h (fun r2 hp1 => gHas hp1 v0 7 ∧ w_X7_comes v0 v1 v2 hp1 (fun r4 hp3 => Q r2 hp3))
def w_X7_becomes (a0 : Nat) (a1 : Int) (a2 : Nat) (h : gaH) (Q : Int → gaH → Prop) : Prop := gA h a0 7 0 (fun r1 => gLA h r1 112 a1 (fun r2 => w_X7_areSame r2 a2 h (fun r4 hp3 => gR r4 ∧ (if r4 = 0 then w_X7_becomes_J18 Q a0 a1 a2 1 hp3 else w_X7_becomes_J18 Q a0 a1 a2 0 hp3))))
abbrev rm_X7_becomes : Room := { frames := 2, cells := 0, slots := 0, locals := 44 }
theorem hd_X7_becomes : yX7_becomes.cls = RX7 ∧ (yX7_becomes.cls ≠ "java/lang/invoke/MethodHandle" ∧ yX7_becomes.cls ≠ "java/lang/invoke/VarHandle" ∧ (parseMethodDescriptor yX7_becomes.desc).map (fun d => d.parameters.length) = some 2) := by decide +kernel
theorem k_X7_becomes {l : Launch} (hst : l.stackTraces = false) {G : gaG} {X : String → gaH → Prop} {a0 : Nat} {a1 : Int} {a2 : Nat} {h : gaH} {Q : Int → gaH → Prop} (hw : w_X7_becomes a0 a1 a2 h Q) : gaC l G yX7_becomes (gaM yX7_becomes cX7_becomes 4 ((some .int))) rm_X7_becomes [.ref a0, gi a1, .ref a2] h (gQi Q) X := by
  refine g_start (lv := [some (.ref a0), some (gi a1), some (.ref a2), none]) hpl_RX7 hst (Nat.le_of_ble_eq_true rfl) (gaArgs_pad (z := 1) rfl) ww_6_67 ?_
  intro p e s m args below meth c V hT
  have h_X7_becomes_J18 : ∀ (v0 : Nat) (v1 : Int) (v2 : Nat) (t0 : Int) (h : gaH), w_X7_becomes_J18 Q v0 v1 v2 t0 h → gaP p l e rm_X7_becomes s m args below meth c G 4 (gaZ below G (gQi Q) X args s rm_X7_becomes) 18 [some (.ref v0), some (gi v1), some (.ref v2), none] [gi t0] h 0 0 := by
    intro v0 v1 v2 t0 h hw
    unfold w_X7_becomes_J18 at hw
    refine g_callS (st := []) V (k_X7_one hst hw) ww_6_19 ww_6_20 ww_1_5 ww_6_21 hd_X7_one ⟨by decide, by decide⟩ rfl rfl (ga_cat rfl) dX7_becomes_18 (Nat.zero_le _) (Nat.zero_le _) rfl (gaX_all hT V) (ga_ki (fun r2 hp1 hw => ?_))
    refine g_istore_n (lv2 := [some (.ref v0), some (gi v1), some (.ref v2), some (gi r2)]) V dX7_becomes_21 (by decide) rfl rfl rfl ?_
    refine g_aload_n V dX7_becomes_22 rfl rfl ?_
    refine g_iload_n V dX7_becomes_23 rfl rfl ?_
    refine g_aload_n V dX7_becomes_24 rfl rfl ?_
    obtain ⟨hb, hw⟩ := hw
    obtain ⟨fb, hb⟩ := hb
    refine g_callV (C := RX7) (T := TX7) (N := 8) (st := []) V (k_X7_comes hst hw) ww_5_232 ww_5_234 wp_2_4 ww_1_5 ww_5_235 hd_X7_comes ⟨by decide, by decide⟩ rfl (by decide) hb rfl rfl (ga_cat rfl) dX7_becomes_25 (Nat.zero_le _) (Nat.zero_le _) rfl (gaX_all hT V) (ga_ki (fun r4 hp3 hw => ?_))
    refine g_pop V dX7_becomes_28 rfl rfl ?_
    refine g_iload_n V dX7_becomes_29 rfl rfl ?_
    exact g_iret V rfl rfl dX7_becomes_30 ⟨_, rfl, hw⟩
  unfold w_X7_becomes at hw
  refine g_aload_n V dX7_becomes_0 rfl rfl ?_
  obtain ⟨fs, r1, ha, hv, hw⟩ := hw
  refine g_get (C := RX7) (T := TX7) (N := 8) V 0 rfl hin_RX7 (by decide) (by decide) ww_5_181 rfl ha hv dX7_becomes_1 rfl ?_
  refine g_iload_n V dX7_becomes_4 rfl rfl ?_
  obtain ⟨vs, r2, ha, h0, h9, hv, hw⟩ := hw
  refine gi_aaload V ha (by decide) h0 h9 hv dX7_becomes_5 rfl ?_
  refine g_aload_n V dX7_becomes_6 rfl rfl ?_
  refine g_callS (st := []) V (k_X7_areSame hst hw) ww_6_68 ww_6_69 ww_1_5 ww_6_70 hd_X7_areSame ⟨by decide, by decide⟩ rfl rfl (ga_cat rfl) dX7_becomes_7 (Nat.zero_le _) (Nat.zero_le _) rfl (gaX_all hT V) (ga_ki (fun r4 hp3 hw => ?_))
  obtain ⟨hx0, hw⟩ := hw
  refine gi_if_ne V dX7_becomes_10 rfl rfl hx0 (fun q => ?_) (fun q => ?_)
  · have hw := ga_f q hw
    refine g_iconst V (Int32.ofInt 0) dX7_becomes_17 rfl rfl ?_
    exact h_X7_becomes_J18 a0 a1 a2 0 hp3 hw
  · have hw := ga_t q hw
    refine g_iconst V (Int32.ofInt 1) dX7_becomes_13 rfl rfl ?_
    refine g_goto V dX7_becomes_14 rfl ?_
    exact h_X7_becomes_J18 a0 a1 a2 1 hp3 hw
def w_X7_lineSign_J18 (Q : Int → gaH → Prop) (t0 : Int) (h : gaH) : Prop := w_X7_one t0 h (fun r2 hp1 => Q r2 hp1)
def w_X7_lineSign (a0 : Int) (a1 : Int) (a2 : Int) (a3 : Int) (h : gaH) (Q : Int → gaH → Prop) : Prop := gR a0 ∧ ¬ a0 = 0 ∧ (gR ((gRem ((a3 * a1) + a2) a0) + a1) ∧ gR a0 ∧ (if ((gRem ((a3 * a1) + a2) a0) + a1) < a0 then w_X7_lineSign_J18 Q 0 h else w_X7_lineSign_J18 Q 1 h))
abbrev rm_X7_lineSign : Room := { frames := 1, cells := 0, slots := 0, locals := 20 }
theorem hd_X7_lineSign : (yX7_lineSign.cls ≠ "java/lang/invoke/MethodHandle" ∧ yX7_lineSign.cls ≠ "java/lang/invoke/VarHandle" ∧ (parseMethodDescriptor yX7_lineSign.desc).map (fun d => d.parameters.length) = some 4) := by decide +kernel
theorem k_X7_lineSign {l : Launch} (hst : l.stackTraces = false) {G : gaG} {X : String → gaH → Prop} {a0 : Int} {a1 : Int} {a2 : Int} {a3 : Int} {h : gaH} {Q : Int → gaH → Prop} (hw : w_X7_lineSign a0 a1 a2 a3 h Q) : gaC l G yX7_lineSign (gaM yX7_lineSign cX7_lineSign 4 ((some .int))) rm_X7_lineSign [gi a0, gi a1, gi a2, gi a3] h (gQi Q) X := by
  refine g_start (lv := [some (gi a0), some (gi a1), some (gi a2), some (gi a3)]) hpl_RX7 hst (Nat.le_of_ble_eq_true rfl) (gaArgs_pad (z := 0) rfl) ww_6_127 ?_
  intro p e s m args below meth c V hT
  have h_X7_lineSign_J18 : ∀ (t0 : Int) (h : gaH), w_X7_lineSign_J18 Q t0 h → gaP p l e rm_X7_lineSign s m args below meth c G 4 (gaZ below G (gQi Q) X args s rm_X7_lineSign) 18 [none, none, none, none] [gi t0] h 0 0 := by
    intro t0 h hw
    unfold w_X7_lineSign_J18 at hw
    refine g_callS (st := []) V (k_X7_one hst hw) ww_6_19 ww_6_20 ww_1_5 ww_6_21 hd_X7_one ⟨by decide, by decide⟩ rfl rfl (ga_cat rfl) dX7_lineSign_18 (Nat.zero_le _) (Nat.zero_le _) rfl (gaX_all hT V) (ga_ki (fun r2 hp1 hw => ?_))
    exact g_iret V rfl rfl dX7_lineSign_21 ⟨_, rfl, hw⟩
  unfold w_X7_lineSign at hw
  refine g_iload_n V dX7_lineSign_0 rfl rfl ?_
  refine g_iload_n V dX7_lineSign_1 rfl rfl ?_
  refine gi_imul V dX7_lineSign_2 rfl ?_
  refine g_iload_n V dX7_lineSign_3 rfl rfl ?_
  refine gi_iadd V dX7_lineSign_4 rfl ?_
  refine g_iload_n V dX7_lineSign_5 rfl rfl ?_
  obtain ⟨hx, h0, hw⟩ := hw
  refine gi_irem V dX7_lineSign_6 hx h0 rfl ?_
  refine g_iload_n V dX7_lineSign_7 rfl rfl ?_
  refine gi_iadd V dX7_lineSign_8 rfl ?_
  refine g_iload_n V dX7_lineSign_9 rfl rfl ?_
  obtain ⟨hx0, hx1, hw⟩ := hw
  refine gi_icmp_lt V dX7_lineSign_10 rfl rfl hx0 hx1 (fun q => ?_) (fun q => ?_)
  · have hw := ga_t q hw
    refine g_iconst V (Int32.ofInt 0) dX7_lineSign_17 rfl rfl ?_
    refine g_less (bs := [false, false, false, false]) (lv2 := [none, none, none, none]) rfl ?_
    exact h_X7_lineSign_J18 0 h hw
  · have hw := ga_f q hw
    refine g_iconst V (Int32.ofInt 1) dX7_lineSign_13 rfl rfl ?_
    refine g_goto V dX7_lineSign_14 rfl ?_
    refine g_less (bs := [false, false, false, false]) (lv2 := [none, none, none, none]) rfl ?_
    exact h_X7_lineSign_J18 1 h hw
def w_X7_byLine_J213 (Q : Nat → gaH → Prop) (v5 : Nat) (t0 : Nat) (t1 : Int) (t2 : Int) (h : gaH) (kc ks : Nat) : Prop := w_X7_one t2 h (fun r2 hp1 => gSI hp1 t0 102 t1 (gi r2) (fun hp3 => Q v5 hp3))
def w_X7_byLine_J187 (Q : Nat → gaH → Prop) (v0 : Nat) (v1 : Int) (v4 : Int) (v5 : Nat) (t0 : Nat) (t1 : Int) (t2 : Int) (h : gaH) (kc ks : Nat) : Prop := w_X7_one t2 h (fun r2 hp1 => gSI hp1 t0 102 t1 (gi r2) (fun hp3 => gA hp3 v0 7 2 (fun r4 => gLI hp3 r4 102 v1 (fun r5 => gR (gRem r5 2) ∧ (if (gRem r5 2) = 0 then w_X7_byLine_J213 Q v5 v5 (v4 - 1) 0 hp3 kc ks else w_X7_byLine_J213 Q v5 v5 (v4 - 1) 1 hp3 kc ks)))))
def w_X7_byLine_L132 (Q : Nat → gaH → Prop) : Nat → (Nat → Int → Nat → Int → Nat → Int → gaH → Nat → Nat → Prop)
  | 0 => fun _ _ _ _ _ _ _ _ _ => False
  | n + 1 => fun v0 v1 v3 v4 v5 v6 h kc ks => gR v6 ∧ gR (v4 - 2) ∧ (if (v4 - 2) ≤ v6 then gA h v0 7 2 (fun r1 => gLI h r1 102 v1 (fun r2 => gR (gRem r2 2) ∧ (if (gRem r2 2) = 0 then w_X7_byLine_J187 Q v0 v1 v4 v5 v5 (v4 - 2) 1 h kc ks else w_X7_byLine_J187 Q v0 v1 v4 v5 v5 (v4 - 2) 0 h kc ks))) else gLI h v3 102 1 (fun r3 => w_X7_lineSign v4 r3 0 (v6 + 1) h (fun r5 hp4 => gSI hp4 v5 102 v6 (gi r5) (fun hp6 => w_X7_byLine_L132 Q n v0 v1 v3 v4 v5 (v6 + 1) hp6 kc ks))))
def w_X7_byLine_L44 (Q : Nat → gaH → Prop) : Nat → (Nat → Int → Nat → Nat → Int → gaH → Nat → Nat → Prop)
  | 0 => fun _ _ _ _ _ _ _ _ => False
  | n + 1 => fun v0 v1 v2 v3 v4 h kc ks => gA h v0 7 2 (fun r1 => gLI h r1 102 v1 (fun r2 => gR v4 ∧ gR r2 ∧ (if r2 ≤ v4 then gLI h v2 102 1 (fun r3 => gNA h 102 (gi 0) r3 kc ks (fun o4 hp5 c6 s7 => ∃ z, w_X7_byLine_L132 Q z v0 v1 v3 r3 o4 0 hp5 c6 s7)) else gA h v0 7 1 (fun r8 => gLA h r8 112 v1 (fun r9 => gLI h r9 102 v4 (fun r10 => gNA h 102 (gi 0) 2 kc ks (fun o11 hp12 c13 s14 => gLI hp12 v2 102 1 (fun r15 => gSI hp12 o11 102 0 (gi r15) (fun hp16 => gLI hp16 v2 102 1 (fun r17 => gLI hp16 v2 102 0 (fun r18 => gSI hp16 o11 102 1 (gi ((r10 * r17) + r18)) (fun hp19 => gNA hp19 102 (gi 0) 2 c13 s14 (fun o20 hp21 c22 s23 => gLI hp21 v3 102 1 (fun r24 => gSI hp21 o20 102 0 (gi r24) (fun hp25 => gLI hp25 v3 102 1 (fun r26 => gLI hp25 v3 102 0 (fun r27 => gSI hp25 o20 102 1 (gi ((r10 * r26) + r27)) (fun hp28 => w_X7_byLine_L44 Q n v0 v1 o11 o20 (v4 + 1) hp28 c22 s23))))))))))))))))))
def w_X7_byLine (a0 : Nat) (a1 : Int) (h : gaH) (Q : Nat → gaH → Prop) : Prop := gA h a0 7 2 (fun r1 => gLI h r1 102 a1 (fun r2 => gR r2 ∧ (if r2 = 0 then gNA h 102 (gi 0) 1 132 325 (fun o15 hp16 c17 s18 => gSI hp16 o15 102 0 (gi 0) (fun hp19 => Q o15 hp19)) else gNA h 102 (gi 0) 2 132 325 (fun o3 hp4 c5 s6 => gSI hp4 o3 102 0 (gi 1) (fun hp7 => gSI hp7 o3 102 1 (gi 1) (fun hp8 => gNA hp8 102 (gi 0) 2 c5 s6 (fun o9 hp10 c11 s12 => gSI hp10 o9 102 0 (gi 1) (fun hp13 => gSI hp13 o9 102 1 (gi 0) (fun hp14 => ∃ z, w_X7_byLine_L44 Q z a0 a1 o3 o9 0 hp14 c11 s12)))))))))
abbrev rm_X7_byLine : Room := { frames := 2, cells := 132, slots := 325, locals := 43 }
theorem hd_X7_byLine : yX7_byLine.cls = RX7 ∧ (yX7_byLine.cls ≠ "java/lang/invoke/MethodHandle" ∧ yX7_byLine.cls ≠ "java/lang/invoke/VarHandle" ∧ (parseMethodDescriptor yX7_byLine.desc).map (fun d => d.parameters.length) = some 1) := by decide +kernel
theorem k_X7_byLine {l : Launch} (hst : l.stackTraces = false) {G : gaG} {X : String → gaH → Prop} {a0 : Nat} {a1 : Int} {h : gaH} {Q : Nat → gaH → Prop} (hw : w_X7_byLine a0 a1 h Q) : gaC l G yX7_byLine (gaM yX7_byLine cX7_byLine 7 ((some (.array .int)))) rm_X7_byLine [.ref a0, gi a1] h (gQa Q) X := by
  refine g_start (lv := [some (.ref a0), some (gi a1), none, none, none, none, none]) hpl_RX7 hst (Nat.le_of_ble_eq_true rfl) (gaArgs_pad (z := 5) rfl) ww_6_124 ?_
  intro p e s m args below meth c V hT
  have h_X7_byLine_J213 : ∀ (v5 : Nat) (t0 : Nat) (t1 : Int) (t2 : Int) (h : gaH) (kc ks : Nat), w_X7_byLine_J213 Q v5 t0 t1 t2 h kc ks → gaP p l e rm_X7_byLine s m args below meth c G 7 (gaZ below G (gQa Q) X args s rm_X7_byLine) 213 [none, none, none, none, none, some (.ref v5), none] [gi t2, gi t1, .ref t0] h kc ks := by
    intro v5 t0 t1 t2 h kc ks hw
    unfold w_X7_byLine_J213 at hw
    refine g_callS (st := [gi t1, .ref t0]) V (k_X7_one hst hw) ww_6_19 ww_6_20 ww_1_5 ww_6_21 hd_X7_one ⟨by decide, by decide⟩ rfl rfl (ga_cat rfl) dX7_byLine_213 (Nat.zero_le _) (Nat.zero_le _) rfl (gaX_all hT V) (ga_ki (fun r2 hp1 hw => ?_))
    obtain ⟨vs, ha, h0, h9, hi, hw⟩ := hw
    refine gi_iastore V ha h0 h9 hi dX7_byLine_216 rfl ?_
    generalize gaUp hp1 t0 _ = hp3 at hw ⊢
    refine g_aload V dX7_byLine_217 rfl rfl ?_
    exact g_aret V rfl (by first | exact Or.inl ⟨_, rfl⟩ | exact Or.inr ⟨_, rfl⟩) dX7_byLine_219 ⟨_, rfl, hw⟩
  have h_X7_byLine_J187 : ∀ (v0 : Nat) (v1 : Int) (v4 : Int) (v5 : Nat) (t0 : Nat) (t1 : Int) (t2 : Int) (h : gaH) (kc ks : Nat), w_X7_byLine_J187 Q v0 v1 v4 v5 t0 t1 t2 h kc ks → gaP p l e rm_X7_byLine s m args below meth c G 7 (gaZ below G (gQa Q) X args s rm_X7_byLine) 187 [some (.ref v0), some (gi v1), none, none, some (gi v4), some (.ref v5), none] [gi t2, gi t1, .ref t0] h kc ks := by
    intro v0 v1 v4 v5 t0 t1 t2 h kc ks hw
    unfold w_X7_byLine_J187 at hw
    refine g_callS (st := [gi t1, .ref t0]) V (k_X7_one hst hw) ww_6_19 ww_6_20 ww_1_5 ww_6_21 hd_X7_one ⟨by decide, by decide⟩ rfl rfl (ga_cat rfl) dX7_byLine_187 (Nat.zero_le _) (Nat.zero_le _) rfl (gaX_all hT V) (ga_ki (fun r2 hp1 hw => ?_))
    obtain ⟨vs, ha, h0, h9, hi, hw⟩ := hw
    refine gi_iastore V ha h0 h9 hi dX7_byLine_190 rfl ?_
    generalize gaUp hp1 t0 _ = hp3 at hw ⊢
    refine g_aload V dX7_byLine_191 rfl rfl ?_
    refine g_iload V dX7_byLine_193 rfl rfl ?_
    refine g_iconst V (Int32.ofInt 1) dX7_byLine_195 rfl rfl ?_
    refine gi_isub V dX7_byLine_196 rfl ?_
    refine g_aload_n V dX7_byLine_197 rfl rfl ?_
    obtain ⟨fs, r4, ha, hv, hw⟩ := hw
    refine g_get (C := RX7) (T := TX7) (N := 8) V 2 rfl hin_RX7 (by decide) (by decide) ww_5_183 rfl ha hv dX7_byLine_198 rfl ?_
    refine g_iload_n V dX7_byLine_201 rfl rfl ?_
    obtain ⟨t9, vs, r5, ha, ht, h0, h9, hv, hw⟩ := hw
    refine gi_iaload V ha ht h0 h9 hv dX7_byLine_202 rfl ?_
    refine g_iconst V (Int32.ofInt 2) dX7_byLine_203 rfl rfl ?_
    refine gi_irem V dX7_byLine_204 (by decide) (by decide) rfl ?_
    obtain ⟨hx0, hw⟩ := hw
    refine gi_if_eq V dX7_byLine_205 rfl rfl hx0 (fun q => ?_) (fun q => ?_)
    · have hw := ga_t q hw
      refine g_iconst V (Int32.ofInt 0) dX7_byLine_212 rfl rfl ?_
      refine g_less (bs := [false, false, true, true, false, true, true]) (lv2 := [none, none, none, none, none, some (.ref v5), none]) rfl ?_
      exact h_X7_byLine_J213 v5 v5 (v4 - 1) 0 hp3 kc ks hw
    · have hw := ga_f q hw
      refine g_iconst V (Int32.ofInt 1) dX7_byLine_208 rfl rfl ?_
      refine g_goto V dX7_byLine_209 rfl ?_
      refine g_less (bs := [false, false, true, true, false, true, true]) (lv2 := [none, none, none, none, none, some (.ref v5), none]) rfl ?_
      exact h_X7_byLine_J213 v5 v5 (v4 - 1) 1 hp3 kc ks hw
  have h_X7_byLine_L132 : ∀ (n : Nat), ∀ (v0 : Nat) (v1 : Int) (v3 : Nat) (v4 : Int) (v5 : Nat) (v6 : Int) (h : gaH) (kc ks : Nat), w_X7_byLine_L132 Q n v0 v1 v3 v4 v5 v6 h kc ks → gaP p l e rm_X7_byLine s m args below meth c G 7 (gaZ below G (gQa Q) X args s rm_X7_byLine) 132 [some (.ref v0), some (gi v1), none, some (.ref v3), some (gi v4), some (.ref v5), some (gi v6)] [] h kc ks := by
    intro n
    induction n with
    | zero =>
      intro v0 v1 v3 v4 v5 v6 h kc ks hw
      exact hw.elim
    | succ n ih =>
      intro v0 v1 v3 v4 v5 v6 h kc ks hw
      unfold w_X7_byLine_L132 at hw
      refine g_iload V dX7_byLine_132 rfl rfl ?_
      refine g_iload V dX7_byLine_134 rfl rfl ?_
      refine g_iconst V (Int32.ofInt 2) dX7_byLine_136 rfl rfl ?_
      refine gi_isub V dX7_byLine_137 rfl ?_
      obtain ⟨hx0, hx1, hw⟩ := hw
      refine gi_icmp_ge V dX7_byLine_138 rfl rfl hx0 hx1 (fun q => ?_) (fun q => ?_)
      · have hw := ga_t q hw
        refine g_aload V dX7_byLine_165 rfl rfl ?_
        refine g_iload V dX7_byLine_167 rfl rfl ?_
        refine g_iconst V (Int32.ofInt 2) dX7_byLine_169 rfl rfl ?_
        refine gi_isub V dX7_byLine_170 rfl ?_
        refine g_aload_n V dX7_byLine_171 rfl rfl ?_
        obtain ⟨fs, r1, ha, hv, hw⟩ := hw
        refine g_get (C := RX7) (T := TX7) (N := 8) V 2 rfl hin_RX7 (by decide) (by decide) ww_5_183 rfl ha hv dX7_byLine_172 rfl ?_
        refine g_iload_n V dX7_byLine_175 rfl rfl ?_
        obtain ⟨t9, vs, r2, ha, ht, h0, h9, hv, hw⟩ := hw
        refine gi_iaload V ha ht h0 h9 hv dX7_byLine_176 rfl ?_
        refine g_iconst V (Int32.ofInt 2) dX7_byLine_177 rfl rfl ?_
        refine gi_irem V dX7_byLine_178 (by decide) (by decide) rfl ?_
        obtain ⟨hx0, hw⟩ := hw
        refine gi_if_ne V dX7_byLine_179 rfl rfl hx0 (fun q => ?_) (fun q => ?_)
        · have hw := ga_f q hw
          refine g_iconst V (Int32.ofInt 0) dX7_byLine_186 rfl rfl ?_
          refine g_less (bs := [true, true, true, false, true, true, false]) (lv2 := [some (.ref v0), some (gi v1), none, none, some (gi v4), some (.ref v5), none]) rfl ?_
          exact h_X7_byLine_J187 v0 v1 v4 v5 v5 (v4 - 2) 0 h kc ks hw
        · have hw := ga_t q hw
          refine g_iconst V (Int32.ofInt 1) dX7_byLine_182 rfl rfl ?_
          refine g_goto V dX7_byLine_183 rfl ?_
          refine g_less (bs := [true, true, true, false, true, true, false]) (lv2 := [some (.ref v0), some (gi v1), none, none, some (gi v4), some (.ref v5), none]) rfl ?_
          exact h_X7_byLine_J187 v0 v1 v4 v5 v5 (v4 - 2) 1 h kc ks hw
      · have hw := ga_f q hw
        refine g_aload V dX7_byLine_141 rfl rfl ?_
        refine g_iload V dX7_byLine_143 rfl rfl ?_
        refine g_iload V dX7_byLine_145 rfl rfl ?_
        refine g_aload_n V dX7_byLine_147 rfl rfl ?_
        refine g_iconst V (Int32.ofInt 1) dX7_byLine_148 rfl rfl ?_
        obtain ⟨t9, vs, r3, ha, ht, h0, h9, hv, hw⟩ := hw
        refine gi_iaload V ha ht h0 h9 hv dX7_byLine_149 rfl ?_
        refine g_iconst V (Int32.ofInt 0) dX7_byLine_150 rfl rfl ?_
        refine g_iload V dX7_byLine_151 rfl rfl ?_
        refine g_iconst V (Int32.ofInt 1) dX7_byLine_153 rfl rfl ?_
        refine gi_iadd V dX7_byLine_154 rfl ?_
        refine g_callS (st := [gi v6, .ref v5]) V (k_X7_lineSign hst hw) ww_6_125 ww_6_126 ww_1_5 ww_6_127 hd_X7_lineSign ⟨by decide, by decide⟩ rfl rfl (ga_cat rfl) dX7_byLine_155 (Nat.zero_le _) (Nat.zero_le _) rfl (gaX_all hT V) (ga_ki (fun r5 hp4 hw => ?_))
        obtain ⟨vs, ha, h0, h9, hi, hw⟩ := hw
        refine gi_iastore V ha h0 h9 hi dX7_byLine_158 rfl ?_
        generalize gaUp hp4 v5 _ = hp6 at hw ⊢
        refine gi_iinc (lv2 := [some (.ref v0), some (gi v1), none, some (.ref v3), some (gi v4), some (.ref v5), some (gi (v6 + 1))]) V dX7_byLine_159 (by decide) rfl rfl rfl rfl ?_
        refine g_goto V dX7_byLine_162 rfl ?_
        exact ih v0 v1 v3 v4 v5 (v6 + 1) hp6 kc ks hw
  have h_X7_byLine_L44 : ∀ (n : Nat), ∀ (v0 : Nat) (v1 : Int) (v2 : Nat) (v3 : Nat) (v4 : Int) (h : gaH) (kc ks : Nat), w_X7_byLine_L44 Q n v0 v1 v2 v3 v4 h kc ks → gaP p l e rm_X7_byLine s m args below meth c G 7 (gaZ below G (gQa Q) X args s rm_X7_byLine) 44 [some (.ref v0), some (gi v1), some (.ref v2), some (.ref v3), some (gi v4), none, none] [] h kc ks := by
    intro n
    induction n with
    | zero =>
      intro v0 v1 v2 v3 v4 h kc ks hw
      exact hw.elim
    | succ n ih =>
      intro v0 v1 v2 v3 v4 h kc ks hw
      unfold w_X7_byLine_L44 at hw
      refine g_iload V dX7_byLine_44 rfl rfl ?_
      refine g_aload_n V dX7_byLine_46 rfl rfl ?_
      obtain ⟨fs, r1, ha, hv, hw⟩ := hw
      refine g_get (C := RX7) (T := TX7) (N := 8) V 2 rfl hin_RX7 (by decide) (by decide) ww_5_183 rfl ha hv dX7_byLine_47 rfl ?_
      refine g_iload_n V dX7_byLine_50 rfl rfl ?_
      obtain ⟨t9, vs, r2, ha, ht, h0, h9, hv, hw⟩ := hw
      refine gi_iaload V ha ht h0 h9 hv dX7_byLine_51 rfl ?_
      obtain ⟨hx0, hx1, hw⟩ := hw
      refine gi_icmp_ge V dX7_byLine_52 rfl rfl hx0 hx1 (fun q => ?_) (fun q => ?_)
      · have hw := ga_t q hw
        refine g_aload_n V dX7_byLine_118 rfl rfl ?_
        refine g_iconst V (Int32.ofInt 1) dX7_byLine_119 rfl rfl ?_
        obtain ⟨t9, vs, r3, ha, ht, h0, h9, hv, hw⟩ := hw
        refine gi_iaload V ha ht h0 h9 hv dX7_byLine_120 rfl ?_
        refine g_istore (lv2 := [some (.ref v0), some (gi v1), some (.ref v2), some (.ref v3), some (gi r3), none, none]) V dX7_byLine_121 (by decide) rfl rfl rfl ?_
        refine g_iload V dX7_byLine_123 rfl rfl ?_
        obtain ⟨h0, h9, hk, hj, hw⟩ := hw
        refine gi_newarray (atype := .int) (t := 102) V (by decide) rfl ww_1_109 h0 h9 dX7_byLine_125 rfl hk hj (fun o4 hf => ?_)
        obtain ⟨c6, s7, ec, es, hw⟩ := hw o4 hf
        refine ga_re ec es ?_
        generalize gaUp h o4 _ = hp5 at hw ⊢
        refine g_astore (lv2 := [some (.ref v0), some (gi v1), some (.ref v2), some (.ref v3), some (gi r3), some (.ref o4), none]) V dX7_byLine_127 (by decide) rfl rfl rfl ?_
        refine g_iconst V (Int32.ofInt 0) dX7_byLine_129 rfl rfl ?_
        refine g_istore (lv2 := [some (.ref v0), some (gi v1), some (.ref v2), some (.ref v3), some (gi r3), some (.ref o4), some (gi 0)]) V dX7_byLine_130 (by decide) rfl rfl rfl ?_
        refine g_less (bs := [true, true, false, true, true, true, true]) (lv2 := [some (.ref v0), some (gi v1), none, some (.ref v3), some (gi r3), some (.ref o4), some (gi 0)]) rfl ?_
        obtain ⟨z, hw⟩ := hw
        exact h_X7_byLine_L132 z v0 v1 v3 r3 o4 0 hp5 c6 s7 hw
      · have hw := ga_f q hw
        refine g_aload_n V dX7_byLine_55 rfl rfl ?_
        obtain ⟨fs, r8, ha, hv, hw⟩ := hw
        refine g_get (C := RX7) (T := TX7) (N := 8) V 1 rfl hin_RX7 (by decide) (by decide) ww_5_182 rfl ha hv dX7_byLine_56 rfl ?_
        refine g_iload_n V dX7_byLine_59 rfl rfl ?_
        obtain ⟨vs, r9, ha, h0, h9, hv, hw⟩ := hw
        refine gi_aaload V ha (by decide) h0 h9 hv dX7_byLine_60 rfl ?_
        refine g_iload V dX7_byLine_61 rfl rfl ?_
        obtain ⟨t9, vs, r10, ha, ht, h0, h9, hv, hw⟩ := hw
        refine gi_iaload V ha ht h0 h9 hv dX7_byLine_63 rfl ?_
        refine g_istore (lv2 := [some (.ref v0), some (gi v1), some (.ref v2), some (.ref v3), some (gi v4), some (gi r10), none]) V dX7_byLine_64 (by decide) rfl rfl rfl ?_
        refine g_iconst V (Int32.ofInt 2) dX7_byLine_66 rfl rfl ?_
        obtain ⟨h0, h9, hk, hj, hw⟩ := hw
        refine gi_newarray (atype := .int) (t := 102) V (by decide) rfl ww_1_109 h0 h9 dX7_byLine_67 rfl hk hj (fun o11 hf => ?_)
        obtain ⟨c13, s14, ec, es, hw⟩ := hw o11 hf
        refine ga_re ec es ?_
        generalize gaUp h o11 _ = hp12 at hw ⊢
        refine g_dup V dX7_byLine_69 rfl rfl ?_
        refine g_iconst V (Int32.ofInt 0) dX7_byLine_70 rfl rfl ?_
        refine g_aload_n V dX7_byLine_71 rfl rfl ?_
        refine g_iconst V (Int32.ofInt 1) dX7_byLine_72 rfl rfl ?_
        obtain ⟨t9, vs, r15, ha, ht, h0, h9, hv, hw⟩ := hw
        refine gi_iaload V ha ht h0 h9 hv dX7_byLine_73 rfl ?_
        obtain ⟨vs, ha, h0, h9, hi, hw⟩ := hw
        refine gi_iastore V ha h0 h9 hi dX7_byLine_74 rfl ?_
        generalize gaUp hp12 o11 _ = hp16 at hw ⊢
        refine g_dup V dX7_byLine_75 rfl rfl ?_
        refine g_iconst V (Int32.ofInt 1) dX7_byLine_76 rfl rfl ?_
        refine g_iload V dX7_byLine_77 rfl rfl ?_
        refine g_aload_n V dX7_byLine_79 rfl rfl ?_
        refine g_iconst V (Int32.ofInt 1) dX7_byLine_80 rfl rfl ?_
        obtain ⟨t9, vs, r17, ha, ht, h0, h9, hv, hw⟩ := hw
        refine gi_iaload V ha ht h0 h9 hv dX7_byLine_81 rfl ?_
        refine gi_imul V dX7_byLine_82 rfl ?_
        refine g_aload_n V dX7_byLine_83 rfl rfl ?_
        refine g_iconst V (Int32.ofInt 0) dX7_byLine_84 rfl rfl ?_
        obtain ⟨t9, vs, r18, ha, ht, h0, h9, hv, hw⟩ := hw
        refine gi_iaload V ha ht h0 h9 hv dX7_byLine_85 rfl ?_
        refine gi_iadd V dX7_byLine_86 rfl ?_
        obtain ⟨vs, ha, h0, h9, hi, hw⟩ := hw
        refine gi_iastore V ha h0 h9 hi dX7_byLine_87 rfl ?_
        generalize gaUp hp16 o11 _ = hp19 at hw ⊢
        refine g_astore_n (lv2 := [some (.ref v0), some (gi v1), some (.ref o11), some (.ref v3), some (gi v4), some (gi r10), none]) V dX7_byLine_88 (by decide) rfl rfl rfl ?_
        refine g_iconst V (Int32.ofInt 2) dX7_byLine_89 rfl rfl ?_
        obtain ⟨h0, h9, hk, hj, hw⟩ := hw
        refine gi_newarray (atype := .int) (t := 102) V (by decide) rfl ww_1_109 h0 h9 dX7_byLine_90 rfl hk hj (fun o20 hf => ?_)
        obtain ⟨c22, s23, ec, es, hw⟩ := hw o20 hf
        refine ga_re ec es ?_
        generalize gaUp hp19 o20 _ = hp21 at hw ⊢
        refine g_dup V dX7_byLine_92 rfl rfl ?_
        refine g_iconst V (Int32.ofInt 0) dX7_byLine_93 rfl rfl ?_
        refine g_aload_n V dX7_byLine_94 rfl rfl ?_
        refine g_iconst V (Int32.ofInt 1) dX7_byLine_95 rfl rfl ?_
        obtain ⟨t9, vs, r24, ha, ht, h0, h9, hv, hw⟩ := hw
        refine gi_iaload V ha ht h0 h9 hv dX7_byLine_96 rfl ?_
        obtain ⟨vs, ha, h0, h9, hi, hw⟩ := hw
        refine gi_iastore V ha h0 h9 hi dX7_byLine_97 rfl ?_
        generalize gaUp hp21 o20 _ = hp25 at hw ⊢
        refine g_dup V dX7_byLine_98 rfl rfl ?_
        refine g_iconst V (Int32.ofInt 1) dX7_byLine_99 rfl rfl ?_
        refine g_iload V dX7_byLine_100 rfl rfl ?_
        refine g_aload_n V dX7_byLine_102 rfl rfl ?_
        refine g_iconst V (Int32.ofInt 1) dX7_byLine_103 rfl rfl ?_
        obtain ⟨t9, vs, r26, ha, ht, h0, h9, hv, hw⟩ := hw
        refine gi_iaload V ha ht h0 h9 hv dX7_byLine_104 rfl ?_
        refine gi_imul V dX7_byLine_105 rfl ?_
        refine g_aload_n V dX7_byLine_106 rfl rfl ?_
        refine g_iconst V (Int32.ofInt 0) dX7_byLine_107 rfl rfl ?_
        obtain ⟨t9, vs, r27, ha, ht, h0, h9, hv, hw⟩ := hw
        refine gi_iaload V ha ht h0 h9 hv dX7_byLine_108 rfl ?_
        refine gi_iadd V dX7_byLine_109 rfl ?_
        obtain ⟨vs, ha, h0, h9, hi, hw⟩ := hw
        refine gi_iastore V ha h0 h9 hi dX7_byLine_110 rfl ?_
        generalize gaUp hp25 o20 _ = hp28 at hw ⊢
        refine g_astore_n (lv2 := [some (.ref v0), some (gi v1), some (.ref o11), some (.ref o20), some (gi v4), some (gi r10), none]) V dX7_byLine_111 (by decide) rfl rfl rfl ?_
        refine gi_iinc (lv2 := [some (.ref v0), some (gi v1), some (.ref o11), some (.ref o20), some (gi (v4 + 1)), some (gi r10), none]) V dX7_byLine_112 (by decide) rfl rfl rfl rfl ?_
        refine g_goto V dX7_byLine_115 rfl ?_
        refine g_less (bs := [true, true, true, true, true, false, true]) (lv2 := [some (.ref v0), some (gi v1), some (.ref o11), some (.ref o20), some (gi (v4 + 1)), none, none]) rfl ?_
        exact ih v0 v1 o11 o20 (v4 + 1) hp28 c22 s23 hw
  show gaP p l e rm_X7_byLine s m args below meth c G 7 (gaZ below G (gQa Q) X args s rm_X7_byLine) 0 [some (.ref a0), some (gi a1), none, none, none, none, none] [] h 132 325
  unfold w_X7_byLine at hw
  refine g_aload_n V dX7_byLine_0 rfl rfl ?_
  obtain ⟨fs, r1, ha, hv, hw⟩ := hw
  refine g_get (C := RX7) (T := TX7) (N := 8) V 2 rfl hin_RX7 (by decide) (by decide) ww_5_183 rfl ha hv dX7_byLine_1 rfl ?_
  refine g_iload_n V dX7_byLine_4 rfl rfl ?_
  obtain ⟨t9, vs, r2, ha, ht, h0, h9, hv, hw⟩ := hw
  refine gi_iaload V ha ht h0 h9 hv dX7_byLine_5 rfl ?_
  obtain ⟨hx0, hw⟩ := hw
  refine gi_if_ne V dX7_byLine_6 rfl rfl hx0 (fun q => ?_) (fun q => ?_)
  · have hw := ga_f q hw
    refine g_iconst V (Int32.ofInt 2) dX7_byLine_17 rfl rfl ?_
    obtain ⟨h0, h9, hk, hj, hw⟩ := hw
    refine gi_newarray (atype := .int) (t := 102) V (by decide) rfl ww_1_109 h0 h9 dX7_byLine_18 rfl hk hj (fun o3 hf => ?_)
    obtain ⟨c5, s6, ec, es, hw⟩ := hw o3 hf
    refine ga_re ec es ?_
    generalize gaUp h o3 _ = hp4 at hw ⊢
    refine g_dup V dX7_byLine_20 rfl rfl ?_
    refine g_iconst V (Int32.ofInt 0) dX7_byLine_21 rfl rfl ?_
    refine g_iconst V (Int32.ofInt 1) dX7_byLine_22 rfl rfl ?_
    obtain ⟨vs, ha, h0, h9, hi, hw⟩ := hw
    refine gi_iastore V ha h0 h9 hi dX7_byLine_23 rfl ?_
    generalize gaUp hp4 o3 _ = hp7 at hw ⊢
    refine g_dup V dX7_byLine_24 rfl rfl ?_
    refine g_iconst V (Int32.ofInt 1) dX7_byLine_25 rfl rfl ?_
    refine g_iconst V (Int32.ofInt 1) dX7_byLine_26 rfl rfl ?_
    obtain ⟨vs, ha, h0, h9, hi, hw⟩ := hw
    refine gi_iastore V ha h0 h9 hi dX7_byLine_27 rfl ?_
    generalize gaUp hp7 o3 _ = hp8 at hw ⊢
    refine g_astore_n (lv2 := [some (.ref a0), some (gi a1), some (.ref o3), none, none, none, none]) V dX7_byLine_28 (by decide) rfl rfl rfl ?_
    refine g_iconst V (Int32.ofInt 2) dX7_byLine_29 rfl rfl ?_
    obtain ⟨h0, h9, hk, hj, hw⟩ := hw
    refine gi_newarray (atype := .int) (t := 102) V (by decide) rfl ww_1_109 h0 h9 dX7_byLine_30 rfl hk hj (fun o9 hf => ?_)
    obtain ⟨c11, s12, ec, es, hw⟩ := hw o9 hf
    refine ga_re ec es ?_
    generalize gaUp hp8 o9 _ = hp10 at hw ⊢
    refine g_dup V dX7_byLine_32 rfl rfl ?_
    refine g_iconst V (Int32.ofInt 0) dX7_byLine_33 rfl rfl ?_
    refine g_iconst V (Int32.ofInt 1) dX7_byLine_34 rfl rfl ?_
    obtain ⟨vs, ha, h0, h9, hi, hw⟩ := hw
    refine gi_iastore V ha h0 h9 hi dX7_byLine_35 rfl ?_
    generalize gaUp hp10 o9 _ = hp13 at hw ⊢
    refine g_dup V dX7_byLine_36 rfl rfl ?_
    refine g_iconst V (Int32.ofInt 1) dX7_byLine_37 rfl rfl ?_
    refine g_iconst V (Int32.ofInt 0) dX7_byLine_38 rfl rfl ?_
    obtain ⟨vs, ha, h0, h9, hi, hw⟩ := hw
    refine gi_iastore V ha h0 h9 hi dX7_byLine_39 rfl ?_
    generalize gaUp hp13 o9 _ = hp14 at hw ⊢
    refine g_astore_n (lv2 := [some (.ref a0), some (gi a1), some (.ref o3), some (.ref o9), none, none, none]) V dX7_byLine_40 (by decide) rfl rfl rfl ?_
    refine g_iconst V (Int32.ofInt 0) dX7_byLine_41 rfl rfl ?_
    refine g_istore (lv2 := [some (.ref a0), some (gi a1), some (.ref o3), some (.ref o9), some (gi 0), none, none]) V dX7_byLine_42 (by decide) rfl rfl rfl ?_
    obtain ⟨z, hw⟩ := hw
    exact h_X7_byLine_L44 z a0 a1 o3 o9 0 hp14 c11 s12 hw
  · have hw := ga_t q hw
    refine g_iconst V (Int32.ofInt 1) dX7_byLine_9 rfl rfl ?_
    obtain ⟨h0, h9, hk, hj, hw⟩ := hw
    refine gi_newarray (atype := .int) (t := 102) V (by decide) rfl ww_1_109 h0 h9 dX7_byLine_10 rfl hk hj (fun o15 hf => ?_)
    obtain ⟨c17, s18, ec, es, hw⟩ := hw o15 hf
    refine ga_re ec es ?_
    generalize gaUp h o15 _ = hp16 at hw ⊢
    refine g_dup V dX7_byLine_12 rfl rfl ?_
    refine g_iconst V (Int32.ofInt 0) dX7_byLine_13 rfl rfl ?_
    refine g_iconst V (Int32.ofInt 0) dX7_byLine_14 rfl rfl ?_
    obtain ⟨vs, ha, h0, h9, hi, hw⟩ := hw
    refine gi_iastore V ha h0 h9 hi dX7_byLine_15 rfl ?_
    generalize gaUp hp16 o15 _ = hp19 at hw ⊢
    exact g_aret V rfl (by first | exact Or.inl ⟨_, rfl⟩ | exact Or.inr ⟨_, rfl⟩) dX7_byLine_16 ⟨_, rfl, hw⟩
def w_X7_byRules_L17 (Q : Nat → gaH → Prop) : Nat → (Nat → Int → Nat → Int → gaH → Nat → Nat → Prop)
  | 0 => fun _ _ _ _ _ _ _ => False
  | n + 1 => fun v0 v1 v2 v3 h kc ks => gR v3 ∧ (if v3 < 0 then Q v2 h else gA h v0 7 1 (fun r1 => gLA h r1 112 v1 (fun r2 => gLI h r2 102 v3 (fun r3 => gCall 1 16 kc ks (fun c6 s7 => w_X7_ofCode ((gShl 2 r3) + 1) h (fun r5 hp4 => gCall 1 16 c6 s7 (fun c10 s11 => w_X7_ofCode 2 hp4 (fun r9 hp8 => gCall 1 256 c10 s11 (fun c14 s15 => w_X7_image v2 r5 r9 hp8 (fun r13 hp12 => w_X7_byRules_L17 Q n v0 v1 r13 (v3 + (-1)) hp12 c14 s15))))))))))
def w_X7_byRules (a0 : Nat) (a1 : Int) (h : gaH) (Q : Nat → gaH → Prop) : Prop := gNA h 102 (gi 0) 1 193 18433 (fun o1 hp2 c3 s4 => gSI hp2 o1 102 0 (gi 0) (fun hp5 => gA hp5 a0 7 2 (fun r6 => gLI hp5 r6 102 a1 (fun r7 => ∃ z, w_X7_byRules_L17 Q z a0 a1 o1 (r7 - 1) hp5 c3 s4))))
abbrev rm_X7_byRules : Room := { frames := 2, cells := 193, slots := 18433, locals := 58 }
theorem hd_X7_byRules : yX7_byRules.cls = RX7 ∧ (yX7_byRules.cls ≠ "java/lang/invoke/MethodHandle" ∧ yX7_byRules.cls ≠ "java/lang/invoke/VarHandle" ∧ (parseMethodDescriptor yX7_byRules.desc).map (fun d => d.parameters.length) = some 1) := by decide +kernel
theorem k_X7_byRules {l : Launch} (hst : l.stackTraces = false) {G : gaG} {X : String → gaH → Prop} {a0 : Nat} {a1 : Int} {h : gaH} {Q : Nat → gaH → Prop} (hw : w_X7_byRules a0 a1 h Q) : gaC l G yX7_byRules (gaM yX7_byRules cX7_byRules 4 ((some (.array .int)))) rm_X7_byRules [.ref a0, gi a1] h (gQa Q) X := by
  refine g_start (lv := [some (.ref a0), some (gi a1), none, none]) hpl_RX7 hst (Nat.le_of_ble_eq_true rfl) (gaArgs_pad (z := 2) rfl) ww_6_120 ?_
  intro p e s m args below meth c V hT
  have h_X7_byRules_L17 : ∀ (n : Nat), ∀ (v0 : Nat) (v1 : Int) (v2 : Nat) (v3 : Int) (h : gaH) (kc ks : Nat), w_X7_byRules_L17 Q n v0 v1 v2 v3 h kc ks → gaP p l e rm_X7_byRules s m args below meth c G 4 (gaZ below G (gQa Q) X args s rm_X7_byRules) 17 [some (.ref v0), some (gi v1), some (.ref v2), some (gi v3)] [] h kc ks := by
    intro n
    induction n with
    | zero =>
      intro v0 v1 v2 v3 h kc ks hw
      exact hw.elim
    | succ n ih =>
      intro v0 v1 v2 v3 h kc ks hw
      unfold w_X7_byRules_L17 at hw
      refine g_iload_n V dX7_byRules_17 rfl rfl ?_
      obtain ⟨hx0, hw⟩ := hw
      refine gi_if_lt V dX7_byRules_18 rfl rfl hx0 (fun q => ?_) (fun q => ?_)
      · have hw := ga_t q hw
        refine g_aload_n V dX7_byRules_51 rfl rfl ?_
        exact g_aret V rfl (by first | exact Or.inl ⟨_, rfl⟩ | exact Or.inr ⟨_, rfl⟩) dX7_byRules_52 ⟨_, rfl, hw⟩
      · have hw := ga_f q hw
        refine g_aload_n V dX7_byRules_21 rfl rfl ?_
        refine g_iconst V (Int32.ofInt 2) dX7_byRules_22 rfl rfl ?_
        refine g_aload_n V dX7_byRules_23 rfl rfl ?_
        obtain ⟨fs, r1, ha, hv, hw⟩ := hw
        refine g_get (C := RX7) (T := TX7) (N := 8) V 1 rfl hin_RX7 (by decide) (by decide) ww_5_182 rfl ha hv dX7_byRules_24 rfl ?_
        refine g_iload_n V dX7_byRules_27 rfl rfl ?_
        obtain ⟨vs, r2, ha, h0, h9, hv, hw⟩ := hw
        refine gi_aaload V ha (by decide) h0 h9 hv dX7_byRules_28 rfl ?_
        refine g_iload_n V dX7_byRules_29 rfl rfl ?_
        obtain ⟨t9, vs, r3, ha, ht, h0, h9, hv, hw⟩ := hw
        refine gi_iaload V ha ht h0 h9 hv dX7_byRules_30 rfl ?_
        refine gi_ishl V dX7_byRules_31 rfl ?_
        refine g_iconst V (Int32.ofInt 1) dX7_byRules_32 rfl rfl ?_
        refine gi_iadd V dX7_byRules_33 rfl ?_
        obtain ⟨hk, hj, c6, s7, ec, es, hw⟩ := hw
        refine g_callS (st := [.ref v2]) V (k_X7_ofCode hst hw) ww_5_229 ww_5_230 ww_1_5 ww_5_231 hd_X7_ofCode ⟨by decide, by decide⟩ rfl rfl (ga_cat rfl) dX7_byRules_34 hk hj rfl (gaX_all hT V) (ga_ka (fun r5 hp4 hw => ?_))
        refine ga_re ec es ?_
        refine g_iconst V (Int32.ofInt 2) dX7_byRules_37 rfl rfl ?_
        obtain ⟨hk, hj, c10, s11, ec, es, hw⟩ := hw
        refine g_callS (st := [.ref r5, .ref v2]) V (k_X7_ofCode hst hw) ww_5_229 ww_5_230 ww_1_5 ww_5_231 hd_X7_ofCode ⟨by decide, by decide⟩ rfl rfl (ga_cat rfl) dX7_byRules_38 hk hj rfl (gaX_all hT V) (ga_ka (fun r9 hp8 hw => ?_))
        refine ga_re ec es ?_
        obtain ⟨hk, hj, c14, s15, ec, es, hw⟩ := hw
        refine g_callS (st := []) V (k_X7_image hst hw) ww_6_78 ww_6_79 ww_1_5 ww_6_80 hd_X7_image ⟨by decide, by decide⟩ rfl rfl (ga_cat rfl) dX7_byRules_41 hk hj rfl (gaX_all hT V) (ga_ka (fun r13 hp12 hw => ?_))
        refine ga_re ec es ?_
        refine g_astore_n (lv2 := [some (.ref v0), some (gi v1), some (.ref r13), some (gi v3)]) V dX7_byRules_44 (by decide) rfl rfl rfl ?_
        refine gi_iinc (lv2 := [some (.ref v0), some (gi v1), some (.ref r13), some (gi (v3 + (-1)))]) V dX7_byRules_45 (by decide) rfl rfl rfl rfl ?_
        refine g_goto V dX7_byRules_48 rfl ?_
        exact ih v0 v1 r13 (v3 + (-1)) hp12 c14 s15 hw
  show gaP p l e rm_X7_byRules s m args below meth c G 4 (gaZ below G (gQa Q) X args s rm_X7_byRules) 0 [some (.ref a0), some (gi a1), none, none] [] h 193 18433
  unfold w_X7_byRules at hw
  refine g_iconst V (Int32.ofInt 1) dX7_byRules_0 rfl rfl ?_
  obtain ⟨h0, h9, hk, hj, hw⟩ := hw
  refine gi_newarray (atype := .int) (t := 102) V (by decide) rfl ww_1_109 h0 h9 dX7_byRules_1 rfl hk hj (fun o1 hf => ?_)
  obtain ⟨c3, s4, ec, es, hw⟩ := hw o1 hf
  refine ga_re ec es ?_
  generalize gaUp h o1 _ = hp2 at hw ⊢
  refine g_dup V dX7_byRules_3 rfl rfl ?_
  refine g_iconst V (Int32.ofInt 0) dX7_byRules_4 rfl rfl ?_
  refine g_iconst V (Int32.ofInt 0) dX7_byRules_5 rfl rfl ?_
  obtain ⟨vs, ha, h0, h9, hi, hw⟩ := hw
  refine gi_iastore V ha h0 h9 hi dX7_byRules_6 rfl ?_
  generalize gaUp hp2 o1 _ = hp5 at hw ⊢
  refine g_astore_n (lv2 := [some (.ref a0), some (gi a1), some (.ref o1), none]) V dX7_byRules_7 (by decide) rfl rfl rfl ?_
  refine g_aload_n V dX7_byRules_8 rfl rfl ?_
  obtain ⟨fs, r6, ha, hv, hw⟩ := hw
  refine g_get (C := RX7) (T := TX7) (N := 8) V 2 rfl hin_RX7 (by decide) (by decide) ww_5_183 rfl ha hv dX7_byRules_9 rfl ?_
  refine g_iload_n V dX7_byRules_12 rfl rfl ?_
  obtain ⟨t9, vs, r7, ha, ht, h0, h9, hv, hw⟩ := hw
  refine gi_iaload V ha ht h0 h9 hv dX7_byRules_13 rfl ?_
  refine g_iconst V (Int32.ofInt 1) dX7_byRules_14 rfl rfl ?_
  refine gi_isub V dX7_byRules_15 rfl ?_
  refine g_istore_n (lv2 := [some (.ref a0), some (gi a1), some (.ref o1), some (gi (r7 - 1))]) V dX7_byRules_16 (by decide) rfl rfl rfl ?_
  obtain ⟨z, hw⟩ := hw
  exact h_X7_byRules_L17 z a0 a1 o1 (r7 - 1) hp5 c3 s4 hw
def w_X7_copy_J20 (Q : Int → gaH → Prop) (v0 : Nat) (v1 : Int) (v2 : Int) (t0 : Nat) (t1 : Int) (h : gaH) : Prop := gHas h t0 7 ∧ w_X7_start t0 t1 1 h (fun r2 hp1 => gR r2 ∧ (if r2 = 0 then gA hp1 v0 7 0 (fun r3 => gLA hp1 r3 112 v1 (fun r4 => gHas hp1 v0 7 ∧ w_X7_becomes v0 v2 r4 hp1 (fun r6 hp5 => Q r6 hp5))) else Q 0 hp1))
def w_X7_copy_J15 (Q : Int → gaH → Prop) (v0 : Nat) (v1 : Int) (v2 : Int) (t0 : Nat) (h : gaH) : Prop := w_X7_copy_J20 Q v0 v1 v2 t0 1 h
def w_X7_copy (a0 : Nat) (a1 : Int) (a2 : Int) (h : gaH) (Q : Int → gaH → Prop) : Prop := w_X7_isNoSheet a1 h (fun r2 hp1 => gR r2 ∧ (if r2 = 0 then w_X7_isNoSheet a2 hp1 (fun r4 hp3 => gR r4 ∧ (if r4 = 0 then w_X7_copy_J20 Q a0 a1 a2 a0 0 hp3 else w_X7_copy_J15 Q a0 a1 a2 a0 hp3)) else w_X7_copy_J15 Q a0 a1 a2 a0 hp1))
abbrev rm_X7_copy : Room := { frames := 3, cells := 0, slots := 0, locals := 67 }
theorem hd_X7_copy : yX7_copy.cls = RX7 ∧ (yX7_copy.cls ≠ "java/lang/invoke/MethodHandle" ∧ yX7_copy.cls ≠ "java/lang/invoke/VarHandle" ∧ (parseMethodDescriptor yX7_copy.desc).map (fun d => d.parameters.length) = some 2) := by decide +kernel
theorem k_X7_copy {l : Launch} (hst : l.stackTraces = false) {G : gaG} {X : String → gaH → Prop} {a0 : Nat} {a1 : Int} {a2 : Int} {h : gaH} {Q : Int → gaH → Prop} (hw : w_X7_copy a0 a1 a2 h Q) : gaC l G yX7_copy (gaM yX7_copy cX7_copy 3 ((some .int))) rm_X7_copy [.ref a0, gi a1, gi a2] h (gQi Q) X := by
  refine g_start (lv := [some (.ref a0), some (gi a1), some (gi a2)]) hpl_RX7 hst (Nat.le_of_ble_eq_true rfl) (gaArgs_pad (z := 0) rfl) ww_6_88 ?_
  intro p e s m args below meth c V hT
  have h_X7_copy_J20 : ∀ (v0 : Nat) (v1 : Int) (v2 : Int) (t0 : Nat) (t1 : Int) (h : gaH), w_X7_copy_J20 Q v0 v1 v2 t0 t1 h → gaP p l e rm_X7_copy s m args below meth c G 3 (gaZ below G (gQi Q) X args s rm_X7_copy) 20 [some (.ref v0), some (gi v1), some (gi v2)] [gi t1, .ref t0] h 0 0 := by
    intro v0 v1 v2 t0 t1 h hw
    unfold w_X7_copy_J20 at hw
    refine g_iconst V (Int32.ofInt 1) dX7_copy_20 rfl rfl ?_
    obtain ⟨hb, hw⟩ := hw
    obtain ⟨fb, hb⟩ := hb
    refine g_callV (C := RX7) (T := TX7) (N := 8) (st := []) V (k_X7_start hst hw) ww_5_220 ww_5_222 wp_2_2 ww_1_5 ww_5_223 hd_X7_start ⟨by decide, by decide⟩ rfl (by decide) hb rfl rfl (ga_cat rfl) dX7_copy_21 (Nat.zero_le _) (Nat.zero_le _) rfl (gaX_all hT V) (ga_ki (fun r2 hp1 hw => ?_))
    obtain ⟨hx0, hw⟩ := hw
    refine gi_if_eq V dX7_copy_24 rfl rfl hx0 (fun q => ?_) (fun q => ?_)
    · have hw := ga_t q hw
      refine g_aload_n V dX7_copy_29 rfl rfl ?_
      refine g_iload_n V dX7_copy_30 rfl rfl ?_
      refine g_aload_n V dX7_copy_31 rfl rfl ?_
      obtain ⟨fs, r3, ha, hv, hw⟩ := hw
      refine g_get (C := RX7) (T := TX7) (N := 8) V 0 rfl hin_RX7 (by decide) (by decide) ww_5_181 rfl ha hv dX7_copy_32 rfl ?_
      refine g_iload_n V dX7_copy_35 rfl rfl ?_
      obtain ⟨vs, r4, ha, h0, h9, hv, hw⟩ := hw
      refine gi_aaload V ha (by decide) h0 h9 hv dX7_copy_36 rfl ?_
      obtain ⟨hb, hw⟩ := hw
      obtain ⟨fb, hb⟩ := hb
      refine g_callV (C := RX7) (T := TX7) (N := 8) (st := []) V (k_X7_becomes hst hw) ww_6_64 ww_6_66 wp_2_10 ww_1_5 ww_6_67 hd_X7_becomes ⟨by decide, by decide⟩ rfl (by decide) hb rfl rfl (ga_cat rfl) dX7_copy_37 (Nat.zero_le _) (Nat.zero_le _) rfl (gaX_all hT V) (ga_ki (fun r6 hp5 hw => ?_))
      exact g_iret V rfl rfl dX7_copy_40 ⟨_, rfl, hw⟩
    · have hw := ga_f q hw
      refine g_iconst V (Int32.ofInt 0) dX7_copy_27 rfl rfl ?_
      exact g_iret V rfl rfl dX7_copy_28 ⟨_, rfl, hw⟩
  have h_X7_copy_J15 : ∀ (v0 : Nat) (v1 : Int) (v2 : Int) (t0 : Nat) (h : gaH), w_X7_copy_J15 Q v0 v1 v2 t0 h → gaP p l e rm_X7_copy s m args below meth c G 3 (gaZ below G (gQi Q) X args s rm_X7_copy) 15 [some (.ref v0), some (gi v1), some (gi v2)] [.ref t0] h 0 0 := by
    intro v0 v1 v2 t0 h hw
    unfold w_X7_copy_J15 at hw
    refine g_iconst V (Int32.ofInt 1) dX7_copy_15 rfl rfl ?_
    refine g_goto V dX7_copy_16 rfl ?_
    exact h_X7_copy_J20 v0 v1 v2 t0 1 h hw
  unfold w_X7_copy at hw
  refine g_aload_n V dX7_copy_0 rfl rfl ?_
  refine g_iload_n V dX7_copy_1 rfl rfl ?_
  refine g_callS (st := [.ref a0]) V (k_X7_isNoSheet hst hw) ww_5_214 ww_5_215 ww_1_5 ww_5_216 hd_X7_isNoSheet ⟨by decide, by decide⟩ rfl rfl (ga_cat rfl) dX7_copy_2 (Nat.zero_le _) (Nat.zero_le _) rfl (gaX_all hT V) (ga_ki (fun r2 hp1 hw => ?_))
  obtain ⟨hx0, hw⟩ := hw
  refine gi_if_ne V dX7_copy_5 rfl rfl hx0 (fun q => ?_) (fun q => ?_)
  · have hw := ga_f q hw
    exact h_X7_copy_J15 a0 a1 a2 a0 hp1 hw
  · have hw := ga_t q hw
    refine g_iload_n V dX7_copy_8 rfl rfl ?_
    refine g_callS (st := [.ref a0]) V (k_X7_isNoSheet hst hw) ww_5_214 ww_5_215 ww_1_5 ww_5_216 hd_X7_isNoSheet ⟨by decide, by decide⟩ rfl rfl (ga_cat rfl) dX7_copy_9 (Nat.zero_le _) (Nat.zero_le _) rfl (gaX_all hT V) (ga_ki (fun r4 hp3 hw => ?_))
    obtain ⟨hx0, hw⟩ := hw
    refine gi_if_eq V dX7_copy_12 rfl rfl hx0 (fun q => ?_) (fun q => ?_)
    · have hw := ga_t q hw
      refine g_iconst V (Int32.ofInt 0) dX7_copy_19 rfl rfl ?_
      exact h_X7_copy_J20 a0 a1 a2 a0 0 hp3 hw
    · have hw := ga_f q hw
      exact h_X7_copy_J15 a0 a1 a2 a0 hp3 hw
def w_X7_count (a0 : Nat) (a1 : Int) (a2 : Int) (h : gaH) (Q : Int → gaH → Prop) : Prop := w_X7_isNoSheet a1 h (fun r2 hp1 => gHas hp1 a0 7 ∧ w_X7_start a0 r2 1 hp1 (fun r4 hp3 => gR r4 ∧ (if r4 = 0 then gA hp3 a0 7 0 (fun r5 => gLA hp3 r5 112 a1 (fun r6 => w_X7_bs r6 hp3 (fun r8 hp7 => gR a2 ∧ (if a2 = 0 then gA hp7 a0 7 0 (fun r9 => gLA hp7 r9 112 a1 (fun r10 => gAL hp7 r10 102 (fun r11 => Q (r11 - r8) hp7))) else Q r8 hp7)))) else Q 0 hp3)))
abbrev rm_X7_count : Room := { frames := 2, cells := 0, slots := 0, locals := 44 }
theorem hd_X7_count : yX7_count.cls = RX7 ∧ (yX7_count.cls ≠ "java/lang/invoke/MethodHandle" ∧ yX7_count.cls ≠ "java/lang/invoke/VarHandle" ∧ (parseMethodDescriptor yX7_count.desc).map (fun d => d.parameters.length) = some 2) := by decide +kernel
theorem k_X7_count {l : Launch} (hst : l.stackTraces = false) {G : gaG} {X : String → gaH → Prop} {a0 : Nat} {a1 : Int} {a2 : Int} {h : gaH} {Q : Int → gaH → Prop} (hw : w_X7_count a0 a1 a2 h Q) : gaC l G yX7_count (gaM yX7_count cX7_count 4 ((some .int))) rm_X7_count [.ref a0, gi a1, gi a2] h (gQi Q) X := by
  refine g_start (lv := [some (.ref a0), some (gi a1), some (gi a2), none]) hpl_RX7 hst (Nat.le_of_ble_eq_true rfl) (gaArgs_pad (z := 1) rfl) ww_6_178 ?_
  intro p e s m args below meth c V hT
  unfold w_X7_count at hw
  refine g_aload_n V dX7_count_0 rfl rfl ?_
  refine g_iload_n V dX7_count_1 rfl rfl ?_
  refine g_callS (st := [.ref a0]) V (k_X7_isNoSheet hst hw) ww_5_214 ww_5_215 ww_1_5 ww_5_216 hd_X7_isNoSheet ⟨by decide, by decide⟩ rfl rfl (ga_cat rfl) dX7_count_2 (Nat.zero_le _) (Nat.zero_le _) rfl (gaX_all hT V) (ga_ki (fun r2 hp1 hw => ?_))
  refine g_iconst V (Int32.ofInt 1) dX7_count_5 rfl rfl ?_
  obtain ⟨hb, hw⟩ := hw
  obtain ⟨fb, hb⟩ := hb
  refine g_callV (C := RX7) (T := TX7) (N := 8) (st := []) V (k_X7_start hst hw) ww_5_220 ww_5_222 wp_2_2 ww_1_5 ww_5_223 hd_X7_start ⟨by decide, by decide⟩ rfl (by decide) hb rfl rfl (ga_cat rfl) dX7_count_6 (Nat.zero_le _) (Nat.zero_le _) rfl (gaX_all hT V) (ga_ki (fun r4 hp3 hw => ?_))
  obtain ⟨hx0, hw⟩ := hw
  refine gi_if_eq V dX7_count_9 rfl rfl hx0 (fun q => ?_) (fun q => ?_)
  · have hw := ga_t q hw
    refine g_aload_n V dX7_count_14 rfl rfl ?_
    obtain ⟨fs, r5, ha, hv, hw⟩ := hw
    refine g_get (C := RX7) (T := TX7) (N := 8) V 0 rfl hin_RX7 (by decide) (by decide) ww_5_181 rfl ha hv dX7_count_15 rfl ?_
    refine g_iload_n V dX7_count_18 rfl rfl ?_
    obtain ⟨vs, r6, ha, h0, h9, hv, hw⟩ := hw
    refine gi_aaload V ha (by decide) h0 h9 hv dX7_count_19 rfl ?_
    refine g_callS (st := []) V (k_X7_bs hst hw) ww_6_46 ww_6_47 ww_1_5 ww_6_48 hd_X7_bs ⟨by decide, by decide⟩ rfl rfl (ga_cat rfl) dX7_count_20 (Nat.zero_le _) (Nat.zero_le _) rfl (gaX_all hT V) (ga_ki (fun r8 hp7 hw => ?_))
    refine g_istore_n (lv2 := [some (.ref a0), some (gi a1), some (gi a2), some (gi r8)]) V dX7_count_23 (by decide) rfl rfl rfl ?_
    refine g_iload_n V dX7_count_24 rfl rfl ?_
    obtain ⟨hx0, hw⟩ := hw
    refine gi_if_eq V dX7_count_25 rfl rfl hx0 (fun q => ?_) (fun q => ?_)
    · have hw := ga_t q hw
      refine g_aload_n V dX7_count_32 rfl rfl ?_
      obtain ⟨fs, r9, ha, hv, hw⟩ := hw
      refine g_get (C := RX7) (T := TX7) (N := 8) V 0 rfl hin_RX7 (by decide) (by decide) ww_5_181 rfl ha hv dX7_count_33 rfl ?_
      refine g_iload_n V dX7_count_36 rfl rfl ?_
      obtain ⟨vs, r10, ha, h0, h9, hv, hw⟩ := hw
      refine gi_aaload V ha (by decide) h0 h9 hv dX7_count_37 rfl ?_
      obtain ⟨t9, vs, ha, ht, hw⟩ := hw
      refine gi_arraylength (t0 := 102) V (by simp [gaT]) ha ht dX7_count_38 rfl ?_
      generalize (vs.length : Int) = r11 at hw ⊢
      refine g_iload_n V dX7_count_39 rfl rfl ?_
      refine gi_isub V dX7_count_40 rfl ?_
      exact g_iret V rfl rfl dX7_count_41 ⟨_, rfl, hw⟩
    · have hw := ga_f q hw
      refine g_iload_n V dX7_count_28 rfl rfl ?_
      refine g_goto V dX7_count_29 rfl ?_
      exact g_iret V rfl rfl dX7_count_41 ⟨_, rfl, hw⟩
  · have hw := ga_f q hw
    refine g_iconst V (Int32.ofInt 0) dX7_count_12 rfl rfl ?_
    exact g_iret V rfl rfl dX7_count_13 ⟨_, rfl, hw⟩
def w_X7_cross (a0 : Nat) (a1 : Int) (h : gaH) (Q : Int → gaH → Prop) : Prop := w_X7_isNoGrowth a1 h (fun r2 hp1 => gHas hp1 a0 7 ∧ w_X7_start a0 r2 1 hp1 (fun r4 hp3 => gR r4 ∧ (if r4 = 0 then gHas hp3 a0 7 ∧ gCall 67 4288 134 8576 (fun c7 s8 => w_X7_word a0 a1 0 hp3 (fun r6 hp5 => gHas hp5 a0 7 ∧ gCall 67 4288 c7 s8 (fun c11 s12 => w_X7_word a0 a1 1 hp5 (fun r10 hp9 => w_X7_crossOf r6 r10 hp9 (fun r14 hp13 => Q r14 hp13))))) else Q 0 hp3)))
abbrev rm_X7_cross : Room := { frames := 3, cells := 134, slots := 8576, locals := 71 }
theorem hd_X7_cross : yX7_cross.cls = RX7 ∧ (yX7_cross.cls ≠ "java/lang/invoke/MethodHandle" ∧ yX7_cross.cls ≠ "java/lang/invoke/VarHandle" ∧ (parseMethodDescriptor yX7_cross.desc).map (fun d => d.parameters.length) = some 1) := by decide +kernel
theorem k_X7_cross {l : Launch} (hst : l.stackTraces = false) {G : gaG} {X : String → gaH → Prop} {a0 : Nat} {a1 : Int} {h : gaH} {Q : Int → gaH → Prop} (hw : w_X7_cross a0 a1 h Q) : gaC l G yX7_cross (gaM yX7_cross cX7_cross 2 ((some .int))) rm_X7_cross [.ref a0, gi a1] h (gQi Q) X := by
  refine g_start (lv := [some (.ref a0), some (gi a1)]) hpl_RX7 hst (Nat.le_of_ble_eq_true rfl) (gaArgs_pad (z := 0) rfl) ww_7_34 ?_
  intro p e s m args below meth c V hT
  show gaP p l e rm_X7_cross s m args below meth c G 2 (gaZ below G (gQi Q) X args s rm_X7_cross) 0 [some (.ref a0), some (gi a1)] [] h 134 8576
  unfold w_X7_cross at hw
  refine g_aload_n V dX7_cross_0 rfl rfl ?_
  refine g_iload_n V dX7_cross_1 rfl rfl ?_
  refine g_callS (st := [.ref a0]) V (k_X7_isNoGrowth hst hw) ww_6_110 ww_6_111 ww_1_5 ww_6_112 hd_X7_isNoGrowth ⟨by decide, by decide⟩ rfl rfl (ga_cat rfl) dX7_cross_2 (Nat.zero_le _) (Nat.zero_le _) rfl (gaX_all hT V) (ga_ki (fun r2 hp1 hw => ?_))
  refine g_iconst V (Int32.ofInt 1) dX7_cross_5 rfl rfl ?_
  obtain ⟨hb, hw⟩ := hw
  obtain ⟨fb, hb⟩ := hb
  refine g_callV (C := RX7) (T := TX7) (N := 8) (st := []) V (k_X7_start hst hw) ww_5_220 ww_5_222 wp_2_2 ww_1_5 ww_5_223 hd_X7_start ⟨by decide, by decide⟩ rfl (by decide) hb rfl rfl (ga_cat rfl) dX7_cross_6 (Nat.zero_le _) (Nat.zero_le _) rfl (gaX_all hT V) (ga_ki (fun r4 hp3 hw => ?_))
  obtain ⟨hx0, hw⟩ := hw
  refine gi_if_eq V dX7_cross_9 rfl rfl hx0 (fun q => ?_) (fun q => ?_)
  · have hw := ga_t q hw
    refine g_aload_n V dX7_cross_16 rfl rfl ?_
    refine g_iload_n V dX7_cross_17 rfl rfl ?_
    refine g_iconst V (Int32.ofInt 0) dX7_cross_18 rfl rfl ?_
    obtain ⟨hb, hw⟩ := hw
    obtain ⟨fb, hb⟩ := hb
    obtain ⟨hk, hj, c7, s8, ec, es, hw⟩ := hw
    refine g_callV (C := RX7) (T := TX7) (N := 8) (st := []) V (k_X7_word hst hw) ww_7_19 ww_7_21 wp_2_15 ww_1_5 ww_7_22 hd_X7_word ⟨by decide, by decide⟩ rfl (by decide) hb rfl rfl (ga_cat rfl) dX7_cross_19 hk hj rfl (gaX_all hT V) (ga_ka (fun r6 hp5 hw => ?_))
    refine ga_re ec es ?_
    refine g_aload_n V dX7_cross_22 rfl rfl ?_
    refine g_iload_n V dX7_cross_23 rfl rfl ?_
    refine g_iconst V (Int32.ofInt 1) dX7_cross_24 rfl rfl ?_
    obtain ⟨hb, hw⟩ := hw
    obtain ⟨fb, hb⟩ := hb
    obtain ⟨hk, hj, c11, s12, ec, es, hw⟩ := hw
    refine g_callV (C := RX7) (T := TX7) (N := 8) (st := [.ref r6]) V (k_X7_word hst hw) ww_7_19 ww_7_21 wp_2_15 ww_1_5 ww_7_22 hd_X7_word ⟨by decide, by decide⟩ rfl (by decide) hb rfl rfl (ga_cat rfl) dX7_cross_25 hk hj rfl (gaX_all hT V) (ga_ka (fun r10 hp9 hw => ?_))
    refine ga_re ec es ?_
    refine g_callS (st := []) V (k_X7_crossOf hst hw) ww_7_35 ww_7_36 ww_1_5 ww_7_37 hd_X7_crossOf ⟨by decide, by decide⟩ rfl rfl (ga_cat rfl) dX7_cross_28 (Nat.zero_le _) (Nat.zero_le _) rfl (gaX_all hT V) (ga_ki (fun r14 hp13 hw => ?_))
    exact g_iret V rfl rfl dX7_cross_31 ⟨_, rfl, hw⟩
  · have hw := ga_f q hw
    refine g_iconst V (Int32.ofInt 0) dX7_cross_12 rfl rfl ?_
    refine g_goto V dX7_cross_13 rfl ?_
    exact g_iret V rfl rfl dX7_cross_31 ⟨_, rfl, hw⟩
def w_X7_cutTo_J80 (Q : Int → gaH → Prop) (v0 : Nat) (v1 : Int) (v3 : Nat) (v4 : Nat) (h : gaH) (kc ks : Nat) : Prop := gHas h v0 7 ∧ w_X7_comes v0 v1 v4 h (fun r2 hp1 => gAL hp1 v3 102 (fun r3 => Q r3 hp1))
def w_X7_cutTo_L52 (Q : Int → gaH → Prop) : Nat → (Nat → Int → Int → Nat → Nat → Int → gaH → Nat → Nat → Prop)
  | 0 => fun _ _ _ _ _ _ _ _ _ => False
  | n + 1 => fun v0 v1 v2 v3 v4 v5 h kc ks => gR v5 ∧ gR v2 ∧ (if v2 ≤ v5 then w_X7_cutTo_J80 Q v0 v1 v3 v4 h kc ks else gAL h v3 102 (fun r1 => gR v5 ∧ gR r1 ∧ (if r1 ≤ v5 then w_X7_cutTo_J80 Q v0 v1 v3 v4 h kc ks else gLI h v3 102 v5 (fun r2 => gSI h v4 102 v5 (gi r2) (fun hp3 => w_X7_cutTo_L52 Q n v0 v1 v2 v3 v4 (v5 + 1) hp3 kc ks)))))
def w_X7_cutTo_J28 (Q : Int → gaH → Prop) (v0 : Nat) (v1 : Int) (v2 : Int) (t0 : Nat) (t1 : Int) (h : gaH) (kc ks : Nat) : Prop := gHas h t0 7 ∧ w_X7_refuse t0 t1 2 h (fun r2 hp1 => gR r2 ∧ (if r2 = 0 then gA hp1 v0 7 0 (fun r3 => gLA hp1 r3 112 v1 (fun r4 => gNA hp1 102 (gi 0) v2 kc ks (fun o5 hp6 c7 s8 => ∃ z, w_X7_cutTo_L52 Q z v0 v1 v2 r4 o5 0 hp6 c7 s8))) else Q 0 hp1))
def w_X7_cutTo (a0 : Nat) (a1 : Int) (a2 : Int) (h : gaH) (Q : Int → gaH → Prop) : Prop := w_X7_isNoSheet a1 h (fun r2 hp1 => gHas hp1 a0 7 ∧ w_X7_start a0 r2 1 hp1 (fun r4 hp3 => gR r4 ∧ (if r4 = 0 then w_X7_isIn a2 0 64 hp3 (fun r6 hp5 => gR r6 ∧ (if r6 = 0 then w_X7_cutTo_J28 Q a0 a1 a2 a0 1 hp5 1 64 else w_X7_cutTo_J28 Q a0 a1 a2 a0 0 hp5 1 64)) else Q 0 hp3)))
abbrev rm_X7_cutTo : Room := { frames := 2, cells := 1, slots := 64, locals := 44 }
theorem hd_X7_cutTo : yX7_cutTo.cls = RX7 ∧ (yX7_cutTo.cls ≠ "java/lang/invoke/MethodHandle" ∧ yX7_cutTo.cls ≠ "java/lang/invoke/VarHandle" ∧ (parseMethodDescriptor yX7_cutTo.desc).map (fun d => d.parameters.length) = some 2) := by decide +kernel
theorem k_X7_cutTo {l : Launch} (hst : l.stackTraces = false) {G : gaG} {X : String → gaH → Prop} {a0 : Nat} {a1 : Int} {a2 : Int} {h : gaH} {Q : Int → gaH → Prop} (hw : w_X7_cutTo a0 a1 a2 h Q) : gaC l G yX7_cutTo (gaM yX7_cutTo cX7_cutTo 6 ((some .int))) rm_X7_cutTo [.ref a0, gi a1, gi a2] h (gQi Q) X := by
  refine g_start (lv := [some (.ref a0), some (gi a1), some (gi a2), none, none, none]) hpl_RX7 hst (Nat.le_of_ble_eq_true rfl) (gaArgs_pad (z := 3) rfl) ww_6_56 ?_
  intro p e s m args below meth c V hT
  have h_X7_cutTo_J80 : ∀ (v0 : Nat) (v1 : Int) (v3 : Nat) (v4 : Nat) (h : gaH) (kc ks : Nat), w_X7_cutTo_J80 Q v0 v1 v3 v4 h kc ks → gaP p l e rm_X7_cutTo s m args below meth c G 6 (gaZ below G (gQi Q) X args s rm_X7_cutTo) 80 [some (.ref v0), some (gi v1), none, some (.ref v3), some (.ref v4), none] [] h kc ks := by
    intro v0 v1 v3 v4 h kc ks hw
    unfold w_X7_cutTo_J80 at hw
    refine g_aload_n V dX7_cutTo_80 rfl rfl ?_
    refine g_iload_n V dX7_cutTo_81 rfl rfl ?_
    refine g_aload V dX7_cutTo_82 rfl rfl ?_
    obtain ⟨hb, hw⟩ := hw
    obtain ⟨fb, hb⟩ := hb
    refine g_callV (C := RX7) (T := TX7) (N := 8) (st := []) V (k_X7_comes hst hw) ww_5_232 ww_5_234 wp_2_4 ww_1_5 ww_5_235 hd_X7_comes ⟨by decide, by decide⟩ rfl (by decide) hb rfl rfl (ga_cat rfl) dX7_cutTo_84 (Nat.zero_le _) (Nat.zero_le _) rfl (gaX_all hT V) (ga_ki (fun r2 hp1 hw => ?_))
    refine g_pop V dX7_cutTo_87 rfl rfl ?_
    refine g_aload_n V dX7_cutTo_88 rfl rfl ?_
    obtain ⟨t9, vs, ha, ht, hw⟩ := hw
    refine gi_arraylength (t0 := 102) V (by simp [gaT]) ha ht dX7_cutTo_89 rfl ?_
    generalize (vs.length : Int) = r3 at hw ⊢
    exact g_iret V rfl rfl dX7_cutTo_90 ⟨_, rfl, hw⟩
  have h_X7_cutTo_L52 : ∀ (n : Nat), ∀ (v0 : Nat) (v1 : Int) (v2 : Int) (v3 : Nat) (v4 : Nat) (v5 : Int) (h : gaH) (kc ks : Nat), w_X7_cutTo_L52 Q n v0 v1 v2 v3 v4 v5 h kc ks → gaP p l e rm_X7_cutTo s m args below meth c G 6 (gaZ below G (gQi Q) X args s rm_X7_cutTo) 52 [some (.ref v0), some (gi v1), some (gi v2), some (.ref v3), some (.ref v4), some (gi v5)] [] h kc ks := by
    intro n
    induction n with
    | zero =>
      intro v0 v1 v2 v3 v4 v5 h kc ks hw
      exact hw.elim
    | succ n ih =>
      intro v0 v1 v2 v3 v4 v5 h kc ks hw
      unfold w_X7_cutTo_L52 at hw
      refine g_iload V dX7_cutTo_52 rfl rfl ?_
      refine g_iload_n V dX7_cutTo_54 rfl rfl ?_
      obtain ⟨hx0, hx1, hw⟩ := hw
      refine gi_icmp_ge V dX7_cutTo_55 rfl rfl hx0 hx1 (fun q => ?_) (fun q => ?_)
      · have hw := ga_t q hw
        refine g_less (bs := [true, true, false, true, true, false]) (lv2 := [some (.ref v0), some (gi v1), none, some (.ref v3), some (.ref v4), none]) rfl ?_
        exact h_X7_cutTo_J80 v0 v1 v3 v4 h kc ks hw
      · have hw := ga_f q hw
        refine g_iload V dX7_cutTo_58 rfl rfl ?_
        refine g_aload_n V dX7_cutTo_60 rfl rfl ?_
        obtain ⟨t9, vs, ha, ht, hw⟩ := hw
        refine gi_arraylength (t0 := 102) V (by simp [gaT]) ha ht dX7_cutTo_61 rfl ?_
        generalize (vs.length : Int) = r1 at hw ⊢
        obtain ⟨hx0, hx1, hw⟩ := hw
        refine gi_icmp_ge V dX7_cutTo_62 rfl rfl hx0 hx1 (fun q => ?_) (fun q => ?_)
        · have hw := ga_t q hw
          refine g_less (bs := [true, true, false, true, true, false]) (lv2 := [some (.ref v0), some (gi v1), none, some (.ref v3), some (.ref v4), none]) rfl ?_
          exact h_X7_cutTo_J80 v0 v1 v3 v4 h kc ks hw
        · have hw := ga_f q hw
          refine g_aload V dX7_cutTo_65 rfl rfl ?_
          refine g_iload V dX7_cutTo_67 rfl rfl ?_
          refine g_aload_n V dX7_cutTo_69 rfl rfl ?_
          refine g_iload V dX7_cutTo_70 rfl rfl ?_
          obtain ⟨t9, vs, r2, ha, ht, h0, h9, hv, hw⟩ := hw
          refine gi_iaload V ha ht h0 h9 hv dX7_cutTo_72 rfl ?_
          obtain ⟨vs, ha, h0, h9, hi, hw⟩ := hw
          refine gi_iastore V ha h0 h9 hi dX7_cutTo_73 rfl ?_
          generalize gaUp h v4 _ = hp3 at hw ⊢
          refine gi_iinc (lv2 := [some (.ref v0), some (gi v1), some (gi v2), some (.ref v3), some (.ref v4), some (gi (v5 + 1))]) V dX7_cutTo_74 (by decide) rfl rfl rfl rfl ?_
          refine g_goto V dX7_cutTo_77 rfl ?_
          exact ih v0 v1 v2 v3 v4 (v5 + 1) hp3 kc ks hw
  have h_X7_cutTo_J28 : ∀ (v0 : Nat) (v1 : Int) (v2 : Int) (t0 : Nat) (t1 : Int) (h : gaH) (kc ks : Nat), w_X7_cutTo_J28 Q v0 v1 v2 t0 t1 h kc ks → gaP p l e rm_X7_cutTo s m args below meth c G 6 (gaZ below G (gQi Q) X args s rm_X7_cutTo) 28 [some (.ref v0), some (gi v1), some (gi v2), none, none, none] [gi t1, .ref t0] h kc ks := by
    intro v0 v1 v2 t0 t1 h kc ks hw
    unfold w_X7_cutTo_J28 at hw
    refine g_iconst V (Int32.ofInt 2) dX7_cutTo_28 rfl rfl ?_
    obtain ⟨hb, hw⟩ := hw
    obtain ⟨fb, hb⟩ := hb
    refine g_callV (C := RX7) (T := TX7) (N := 8) (st := []) V (k_X7_refuse hst hw) ww_5_224 ww_5_226 wp_2_3 ww_1_5 ww_5_227 hd_X7_refuse ⟨by decide, by decide⟩ rfl (by decide) hb rfl rfl (ga_cat rfl) dX7_cutTo_29 (Nat.zero_le _) (Nat.zero_le _) rfl (gaX_all hT V) (ga_ki (fun r2 hp1 hw => ?_))
    obtain ⟨hx0, hw⟩ := hw
    refine gi_if_eq V dX7_cutTo_32 rfl rfl hx0 (fun q => ?_) (fun q => ?_)
    · have hw := ga_t q hw
      refine g_aload_n V dX7_cutTo_37 rfl rfl ?_
      obtain ⟨fs, r3, ha, hv, hw⟩ := hw
      refine g_get (C := RX7) (T := TX7) (N := 8) V 0 rfl hin_RX7 (by decide) (by decide) ww_5_181 rfl ha hv dX7_cutTo_38 rfl ?_
      refine g_iload_n V dX7_cutTo_41 rfl rfl ?_
      obtain ⟨vs, r4, ha, h0, h9, hv, hw⟩ := hw
      refine gi_aaload V ha (by decide) h0 h9 hv dX7_cutTo_42 rfl ?_
      refine g_astore_n (lv2 := [some (.ref v0), some (gi v1), some (gi v2), some (.ref r4), none, none]) V dX7_cutTo_43 (by decide) rfl rfl rfl ?_
      refine g_iload_n V dX7_cutTo_44 rfl rfl ?_
      obtain ⟨h0, h9, hk, hj, hw⟩ := hw
      refine gi_newarray (atype := .int) (t := 102) V (by decide) rfl ww_1_109 h0 h9 dX7_cutTo_45 rfl hk hj (fun o5 hf => ?_)
      obtain ⟨c7, s8, ec, es, hw⟩ := hw o5 hf
      refine ga_re ec es ?_
      generalize gaUp hp1 o5 _ = hp6 at hw ⊢
      refine g_astore (lv2 := [some (.ref v0), some (gi v1), some (gi v2), some (.ref r4), some (.ref o5), none]) V dX7_cutTo_47 (by decide) rfl rfl rfl ?_
      refine g_iconst V (Int32.ofInt 0) dX7_cutTo_49 rfl rfl ?_
      refine g_istore (lv2 := [some (.ref v0), some (gi v1), some (gi v2), some (.ref r4), some (.ref o5), some (gi 0)]) V dX7_cutTo_50 (by decide) rfl rfl rfl ?_
      obtain ⟨z, hw⟩ := hw
      exact h_X7_cutTo_L52 z v0 v1 v2 r4 o5 0 hp6 c7 s8 hw
    · have hw := ga_f q hw
      refine g_iconst V (Int32.ofInt 0) dX7_cutTo_35 rfl rfl ?_
      exact g_iret V rfl rfl dX7_cutTo_36 ⟨_, rfl, hw⟩
  show gaP p l e rm_X7_cutTo s m args below meth c G 6 (gaZ below G (gQi Q) X args s rm_X7_cutTo) 0 [some (.ref a0), some (gi a1), some (gi a2), none, none, none] [] h 1 64
  unfold w_X7_cutTo at hw
  refine g_aload_n V dX7_cutTo_0 rfl rfl ?_
  refine g_iload_n V dX7_cutTo_1 rfl rfl ?_
  refine g_callS (st := [.ref a0]) V (k_X7_isNoSheet hst hw) ww_5_214 ww_5_215 ww_1_5 ww_5_216 hd_X7_isNoSheet ⟨by decide, by decide⟩ rfl rfl (ga_cat rfl) dX7_cutTo_2 (Nat.zero_le _) (Nat.zero_le _) rfl (gaX_all hT V) (ga_ki (fun r2 hp1 hw => ?_))
  refine g_iconst V (Int32.ofInt 1) dX7_cutTo_5 rfl rfl ?_
  obtain ⟨hb, hw⟩ := hw
  obtain ⟨fb, hb⟩ := hb
  refine g_callV (C := RX7) (T := TX7) (N := 8) (st := []) V (k_X7_start hst hw) ww_5_220 ww_5_222 wp_2_2 ww_1_5 ww_5_223 hd_X7_start ⟨by decide, by decide⟩ rfl (by decide) hb rfl rfl (ga_cat rfl) dX7_cutTo_6 (Nat.zero_le _) (Nat.zero_le _) rfl (gaX_all hT V) (ga_ki (fun r4 hp3 hw => ?_))
  obtain ⟨hx0, hw⟩ := hw
  refine gi_if_ne V dX7_cutTo_9 rfl rfl hx0 (fun q => ?_) (fun q => ?_)
  · have hw := ga_f q hw
    refine g_iconst V (Int32.ofInt 0) dX7_cutTo_35 rfl rfl ?_
    exact g_iret V rfl rfl dX7_cutTo_36 ⟨_, rfl, hw⟩
  · have hw := ga_t q hw
    refine g_aload_n V dX7_cutTo_12 rfl rfl ?_
    refine g_iload_n V dX7_cutTo_13 rfl rfl ?_
    refine g_iconst V (Int32.ofInt 0) dX7_cutTo_14 rfl rfl ?_
    refine g_bipush V (Int32.ofInt 64) dX7_cutTo_15 rfl rfl ?_
    refine g_callS (st := [.ref a0]) V (k_X7_isIn hst hw) ww_5_217 ww_5_218 ww_1_5 ww_5_219 hd_X7_isIn ⟨by decide, by decide⟩ rfl rfl (ga_cat rfl) dX7_cutTo_17 (Nat.zero_le _) (Nat.zero_le _) rfl (gaX_all hT V) (ga_ki (fun r6 hp5 hw => ?_))
    obtain ⟨hx0, hw⟩ := hw
    refine gi_if_ne V dX7_cutTo_20 rfl rfl hx0 (fun q => ?_) (fun q => ?_)
    · have hw := ga_f q hw
      refine g_iconst V (Int32.ofInt 0) dX7_cutTo_27 rfl rfl ?_
      exact h_X7_cutTo_J28 a0 a1 a2 a0 0 hp5 1 64 hw
    · have hw := ga_t q hw
      refine g_iconst V (Int32.ofInt 1) dX7_cutTo_23 rfl rfl ?_
      refine g_goto V dX7_cutTo_24 rfl ?_
      exact h_X7_cutTo_J28 a0 a1 a2 a0 1 hp5 1 64 hw
def w_X7_isMirrored_L2 (Q : Int → gaH → Prop) : Nat → (Nat → Int → Int → Int → gaH → Prop)
  | 0 => fun _ _ _ _ _ => False
  | n + 1 => fun v0 v1 v2 v3 h => gR v3 ∧ gR (v2 - v1) ∧ (if (v2 - v1) ≤ v3 then Q 1 h else gLI h v0 102 (v1 + v3) (fun r1 => gLI h v0 102 ((v2 - 1) - v3) (fun r2 => gR r1 ∧ gR r2 ∧ (if r1 = r2 then w_X7_isMirrored_L2 Q n v0 v1 v2 (v3 + 1) h else Q 0 h))))
def w_X7_isMirrored (a0 : Nat) (a1 : Int) (a2 : Int) (h : gaH) (Q : Int → gaH → Prop) : Prop := ∃ z, w_X7_isMirrored_L2 Q z a0 a1 a2 0 h
abbrev rm_X7_isMirrored : Room := { frames := 0, cells := 0, slots := 0, locals := 0 }
theorem hd_X7_isMirrored : (yX7_isMirrored.cls ≠ "java/lang/invoke/MethodHandle" ∧ yX7_isMirrored.cls ≠ "java/lang/invoke/VarHandle" ∧ (parseMethodDescriptor yX7_isMirrored.desc).map (fun d => d.parameters.length) = some 3) := by decide +kernel
theorem k_X7_isMirrored {l : Launch} (hst : l.stackTraces = false) {G : gaG} {X : String → gaH → Prop} {a0 : Nat} {a1 : Int} {a2 : Int} {h : gaH} {Q : Int → gaH → Prop} (hw : w_X7_isMirrored a0 a1 a2 h Q) : gaC l G yX7_isMirrored (gaM yX7_isMirrored cX7_isMirrored 4 ((some .boolean))) rm_X7_isMirrored [.ref a0, gi a1, gi a2] h (gQi Q) X := by
  refine g_start (lv := [some (.ref a0), some (gi a1), some (gi a2), none]) hpl_RX7 hst (Nat.le_of_ble_eq_true rfl) (gaArgs_pad (z := 1) rfl) ww_6_197 ?_
  intro p e s m args below meth c V hT
  have h_X7_isMirrored_L2 : ∀ (n : Nat), ∀ (v0 : Nat) (v1 : Int) (v2 : Int) (v3 : Int) (h : gaH), w_X7_isMirrored_L2 Q n v0 v1 v2 v3 h → gaP p l e rm_X7_isMirrored s m args below meth c G 4 (gaZ below G (gQi Q) X args s rm_X7_isMirrored) 2 [some (.ref v0), some (gi v1), some (gi v2), some (gi v3)] [] h 0 0 := by
    intro n
    induction n with
    | zero =>
      intro v0 v1 v2 v3 h hw
      exact hw.elim
    | succ n ih =>
      intro v0 v1 v2 v3 h hw
      unfold w_X7_isMirrored_L2 at hw
      refine g_iload_n V dX7_isMirrored_2 rfl rfl ?_
      refine g_iload_n V dX7_isMirrored_3 rfl rfl ?_
      refine g_iload_n V dX7_isMirrored_4 rfl rfl ?_
      refine gi_isub V dX7_isMirrored_5 rfl ?_
      obtain ⟨hx0, hx1, hw⟩ := hw
      refine gi_icmp_ge V dX7_isMirrored_6 rfl rfl hx0 hx1 (fun q => ?_) (fun q => ?_)
      · have hw := ga_t q hw
        refine g_iconst V (Int32.ofInt 1) dX7_isMirrored_32 rfl rfl ?_
        exact g_iret V rfl rfl dX7_isMirrored_33 ⟨_, rfl, hw⟩
      · have hw := ga_f q hw
        refine g_aload_n V dX7_isMirrored_9 rfl rfl ?_
        refine g_iload_n V dX7_isMirrored_10 rfl rfl ?_
        refine g_iload_n V dX7_isMirrored_11 rfl rfl ?_
        refine gi_iadd V dX7_isMirrored_12 rfl ?_
        obtain ⟨t9, vs, r1, ha, ht, h0, h9, hv, hw⟩ := hw
        refine gi_iaload V ha ht h0 h9 hv dX7_isMirrored_13 rfl ?_
        refine g_aload_n V dX7_isMirrored_14 rfl rfl ?_
        refine g_iload_n V dX7_isMirrored_15 rfl rfl ?_
        refine g_iconst V (Int32.ofInt 1) dX7_isMirrored_16 rfl rfl ?_
        refine gi_isub V dX7_isMirrored_17 rfl ?_
        refine g_iload_n V dX7_isMirrored_18 rfl rfl ?_
        refine gi_isub V dX7_isMirrored_19 rfl ?_
        obtain ⟨t9, vs, r2, ha, ht, h0, h9, hv, hw⟩ := hw
        refine gi_iaload V ha ht h0 h9 hv dX7_isMirrored_20 rfl ?_
        obtain ⟨hx0, hx1, hw⟩ := hw
        refine gi_icmp_eq V dX7_isMirrored_21 rfl rfl hx0 hx1 (fun q => ?_) (fun q => ?_)
        · have hw := ga_t q hw
          refine gi_iinc (lv2 := [some (.ref v0), some (gi v1), some (gi v2), some (gi (v3 + 1))]) V dX7_isMirrored_26 (by decide) rfl rfl rfl rfl ?_
          refine g_goto V dX7_isMirrored_29 rfl ?_
          exact ih v0 v1 v2 (v3 + 1) h hw
        · have hw := ga_f q hw
          refine g_iconst V (Int32.ofInt 0) dX7_isMirrored_24 rfl rfl ?_
          exact g_iret V rfl rfl dX7_isMirrored_25 ⟨_, rfl, hw⟩
  unfold w_X7_isMirrored at hw
  refine g_iconst V (Int32.ofInt 0) dX7_isMirrored_0 rfl rfl ?_
  refine g_istore_n (lv2 := [some (.ref a0), some (gi a1), some (gi a2), some (gi 0)]) V dX7_isMirrored_1 (by decide) rfl rfl rfl ?_
  obtain ⟨z, hw⟩ := hw
  exact h_X7_isMirrored_L2 z a0 a1 a2 0 h hw
def w_X7_timesOf_J57 (Q : Int → gaH → Prop) (K4 : Nat → Int → Int → gaH → Prop) (K12 : Nat → Int → Int → Int → gaH → Prop) (v0 : Nat) (v1 : Int) (v2 : Int) (v3 : Int) (v4 : Int) (h : gaH) : Prop := gR v1 ∧ gR v4 ∧ (K12 v0 (max v1 v4) v2 (v3 + 1) h)
def w_X7_timesOf_L23 (Q : Int → gaH → Prop) (K4 : Nat → Int → Int → gaH → Prop) (K12 : Nat → Int → Int → Int → gaH → Prop) : Nat → (Nat → Int → Int → Int → Int → gaH → Prop)
  | 0 => fun _ _ _ _ _ _ => False
  | n + 1 => fun v0 v1 v2 v3 v4 h => gAL h v0 102 (fun r1 => gR (v2 + ((v4 + 1) * v3)) ∧ gR r1 ∧ (if r1 < (v2 + ((v4 + 1) * v3)) then w_X7_timesOf_J57 Q K4 K12 v0 v1 v2 v3 v4 h else w_X7_areLike v0 v2 (v2 + (v4 * v3)) v3 h (fun r3 hp2 => gR r3 ∧ (if r3 = 0 then w_X7_timesOf_J57 Q K4 K12 v0 v1 v2 v3 v4 hp2 else w_X7_timesOf_L23 Q K4 K12 n v0 v1 v2 v3 (v4 + 1) hp2))))
def w_X7_timesOf_L12 (Q : Int → gaH → Prop) (K4 : Nat → Int → Int → gaH → Prop) : Nat → (Nat → Int → Int → Int → gaH → Prop)
  | 0 => fun _ _ _ _ _ => False
  | n + 1 => fun v0 v1 v2 v3 h => gAL h v0 102 (fun r1 => gR (v2 + v3) ∧ gR r1 ∧ (if r1 < (v2 + v3) then K4 v0 v1 (v2 + 1) h else ∃ z, w_X7_timesOf_L23 Q K4 (w_X7_timesOf_L12 Q K4 n) z v0 v1 v2 v3 1 h))
def w_X7_timesOf_L4 (Q : Int → gaH → Prop) : Nat → (Nat → Int → Int → gaH → Prop)
  | 0 => fun _ _ _ _ => False
  | n + 1 => fun v0 v1 v2 h => gAL h v0 102 (fun r1 => gR v2 ∧ gR r1 ∧ (if r1 ≤ v2 then Q v1 h else ∃ z, w_X7_timesOf_L12 Q (w_X7_timesOf_L4 Q n) z v0 v1 v2 1 h))
def w_X7_timesOf (a0 : Nat) (h : gaH) (Q : Int → gaH → Prop) : Prop := ∃ z, w_X7_timesOf_L4 Q z a0 0 0 h
abbrev rm_X7_timesOf : Room := { frames := 2, cells := 0, slots := 0, locals := 60 }
theorem hd_X7_timesOf : (yX7_timesOf.cls ≠ "java/lang/invoke/MethodHandle" ∧ yX7_timesOf.cls ≠ "java/lang/invoke/VarHandle" ∧ (parseMethodDescriptor yX7_timesOf.desc).map (fun d => d.parameters.length) = some 1) := by decide +kernel
theorem k_X7_timesOf {l : Launch} (hst : l.stackTraces = false) {G : gaG} {X : String → gaH → Prop} {a0 : Nat} {h : gaH} {Q : Int → gaH → Prop} (hw : w_X7_timesOf a0 h Q) : gaC l G yX7_timesOf (gaM yX7_timesOf cX7_timesOf 5 ((some .int))) rm_X7_timesOf [.ref a0] h (gQi Q) X := by
  refine g_start (lv := [some (.ref a0), none, none, none, none]) hpl_RX7 hst (Nat.le_of_ble_eq_true rfl) (gaArgs_pad (z := 4) rfl) ww_6_220 ?_
  intro p e s m args below meth c V hT
  have h_X7_timesOf_J57 : ∀ (K4 : Nat → Int → Int → gaH → Prop), ∀ (K12 : Nat → Int → Int → Int → gaH → Prop), ∀ (hK4 : ∀ (v0 : Nat) (v1 : Int) (v2 : Int) (h : gaH), K4 v0 v1 v2 h → gaP p l e rm_X7_timesOf s m args below meth c G 5 (gaZ below G (gQi Q) X args s rm_X7_timesOf) 4 [some (.ref v0), some (gi v1), some (gi v2), none, none] [] h 0 0), ∀ (hK12 : ∀ (v0 : Nat) (v1 : Int) (v2 : Int) (v3 : Int) (h : gaH), K12 v0 v1 v2 v3 h → gaP p l e rm_X7_timesOf s m args below meth c G 5 (gaZ below G (gQi Q) X args s rm_X7_timesOf) 12 [some (.ref v0), some (gi v1), some (gi v2), some (gi v3), none] [] h 0 0), ∀ (v0 : Nat) (v1 : Int) (v2 : Int) (v3 : Int) (v4 : Int) (h : gaH), w_X7_timesOf_J57 Q K4 K12 v0 v1 v2 v3 v4 h → gaP p l e rm_X7_timesOf s m args below meth c G 5 (gaZ below G (gQi Q) X args s rm_X7_timesOf) 57 [some (.ref v0), some (gi v1), some (gi v2), some (gi v3), some (gi v4)] [] h 0 0 := by
    intro K4 K12 hK4 hK12
    intro v0 v1 v2 v3 v4 h hw
    unfold w_X7_timesOf_J57 at hw
    refine g_iload_n V dX7_timesOf_57 rfl rfl ?_
    refine g_iload V dX7_timesOf_58 rfl rfl ?_
    obtain ⟨hx0, hx1, hw⟩ := hw
    refine gi_mmax V ww_6_205 ww_2_118 ww_1_13 ww_2_119 (by decide) (by decide) (ga_cat rfl) hx0 hx1 dX7_timesOf_60 rfl ?_
    refine g_istore_n (lv2 := [some (.ref v0), some (gi (max v1 v4)), some (gi v2), some (gi v3), some (gi v4)]) V dX7_timesOf_63 (by decide) rfl rfl rfl ?_
    refine gi_iinc (lv2 := [some (.ref v0), some (gi (max v1 v4)), some (gi v2), some (gi (v3 + 1)), some (gi v4)]) V dX7_timesOf_64 (by decide) rfl rfl rfl rfl ?_
    refine g_goto V dX7_timesOf_67 rfl ?_
    refine g_less (bs := [true, true, true, true, false]) (lv2 := [some (.ref v0), some (gi (max v1 v4)), some (gi v2), some (gi (v3 + 1)), none]) rfl ?_
    exact hK12 v0 (max v1 v4) v2 (v3 + 1) h hw
  have h_X7_timesOf_L23 : ∀ (K4 : Nat → Int → Int → gaH → Prop), ∀ (K12 : Nat → Int → Int → Int → gaH → Prop), ∀ (hK4 : ∀ (v0 : Nat) (v1 : Int) (v2 : Int) (h : gaH), K4 v0 v1 v2 h → gaP p l e rm_X7_timesOf s m args below meth c G 5 (gaZ below G (gQi Q) X args s rm_X7_timesOf) 4 [some (.ref v0), some (gi v1), some (gi v2), none, none] [] h 0 0), ∀ (hK12 : ∀ (v0 : Nat) (v1 : Int) (v2 : Int) (v3 : Int) (h : gaH), K12 v0 v1 v2 v3 h → gaP p l e rm_X7_timesOf s m args below meth c G 5 (gaZ below G (gQi Q) X args s rm_X7_timesOf) 12 [some (.ref v0), some (gi v1), some (gi v2), some (gi v3), none] [] h 0 0), ∀ (n : Nat), ∀ (v0 : Nat) (v1 : Int) (v2 : Int) (v3 : Int) (v4 : Int) (h : gaH), w_X7_timesOf_L23 Q K4 K12 n v0 v1 v2 v3 v4 h → gaP p l e rm_X7_timesOf s m args below meth c G 5 (gaZ below G (gQi Q) X args s rm_X7_timesOf) 23 [some (.ref v0), some (gi v1), some (gi v2), some (gi v3), some (gi v4)] [] h 0 0 := by
    intro K4 K12 hK4 hK12
    intro n
    induction n with
    | zero =>
      intro v0 v1 v2 v3 v4 h hw
      exact hw.elim
    | succ n ih =>
      intro v0 v1 v2 v3 v4 h hw
      unfold w_X7_timesOf_L23 at hw
      refine g_iload_n V dX7_timesOf_23 rfl rfl ?_
      refine g_iload V dX7_timesOf_24 rfl rfl ?_
      refine g_iconst V (Int32.ofInt 1) dX7_timesOf_26 rfl rfl ?_
      refine gi_iadd V dX7_timesOf_27 rfl ?_
      refine g_iload_n V dX7_timesOf_28 rfl rfl ?_
      refine gi_imul V dX7_timesOf_29 rfl ?_
      refine gi_iadd V dX7_timesOf_30 rfl ?_
      refine g_aload_n V dX7_timesOf_31 rfl rfl ?_
      obtain ⟨t9, vs, ha, ht, hw⟩ := hw
      refine gi_arraylength (t0 := 102) V (by simp [gaT]) ha ht dX7_timesOf_32 rfl ?_
      generalize (vs.length : Int) = r1 at hw ⊢
      obtain ⟨hx0, hx1, hw⟩ := hw
      refine gi_icmp_gt V dX7_timesOf_33 rfl rfl hx0 hx1 (fun q => ?_) (fun q => ?_)
      · have hw := ga_t q hw
        exact h_X7_timesOf_J57 K4 K12 hK4 hK12 v0 v1 v2 v3 v4 h hw
      · have hw := ga_f q hw
        refine g_aload_n V dX7_timesOf_36 rfl rfl ?_
        refine g_iload_n V dX7_timesOf_37 rfl rfl ?_
        refine g_iload_n V dX7_timesOf_38 rfl rfl ?_
        refine g_iload V dX7_timesOf_39 rfl rfl ?_
        refine g_iload_n V dX7_timesOf_41 rfl rfl ?_
        refine gi_imul V dX7_timesOf_42 rfl ?_
        refine gi_iadd V dX7_timesOf_43 rfl ?_
        refine g_iload_n V dX7_timesOf_44 rfl rfl ?_
        refine g_callS (st := []) V (k_X7_areLike hst hw) ww_6_211 ww_6_212 ww_1_5 ww_6_213 hd_X7_areLike ⟨by decide, by decide⟩ rfl rfl (ga_cat rfl) dX7_timesOf_45 (Nat.zero_le _) (Nat.zero_le _) rfl (gaX_all hT V) (ga_ki (fun r3 hp2 hw => ?_))
        obtain ⟨hx0, hw⟩ := hw
        refine gi_if_eq V dX7_timesOf_48 rfl rfl hx0 (fun q => ?_) (fun q => ?_)
        · have hw := ga_t q hw
          exact h_X7_timesOf_J57 K4 K12 hK4 hK12 v0 v1 v2 v3 v4 hp2 hw
        · have hw := ga_f q hw
          refine gi_iinc (lv2 := [some (.ref v0), some (gi v1), some (gi v2), some (gi v3), some (gi (v4 + 1))]) V dX7_timesOf_51 (by decide) rfl rfl rfl rfl ?_
          refine g_goto V dX7_timesOf_54 rfl ?_
          exact ih v0 v1 v2 v3 (v4 + 1) hp2 hw
  have h_X7_timesOf_L12 : ∀ (K4 : Nat → Int → Int → gaH → Prop), ∀ (hK4 : ∀ (v0 : Nat) (v1 : Int) (v2 : Int) (h : gaH), K4 v0 v1 v2 h → gaP p l e rm_X7_timesOf s m args below meth c G 5 (gaZ below G (gQi Q) X args s rm_X7_timesOf) 4 [some (.ref v0), some (gi v1), some (gi v2), none, none] [] h 0 0), ∀ (n : Nat), ∀ (v0 : Nat) (v1 : Int) (v2 : Int) (v3 : Int) (h : gaH), w_X7_timesOf_L12 Q K4 n v0 v1 v2 v3 h → gaP p l e rm_X7_timesOf s m args below meth c G 5 (gaZ below G (gQi Q) X args s rm_X7_timesOf) 12 [some (.ref v0), some (gi v1), some (gi v2), some (gi v3), none] [] h 0 0 := by
    intro K4 hK4
    intro n
    induction n with
    | zero =>
      intro v0 v1 v2 v3 h hw
      exact hw.elim
    | succ n ih =>
      intro v0 v1 v2 v3 h hw
      unfold w_X7_timesOf_L12 at hw
      refine g_iload_n V dX7_timesOf_12 rfl rfl ?_
      refine g_iload_n V dX7_timesOf_13 rfl rfl ?_
      refine gi_iadd V dX7_timesOf_14 rfl ?_
      refine g_aload_n V dX7_timesOf_15 rfl rfl ?_
      obtain ⟨t9, vs, ha, ht, hw⟩ := hw
      refine gi_arraylength (t0 := 102) V (by simp [gaT]) ha ht dX7_timesOf_16 rfl ?_
      generalize (vs.length : Int) = r1 at hw ⊢
      obtain ⟨hx0, hx1, hw⟩ := hw
      refine gi_icmp_gt V dX7_timesOf_17 rfl rfl hx0 hx1 (fun q => ?_) (fun q => ?_)
      · have hw := ga_t q hw
        refine gi_iinc (lv2 := [some (.ref v0), some (gi v1), some (gi (v2 + 1)), some (gi v3), none]) V dX7_timesOf_70 (by decide) rfl rfl rfl rfl ?_
        refine g_goto V dX7_timesOf_73 rfl ?_
        refine g_less (bs := [true, true, true, false, true]) (lv2 := [some (.ref v0), some (gi v1), some (gi (v2 + 1)), none, none]) rfl ?_
        exact hK4 v0 v1 (v2 + 1) h hw
      · have hw := ga_f q hw
        refine g_iconst V (Int32.ofInt 1) dX7_timesOf_20 rfl rfl ?_
        refine g_istore (lv2 := [some (.ref v0), some (gi v1), some (gi v2), some (gi v3), some (gi 1)]) V dX7_timesOf_21 (by decide) rfl rfl rfl ?_
        obtain ⟨z, hw⟩ := hw
        exact h_X7_timesOf_L23 K4 (w_X7_timesOf_L12 Q K4 n) hK4 ih z v0 v1 v2 v3 1 h hw
  have h_X7_timesOf_L4 : ∀ (n : Nat), ∀ (v0 : Nat) (v1 : Int) (v2 : Int) (h : gaH), w_X7_timesOf_L4 Q n v0 v1 v2 h → gaP p l e rm_X7_timesOf s m args below meth c G 5 (gaZ below G (gQi Q) X args s rm_X7_timesOf) 4 [some (.ref v0), some (gi v1), some (gi v2), none, none] [] h 0 0 := by
    intro n
    induction n with
    | zero =>
      intro v0 v1 v2 h hw
      exact hw.elim
    | succ n ih =>
      intro v0 v1 v2 h hw
      unfold w_X7_timesOf_L4 at hw
      refine g_iload_n V dX7_timesOf_4 rfl rfl ?_
      refine g_aload_n V dX7_timesOf_5 rfl rfl ?_
      obtain ⟨t9, vs, ha, ht, hw⟩ := hw
      refine gi_arraylength (t0 := 102) V (by simp [gaT]) ha ht dX7_timesOf_6 rfl ?_
      generalize (vs.length : Int) = r1 at hw ⊢
      obtain ⟨hx0, hx1, hw⟩ := hw
      refine gi_icmp_ge V dX7_timesOf_7 rfl rfl hx0 hx1 (fun q => ?_) (fun q => ?_)
      · have hw := ga_t q hw
        refine g_iload_n V dX7_timesOf_76 rfl rfl ?_
        exact g_iret V rfl rfl dX7_timesOf_77 ⟨_, rfl, hw⟩
      · have hw := ga_f q hw
        refine g_iconst V (Int32.ofInt 1) dX7_timesOf_10 rfl rfl ?_
        refine g_istore_n (lv2 := [some (.ref v0), some (gi v1), some (gi v2), some (gi 1), none]) V dX7_timesOf_11 (by decide) rfl rfl rfl ?_
        obtain ⟨z, hw⟩ := hw
        exact h_X7_timesOf_L12 (w_X7_timesOf_L4 Q n) ih z v0 v1 v2 1 h hw
  unfold w_X7_timesOf at hw
  refine g_iconst V (Int32.ofInt 0) dX7_timesOf_0 rfl rfl ?_
  refine g_istore_n (lv2 := [some (.ref a0), some (gi 0), none, none, none]) V dX7_timesOf_1 (by decide) rfl rfl rfl ?_
  refine g_iconst V (Int32.ofInt 0) dX7_timesOf_2 rfl rfl ?_
  refine g_istore_n (lv2 := [some (.ref a0), some (gi 0), some (gi 0), none, none]) V dX7_timesOf_3 (by decide) rfl rfl rfl ?_
  obtain ⟨z, hw⟩ := hw
  exact h_X7_timesOf_L4 z a0 0 0 h hw
def w_X7_overlapsOf_L12 (Q : Int → gaH → Prop) (K4 : Nat → Int → Int → gaH → Prop) : Nat → (Nat → Int → Int → Int → gaH → Prop)
  | 0 => fun _ _ _ _ _ => False
  | n + 1 => fun v0 v1 v2 v3 h => gAL h v0 102 (fun r1 => gR (v2 + (2 * v3)) ∧ gR r1 ∧ (if r1 ≤ (v2 + (2 * v3)) then K4 v0 v1 (v2 + 1) h else w_X7_areLike v0 v2 (v2 + v3) (v3 + 1) h (fun r3 hp2 => w_X7_one r3 hp2 (fun r5 hp4 => w_X7_overlapsOf_L12 Q K4 n v0 (v1 + r5) v2 (v3 + 1) hp4))))
def w_X7_overlapsOf_L4 (Q : Int → gaH → Prop) : Nat → (Nat → Int → Int → gaH → Prop)
  | 0 => fun _ _ _ _ => False
  | n + 1 => fun v0 v1 v2 h => gAL h v0 102 (fun r1 => gR v2 ∧ gR r1 ∧ (if r1 ≤ v2 then Q v1 h else ∃ z, w_X7_overlapsOf_L12 Q (w_X7_overlapsOf_L4 Q n) z v0 v1 v2 1 h))
def w_X7_overlapsOf (a0 : Nat) (h : gaH) (Q : Int → gaH → Prop) : Prop := ∃ z, w_X7_overlapsOf_L4 Q z a0 0 0 h
abbrev rm_X7_overlapsOf : Room := { frames := 1, cells := 0, slots := 0, locals := 24 }
theorem hd_X7_overlapsOf : (yX7_overlapsOf.cls ≠ "java/lang/invoke/MethodHandle" ∧ yX7_overlapsOf.cls ≠ "java/lang/invoke/VarHandle" ∧ (parseMethodDescriptor yX7_overlapsOf.desc).map (fun d => d.parameters.length) = some 1) := by decide +kernel
theorem k_X7_overlapsOf {l : Launch} (hst : l.stackTraces = false) {G : gaG} {X : String → gaH → Prop} {a0 : Nat} {h : gaH} {Q : Int → gaH → Prop} (hw : w_X7_overlapsOf a0 h Q) : gaC l G yX7_overlapsOf (gaM yX7_overlapsOf cX7_overlapsOf 4 ((some .int))) rm_X7_overlapsOf [.ref a0] h (gQi Q) X := by
  refine g_start (lv := [some (.ref a0), none, none, none]) hpl_RX7 hst (Nat.le_of_ble_eq_true rfl) (gaArgs_pad (z := 3) rfl) ww_6_227 ?_
  intro p e s m args below meth c V hT
  have h_X7_overlapsOf_L12 : ∀ (K4 : Nat → Int → Int → gaH → Prop), ∀ (hK4 : ∀ (v0 : Nat) (v1 : Int) (v2 : Int) (h : gaH), K4 v0 v1 v2 h → gaP p l e rm_X7_overlapsOf s m args below meth c G 4 (gaZ below G (gQi Q) X args s rm_X7_overlapsOf) 4 [some (.ref v0), some (gi v1), some (gi v2), none] [] h 0 0), ∀ (n : Nat), ∀ (v0 : Nat) (v1 : Int) (v2 : Int) (v3 : Int) (h : gaH), w_X7_overlapsOf_L12 Q K4 n v0 v1 v2 v3 h → gaP p l e rm_X7_overlapsOf s m args below meth c G 4 (gaZ below G (gQi Q) X args s rm_X7_overlapsOf) 12 [some (.ref v0), some (gi v1), some (gi v2), some (gi v3)] [] h 0 0 := by
    intro K4 hK4
    intro n
    induction n with
    | zero =>
      intro v0 v1 v2 v3 h hw
      exact hw.elim
    | succ n ih =>
      intro v0 v1 v2 v3 h hw
      unfold w_X7_overlapsOf_L12 at hw
      refine g_iload_n V dX7_overlapsOf_12 rfl rfl ?_
      refine g_iconst V (Int32.ofInt 2) dX7_overlapsOf_13 rfl rfl ?_
      refine g_iload_n V dX7_overlapsOf_14 rfl rfl ?_
      refine gi_imul V dX7_overlapsOf_15 rfl ?_
      refine gi_iadd V dX7_overlapsOf_16 rfl ?_
      refine g_aload_n V dX7_overlapsOf_17 rfl rfl ?_
      obtain ⟨t9, vs, ha, ht, hw⟩ := hw
      refine gi_arraylength (t0 := 102) V (by simp [gaT]) ha ht dX7_overlapsOf_18 rfl ?_
      generalize (vs.length : Int) = r1 at hw ⊢
      obtain ⟨hx0, hx1, hw⟩ := hw
      refine gi_icmp_ge V dX7_overlapsOf_19 rfl rfl hx0 hx1 (fun q => ?_) (fun q => ?_)
      · have hw := ga_t q hw
        refine gi_iinc (lv2 := [some (.ref v0), some (gi v1), some (gi (v2 + 1)), some (gi v3)]) V dX7_overlapsOf_45 (by decide) rfl rfl rfl rfl ?_
        refine g_goto V dX7_overlapsOf_48 rfl ?_
        refine g_less (bs := [true, true, true, false]) (lv2 := [some (.ref v0), some (gi v1), some (gi (v2 + 1)), none]) rfl ?_
        exact hK4 v0 v1 (v2 + 1) h hw
      · have hw := ga_f q hw
        refine g_iload_n V dX7_overlapsOf_22 rfl rfl ?_
        refine g_aload_n V dX7_overlapsOf_23 rfl rfl ?_
        refine g_iload_n V dX7_overlapsOf_24 rfl rfl ?_
        refine g_iload_n V dX7_overlapsOf_25 rfl rfl ?_
        refine g_iload_n V dX7_overlapsOf_26 rfl rfl ?_
        refine gi_iadd V dX7_overlapsOf_27 rfl ?_
        refine g_iload_n V dX7_overlapsOf_28 rfl rfl ?_
        refine g_iconst V (Int32.ofInt 1) dX7_overlapsOf_29 rfl rfl ?_
        refine gi_iadd V dX7_overlapsOf_30 rfl ?_
        refine g_callS (st := [gi v1]) V (k_X7_areLike hst hw) ww_6_211 ww_6_212 ww_1_5 ww_6_213 hd_X7_areLike ⟨by decide, by decide⟩ rfl rfl (ga_cat rfl) dX7_overlapsOf_31 (Nat.zero_le _) (Nat.zero_le _) rfl (gaX_all hT V) (ga_ki (fun r3 hp2 hw => ?_))
        refine g_callS (st := [gi v1]) V (k_X7_one hst hw) ww_6_19 ww_6_20 ww_1_5 ww_6_21 hd_X7_one ⟨by decide, by decide⟩ rfl rfl (ga_cat rfl) dX7_overlapsOf_34 (Nat.zero_le _) (Nat.zero_le _) rfl (gaX_all hT V) (ga_ki (fun r5 hp4 hw => ?_))
        refine gi_iadd V dX7_overlapsOf_37 rfl ?_
        refine g_istore_n (lv2 := [some (.ref v0), some (gi (v1 + r5)), some (gi v2), some (gi v3)]) V dX7_overlapsOf_38 (by decide) rfl rfl rfl ?_
        refine gi_iinc (lv2 := [some (.ref v0), some (gi (v1 + r5)), some (gi v2), some (gi (v3 + 1))]) V dX7_overlapsOf_39 (by decide) rfl rfl rfl rfl ?_
        refine g_goto V dX7_overlapsOf_42 rfl ?_
        exact ih v0 (v1 + r5) v2 (v3 + 1) hp4 hw
  have h_X7_overlapsOf_L4 : ∀ (n : Nat), ∀ (v0 : Nat) (v1 : Int) (v2 : Int) (h : gaH), w_X7_overlapsOf_L4 Q n v0 v1 v2 h → gaP p l e rm_X7_overlapsOf s m args below meth c G 4 (gaZ below G (gQi Q) X args s rm_X7_overlapsOf) 4 [some (.ref v0), some (gi v1), some (gi v2), none] [] h 0 0 := by
    intro n
    induction n with
    | zero =>
      intro v0 v1 v2 h hw
      exact hw.elim
    | succ n ih =>
      intro v0 v1 v2 h hw
      unfold w_X7_overlapsOf_L4 at hw
      refine g_iload_n V dX7_overlapsOf_4 rfl rfl ?_
      refine g_aload_n V dX7_overlapsOf_5 rfl rfl ?_
      obtain ⟨t9, vs, ha, ht, hw⟩ := hw
      refine gi_arraylength (t0 := 102) V (by simp [gaT]) ha ht dX7_overlapsOf_6 rfl ?_
      generalize (vs.length : Int) = r1 at hw ⊢
      obtain ⟨hx0, hx1, hw⟩ := hw
      refine gi_icmp_ge V dX7_overlapsOf_7 rfl rfl hx0 hx1 (fun q => ?_) (fun q => ?_)
      · have hw := ga_t q hw
        refine g_iload_n V dX7_overlapsOf_51 rfl rfl ?_
        exact g_iret V rfl rfl dX7_overlapsOf_52 ⟨_, rfl, hw⟩
      · have hw := ga_f q hw
        refine g_iconst V (Int32.ofInt 1) dX7_overlapsOf_10 rfl rfl ?_
        refine g_istore_n (lv2 := [some (.ref v0), some (gi v1), some (gi v2), some (gi 1)]) V dX7_overlapsOf_11 (by decide) rfl rfl rfl ?_
        obtain ⟨z, hw⟩ := hw
        exact h_X7_overlapsOf_L12 (w_X7_overlapsOf_L4 Q n) ih z v0 v1 v2 1 h hw
  unfold w_X7_overlapsOf at hw
  refine g_iconst V (Int32.ofInt 0) dX7_overlapsOf_0 rfl rfl ?_
  refine g_istore_n (lv2 := [some (.ref a0), some (gi 0), none, none]) V dX7_overlapsOf_1 (by decide) rfl rfl rfl ?_
  refine g_iconst V (Int32.ofInt 0) dX7_overlapsOf_2 rfl rfl ?_
  refine g_istore_n (lv2 := [some (.ref a0), some (gi 0), some (gi 0), none]) V dX7_overlapsOf_3 (by decide) rfl rfl rfl ?_
  obtain ⟨z, hw⟩ := hw
  exact h_X7_overlapsOf_L4 z a0 0 0 h hw
def w_X7_foldsOf_J35 (Q : Int → gaH → Prop) (K4 : Nat → Int → Int → gaH → Prop) (v0 : Nat) (v2 : Int) (t0 : Int) (t1 : Int) (h : gaH) : Prop := w_X7_one t1 h (fun r2 hp1 => K4 v0 (t0 + r2) (v2 + 1) hp1)
def w_X7_foldsOf_J34 (Q : Int → gaH → Prop) (K4 : Nat → Int → Int → gaH → Prop) (v0 : Nat) (v2 : Int) (t0 : Int) (h : gaH) : Prop := w_X7_foldsOf_J35 Q K4 v0 v2 t0 0 h
def w_X7_foldsOf_L4 (Q : Int → gaH → Prop) : Nat → (Nat → Int → Int → gaH → Prop)
  | 0 => fun _ _ _ _ => False
  | n + 1 => fun v0 v1 v2 h => gAL h v0 102 (fun r1 => gR v2 ∧ gR r1 ∧ (if r1 ≤ v2 then Q v1 h else w_X7_isMirrored v0 0 v2 h (fun r3 hp2 => gR r3 ∧ (if r3 = 0 then w_X7_foldsOf_J34 Q (w_X7_foldsOf_L4 Q n) v0 v2 v1 hp2 else gAL hp2 v0 102 (fun r4 => w_X7_isMirrored v0 v2 r4 hp2 (fun r6 hp5 => gR r6 ∧ (if r6 = 0 then w_X7_foldsOf_J34 Q (w_X7_foldsOf_L4 Q n) v0 v2 v1 hp5 else w_X7_foldsOf_J35 Q (w_X7_foldsOf_L4 Q n) v0 v2 v1 1 hp5)))))))
def w_X7_foldsOf (a0 : Nat) (h : gaH) (Q : Int → gaH → Prop) : Prop := ∃ z, w_X7_foldsOf_L4 Q z a0 0 0 h
abbrev rm_X7_foldsOf : Room := { frames := 1, cells := 0, slots := 0, locals := 23 }
theorem hd_X7_foldsOf : (yX7_foldsOf.cls ≠ "java/lang/invoke/MethodHandle" ∧ yX7_foldsOf.cls ≠ "java/lang/invoke/VarHandle" ∧ (parseMethodDescriptor yX7_foldsOf.desc).map (fun d => d.parameters.length) = some 1) := by decide +kernel
theorem k_X7_foldsOf {l : Launch} (hst : l.stackTraces = false) {G : gaG} {X : String → gaH → Prop} {a0 : Nat} {h : gaH} {Q : Int → gaH → Prop} (hw : w_X7_foldsOf a0 h Q) : gaC l G yX7_foldsOf (gaM yX7_foldsOf cX7_foldsOf 3 ((some .int))) rm_X7_foldsOf [.ref a0] h (gQi Q) X := by
  refine g_start (lv := [some (.ref a0), none, none]) hpl_RX7 hst (Nat.le_of_ble_eq_true rfl) (gaArgs_pad (z := 2) rfl) ww_6_238 ?_
  intro p e s m args below meth c V hT
  have h_X7_foldsOf_J35 : ∀ (K4 : Nat → Int → Int → gaH → Prop), ∀ (hK4 : ∀ (v0 : Nat) (v1 : Int) (v2 : Int) (h : gaH), K4 v0 v1 v2 h → gaP p l e rm_X7_foldsOf s m args below meth c G 3 (gaZ below G (gQi Q) X args s rm_X7_foldsOf) 4 [some (.ref v0), some (gi v1), some (gi v2)] [] h 0 0), ∀ (v0 : Nat) (v2 : Int) (t0 : Int) (t1 : Int) (h : gaH), w_X7_foldsOf_J35 Q K4 v0 v2 t0 t1 h → gaP p l e rm_X7_foldsOf s m args below meth c G 3 (gaZ below G (gQi Q) X args s rm_X7_foldsOf) 35 [some (.ref v0), none, some (gi v2)] [gi t1, gi t0] h 0 0 := by
    intro K4 hK4
    intro v0 v2 t0 t1 h hw
    unfold w_X7_foldsOf_J35 at hw
    refine g_callS (st := [gi t0]) V (k_X7_one hst hw) ww_6_19 ww_6_20 ww_1_5 ww_6_21 hd_X7_one ⟨by decide, by decide⟩ rfl rfl (ga_cat rfl) dX7_foldsOf_35 (Nat.zero_le _) (Nat.zero_le _) rfl (gaX_all hT V) (ga_ki (fun r2 hp1 hw => ?_))
    refine gi_iadd V dX7_foldsOf_38 rfl ?_
    refine g_istore_n (lv2 := [some (.ref v0), some (gi (t0 + r2)), some (gi v2)]) V dX7_foldsOf_39 (by decide) rfl rfl rfl ?_
    refine gi_iinc (lv2 := [some (.ref v0), some (gi (t0 + r2)), some (gi (v2 + 1))]) V dX7_foldsOf_40 (by decide) rfl rfl rfl rfl ?_
    refine g_goto V dX7_foldsOf_43 rfl ?_
    exact hK4 v0 (t0 + r2) (v2 + 1) hp1 hw
  have h_X7_foldsOf_J34 : ∀ (K4 : Nat → Int → Int → gaH → Prop), ∀ (hK4 : ∀ (v0 : Nat) (v1 : Int) (v2 : Int) (h : gaH), K4 v0 v1 v2 h → gaP p l e rm_X7_foldsOf s m args below meth c G 3 (gaZ below G (gQi Q) X args s rm_X7_foldsOf) 4 [some (.ref v0), some (gi v1), some (gi v2)] [] h 0 0), ∀ (v0 : Nat) (v2 : Int) (t0 : Int) (h : gaH), w_X7_foldsOf_J34 Q K4 v0 v2 t0 h → gaP p l e rm_X7_foldsOf s m args below meth c G 3 (gaZ below G (gQi Q) X args s rm_X7_foldsOf) 34 [some (.ref v0), none, some (gi v2)] [gi t0] h 0 0 := by
    intro K4 hK4
    intro v0 v2 t0 h hw
    unfold w_X7_foldsOf_J34 at hw
    refine g_iconst V (Int32.ofInt 0) dX7_foldsOf_34 rfl rfl ?_
    exact h_X7_foldsOf_J35 K4 hK4 v0 v2 t0 0 h hw
  have h_X7_foldsOf_L4 : ∀ (n : Nat), ∀ (v0 : Nat) (v1 : Int) (v2 : Int) (h : gaH), w_X7_foldsOf_L4 Q n v0 v1 v2 h → gaP p l e rm_X7_foldsOf s m args below meth c G 3 (gaZ below G (gQi Q) X args s rm_X7_foldsOf) 4 [some (.ref v0), some (gi v1), some (gi v2)] [] h 0 0 := by
    intro n
    induction n with
    | zero =>
      intro v0 v1 v2 h hw
      exact hw.elim
    | succ n ih =>
      intro v0 v1 v2 h hw
      unfold w_X7_foldsOf_L4 at hw
      refine g_iload_n V dX7_foldsOf_4 rfl rfl ?_
      refine g_aload_n V dX7_foldsOf_5 rfl rfl ?_
      obtain ⟨t9, vs, ha, ht, hw⟩ := hw
      refine gi_arraylength (t0 := 102) V (by simp [gaT]) ha ht dX7_foldsOf_6 rfl ?_
      generalize (vs.length : Int) = r1 at hw ⊢
      obtain ⟨hx0, hx1, hw⟩ := hw
      refine gi_icmp_ge V dX7_foldsOf_7 rfl rfl hx0 hx1 (fun q => ?_) (fun q => ?_)
      · have hw := ga_t q hw
        refine g_iload_n V dX7_foldsOf_46 rfl rfl ?_
        exact g_iret V rfl rfl dX7_foldsOf_47 ⟨_, rfl, hw⟩
      · have hw := ga_f q hw
        refine g_iload_n V dX7_foldsOf_10 rfl rfl ?_
        refine g_aload_n V dX7_foldsOf_11 rfl rfl ?_
        refine g_iconst V (Int32.ofInt 0) dX7_foldsOf_12 rfl rfl ?_
        refine g_iload_n V dX7_foldsOf_13 rfl rfl ?_
        refine g_callS (st := [gi v1]) V (k_X7_isMirrored hst hw) ww_6_195 ww_6_196 ww_1_5 ww_6_197 hd_X7_isMirrored ⟨by decide, by decide⟩ rfl rfl (ga_cat rfl) dX7_foldsOf_14 (Nat.zero_le _) (Nat.zero_le _) rfl (gaX_all hT V) (ga_ki (fun r3 hp2 hw => ?_))
        obtain ⟨hx0, hw⟩ := hw
        refine gi_if_eq V dX7_foldsOf_17 rfl rfl hx0 (fun q => ?_) (fun q => ?_)
        · have hw := ga_t q hw
          refine g_less (bs := [true, false, true]) (lv2 := [some (.ref v0), none, some (gi v2)]) rfl ?_
          exact h_X7_foldsOf_J34 (w_X7_foldsOf_L4 Q n) ih v0 v2 v1 hp2 hw
        · have hw := ga_f q hw
          refine g_aload_n V dX7_foldsOf_20 rfl rfl ?_
          refine g_iload_n V dX7_foldsOf_21 rfl rfl ?_
          refine g_aload_n V dX7_foldsOf_22 rfl rfl ?_
          obtain ⟨t9, vs, ha, ht, hw⟩ := hw
          refine gi_arraylength (t0 := 102) V (by simp [gaT]) ha ht dX7_foldsOf_23 rfl ?_
          generalize (vs.length : Int) = r4 at hw ⊢
          refine g_callS (st := [gi v1]) V (k_X7_isMirrored hst hw) ww_6_195 ww_6_196 ww_1_5 ww_6_197 hd_X7_isMirrored ⟨by decide, by decide⟩ rfl rfl (ga_cat rfl) dX7_foldsOf_24 (Nat.zero_le _) (Nat.zero_le _) rfl (gaX_all hT V) (ga_ki (fun r6 hp5 hw => ?_))
          obtain ⟨hx0, hw⟩ := hw
          refine gi_if_eq V dX7_foldsOf_27 rfl rfl hx0 (fun q => ?_) (fun q => ?_)
          · have hw := ga_t q hw
            refine g_less (bs := [true, false, true]) (lv2 := [some (.ref v0), none, some (gi v2)]) rfl ?_
            exact h_X7_foldsOf_J34 (w_X7_foldsOf_L4 Q n) ih v0 v2 v1 hp5 hw
          · have hw := ga_f q hw
            refine g_iconst V (Int32.ofInt 1) dX7_foldsOf_30 rfl rfl ?_
            refine g_goto V dX7_foldsOf_31 rfl ?_
            refine g_less (bs := [true, false, true]) (lv2 := [some (.ref v0), none, some (gi v2)]) rfl ?_
            exact h_X7_foldsOf_J35 (w_X7_foldsOf_L4 Q n) ih v0 v2 v1 1 hp5 hw
  unfold w_X7_foldsOf at hw
  refine g_iconst V (Int32.ofInt 0) dX7_foldsOf_0 rfl rfl ?_
  refine g_istore_n (lv2 := [some (.ref a0), some (gi 0), none]) V dX7_foldsOf_1 (by decide) rfl rfl rfl ?_
  refine g_iconst V (Int32.ofInt 0) dX7_foldsOf_2 rfl rfl ?_
  refine g_istore_n (lv2 := [some (.ref a0), some (gi 0), some (gi 0)]) V dX7_foldsOf_3 (by decide) rfl rfl rfl ?_
  obtain ⟨z, hw⟩ := hw
  exact h_X7_foldsOf_L4 z a0 0 0 h hw
def w_X7_leastOf_J43 (Q : Int → gaH → Prop) (K4 : Nat → Int → Int → gaH → Prop) (v0 : Nat) (v1 : Int) (v2 : Int) (v3 : Int) (h : gaH) : Prop := gAL h v0 102 (fun r1 => gR v3 ∧ gR r1 ∧ (if r1 ≤ v3 then K4 v0 v1 (v2 + 1) h else gAL h v0 102 (fun r2 => gR r2 ∧ ¬ r2 = 0 ∧ (gLI h v0 102 (gRem (v2 + v3) r2) (fun r3 => gR r3 ∧ (if r3 = 0 then K4 v0 v2 (v2 + 1) h else K4 v0 v1 (v2 + 1) h))))))
def w_X7_leastOf_L12 (Q : Int → gaH → Prop) (K4 : Nat → Int → Int → gaH → Prop) : Nat → (Nat → Int → Int → Int → gaH → Prop)
  | 0 => fun _ _ _ _ _ => False
  | n + 1 => fun v0 v1 v2 v3 h => gAL h v0 102 (fun r1 => gR v3 ∧ gR r1 ∧ (if r1 ≤ v3 then w_X7_leastOf_J43 Q K4 v0 v1 v2 v3 h else gAL h v0 102 (fun r2 => gR r2 ∧ ¬ r2 = 0 ∧ (gLI h v0 102 (gRem (v1 + v3) r2) (fun r3 => gAL h v0 102 (fun r4 => gR r4 ∧ ¬ r4 = 0 ∧ (gLI h v0 102 (gRem (v2 + v3) r4) (fun r5 => gR r3 ∧ gR r5 ∧ (if r3 = r5 then w_X7_leastOf_L12 Q K4 n v0 v1 v2 (v3 + 1) h else w_X7_leastOf_J43 Q K4 v0 v1 v2 v3 h)))))))))
def w_X7_leastOf_L4 (Q : Int → gaH → Prop) : Nat → (Nat → Int → Int → gaH → Prop)
  | 0 => fun _ _ _ _ => False
  | n + 1 => fun v0 v1 v2 h => gAL h v0 102 (fun r1 => gR v2 ∧ gR r1 ∧ (if r1 ≤ v2 then Q v1 h else ∃ z, w_X7_leastOf_L12 Q (w_X7_leastOf_L4 Q n) z v0 v1 v2 0 h))
def w_X7_leastOf (a0 : Nat) (h : gaH) (Q : Int → gaH → Prop) : Prop := ∃ z, w_X7_leastOf_L4 Q z a0 0 1 h
abbrev rm_X7_leastOf : Room := { frames := 0, cells := 0, slots := 0, locals := 0 }
theorem hd_X7_leastOf : (yX7_leastOf.cls ≠ "java/lang/invoke/MethodHandle" ∧ yX7_leastOf.cls ≠ "java/lang/invoke/VarHandle" ∧ (parseMethodDescriptor yX7_leastOf.desc).map (fun d => d.parameters.length) = some 1) := by decide +kernel
theorem k_X7_leastOf {l : Launch} (hst : l.stackTraces = false) {G : gaG} {X : String → gaH → Prop} {a0 : Nat} {h : gaH} {Q : Int → gaH → Prop} (hw : w_X7_leastOf a0 h Q) : gaC l G yX7_leastOf (gaM yX7_leastOf cX7_leastOf 4 ((some .int))) rm_X7_leastOf [.ref a0] h (gQi Q) X := by
  refine g_start (lv := [some (.ref a0), none, none, none]) hpl_RX7 hst (Nat.le_of_ble_eq_true rfl) (gaArgs_pad (z := 3) rfl) ww_7_5 ?_
  intro p e s m args below meth c V hT
  have h_X7_leastOf_J43 : ∀ (K4 : Nat → Int → Int → gaH → Prop), ∀ (hK4 : ∀ (v0 : Nat) (v1 : Int) (v2 : Int) (h : gaH), K4 v0 v1 v2 h → gaP p l e rm_X7_leastOf s m args below meth c G 4 (gaZ below G (gQi Q) X args s rm_X7_leastOf) 4 [some (.ref v0), some (gi v1), some (gi v2), none] [] h 0 0), ∀ (v0 : Nat) (v1 : Int) (v2 : Int) (v3 : Int) (h : gaH), w_X7_leastOf_J43 Q K4 v0 v1 v2 v3 h → gaP p l e rm_X7_leastOf s m args below meth c G 4 (gaZ below G (gQi Q) X args s rm_X7_leastOf) 43 [some (.ref v0), some (gi v1), some (gi v2), some (gi v3)] [] h 0 0 := by
    intro K4 hK4
    intro v0 v1 v2 v3 h hw
    unfold w_X7_leastOf_J43 at hw
    refine g_iload_n V dX7_leastOf_43 rfl rfl ?_
    refine g_aload_n V dX7_leastOf_44 rfl rfl ?_
    obtain ⟨t9, vs, ha, ht, hw⟩ := hw
    refine gi_arraylength (t0 := 102) V (by simp [gaT]) ha ht dX7_leastOf_45 rfl ?_
    generalize (vs.length : Int) = r1 at hw ⊢
    obtain ⟨hx0, hx1, hw⟩ := hw
    refine gi_icmp_ge V dX7_leastOf_46 rfl rfl hx0 hx1 (fun q => ?_) (fun q => ?_)
    · have hw := ga_t q hw
      refine gi_iinc (lv2 := [some (.ref v0), some (gi v1), some (gi (v2 + 1)), some (gi v3)]) V dX7_leastOf_62 (by decide) rfl rfl rfl rfl ?_
      refine g_goto V dX7_leastOf_65 rfl ?_
      refine g_less (bs := [true, true, true, false]) (lv2 := [some (.ref v0), some (gi v1), some (gi (v2 + 1)), none]) rfl ?_
      exact hK4 v0 v1 (v2 + 1) h hw
    · have hw := ga_f q hw
      refine g_aload_n V dX7_leastOf_49 rfl rfl ?_
      refine g_iload_n V dX7_leastOf_50 rfl rfl ?_
      refine g_iload_n V dX7_leastOf_51 rfl rfl ?_
      refine gi_iadd V dX7_leastOf_52 rfl ?_
      refine g_aload_n V dX7_leastOf_53 rfl rfl ?_
      obtain ⟨t9, vs, ha, ht, hw⟩ := hw
      refine gi_arraylength (t0 := 102) V (by simp [gaT]) ha ht dX7_leastOf_54 rfl ?_
      generalize (vs.length : Int) = r2 at hw ⊢
      obtain ⟨hx, h0, hw⟩ := hw
      refine gi_irem V dX7_leastOf_55 hx h0 rfl ?_
      obtain ⟨t9, vs, r3, ha, ht, h0, h9, hv, hw⟩ := hw
      refine gi_iaload V ha ht h0 h9 hv dX7_leastOf_56 rfl ?_
      obtain ⟨hx0, hw⟩ := hw
      refine gi_if_ne V dX7_leastOf_57 rfl rfl hx0 (fun q => ?_) (fun q => ?_)
      · have hw := ga_f q hw
        refine gi_iinc (lv2 := [some (.ref v0), some (gi v1), some (gi (v2 + 1)), some (gi v3)]) V dX7_leastOf_62 (by decide) rfl rfl rfl rfl ?_
        refine g_goto V dX7_leastOf_65 rfl ?_
        refine g_less (bs := [true, true, true, false]) (lv2 := [some (.ref v0), some (gi v1), some (gi (v2 + 1)), none]) rfl ?_
        exact hK4 v0 v1 (v2 + 1) h hw
      · have hw := ga_t q hw
        refine g_iload_n V dX7_leastOf_60 rfl rfl ?_
        refine g_istore_n (lv2 := [some (.ref v0), some (gi v2), some (gi v2), some (gi v3)]) V dX7_leastOf_61 (by decide) rfl rfl rfl ?_
        refine gi_iinc (lv2 := [some (.ref v0), some (gi v2), some (gi (v2 + 1)), some (gi v3)]) V dX7_leastOf_62 (by decide) rfl rfl rfl rfl ?_
        refine g_goto V dX7_leastOf_65 rfl ?_
        refine g_less (bs := [true, true, true, false]) (lv2 := [some (.ref v0), some (gi v2), some (gi (v2 + 1)), none]) rfl ?_
        exact hK4 v0 v2 (v2 + 1) h hw
  have h_X7_leastOf_L12 : ∀ (K4 : Nat → Int → Int → gaH → Prop), ∀ (hK4 : ∀ (v0 : Nat) (v1 : Int) (v2 : Int) (h : gaH), K4 v0 v1 v2 h → gaP p l e rm_X7_leastOf s m args below meth c G 4 (gaZ below G (gQi Q) X args s rm_X7_leastOf) 4 [some (.ref v0), some (gi v1), some (gi v2), none] [] h 0 0), ∀ (n : Nat), ∀ (v0 : Nat) (v1 : Int) (v2 : Int) (v3 : Int) (h : gaH), w_X7_leastOf_L12 Q K4 n v0 v1 v2 v3 h → gaP p l e rm_X7_leastOf s m args below meth c G 4 (gaZ below G (gQi Q) X args s rm_X7_leastOf) 12 [some (.ref v0), some (gi v1), some (gi v2), some (gi v3)] [] h 0 0 := by
    intro K4 hK4
    intro n
    induction n with
    | zero =>
      intro v0 v1 v2 v3 h hw
      exact hw.elim
    | succ n ih =>
      intro v0 v1 v2 v3 h hw
      unfold w_X7_leastOf_L12 at hw
      refine g_iload_n V dX7_leastOf_12 rfl rfl ?_
      refine g_aload_n V dX7_leastOf_13 rfl rfl ?_
      obtain ⟨t9, vs, ha, ht, hw⟩ := hw
      refine gi_arraylength (t0 := 102) V (by simp [gaT]) ha ht dX7_leastOf_14 rfl ?_
      generalize (vs.length : Int) = r1 at hw ⊢
      obtain ⟨hx0, hx1, hw⟩ := hw
      refine gi_icmp_ge V dX7_leastOf_15 rfl rfl hx0 hx1 (fun q => ?_) (fun q => ?_)
      · have hw := ga_t q hw
        exact h_X7_leastOf_J43 K4 hK4 v0 v1 v2 v3 h hw
      · have hw := ga_f q hw
        refine g_aload_n V dX7_leastOf_18 rfl rfl ?_
        refine g_iload_n V dX7_leastOf_19 rfl rfl ?_
        refine g_iload_n V dX7_leastOf_20 rfl rfl ?_
        refine gi_iadd V dX7_leastOf_21 rfl ?_
        refine g_aload_n V dX7_leastOf_22 rfl rfl ?_
        obtain ⟨t9, vs, ha, ht, hw⟩ := hw
        refine gi_arraylength (t0 := 102) V (by simp [gaT]) ha ht dX7_leastOf_23 rfl ?_
        generalize (vs.length : Int) = r2 at hw ⊢
        obtain ⟨hx, h0, hw⟩ := hw
        refine gi_irem V dX7_leastOf_24 hx h0 rfl ?_
        obtain ⟨t9, vs, r3, ha, ht, h0, h9, hv, hw⟩ := hw
        refine gi_iaload V ha ht h0 h9 hv dX7_leastOf_25 rfl ?_
        refine g_aload_n V dX7_leastOf_26 rfl rfl ?_
        refine g_iload_n V dX7_leastOf_27 rfl rfl ?_
        refine g_iload_n V dX7_leastOf_28 rfl rfl ?_
        refine gi_iadd V dX7_leastOf_29 rfl ?_
        refine g_aload_n V dX7_leastOf_30 rfl rfl ?_
        obtain ⟨t9, vs, ha, ht, hw⟩ := hw
        refine gi_arraylength (t0 := 102) V (by simp [gaT]) ha ht dX7_leastOf_31 rfl ?_
        generalize (vs.length : Int) = r4 at hw ⊢
        obtain ⟨hx, h0, hw⟩ := hw
        refine gi_irem V dX7_leastOf_32 hx h0 rfl ?_
        obtain ⟨t9, vs, r5, ha, ht, h0, h9, hv, hw⟩ := hw
        refine gi_iaload V ha ht h0 h9 hv dX7_leastOf_33 rfl ?_
        obtain ⟨hx0, hx1, hw⟩ := hw
        refine gi_icmp_ne V dX7_leastOf_34 rfl rfl hx0 hx1 (fun q => ?_) (fun q => ?_)
        · have hw := ga_f q hw
          exact h_X7_leastOf_J43 K4 hK4 v0 v1 v2 v3 h hw
        · have hw := ga_t q hw
          refine gi_iinc (lv2 := [some (.ref v0), some (gi v1), some (gi v2), some (gi (v3 + 1))]) V dX7_leastOf_37 (by decide) rfl rfl rfl rfl ?_
          refine g_goto V dX7_leastOf_40 rfl ?_
          exact ih v0 v1 v2 (v3 + 1) h hw
  have h_X7_leastOf_L4 : ∀ (n : Nat), ∀ (v0 : Nat) (v1 : Int) (v2 : Int) (h : gaH), w_X7_leastOf_L4 Q n v0 v1 v2 h → gaP p l e rm_X7_leastOf s m args below meth c G 4 (gaZ below G (gQi Q) X args s rm_X7_leastOf) 4 [some (.ref v0), some (gi v1), some (gi v2), none] [] h 0 0 := by
    intro n
    induction n with
    | zero =>
      intro v0 v1 v2 h hw
      exact hw.elim
    | succ n ih =>
      intro v0 v1 v2 h hw
      unfold w_X7_leastOf_L4 at hw
      refine g_iload_n V dX7_leastOf_4 rfl rfl ?_
      refine g_aload_n V dX7_leastOf_5 rfl rfl ?_
      obtain ⟨t9, vs, ha, ht, hw⟩ := hw
      refine gi_arraylength (t0 := 102) V (by simp [gaT]) ha ht dX7_leastOf_6 rfl ?_
      generalize (vs.length : Int) = r1 at hw ⊢
      obtain ⟨hx0, hx1, hw⟩ := hw
      refine gi_icmp_ge V dX7_leastOf_7 rfl rfl hx0 hx1 (fun q => ?_) (fun q => ?_)
      · have hw := ga_t q hw
        refine g_iload_n V dX7_leastOf_68 rfl rfl ?_
        exact g_iret V rfl rfl dX7_leastOf_69 ⟨_, rfl, hw⟩
      · have hw := ga_f q hw
        refine g_iconst V (Int32.ofInt 0) dX7_leastOf_10 rfl rfl ?_
        refine g_istore_n (lv2 := [some (.ref v0), some (gi v1), some (gi v2), some (gi 0)]) V dX7_leastOf_11 (by decide) rfl rfl rfl ?_
        obtain ⟨z, hw⟩ := hw
        exact h_X7_leastOf_L12 (w_X7_leastOf_L4 Q n) ih z v0 v1 v2 0 h hw
  unfold w_X7_leastOf at hw
  refine g_iconst V (Int32.ofInt 0) dX7_leastOf_0 rfl rfl ?_
  refine g_istore_n (lv2 := [some (.ref a0), some (gi 0), none, none]) V dX7_leastOf_1 (by decide) rfl rfl rfl ?_
  refine g_iconst V (Int32.ofInt 1) dX7_leastOf_2 rfl rfl ?_
  refine g_istore_n (lv2 := [some (.ref a0), some (gi 0), some (gi 1), none]) V dX7_leastOf_3 (by decide) rfl rfl rfl ?_
  obtain ⟨z, hw⟩ := hw
  exact h_X7_leastOf_L4 z a0 0 1 h hw
def w_X7_told (a0 : Nat) (a1 : Int) (h : gaH) (Q : Int → gaH → Prop) : Prop := gR a1 ∧ (if a1 = 0 then gI h a0 7 3 (fun r4 => Q r4 h) else gR a1 ∧ (if a1 = 1 then gI h a0 7 4 (fun r3 => Q r3 h) else gR a1 ∧ (if a1 = 2 then gI h a0 7 5 (fun r2 => Q r2 h) else gI h a0 7 6 (fun r1 => Q r1 h))))
abbrev rm_X7_told : Room := { frames := 0, cells := 0, slots := 0, locals := 0 }
theorem hd_X7_told : yX7_told.cls = RX7 ∧ (yX7_told.cls ≠ "java/lang/invoke/MethodHandle" ∧ yX7_told.cls ≠ "java/lang/invoke/VarHandle" ∧ (parseMethodDescriptor yX7_told.desc).map (fun d => d.parameters.length) = some 1) := by decide +kernel
theorem k_X7_told {l : Launch} (hst : l.stackTraces = false) {G : gaG} {X : String → gaH → Prop} {a0 : Nat} {a1 : Int} {h : gaH} {Q : Int → gaH → Prop} (hw : w_X7_told a0 a1 h Q) : gaC l G yX7_told (gaM yX7_told cX7_told 2 ((some .int))) rm_X7_told [.ref a0, gi a1] h (gQi Q) X := by
  refine g_start (lv := [some (.ref a0), some (gi a1)]) hpl_RX7 hst (Nat.le_of_ble_eq_true rfl) (gaArgs_pad (z := 0) rfl) ww_7_52 ?_
  intro p e s m args below meth c V hT
  unfold w_X7_told at hw
  refine g_iload_n V dX7_told_0 rfl rfl ?_
  obtain ⟨hx0, hw⟩ := hw
  refine gi_if_ne V dX7_told_1 rfl rfl hx0 (fun q => ?_) (fun q => ?_)
  · have hw := ga_f q hw
    refine g_iload_n V dX7_told_11 rfl rfl ?_
    refine g_iconst V (Int32.ofInt 1) dX7_told_12 rfl rfl ?_
    obtain ⟨hx0, hw⟩ := hw
    refine gi_icmp_ne V dX7_told_13 rfl rfl hx0 (by decide) (fun q => ?_) (fun q => ?_)
    · have hw := ga_f q hw
      refine g_iload_n V dX7_told_23 rfl rfl ?_
      refine g_iconst V (Int32.ofInt 2) dX7_told_24 rfl rfl ?_
      obtain ⟨hx0, hw⟩ := hw
      refine gi_icmp_ne V dX7_told_25 rfl rfl hx0 (by decide) (fun q => ?_) (fun q => ?_)
      · have hw := ga_f q hw
        refine g_aload_n V dX7_told_35 rfl rfl ?_
        obtain ⟨fs, r1, ha, hv, hw⟩ := hw
        refine g_get (C := RX7) (T := TX7) (N := 8) V 6 rfl hin_RX7 (by decide) (by decide) ww_5_187 rfl ha hv dX7_told_36 rfl ?_
        exact g_iret V rfl rfl dX7_told_39 ⟨_, rfl, hw⟩
      · have hw := ga_t q hw
        refine g_aload_n V dX7_told_28 rfl rfl ?_
        obtain ⟨fs, r2, ha, hv, hw⟩ := hw
        refine g_get (C := RX7) (T := TX7) (N := 8) V 5 rfl hin_RX7 (by decide) (by decide) ww_5_186 rfl ha hv dX7_told_29 rfl ?_
        refine g_goto V dX7_told_32 rfl ?_
        exact g_iret V rfl rfl dX7_told_39 ⟨_, rfl, hw⟩
    · have hw := ga_t q hw
      refine g_aload_n V dX7_told_16 rfl rfl ?_
      obtain ⟨fs, r3, ha, hv, hw⟩ := hw
      refine g_get (C := RX7) (T := TX7) (N := 8) V 4 rfl hin_RX7 (by decide) (by decide) ww_5_185 rfl ha hv dX7_told_17 rfl ?_
      refine g_goto V dX7_told_20 rfl ?_
      exact g_iret V rfl rfl dX7_told_39 ⟨_, rfl, hw⟩
  · have hw := ga_t q hw
    refine g_aload_n V dX7_told_4 rfl rfl ?_
    obtain ⟨fs, r4, ha, hv, hw⟩ := hw
    refine g_get (C := RX7) (T := TX7) (N := 8) V 3 rfl hin_RX7 (by decide) (by decide) ww_5_184 rfl ha hv dX7_told_5 rfl ?_
    refine g_goto V dX7_told_8 rfl ?_
    exact g_iret V rfl rfl dX7_told_39 ⟨_, rfl, hw⟩
def w_X7_turned_L7 (Q : Nat → gaH → Prop) : Nat → (Nat → Nat → Int → gaH → Nat → Nat → Prop)
  | 0 => fun _ _ _ _ _ _ => False
  | n + 1 => fun v0 v1 v2 h kc ks => gAL h v0 102 (fun r1 => gR v2 ∧ gR r1 ∧ (if r1 ≤ v2 then Q v1 h else gAL h v0 102 (fun r2 => gLI h v0 102 ((r2 - 1) - v2) (fun r3 => gSI h v1 102 v2 (gi r3) (fun hp4 => w_X7_turned_L7 Q n v0 v1 (v2 + 1) hp4 kc ks)))))
def w_X7_turned (a0 : Nat) (h : gaH) (Q : Nat → gaH → Prop) : Prop := gAL h a0 102 (fun r1 => gNA h 102 (gi 0) r1 1 64 (fun o2 hp3 c4 s5 => ∃ z, w_X7_turned_L7 Q z a0 o2 0 hp3 c4 s5))
abbrev rm_X7_turned : Room := { frames := 0, cells := 1, slots := 64, locals := 0 }
theorem hd_X7_turned : (yX7_turned.cls ≠ "java/lang/invoke/MethodHandle" ∧ yX7_turned.cls ≠ "java/lang/invoke/VarHandle" ∧ (parseMethodDescriptor yX7_turned.desc).map (fun d => d.parameters.length) = some 1) := by decide +kernel
theorem k_X7_turned {l : Launch} (hst : l.stackTraces = false) {G : gaG} {X : String → gaH → Prop} {a0 : Nat} {h : gaH} {Q : Nat → gaH → Prop} (hw : w_X7_turned a0 h Q) : gaC l G yX7_turned (gaM yX7_turned cX7_turned 3 ((some (.array .int)))) rm_X7_turned [.ref a0] h (gQa Q) X := by
  refine g_start (lv := [some (.ref a0), none, none]) hpl_RX7 hst (Nat.le_of_ble_eq_true rfl) (gaArgs_pad (z := 2) rfl) ww_6_63 ?_
  intro p e s m args below meth c V hT
  have h_X7_turned_L7 : ∀ (n : Nat), ∀ (v0 : Nat) (v1 : Nat) (v2 : Int) (h : gaH) (kc ks : Nat), w_X7_turned_L7 Q n v0 v1 v2 h kc ks → gaP p l e rm_X7_turned s m args below meth c G 3 (gaZ below G (gQa Q) X args s rm_X7_turned) 7 [some (.ref v0), some (.ref v1), some (gi v2)] [] h kc ks := by
    intro n
    induction n with
    | zero =>
      intro v0 v1 v2 h kc ks hw
      exact hw.elim
    | succ n ih =>
      intro v0 v1 v2 h kc ks hw
      unfold w_X7_turned_L7 at hw
      refine g_iload_n V dX7_turned_7 rfl rfl ?_
      refine g_aload_n V dX7_turned_8 rfl rfl ?_
      obtain ⟨t9, vs, ha, ht, hw⟩ := hw
      refine gi_arraylength (t0 := 102) V (by simp [gaT]) ha ht dX7_turned_9 rfl ?_
      generalize (vs.length : Int) = r1 at hw ⊢
      obtain ⟨hx0, hx1, hw⟩ := hw
      refine gi_icmp_ge V dX7_turned_10 rfl rfl hx0 hx1 (fun q => ?_) (fun q => ?_)
      · have hw := ga_t q hw
        refine g_aload_n V dX7_turned_30 rfl rfl ?_
        exact g_aret V rfl (by first | exact Or.inl ⟨_, rfl⟩ | exact Or.inr ⟨_, rfl⟩) dX7_turned_31 ⟨_, rfl, hw⟩
      · have hw := ga_f q hw
        refine g_aload_n V dX7_turned_13 rfl rfl ?_
        refine g_iload_n V dX7_turned_14 rfl rfl ?_
        refine g_aload_n V dX7_turned_15 rfl rfl ?_
        refine g_aload_n V dX7_turned_16 rfl rfl ?_
        obtain ⟨t9, vs, ha, ht, hw⟩ := hw
        refine gi_arraylength (t0 := 102) V (by simp [gaT]) ha ht dX7_turned_17 rfl ?_
        generalize (vs.length : Int) = r2 at hw ⊢
        refine g_iconst V (Int32.ofInt 1) dX7_turned_18 rfl rfl ?_
        refine gi_isub V dX7_turned_19 rfl ?_
        refine g_iload_n V dX7_turned_20 rfl rfl ?_
        refine gi_isub V dX7_turned_21 rfl ?_
        obtain ⟨t9, vs, r3, ha, ht, h0, h9, hv, hw⟩ := hw
        refine gi_iaload V ha ht h0 h9 hv dX7_turned_22 rfl ?_
        obtain ⟨vs, ha, h0, h9, hi, hw⟩ := hw
        refine gi_iastore V ha h0 h9 hi dX7_turned_23 rfl ?_
        generalize gaUp h v1 _ = hp4 at hw ⊢
        refine gi_iinc (lv2 := [some (.ref v0), some (.ref v1), some (gi (v2 + 1))]) V dX7_turned_24 (by decide) rfl rfl rfl rfl ?_
        refine g_goto V dX7_turned_27 rfl ?_
        exact ih v0 v1 (v2 + 1) hp4 kc ks hw
  show gaP p l e rm_X7_turned s m args below meth c G 3 (gaZ below G (gQa Q) X args s rm_X7_turned) 0 [some (.ref a0), none, none] [] h 1 64
  unfold w_X7_turned at hw
  refine g_aload_n V dX7_turned_0 rfl rfl ?_
  obtain ⟨t9, vs, ha, ht, hw⟩ := hw
  refine gi_arraylength (t0 := 102) V (by simp [gaT]) ha ht dX7_turned_1 rfl ?_
  generalize (vs.length : Int) = r1 at hw ⊢
  obtain ⟨h0, h9, hk, hj, hw⟩ := hw
  refine gi_newarray (atype := .int) (t := 102) V (by decide) rfl ww_1_109 h0 h9 dX7_turned_2 rfl hk hj (fun o2 hf => ?_)
  obtain ⟨c4, s5, ec, es, hw⟩ := hw o2 hf
  refine ga_re ec es ?_
  generalize gaUp h o2 _ = hp3 at hw ⊢
  refine g_astore_n (lv2 := [some (.ref a0), some (.ref o2), none]) V dX7_turned_4 (by decide) rfl rfl rfl ?_
  refine g_iconst V (Int32.ofInt 0) dX7_turned_5 rfl rfl ?_
  refine g_istore_n (lv2 := [some (.ref a0), some (.ref o2), some (gi 0)]) V dX7_turned_6 (by decide) rfl rfl rfl ?_
  obtain ⟨z, hw⟩ := hw
  exact h_X7_turned_L7 z a0 o2 0 hp3 c4 s5 hw
def w_X7_isWhole_L54 (Q : Int → gaH → Prop) : Nat → (Nat → Int → gaH → Nat → Nat → Prop)
  | 0 => fun _ _ _ _ _ => False
  | n + 1 => fun v0 v1 h kc ks => gR v1 ∧ (if 2 ≤ v1 then Q 1 h else gHas h v0 7 ∧ gCall 67 4288 kc ks (fun c3 s4 => w_X7_word v0 v1 0 h (fun r2 hp1 => gHas hp1 v0 7 ∧ gCall 67 4288 c3 s4 (fun c7 s8 => w_X7_word v0 v1 1 hp1 (fun r6 hp5 => gHas hp5 v0 7 ∧ gCall 193 18433 c7 s8 (fun c11 s12 => w_X7_byRules v0 v1 hp5 (fun r10 hp9 => w_X7_areSame r2 r10 hp9 (fun r14 hp13 => gR r14 ∧ (if r14 = 0 then Q 0 hp13 else gHas hp13 v0 7 ∧ gCall 132 325 c11 s12 (fun c17 s18 => w_X7_byLine v0 v1 hp13 (fun r16 hp15 => w_X7_areSame r2 r16 hp15 (fun r20 hp19 => gR r20 ∧ (if r20 = 0 then Q 0 hp19 else w_X7_crossOf r2 r6 hp19 (fun r22 hp21 => gA hp21 v0 7 2 (fun r23 => gLI hp21 r23 102 v1 (fun r24 => gR r22 ∧ gR (1 - ((gRem r24 2) * 2)) ∧ (if r22 = (1 - ((gRem r24 2) * 2)) then gCall 2 256 c17 s18 (fun c27 s28 => w_X7_alikeOf r2 r6 hp21 (fun r26 hp25 => gAL hp25 r2 102 (fun r29 => gAL hp25 r6 102 (fun r30 => gR r26 ∧ gR ((r29 + r30) - 2) ∧ (if r26 = ((r29 + r30) - 2) then w_X7_isWhole_L54 Q n v0 (v1 + 1) hp25 c27 s28 else Q 0 hp25))))) else Q 0 hp21)))))))))))))))))
def w_X7_isWhole_L10 (Q : Int → gaH → Prop) : Nat → (Nat → Nat → Int → Int → gaH → Nat → Nat → Prop)
  | 0 => fun _ _ _ _ _ _ _ => False
  | n + 1 => fun v0 v1 v2 v3 h kc ks => gR v3 ∧ gR v2 ∧ (if v2 ≤ v3 then ∃ z, w_X7_isWhole_L54 Q z v0 0 h kc ks else gLA h v1 112 v3 (fun r1 => gAL h r1 102 (fun r2 => gR r2 ∧ (if 64 < r2 then Q 0 h else gCall 1 64 kc ks (fun c5 s6 => w_X7_turned r1 h (fun r4 hp3 => gCall 1 64 c5 s6 (fun c9 s10 => w_X7_turned r4 hp3 (fun r8 hp7 => w_X7_areSame r8 r1 hp7 (fun r12 hp11 => gR r12 ∧ (if r12 = 0 then Q 0 hp11 else w_X7_isWhole_L10 Q n v0 v1 v2 (v3 + 1) hp11 c9 s10))))))))))
def w_X7_isWhole (a0 : Nat) (h : gaH) (Q : Int → gaH → Prop) : Prop := gA h a0 7 0 (fun r1 => gAL h r1 112 (fun r2 => ∃ z, w_X7_isWhole_L10 Q z a0 r1 r2 0 h 928 55564))
abbrev rm_X7_isWhole : Room := { frames := 3, cells := 928, slots := 55564, locals := 81 }
theorem hd_X7_isWhole : yX7_isWhole.cls = RX7 ∧ (yX7_isWhole.cls ≠ "java/lang/invoke/MethodHandle" ∧ yX7_isWhole.cls ≠ "java/lang/invoke/VarHandle" ∧ (parseMethodDescriptor yX7_isWhole.desc).map (fun d => d.parameters.length) = some 0) := by decide +kernel
theorem k_X7_isWhole {l : Launch} (hst : l.stackTraces = false) {G : gaG} {X : String → gaH → Prop} {a0 : Nat} {h : gaH} {Q : Int → gaH → Prop} (hw : w_X7_isWhole a0 h Q) : gaC l G yX7_isWhole (gaM yX7_isWhole cX7_isWhole 5 ((some .boolean))) rm_X7_isWhole [.ref a0] h (gQi Q) X := by
  refine g_start (lv := [some (.ref a0), none, none, none, none]) hpl_RX7 hst (Nat.le_of_ble_eq_true rfl) (gaArgs_pad (z := 4) rfl) ww_7_64 ?_
  intro p e s m args below meth c V hT
  have h_X7_isWhole_L54 : ∀ (n : Nat), ∀ (v0 : Nat) (v1 : Int) (h : gaH) (kc ks : Nat), w_X7_isWhole_L54 Q n v0 v1 h kc ks → gaP p l e rm_X7_isWhole s m args below meth c G 5 (gaZ below G (gQi Q) X args s rm_X7_isWhole) 54 [some (.ref v0), some (gi v1), none, none, none] [] h kc ks := by
    intro n
    induction n with
    | zero =>
      intro v0 v1 h kc ks hw
      exact hw.elim
    | succ n ih =>
      intro v0 v1 h kc ks hw
      unfold w_X7_isWhole_L54 at hw
      refine g_iload_n V dX7_isWhole_54 rfl rfl ?_
      refine g_iconst V (Int32.ofInt 2) dX7_isWhole_55 rfl rfl ?_
      obtain ⟨hx0, hw⟩ := hw
      refine gi_icmp_ge V dX7_isWhole_56 rfl rfl hx0 (by decide) (fun q => ?_) (fun q => ?_)
      · have hw := ga_t q hw
        refine g_iconst V (Int32.ofInt 1) dX7_isWhole_142 rfl rfl ?_
        exact g_iret V rfl rfl dX7_isWhole_143 ⟨_, rfl, hw⟩
      · have hw := ga_f q hw
        refine g_aload_n V dX7_isWhole_59 rfl rfl ?_
        refine g_iload_n V dX7_isWhole_60 rfl rfl ?_
        refine g_iconst V (Int32.ofInt 0) dX7_isWhole_61 rfl rfl ?_
        obtain ⟨hb, hw⟩ := hw
        obtain ⟨fb, hb⟩ := hb
        obtain ⟨hk, hj, c3, s4, ec, es, hw⟩ := hw
        refine g_callV (C := RX7) (T := TX7) (N := 8) (st := []) V (k_X7_word hst hw) ww_7_19 ww_7_21 wp_2_15 ww_1_5 ww_7_22 hd_X7_word ⟨by decide, by decide⟩ rfl (by decide) hb rfl rfl (ga_cat rfl) dX7_isWhole_62 hk hj rfl (gaX_all hT V) (ga_ka (fun r2 hp1 hw => ?_))
        refine ga_re ec es ?_
        refine g_astore_n (lv2 := [some (.ref v0), some (gi v1), some (.ref r2), none, none]) V dX7_isWhole_65 (by decide) rfl rfl rfl ?_
        refine g_aload_n V dX7_isWhole_66 rfl rfl ?_
        refine g_iload_n V dX7_isWhole_67 rfl rfl ?_
        refine g_iconst V (Int32.ofInt 1) dX7_isWhole_68 rfl rfl ?_
        obtain ⟨hb, hw⟩ := hw
        obtain ⟨fb, hb⟩ := hb
        obtain ⟨hk, hj, c7, s8, ec, es, hw⟩ := hw
        refine g_callV (C := RX7) (T := TX7) (N := 8) (st := []) V (k_X7_word hst hw) ww_7_19 ww_7_21 wp_2_15 ww_1_5 ww_7_22 hd_X7_word ⟨by decide, by decide⟩ rfl (by decide) hb rfl rfl (ga_cat rfl) dX7_isWhole_69 hk hj rfl (gaX_all hT V) (ga_ka (fun r6 hp5 hw => ?_))
        refine ga_re ec es ?_
        refine g_astore_n (lv2 := [some (.ref v0), some (gi v1), some (.ref r2), some (.ref r6), none]) V dX7_isWhole_72 (by decide) rfl rfl rfl ?_
        refine g_aload_n V dX7_isWhole_73 rfl rfl ?_
        refine g_aload_n V dX7_isWhole_74 rfl rfl ?_
        refine g_iload_n V dX7_isWhole_75 rfl rfl ?_
        obtain ⟨hb, hw⟩ := hw
        obtain ⟨fb, hb⟩ := hb
        obtain ⟨hk, hj, c11, s12, ec, es, hw⟩ := hw
        refine g_callV (C := RX7) (T := TX7) (N := 8) (st := [.ref r2]) V (k_X7_byRules hst hw) ww_6_117 ww_6_119 wp_2_12 ww_1_5 ww_6_120 hd_X7_byRules ⟨by decide, by decide⟩ rfl (by decide) hb rfl rfl (ga_cat rfl) dX7_isWhole_76 hk hj rfl (gaX_all hT V) (ga_ka (fun r10 hp9 hw => ?_))
        refine ga_re ec es ?_
        refine g_callS (st := []) V (k_X7_areSame hst hw) ww_6_68 ww_6_69 ww_1_5 ww_6_70 hd_X7_areSame ⟨by decide, by decide⟩ rfl rfl (ga_cat rfl) dX7_isWhole_79 (Nat.zero_le _) (Nat.zero_le _) rfl (gaX_all hT V) (ga_ki (fun r14 hp13 hw => ?_))
        obtain ⟨hx0, hw⟩ := hw
        refine gi_if_eq V dX7_isWhole_82 rfl rfl hx0 (fun q => ?_) (fun q => ?_)
        · have hw := ga_t q hw
          refine g_iconst V (Int32.ofInt 0) dX7_isWhole_97 rfl rfl ?_
          exact g_iret V rfl rfl dX7_isWhole_98 ⟨_, rfl, hw⟩
        · have hw := ga_f q hw
          refine g_aload_n V dX7_isWhole_85 rfl rfl ?_
          refine g_aload_n V dX7_isWhole_86 rfl rfl ?_
          refine g_iload_n V dX7_isWhole_87 rfl rfl ?_
          obtain ⟨hb, hw⟩ := hw
          obtain ⟨fb, hb⟩ := hb
          obtain ⟨hk, hj, c17, s18, ec, es, hw⟩ := hw
          refine g_callV (C := RX7) (T := TX7) (N := 8) (st := [.ref r2]) V (k_X7_byLine hst hw) ww_6_121 ww_6_123 wp_2_13 ww_1_5 ww_6_124 hd_X7_byLine ⟨by decide, by decide⟩ rfl (by decide) hb rfl rfl (ga_cat rfl) dX7_isWhole_88 hk hj rfl (gaX_all hT V) (ga_ka (fun r16 hp15 hw => ?_))
          refine ga_re ec es ?_
          refine g_callS (st := []) V (k_X7_areSame hst hw) ww_6_68 ww_6_69 ww_1_5 ww_6_70 hd_X7_areSame ⟨by decide, by decide⟩ rfl rfl (ga_cat rfl) dX7_isWhole_91 (Nat.zero_le _) (Nat.zero_le _) rfl (gaX_all hT V) (ga_ki (fun r20 hp19 hw => ?_))
          obtain ⟨hx0, hw⟩ := hw
          refine gi_if_ne V dX7_isWhole_94 rfl rfl hx0 (fun q => ?_) (fun q => ?_)
          · have hw := ga_f q hw
            refine g_aload_n V dX7_isWhole_99 rfl rfl ?_
            refine g_aload_n V dX7_isWhole_100 rfl rfl ?_
            refine g_callS (st := []) V (k_X7_crossOf hst hw) ww_7_35 ww_7_36 ww_1_5 ww_7_37 hd_X7_crossOf ⟨by decide, by decide⟩ rfl rfl (ga_cat rfl) dX7_isWhole_101 (Nat.zero_le _) (Nat.zero_le _) rfl (gaX_all hT V) (ga_ki (fun r22 hp21 hw => ?_))
            refine g_iconst V (Int32.ofInt 1) dX7_isWhole_104 rfl rfl ?_
            refine g_aload_n V dX7_isWhole_105 rfl rfl ?_
            obtain ⟨fs, r23, ha, hv, hw⟩ := hw
            refine g_get (C := RX7) (T := TX7) (N := 8) V 2 rfl hin_RX7 (by decide) (by decide) ww_5_183 rfl ha hv dX7_isWhole_106 rfl ?_
            refine g_iload_n V dX7_isWhole_109 rfl rfl ?_
            obtain ⟨t9, vs, r24, ha, ht, h0, h9, hv, hw⟩ := hw
            refine gi_iaload V ha ht h0 h9 hv dX7_isWhole_110 rfl ?_
            refine g_iconst V (Int32.ofInt 2) dX7_isWhole_111 rfl rfl ?_
            refine gi_irem V dX7_isWhole_112 (by decide) (by decide) rfl ?_
            refine g_iconst V (Int32.ofInt 2) dX7_isWhole_113 rfl rfl ?_
            refine gi_imul V dX7_isWhole_114 rfl ?_
            refine gi_isub V dX7_isWhole_115 rfl ?_
            obtain ⟨hx0, hx1, hw⟩ := hw
            refine gi_icmp_ne V dX7_isWhole_116 rfl rfl hx0 hx1 (fun q => ?_) (fun q => ?_)
            · have hw := ga_f q hw
              refine g_iconst V (Int32.ofInt 0) dX7_isWhole_134 rfl rfl ?_
              exact g_iret V rfl rfl dX7_isWhole_135 ⟨_, rfl, hw⟩
            · have hw := ga_t q hw
              refine g_aload_n V dX7_isWhole_119 rfl rfl ?_
              refine g_aload_n V dX7_isWhole_120 rfl rfl ?_
              obtain ⟨hk, hj, c27, s28, ec, es, hw⟩ := hw
              refine g_callS (st := []) V (k_X7_alikeOf hst hw) ww_7_42 ww_7_43 ww_1_5 ww_7_44 hd_X7_alikeOf ⟨by decide, by decide⟩ rfl rfl (ga_cat rfl) dX7_isWhole_121 hk hj rfl (gaX_all hT V) (ga_ki (fun r26 hp25 hw => ?_))
              refine ga_re ec es ?_
              refine g_aload_n V dX7_isWhole_124 rfl rfl ?_
              obtain ⟨t9, vs, ha, ht, hw⟩ := hw
              refine gi_arraylength (t0 := 102) V (by simp [gaT]) ha ht dX7_isWhole_125 rfl ?_
              generalize (vs.length : Int) = r29 at hw ⊢
              refine g_aload_n V dX7_isWhole_126 rfl rfl ?_
              obtain ⟨t9, vs, ha, ht, hw⟩ := hw
              refine gi_arraylength (t0 := 102) V (by simp [gaT]) ha ht dX7_isWhole_127 rfl ?_
              generalize (vs.length : Int) = r30 at hw ⊢
              refine gi_iadd V dX7_isWhole_128 rfl ?_
              refine g_iconst V (Int32.ofInt 2) dX7_isWhole_129 rfl rfl ?_
              refine gi_isub V dX7_isWhole_130 rfl ?_
              obtain ⟨hx0, hx1, hw⟩ := hw
              refine gi_icmp_eq V dX7_isWhole_131 rfl rfl hx0 hx1 (fun q => ?_) (fun q => ?_)
              · have hw := ga_t q hw
                refine gi_iinc (lv2 := [some (.ref v0), some (gi (v1 + 1)), some (.ref r2), some (.ref r6), none]) V dX7_isWhole_136 (by decide) rfl rfl rfl rfl ?_
                refine g_goto V dX7_isWhole_139 rfl ?_
                refine g_less (bs := [true, true, false, false, true]) (lv2 := [some (.ref v0), some (gi (v1 + 1)), none, none, none]) rfl ?_
                exact ih v0 (v1 + 1) hp25 c27 s28 hw
              · have hw := ga_f q hw
                refine g_iconst V (Int32.ofInt 0) dX7_isWhole_134 rfl rfl ?_
                exact g_iret V rfl rfl dX7_isWhole_135 ⟨_, rfl, hw⟩
          · have hw := ga_t q hw
            refine g_iconst V (Int32.ofInt 0) dX7_isWhole_97 rfl rfl ?_
            exact g_iret V rfl rfl dX7_isWhole_98 ⟨_, rfl, hw⟩
  have h_X7_isWhole_L10 : ∀ (n : Nat), ∀ (v0 : Nat) (v1 : Nat) (v2 : Int) (v3 : Int) (h : gaH) (kc ks : Nat), w_X7_isWhole_L10 Q n v0 v1 v2 v3 h kc ks → gaP p l e rm_X7_isWhole s m args below meth c G 5 (gaZ below G (gQi Q) X args s rm_X7_isWhole) 10 [some (.ref v0), some (.ref v1), some (gi v2), some (gi v3), none] [] h kc ks := by
    intro n
    induction n with
    | zero =>
      intro v0 v1 v2 v3 h kc ks hw
      exact hw.elim
    | succ n ih =>
      intro v0 v1 v2 v3 h kc ks hw
      unfold w_X7_isWhole_L10 at hw
      refine g_iload_n V dX7_isWhole_10 rfl rfl ?_
      refine g_iload_n V dX7_isWhole_11 rfl rfl ?_
      obtain ⟨hx0, hx1, hw⟩ := hw
      refine gi_icmp_ge V dX7_isWhole_12 rfl rfl hx0 hx1 (fun q => ?_) (fun q => ?_)
      · have hw := ga_t q hw
        refine g_iconst V (Int32.ofInt 0) dX7_isWhole_52 rfl rfl ?_
        refine g_istore_n (lv2 := [some (.ref v0), some (gi 0), some (gi v2), some (gi v3), none]) V dX7_isWhole_53 (by decide) rfl rfl rfl ?_
        refine g_less (bs := [true, true, false, false, true]) (lv2 := [some (.ref v0), some (gi 0), none, none, none]) rfl ?_
        obtain ⟨z, hw⟩ := hw
        exact h_X7_isWhole_L54 z v0 0 h kc ks hw
      · have hw := ga_f q hw
        refine g_aload_n V dX7_isWhole_15 rfl rfl ?_
        refine g_iload_n V dX7_isWhole_16 rfl rfl ?_
        obtain ⟨vs, r1, ha, h0, h9, hv, hw⟩ := hw
        refine gi_aaload V ha (by decide) h0 h9 hv dX7_isWhole_17 rfl ?_
        refine g_astore (lv2 := [some (.ref v0), some (.ref v1), some (gi v2), some (gi v3), some (.ref r1)]) V dX7_isWhole_18 (by decide) rfl rfl rfl ?_
        refine g_aload V dX7_isWhole_20 rfl rfl ?_
        obtain ⟨t9, vs, ha, ht, hw⟩ := hw
        refine gi_arraylength (t0 := 102) V (by simp [gaT]) ha ht dX7_isWhole_22 rfl ?_
        generalize (vs.length : Int) = r2 at hw ⊢
        refine g_bipush V (Int32.ofInt 64) dX7_isWhole_23 rfl rfl ?_
        obtain ⟨hx0, hw⟩ := hw
        refine gi_icmp_gt V dX7_isWhole_25 rfl rfl hx0 (by decide) (fun q => ?_) (fun q => ?_)
        · have hw := ga_t q hw
          refine g_iconst V (Int32.ofInt 0) dX7_isWhole_44 rfl rfl ?_
          exact g_iret V rfl rfl dX7_isWhole_45 ⟨_, rfl, hw⟩
        · have hw := ga_f q hw
          refine g_aload V dX7_isWhole_28 rfl rfl ?_
          obtain ⟨hk, hj, c5, s6, ec, es, hw⟩ := hw
          refine g_callS (st := []) V (k_X7_turned hst hw) ww_6_61 ww_6_62 ww_1_5 ww_6_63 hd_X7_turned ⟨by decide, by decide⟩ rfl rfl (ga_cat rfl) dX7_isWhole_30 hk hj rfl (gaX_all hT V) (ga_ka (fun r4 hp3 hw => ?_))
          refine ga_re ec es ?_
          obtain ⟨hk, hj, c9, s10, ec, es, hw⟩ := hw
          refine g_callS (st := []) V (k_X7_turned hst hw) ww_6_61 ww_6_62 ww_1_5 ww_6_63 hd_X7_turned ⟨by decide, by decide⟩ rfl rfl (ga_cat rfl) dX7_isWhole_33 hk hj rfl (gaX_all hT V) (ga_ka (fun r8 hp7 hw => ?_))
          refine ga_re ec es ?_
          refine g_aload V dX7_isWhole_36 rfl rfl ?_
          refine g_callS (st := []) V (k_X7_areSame hst hw) ww_6_68 ww_6_69 ww_1_5 ww_6_70 hd_X7_areSame ⟨by decide, by decide⟩ rfl rfl (ga_cat rfl) dX7_isWhole_38 (Nat.zero_le _) (Nat.zero_le _) rfl (gaX_all hT V) (ga_ki (fun r12 hp11 hw => ?_))
          obtain ⟨hx0, hw⟩ := hw
          refine gi_if_ne V dX7_isWhole_41 rfl rfl hx0 (fun q => ?_) (fun q => ?_)
          · have hw := ga_f q hw
            refine gi_iinc (lv2 := [some (.ref v0), some (.ref v1), some (gi v2), some (gi (v3 + 1)), some (.ref r1)]) V dX7_isWhole_46 (by decide) rfl rfl rfl rfl ?_
            refine g_goto V dX7_isWhole_49 rfl ?_
            refine g_less (bs := [true, true, true, true, false]) (lv2 := [some (.ref v0), some (.ref v1), some (gi v2), some (gi (v3 + 1)), none]) rfl ?_
            exact ih v0 v1 v2 (v3 + 1) hp11 c9 s10 hw
          · have hw := ga_t q hw
            refine g_iconst V (Int32.ofInt 0) dX7_isWhole_44 rfl rfl ?_
            exact g_iret V rfl rfl dX7_isWhole_45 ⟨_, rfl, hw⟩
  show gaP p l e rm_X7_isWhole s m args below meth c G 5 (gaZ below G (gQi Q) X args s rm_X7_isWhole) 0 [some (.ref a0), none, none, none, none] [] h 928 55564
  unfold w_X7_isWhole at hw
  refine g_aload_n V dX7_isWhole_0 rfl rfl ?_
  obtain ⟨fs, r1, ha, hv, hw⟩ := hw
  refine g_get (C := RX7) (T := TX7) (N := 8) V 0 rfl hin_RX7 (by decide) (by decide) ww_5_181 rfl ha hv dX7_isWhole_1 rfl ?_
  refine g_astore_n (lv2 := [some (.ref a0), some (.ref r1), none, none, none]) V dX7_isWhole_4 (by decide) rfl rfl rfl ?_
  refine g_aload_n V dX7_isWhole_5 rfl rfl ?_
  obtain ⟨t9, vs, ha, ht, hw⟩ := hw
  refine gi_arraylength (t0 := 112) V (by simp [gaT]) ha ht dX7_isWhole_6 rfl ?_
  generalize (vs.length : Int) = r2 at hw ⊢
  refine g_istore_n (lv2 := [some (.ref a0), some (.ref r1), some (gi r2), none, none]) V dX7_isWhole_7 (by decide) rfl rfl rfl ?_
  refine g_iconst V (Int32.ofInt 0) dX7_isWhole_8 rfl rfl ?_
  refine g_istore_n (lv2 := [some (.ref a0), some (.ref r1), some (gi r2), some (gi 0), none]) V dX7_isWhole_9 (by decide) rfl rfl rfl ?_
  obtain ⟨z, hw⟩ := hw
  exact h_X7_isWhole_L10 z a0 r1 r2 0 h 928 55564 hw
def w_X7_digest_L55 (Q : Int64 → gaH → Prop) (K21 : Nat → Int64 → Nat → Int → Int → gaH → Nat → Nat → Prop) : Nat → (Nat → Int64 → Nat → Int → Int → Nat → Nat → Int → Int → gaH → Nat → Nat → Prop)
  | 0 => fun _ _ _ _ _ _ _ _ _ _ _ _ => False
  | n + 1 => fun v0 v1 v3 v4 v5 v6 v7 v8 v9 h kc ks => gR v9 ∧ gR v8 ∧ (if v8 ≤ v9 then w_X7_bs v6 h (fun r2 hp1 => w_X7_add v1 (gI2l r2) hp1 (fun r4 hp3 => gAL hp3 v6 102 (fun r5 => w_X7_isMirrored v6 0 r5 hp3 (fun r7 hp6 => w_X7_one r7 hp6 (fun r9 hp8 => w_X7_add r4 (gI2l r9) hp8 (fun r11 hp10 => w_X7_timesOf v6 hp10 (fun r13 hp12 => w_X7_add r11 (gI2l r13) hp12 (fun r15 hp14 => w_X7_overlapsOf v6 hp14 (fun r17 hp16 => w_X7_add r15 (gI2l r17) hp16 (fun r19 hp18 => w_X7_foldsOf v6 hp18 (fun r21 hp20 => w_X7_add r19 (gI2l r21) hp20 (fun r23 hp22 => w_X7_leastOf v6 hp22 (fun r25 hp24 => w_X7_add r23 (gI2l r25) hp24 (fun r27 hp26 => K21 v0 r27 v3 v4 (v5 + 1) hp26 kc ks)))))))))))))) else gLI h v7 102 v9 (fun r28 => w_X7_add v1 (gI2l (r28 + 1)) h (fun r30 hp29 => w_X7_digest_L55 Q K21 n v0 r30 v3 v4 v5 v6 v7 v8 (v9 + 1) hp29 kc ks)))
def w_X7_digest_L172 (Q : Int64 → gaH → Prop) : Nat → (Nat → Int64 → Int → gaH → Nat → Nat → Prop)
  | 0 => fun _ _ _ _ _ _ => False
  | n + 1 => fun v0 v1 v3 h kc ks => gR v3 ∧ (if 4 ≤ v3 then gHas h v0 7 ∧ gCall 928 55564 kc ks (fun c3 s4 => w_X7_isWhole v0 h (fun r2 hp1 => w_X7_one r2 hp1 (fun r6 hp5 => w_X7_add v1 (gI2l r6) hp5 (fun r8 hp7 => Q r8 hp7)))) else gHas h v0 7 ∧ w_X7_told v0 v3 h (fun r10 hp9 => w_X7_add v1 (gI2l r10) hp9 (fun r12 hp11 => w_X7_digest_L172 Q n v0 r12 (v3 + 1) hp11 kc ks)))
def w_X7_digest_L21 (Q : Int64 → gaH → Prop) : Nat → (Nat → Int64 → Nat → Int → Int → gaH → Nat → Nat → Prop)
  | 0 => fun _ _ _ _ _ _ _ _ => False
  | n + 1 => fun v0 v1 v3 v4 v5 h kc ks => gR v5 ∧ gR v4 ∧ (if v4 ≤ v5 then gHas h v0 7 ∧ gCall 136 8832 kc ks (fun c3 s4 => w_X7_added v0 v1 0 h (fun r2 hp1 => gHas hp1 v0 7 ∧ gCall 136 8832 c3 s4 (fun c7 s8 => w_X7_added v0 r2 1 hp1 (fun r6 hp5 => ∃ z, w_X7_digest_L172 Q z v0 r6 0 hp5 c7 s8)))) else gLA h v3 112 v5 (fun r9 => gAL h r9 102 (fun r10 => w_X7_add v1 (gI2l r10) h (fun r12 hp11 => gAL hp11 r9 102 (fun r13 => ∃ z, w_X7_digest_L55 Q (w_X7_digest_L21 Q n) z v0 r12 v3 v4 v5 r9 r9 r13 0 hp11 kc ks)))))
def w_X7_digest (a0 : Nat) (h : gaH) (Q : Int64 → gaH → Prop) : Prop := gPF h a0 7 7 (gi 0) (fun hp1 => gA hp1 a0 7 0 (fun r2 => gAL hp1 r2 112 (fun r3 => ∃ z, w_X7_digest_L21 Q z a0 (7979 : Int64) r2 r3 0 hp1 1200 73228)))
abbrev rm_X7_digest : Room := { frames := 4, cells := 1200, slots := 73228, locals := 105 }
theorem hd_X7_digest : yX7_digest.cls = RX7 ∧ (yX7_digest.cls ≠ "java/lang/invoke/MethodHandle" ∧ yX7_digest.cls ≠ "java/lang/invoke/VarHandle" ∧ (parseMethodDescriptor yX7_digest.desc).map (fun d => d.parameters.length) = some 0) := by decide +kernel
theorem k_X7_digest {l : Launch} (hst : l.stackTraces = false) {G : gaG} {X : String → gaH → Prop} {a0 : Nat} {h : gaH} {Q : Int64 → gaH → Prop} (hw : w_X7_digest a0 h Q) : gaC l G yX7_digest (gaM yX7_digest cX7_digest 11 ((some .long))) rm_X7_digest [.ref a0] h (gQl Q) X := by
  refine g_start (lv := [some (.ref a0), none, none, none, none, none, none, none, none, none, none]) hpl_RX7 hst (Nat.le_of_ble_eq_true rfl) (gaArgs_pad (z := 10) rfl) ww_7_68 ?_
  intro p e s m args below meth c V hT
  have h_X7_digest_L55 : ∀ (K21 : Nat → Int64 → Nat → Int → Int → gaH → Nat → Nat → Prop), ∀ (hK21 : ∀ (v0 : Nat) (v1 : Int64) (v3 : Nat) (v4 : Int) (v5 : Int) (h : gaH) (kc ks : Nat), K21 v0 v1 v3 v4 v5 h kc ks → gaP p l e rm_X7_digest s m args below meth c G 11 (gaZ below G (gQl Q) X args s rm_X7_digest) 21 [some (.ref v0), some (.long v1), none, some (.ref v3), some (gi v4), some (gi v5), none, none, none, none, none] [] h kc ks), ∀ (n : Nat), ∀ (v0 : Nat) (v1 : Int64) (v3 : Nat) (v4 : Int) (v5 : Int) (v6 : Nat) (v7 : Nat) (v8 : Int) (v9 : Int) (h : gaH) (kc ks : Nat), w_X7_digest_L55 Q K21 n v0 v1 v3 v4 v5 v6 v7 v8 v9 h kc ks → gaP p l e rm_X7_digest s m args below meth c G 11 (gaZ below G (gQl Q) X args s rm_X7_digest) 55 [some (.ref v0), some (.long v1), none, some (.ref v3), some (gi v4), some (gi v5), some (.ref v6), some (.ref v7), some (gi v8), some (gi v9), none] [] h kc ks := by
    intro K21 hK21
    intro n
    induction n with
    | zero =>
      intro v0 v1 v3 v4 v5 v6 v7 v8 v9 h kc ks hw
      exact hw.elim
    | succ n ih =>
      intro v0 v1 v3 v4 v5 v6 v7 v8 v9 h kc ks hw
      unfold w_X7_digest_L55 at hw
      refine g_iload V dX7_digest_55 rfl rfl ?_
      refine g_iload V dX7_digest_57 rfl rfl ?_
      obtain ⟨hx0, hx1, hw⟩ := hw
      refine gi_icmp_ge V dX7_digest_59 rfl rfl hx0 hx1 (fun q => ?_) (fun q => ?_)
      · have hw := ga_t q hw
        refine g_lload_n V dX7_digest_85 rfl rfl ?_
        refine g_aload V dX7_digest_86 rfl rfl ?_
        refine g_callS (st := [.long v1]) V (k_X7_bs hst hw) ww_6_46 ww_6_47 ww_1_5 ww_6_48 hd_X7_bs ⟨by decide, by decide⟩ rfl rfl (ga_cat rfl) dX7_digest_88 (Nat.zero_le _) (Nat.zero_le _) rfl (gaX_all hT V) (ga_ki (fun r2 hp1 hw => ?_))
        refine gi_i2l V dX7_digest_91 rfl ?_
        refine g_callS (st := []) V (k_X7_add hst hw) ww_7_70 ww_7_71 ww_1_5 ww_7_72 hd_X7_add ⟨by decide, by decide⟩ rfl rfl (ga_cat rfl) dX7_digest_92 (Nat.zero_le _) (Nat.zero_le _) rfl (gaX_all hT V) (ga_kl (fun r4 hp3 hw => ?_))
        refine g_aload V dX7_digest_95 rfl rfl ?_
        refine g_iconst V (Int32.ofInt 0) dX7_digest_97 rfl rfl ?_
        refine g_aload V dX7_digest_98 rfl rfl ?_
        obtain ⟨t9, vs, ha, ht, hw⟩ := hw
        refine gi_arraylength (t0 := 102) V (by simp [gaT]) ha ht dX7_digest_100 rfl ?_
        generalize (vs.length : Int) = r5 at hw ⊢
        refine g_callS (st := [.long r4]) V (k_X7_isMirrored hst hw) ww_6_195 ww_6_196 ww_1_5 ww_6_197 hd_X7_isMirrored ⟨by decide, by decide⟩ rfl rfl (ga_cat rfl) dX7_digest_101 (Nat.zero_le _) (Nat.zero_le _) rfl (gaX_all hT V) (ga_ki (fun r7 hp6 hw => ?_))
        refine g_callS (st := [.long r4]) V (k_X7_one hst hw) ww_6_19 ww_6_20 ww_1_5 ww_6_21 hd_X7_one ⟨by decide, by decide⟩ rfl rfl (ga_cat rfl) dX7_digest_104 (Nat.zero_le _) (Nat.zero_le _) rfl (gaX_all hT V) (ga_ki (fun r9 hp8 hw => ?_))
        refine gi_i2l V dX7_digest_107 rfl ?_
        refine g_callS (st := []) V (k_X7_add hst hw) ww_7_70 ww_7_71 ww_1_5 ww_7_72 hd_X7_add ⟨by decide, by decide⟩ rfl rfl (ga_cat rfl) dX7_digest_108 (Nat.zero_le _) (Nat.zero_le _) rfl (gaX_all hT V) (ga_kl (fun r11 hp10 hw => ?_))
        refine g_lstore_n (lv2 := [some (.ref v0), some (.long r11), none, some (.ref v3), some (gi v4), some (gi v5), some (.ref v6), some (.ref v7), some (gi v8), some (gi v9), none]) V dX7_digest_111 (by decide) rfl rfl rfl ?_
        refine g_lload_n V dX7_digest_112 rfl rfl ?_
        refine g_aload V dX7_digest_113 rfl rfl ?_
        refine g_callS (st := [.long r11]) V (k_X7_timesOf hst hw) ww_6_218 ww_6_219 ww_1_5 ww_6_220 hd_X7_timesOf ⟨by decide, by decide⟩ rfl rfl (ga_cat rfl) dX7_digest_115 (Nat.zero_le _) (Nat.zero_le _) rfl (gaX_all hT V) (ga_ki (fun r13 hp12 hw => ?_))
        refine gi_i2l V dX7_digest_118 rfl ?_
        refine g_callS (st := []) V (k_X7_add hst hw) ww_7_70 ww_7_71 ww_1_5 ww_7_72 hd_X7_add ⟨by decide, by decide⟩ rfl rfl (ga_cat rfl) dX7_digest_119 (Nat.zero_le _) (Nat.zero_le _) rfl (gaX_all hT V) (ga_kl (fun r15 hp14 hw => ?_))
        refine g_aload V dX7_digest_122 rfl rfl ?_
        refine g_callS (st := [.long r15]) V (k_X7_overlapsOf hst hw) ww_6_225 ww_6_226 ww_1_5 ww_6_227 hd_X7_overlapsOf ⟨by decide, by decide⟩ rfl rfl (ga_cat rfl) dX7_digest_124 (Nat.zero_le _) (Nat.zero_le _) rfl (gaX_all hT V) (ga_ki (fun r17 hp16 hw => ?_))
        refine gi_i2l V dX7_digest_127 rfl ?_
        refine g_callS (st := []) V (k_X7_add hst hw) ww_7_70 ww_7_71 ww_1_5 ww_7_72 hd_X7_add ⟨by decide, by decide⟩ rfl rfl (ga_cat rfl) dX7_digest_128 (Nat.zero_le _) (Nat.zero_le _) rfl (gaX_all hT V) (ga_kl (fun r19 hp18 hw => ?_))
        refine g_lstore_n (lv2 := [some (.ref v0), some (.long r19), none, some (.ref v3), some (gi v4), some (gi v5), some (.ref v6), some (.ref v7), some (gi v8), some (gi v9), none]) V dX7_digest_131 (by decide) rfl rfl rfl ?_
        refine g_lload_n V dX7_digest_132 rfl rfl ?_
        refine g_aload V dX7_digest_133 rfl rfl ?_
        refine g_callS (st := [.long r19]) V (k_X7_foldsOf hst hw) ww_6_236 ww_6_237 ww_1_5 ww_6_238 hd_X7_foldsOf ⟨by decide, by decide⟩ rfl rfl (ga_cat rfl) dX7_digest_135 (Nat.zero_le _) (Nat.zero_le _) rfl (gaX_all hT V) (ga_ki (fun r21 hp20 hw => ?_))
        refine gi_i2l V dX7_digest_138 rfl ?_
        refine g_callS (st := []) V (k_X7_add hst hw) ww_7_70 ww_7_71 ww_1_5 ww_7_72 hd_X7_add ⟨by decide, by decide⟩ rfl rfl (ga_cat rfl) dX7_digest_139 (Nat.zero_le _) (Nat.zero_le _) rfl (gaX_all hT V) (ga_kl (fun r23 hp22 hw => ?_))
        refine g_aload V dX7_digest_142 rfl rfl ?_
        refine g_callS (st := [.long r23]) V (k_X7_leastOf hst hw) ww_7_3 ww_7_4 ww_1_5 ww_7_5 hd_X7_leastOf ⟨by decide, by decide⟩ rfl rfl (ga_cat rfl) dX7_digest_144 (Nat.zero_le _) (Nat.zero_le _) rfl (gaX_all hT V) (ga_ki (fun r25 hp24 hw => ?_))
        refine gi_i2l V dX7_digest_147 rfl ?_
        refine g_callS (st := []) V (k_X7_add hst hw) ww_7_70 ww_7_71 ww_1_5 ww_7_72 hd_X7_add ⟨by decide, by decide⟩ rfl rfl (ga_cat rfl) dX7_digest_148 (Nat.zero_le _) (Nat.zero_le _) rfl (gaX_all hT V) (ga_kl (fun r27 hp26 hw => ?_))
        refine g_lstore_n (lv2 := [some (.ref v0), some (.long r27), none, some (.ref v3), some (gi v4), some (gi v5), some (.ref v6), some (.ref v7), some (gi v8), some (gi v9), none]) V dX7_digest_151 (by decide) rfl rfl rfl ?_
        refine gi_iinc (lv2 := [some (.ref v0), some (.long r27), none, some (.ref v3), some (gi v4), some (gi (v5 + 1)), some (.ref v6), some (.ref v7), some (gi v8), some (gi v9), none]) V dX7_digest_152 (by decide) rfl rfl rfl rfl ?_
        refine g_goto V dX7_digest_155 rfl ?_
        refine g_less (bs := [true, true, true, true, true, true, false, false, false, false, true]) (lv2 := [some (.ref v0), some (.long r27), none, some (.ref v3), some (gi v4), some (gi (v5 + 1)), none, none, none, none, none]) rfl ?_
        exact hK21 v0 r27 v3 v4 (v5 + 1) hp26 kc ks hw
      · have hw := ga_f q hw
        refine g_aload V dX7_digest_62 rfl rfl ?_
        refine g_iload V dX7_digest_64 rfl rfl ?_
        obtain ⟨t9, vs, r28, ha, ht, h0, h9, hv, hw⟩ := hw
        refine gi_iaload V ha ht h0 h9 hv dX7_digest_66 rfl ?_
        refine g_istore (lv2 := [some (.ref v0), some (.long v1), none, some (.ref v3), some (gi v4), some (gi v5), some (.ref v6), some (.ref v7), some (gi v8), some (gi v9), some (gi r28)]) V dX7_digest_67 (by decide) rfl rfl rfl ?_
        refine g_lload_n V dX7_digest_69 rfl rfl ?_
        refine g_iload V dX7_digest_70 rfl rfl ?_
        refine g_iconst V (Int32.ofInt 1) dX7_digest_72 rfl rfl ?_
        refine gi_iadd V dX7_digest_73 rfl ?_
        refine gi_i2l V dX7_digest_74 rfl ?_
        refine g_callS (st := []) V (k_X7_add hst hw) ww_7_70 ww_7_71 ww_1_5 ww_7_72 hd_X7_add ⟨by decide, by decide⟩ rfl rfl (ga_cat rfl) dX7_digest_75 (Nat.zero_le _) (Nat.zero_le _) rfl (gaX_all hT V) (ga_kl (fun r30 hp29 hw => ?_))
        refine g_lstore_n (lv2 := [some (.ref v0), some (.long r30), none, some (.ref v3), some (gi v4), some (gi v5), some (.ref v6), some (.ref v7), some (gi v8), some (gi v9), some (gi r28)]) V dX7_digest_78 (by decide) rfl rfl rfl ?_
        refine gi_iinc (lv2 := [some (.ref v0), some (.long r30), none, some (.ref v3), some (gi v4), some (gi v5), some (.ref v6), some (.ref v7), some (gi v8), some (gi (v9 + 1)), some (gi r28)]) V dX7_digest_79 (by decide) rfl rfl rfl rfl ?_
        refine g_goto V dX7_digest_82 rfl ?_
        refine g_less (bs := [true, true, true, true, true, true, true, true, true, true, false]) (lv2 := [some (.ref v0), some (.long r30), none, some (.ref v3), some (gi v4), some (gi v5), some (.ref v6), some (.ref v7), some (gi v8), some (gi (v9 + 1)), none]) rfl ?_
        exact ih v0 r30 v3 v4 v5 v6 v7 v8 (v9 + 1) hp29 kc ks hw
  have h_X7_digest_L172 : ∀ (n : Nat), ∀ (v0 : Nat) (v1 : Int64) (v3 : Int) (h : gaH) (kc ks : Nat), w_X7_digest_L172 Q n v0 v1 v3 h kc ks → gaP p l e rm_X7_digest s m args below meth c G 11 (gaZ below G (gQl Q) X args s rm_X7_digest) 172 [some (.ref v0), some (.long v1), none, some (gi v3), none, none, none, none, none, none, none] [] h kc ks := by
    intro n
    induction n with
    | zero =>
      intro v0 v1 v3 h kc ks hw
      exact hw.elim
    | succ n ih =>
      intro v0 v1 v3 h kc ks hw
      unfold w_X7_digest_L172 at hw
      refine g_iload_n V dX7_digest_172 rfl rfl ?_
      refine g_iconst V (Int32.ofInt 4) dX7_digest_173 rfl rfl ?_
      obtain ⟨hx0, hw⟩ := hw
      refine gi_icmp_ge V dX7_digest_174 rfl rfl hx0 (by decide) (fun q => ?_) (fun q => ?_)
      · have hw := ga_t q hw
        refine g_lload_n V dX7_digest_194 rfl rfl ?_
        refine g_aload_n V dX7_digest_195 rfl rfl ?_
        obtain ⟨hb, hw⟩ := hw
        obtain ⟨fb, hb⟩ := hb
        obtain ⟨hk, hj, c3, s4, ec, es, hw⟩ := hw
        refine g_callV (C := RX7) (T := TX7) (N := 8) (st := [.long v1]) V (k_X7_isWhole hst hw) ww_7_61 ww_7_63 wp_3_1 ww_1_5 ww_7_64 hd_X7_isWhole ⟨by decide, by decide⟩ rfl (by decide) hb rfl rfl (ga_cat rfl) dX7_digest_196 hk hj rfl (gaX_all hT V) (ga_ki (fun r2 hp1 hw => ?_))
        refine ga_re ec es ?_
        refine g_callS (st := [.long v1]) V (k_X7_one hst hw) ww_6_19 ww_6_20 ww_1_5 ww_6_21 hd_X7_one ⟨by decide, by decide⟩ rfl rfl (ga_cat rfl) dX7_digest_199 (Nat.zero_le _) (Nat.zero_le _) rfl (gaX_all hT V) (ga_ki (fun r6 hp5 hw => ?_))
        refine gi_i2l V dX7_digest_202 rfl ?_
        refine g_callS (st := []) V (k_X7_add hst hw) ww_7_70 ww_7_71 ww_1_5 ww_7_72 hd_X7_add ⟨by decide, by decide⟩ rfl rfl (ga_cat rfl) dX7_digest_203 (Nat.zero_le _) (Nat.zero_le _) rfl (gaX_all hT V) (ga_kl (fun r8 hp7 hw => ?_))
        exact g_lret V rfl dX7_digest_206 ⟨_, rfl, hw⟩
      · have hw := ga_f q hw
        refine g_lload_n V dX7_digest_177 rfl rfl ?_
        refine g_aload_n V dX7_digest_178 rfl rfl ?_
        refine g_iload_n V dX7_digest_179 rfl rfl ?_
        obtain ⟨hb, hw⟩ := hw
        obtain ⟨fb, hb⟩ := hb
        refine g_callV (C := RX7) (T := TX7) (N := 8) (st := [.long v1]) V (k_X7_told hst hw) ww_7_49 ww_7_51 wp_3_0 ww_1_5 ww_7_52 hd_X7_told ⟨by decide, by decide⟩ rfl (by decide) hb rfl rfl (ga_cat rfl) dX7_digest_180 (Nat.zero_le _) (Nat.zero_le _) rfl (gaX_all hT V) (ga_ki (fun r10 hp9 hw => ?_))
        refine gi_i2l V dX7_digest_183 rfl ?_
        refine g_callS (st := []) V (k_X7_add hst hw) ww_7_70 ww_7_71 ww_1_5 ww_7_72 hd_X7_add ⟨by decide, by decide⟩ rfl rfl (ga_cat rfl) dX7_digest_184 (Nat.zero_le _) (Nat.zero_le _) rfl (gaX_all hT V) (ga_kl (fun r12 hp11 hw => ?_))
        refine g_lstore_n (lv2 := [some (.ref v0), some (.long r12), none, some (gi v3), none, none, none, none, none, none, none]) V dX7_digest_187 (by decide) rfl rfl rfl ?_
        refine gi_iinc (lv2 := [some (.ref v0), some (.long r12), none, some (gi (v3 + 1)), none, none, none, none, none, none, none]) V dX7_digest_188 (by decide) rfl rfl rfl rfl ?_
        refine g_goto V dX7_digest_191 rfl ?_
        exact ih v0 r12 (v3 + 1) hp11 kc ks hw
  have h_X7_digest_L21 : ∀ (n : Nat), ∀ (v0 : Nat) (v1 : Int64) (v3 : Nat) (v4 : Int) (v5 : Int) (h : gaH) (kc ks : Nat), w_X7_digest_L21 Q n v0 v1 v3 v4 v5 h kc ks → gaP p l e rm_X7_digest s m args below meth c G 11 (gaZ below G (gQl Q) X args s rm_X7_digest) 21 [some (.ref v0), some (.long v1), none, some (.ref v3), some (gi v4), some (gi v5), none, none, none, none, none] [] h kc ks := by
    intro n
    induction n with
    | zero =>
      intro v0 v1 v3 v4 v5 h kc ks hw
      exact hw.elim
    | succ n ih =>
      intro v0 v1 v3 v4 v5 h kc ks hw
      unfold w_X7_digest_L21 at hw
      refine g_iload V dX7_digest_21 rfl rfl ?_
      refine g_iload V dX7_digest_23 rfl rfl ?_
      obtain ⟨hx0, hx1, hw⟩ := hw
      refine gi_icmp_ge V dX7_digest_25 rfl rfl hx0 hx1 (fun q => ?_) (fun q => ?_)
      · have hw := ga_t q hw
        refine g_aload_n V dX7_digest_158 rfl rfl ?_
        refine g_aload_n V dX7_digest_159 rfl rfl ?_
        refine g_lload_n V dX7_digest_160 rfl rfl ?_
        refine g_iconst V (Int32.ofInt 0) dX7_digest_161 rfl rfl ?_
        obtain ⟨hb, hw⟩ := hw
        obtain ⟨fb, hb⟩ := hb
        obtain ⟨hk, hj, c3, s4, ec, es, hw⟩ := hw
        refine g_callV (C := RX7) (T := TX7) (N := 8) (st := [.ref v0]) V (k_X7_added hst hw) ww_7_74 ww_7_76 wp_3_2 ww_1_5 ww_7_77 hd_X7_added ⟨by decide, by decide⟩ rfl (by decide) hb rfl rfl (ga_cat rfl) dX7_digest_162 hk hj rfl (gaX_all hT V) (ga_kl (fun r2 hp1 hw => ?_))
        refine ga_re ec es ?_
        refine g_iconst V (Int32.ofInt 1) dX7_digest_165 rfl rfl ?_
        obtain ⟨hb, hw⟩ := hw
        obtain ⟨fb, hb⟩ := hb
        obtain ⟨hk, hj, c7, s8, ec, es, hw⟩ := hw
        refine g_callV (C := RX7) (T := TX7) (N := 8) (st := []) V (k_X7_added hst hw) ww_7_74 ww_7_76 wp_3_2 ww_1_5 ww_7_77 hd_X7_added ⟨by decide, by decide⟩ rfl (by decide) hb rfl rfl (ga_cat rfl) dX7_digest_166 hk hj rfl (gaX_all hT V) (ga_kl (fun r6 hp5 hw => ?_))
        refine ga_re ec es ?_
        refine g_lstore_n (lv2 := [some (.ref v0), some (.long r6), none, some (.ref v3), some (gi v4), some (gi v5), none, none, none, none, none]) V dX7_digest_169 (by decide) rfl rfl rfl ?_
        refine g_iconst V (Int32.ofInt 0) dX7_digest_170 rfl rfl ?_
        refine g_istore_n (lv2 := [some (.ref v0), some (.long r6), none, some (gi 0), some (gi v4), some (gi v5), none, none, none, none, none]) V dX7_digest_171 (by decide) rfl rfl rfl ?_
        refine g_less (bs := [true, true, true, true, false, false, true, true, true, true, true]) (lv2 := [some (.ref v0), some (.long r6), none, some (gi 0), none, none, none, none, none, none, none]) rfl ?_
        obtain ⟨z, hw⟩ := hw
        exact h_X7_digest_L172 z v0 r6 0 hp5 c7 s8 hw
      · have hw := ga_f q hw
        refine g_aload_n V dX7_digest_28 rfl rfl ?_
        refine g_iload V dX7_digest_29 rfl rfl ?_
        obtain ⟨vs, r9, ha, h0, h9, hv, hw⟩ := hw
        refine gi_aaload V ha (by decide) h0 h9 hv dX7_digest_31 rfl ?_
        refine g_astore (lv2 := [some (.ref v0), some (.long v1), none, some (.ref v3), some (gi v4), some (gi v5), some (.ref r9), none, none, none, none]) V dX7_digest_32 (by decide) rfl rfl rfl ?_
        refine g_lload_n V dX7_digest_34 rfl rfl ?_
        refine g_aload V dX7_digest_35 rfl rfl ?_
        obtain ⟨t9, vs, ha, ht, hw⟩ := hw
        refine gi_arraylength (t0 := 102) V (by simp [gaT]) ha ht dX7_digest_37 rfl ?_
        generalize (vs.length : Int) = r10 at hw ⊢
        refine gi_i2l V dX7_digest_38 rfl ?_
        refine g_callS (st := []) V (k_X7_add hst hw) ww_7_70 ww_7_71 ww_1_5 ww_7_72 hd_X7_add ⟨by decide, by decide⟩ rfl rfl (ga_cat rfl) dX7_digest_39 (Nat.zero_le _) (Nat.zero_le _) rfl (gaX_all hT V) (ga_kl (fun r12 hp11 hw => ?_))
        refine g_lstore_n (lv2 := [some (.ref v0), some (.long r12), none, some (.ref v3), some (gi v4), some (gi v5), some (.ref r9), none, none, none, none]) V dX7_digest_42 (by decide) rfl rfl rfl ?_
        refine g_aload V dX7_digest_43 rfl rfl ?_
        refine g_astore (lv2 := [some (.ref v0), some (.long r12), none, some (.ref v3), some (gi v4), some (gi v5), some (.ref r9), some (.ref r9), none, none, none]) V dX7_digest_45 (by decide) rfl rfl rfl ?_
        refine g_aload V dX7_digest_47 rfl rfl ?_
        obtain ⟨t9, vs, ha, ht, hw⟩ := hw
        refine gi_arraylength (t0 := 102) V (by simp [gaT]) ha ht dX7_digest_49 rfl ?_
        generalize (vs.length : Int) = r13 at hw ⊢
        refine g_istore (lv2 := [some (.ref v0), some (.long r12), none, some (.ref v3), some (gi v4), some (gi v5), some (.ref r9), some (.ref r9), some (gi r13), none, none]) V dX7_digest_50 (by decide) rfl rfl rfl ?_
        refine g_iconst V (Int32.ofInt 0) dX7_digest_52 rfl rfl ?_
        refine g_istore (lv2 := [some (.ref v0), some (.long r12), none, some (.ref v3), some (gi v4), some (gi v5), some (.ref r9), some (.ref r9), some (gi r13), some (gi 0), none]) V dX7_digest_53 (by decide) rfl rfl rfl ?_
        obtain ⟨z, hw⟩ := hw
        exact h_X7_digest_L55 (w_X7_digest_L21 Q n) ih z v0 r12 v3 v4 v5 r9 r9 r13 0 hp11 kc ks hw
  show gaP p l e rm_X7_digest s m args below meth c G 11 (gaZ below G (gQl Q) X args s rm_X7_digest) 0 [some (.ref a0), none, none, none, none, none, none, none, none, none, none] [] h 1200 73228
  unfold w_X7_digest at hw
  refine g_aload_n V dX7_digest_0 rfl rfl ?_
  refine g_iconst V (Int32.ofInt 0) dX7_digest_1 rfl rfl ?_
  obtain ⟨fs, ha, hl, hw⟩ := hw
  refine g_put (C := RX7) (T := TX7) (N := 8) V 7 tyX7 tyX7_ok nmX7 rfl hin_RX7 (by decide) (by decide) ww_5_188 rfl rfl rfl rfl ha hl dX7_digest_2 rfl ?_
  generalize gaUp h a0 _ = hp1 at hw ⊢
  refine g_ldc2 V (7979 : Int64) dX7_digest_5 ww_7_69 rfl ?_
  refine g_lstore_n (lv2 := [some (.ref a0), some (.long (7979 : Int64)), none, none, none, none, none, none, none, none, none]) V dX7_digest_8 (by decide) rfl rfl rfl ?_
  refine g_aload_n V dX7_digest_9 rfl rfl ?_
  obtain ⟨fs, r2, ha, hv, hw⟩ := hw
  refine g_get (C := RX7) (T := TX7) (N := 8) V 0 rfl hin_RX7 (by decide) (by decide) ww_5_181 rfl ha hv dX7_digest_10 rfl ?_
  refine g_astore_n (lv2 := [some (.ref a0), some (.long (7979 : Int64)), none, some (.ref r2), none, none, none, none, none, none, none]) V dX7_digest_13 (by decide) rfl rfl rfl ?_
  refine g_aload_n V dX7_digest_14 rfl rfl ?_
  obtain ⟨t9, vs, ha, ht, hw⟩ := hw
  refine gi_arraylength (t0 := 112) V (by simp [gaT]) ha ht dX7_digest_15 rfl ?_
  generalize (vs.length : Int) = r3 at hw ⊢
  refine g_istore (lv2 := [some (.ref a0), some (.long (7979 : Int64)), none, some (.ref r2), some (gi r3), none, none, none, none, none, none]) V dX7_digest_16 (by decide) rfl rfl rfl ?_
  refine g_iconst V (Int32.ofInt 0) dX7_digest_18 rfl rfl ?_
  refine g_istore (lv2 := [some (.ref a0), some (.long (7979 : Int64)), none, some (.ref r2), some (gi r3), some (gi 0), none, none, none, none, none]) V dX7_digest_19 (by decide) rfl rfl rfl ?_
  obtain ⟨z, hw⟩ := hw
  exact h_X7_digest_L21 z a0 (7979 : Int64) r2 r3 0 hp1 1200 73228 hw
def w_X7_exchange (a0 : Nat) (a1 : Int) (h : gaH) (Q : Int → gaH → Prop) : Prop := w_X7_isNoSheet a1 h (fun r2 hp1 => gHas hp1 a0 7 ∧ w_X7_start a0 r2 1 hp1 (fun r4 hp3 => gR r4 ∧ (if r4 = 0 then gA hp3 a0 7 0 (fun r5 => gLA hp3 r5 112 a1 (fun r6 => gNA hp3 102 (gi 0) 1 3 384 (fun o7 hp8 c9 s10 => gSI hp8 o7 102 0 (gi 1) (fun hp11 => gNA hp11 102 (gi 0) 1 c9 s10 (fun o12 hp13 c14 s15 => gSI hp13 o12 102 0 (gi 0) (fun hp16 => gCall 1 256 c14 s15 (fun c19 s20 => w_X7_image r6 o7 o12 hp16 (fun r18 hp17 => gHas hp17 a0 7 ∧ w_X7_comes a0 a1 r18 hp17 (fun r22 hp21 => gA hp21 a0 7 0 (fun r23 => gLA hp21 r23 112 a1 (fun r24 => w_X7_bs r24 hp21 (fun r26 hp25 => Q r26 hp25)))))))))))) else Q 0 hp3)))
abbrev rm_X7_exchange : Room := { frames := 2, cells := 3, slots := 384, locals := 58 }
theorem hd_X7_exchange : yX7_exchange.cls = RX7 ∧ (yX7_exchange.cls ≠ "java/lang/invoke/MethodHandle" ∧ yX7_exchange.cls ≠ "java/lang/invoke/VarHandle" ∧ (parseMethodDescriptor yX7_exchange.desc).map (fun d => d.parameters.length) = some 1) := by decide +kernel
theorem k_X7_exchange {l : Launch} (hst : l.stackTraces = false) {G : gaG} {X : String → gaH → Prop} {a0 : Nat} {a1 : Int} {h : gaH} {Q : Int → gaH → Prop} (hw : w_X7_exchange a0 a1 h Q) : gaC l G yX7_exchange (gaM yX7_exchange cX7_exchange 2 ((some .int))) rm_X7_exchange [.ref a0, gi a1] h (gQi Q) X := by
  refine g_start (lv := [some (.ref a0), some (gi a1)]) hpl_RX7 hst (Nat.le_of_ble_eq_true rfl) (gaArgs_pad (z := 0) rfl) ww_6_77 ?_
  intro p e s m args below meth c V hT
  show gaP p l e rm_X7_exchange s m args below meth c G 2 (gaZ below G (gQi Q) X args s rm_X7_exchange) 0 [some (.ref a0), some (gi a1)] [] h 3 384
  unfold w_X7_exchange at hw
  refine g_aload_n V dX7_exchange_0 rfl rfl ?_
  refine g_iload_n V dX7_exchange_1 rfl rfl ?_
  refine g_callS (st := [.ref a0]) V (k_X7_isNoSheet hst hw) ww_5_214 ww_5_215 ww_1_5 ww_5_216 hd_X7_isNoSheet ⟨by decide, by decide⟩ rfl rfl (ga_cat rfl) dX7_exchange_2 (Nat.zero_le _) (Nat.zero_le _) rfl (gaX_all hT V) (ga_ki (fun r2 hp1 hw => ?_))
  refine g_iconst V (Int32.ofInt 1) dX7_exchange_5 rfl rfl ?_
  obtain ⟨hb, hw⟩ := hw
  obtain ⟨fb, hb⟩ := hb
  refine g_callV (C := RX7) (T := TX7) (N := 8) (st := []) V (k_X7_start hst hw) ww_5_220 ww_5_222 wp_2_2 ww_1_5 ww_5_223 hd_X7_start ⟨by decide, by decide⟩ rfl (by decide) hb rfl rfl (ga_cat rfl) dX7_exchange_6 (Nat.zero_le _) (Nat.zero_le _) rfl (gaX_all hT V) (ga_ki (fun r4 hp3 hw => ?_))
  obtain ⟨hx0, hw⟩ := hw
  refine gi_if_eq V dX7_exchange_9 rfl rfl hx0 (fun q => ?_) (fun q => ?_)
  · have hw := ga_t q hw
    refine g_aload_n V dX7_exchange_14 rfl rfl ?_
    refine g_iload_n V dX7_exchange_15 rfl rfl ?_
    refine g_aload_n V dX7_exchange_16 rfl rfl ?_
    obtain ⟨fs, r5, ha, hv, hw⟩ := hw
    refine g_get (C := RX7) (T := TX7) (N := 8) V 0 rfl hin_RX7 (by decide) (by decide) ww_5_181 rfl ha hv dX7_exchange_17 rfl ?_
    refine g_iload_n V dX7_exchange_20 rfl rfl ?_
    obtain ⟨vs, r6, ha, h0, h9, hv, hw⟩ := hw
    refine gi_aaload V ha (by decide) h0 h9 hv dX7_exchange_21 rfl ?_
    refine g_iconst V (Int32.ofInt 1) dX7_exchange_22 rfl rfl ?_
    obtain ⟨h0, h9, hk, hj, hw⟩ := hw
    refine gi_newarray (atype := .int) (t := 102) V (by decide) rfl ww_1_109 h0 h9 dX7_exchange_23 rfl hk hj (fun o7 hf => ?_)
    obtain ⟨c9, s10, ec, es, hw⟩ := hw o7 hf
    refine ga_re ec es ?_
    generalize gaUp hp3 o7 _ = hp8 at hw ⊢
    refine g_dup V dX7_exchange_25 rfl rfl ?_
    refine g_iconst V (Int32.ofInt 0) dX7_exchange_26 rfl rfl ?_
    refine g_iconst V (Int32.ofInt 1) dX7_exchange_27 rfl rfl ?_
    obtain ⟨vs, ha, h0, h9, hi, hw⟩ := hw
    refine gi_iastore V ha h0 h9 hi dX7_exchange_28 rfl ?_
    generalize gaUp hp8 o7 _ = hp11 at hw ⊢
    refine g_iconst V (Int32.ofInt 1) dX7_exchange_29 rfl rfl ?_
    obtain ⟨h0, h9, hk, hj, hw⟩ := hw
    refine gi_newarray (atype := .int) (t := 102) V (by decide) rfl ww_1_109 h0 h9 dX7_exchange_30 rfl hk hj (fun o12 hf => ?_)
    obtain ⟨c14, s15, ec, es, hw⟩ := hw o12 hf
    refine ga_re ec es ?_
    generalize gaUp hp11 o12 _ = hp13 at hw ⊢
    refine g_dup V dX7_exchange_32 rfl rfl ?_
    refine g_iconst V (Int32.ofInt 0) dX7_exchange_33 rfl rfl ?_
    refine g_iconst V (Int32.ofInt 0) dX7_exchange_34 rfl rfl ?_
    obtain ⟨vs, ha, h0, h9, hi, hw⟩ := hw
    refine gi_iastore V ha h0 h9 hi dX7_exchange_35 rfl ?_
    generalize gaUp hp13 o12 _ = hp16 at hw ⊢
    obtain ⟨hk, hj, c19, s20, ec, es, hw⟩ := hw
    refine g_callS (st := [gi a1, .ref a0]) V (k_X7_image hst hw) ww_6_78 ww_6_79 ww_1_5 ww_6_80 hd_X7_image ⟨by decide, by decide⟩ rfl rfl (ga_cat rfl) dX7_exchange_36 hk hj rfl (gaX_all hT V) (ga_ka (fun r18 hp17 hw => ?_))
    refine ga_re ec es ?_
    obtain ⟨hb, hw⟩ := hw
    obtain ⟨fb, hb⟩ := hb
    refine g_callV (C := RX7) (T := TX7) (N := 8) (st := []) V (k_X7_comes hst hw) ww_5_232 ww_5_234 wp_2_4 ww_1_5 ww_5_235 hd_X7_comes ⟨by decide, by decide⟩ rfl (by decide) hb rfl rfl (ga_cat rfl) dX7_exchange_39 (Nat.zero_le _) (Nat.zero_le _) rfl (gaX_all hT V) (ga_ki (fun r22 hp21 hw => ?_))
    refine g_pop V dX7_exchange_42 rfl rfl ?_
    refine g_aload_n V dX7_exchange_43 rfl rfl ?_
    obtain ⟨fs, r23, ha, hv, hw⟩ := hw
    refine g_get (C := RX7) (T := TX7) (N := 8) V 0 rfl hin_RX7 (by decide) (by decide) ww_5_181 rfl ha hv dX7_exchange_44 rfl ?_
    refine g_iload_n V dX7_exchange_47 rfl rfl ?_
    obtain ⟨vs, r24, ha, h0, h9, hv, hw⟩ := hw
    refine gi_aaload V ha (by decide) h0 h9 hv dX7_exchange_48 rfl ?_
    refine g_callS (st := []) V (k_X7_bs hst hw) ww_6_46 ww_6_47 ww_1_5 ww_6_48 hd_X7_bs ⟨by decide, by decide⟩ rfl rfl (ga_cat rfl) dX7_exchange_49 (Nat.zero_le _) (Nat.zero_le _) rfl (gaX_all hT V) (ga_ki (fun r26 hp25 hw => ?_))
    exact g_iret V rfl rfl dX7_exchange_52 ⟨_, rfl, hw⟩
  · have hw := ga_f q hw
    refine g_iconst V (Int32.ofInt 0) dX7_exchange_12 rfl rfl ?_
    exact g_iret V rfl rfl dX7_exchange_13 ⟨_, rfl, hw⟩
def w_X7_isNoGap (a0 : Nat) (a1 : Int) (a2 : Int) (h : gaH) (Q : Int → gaH → Prop) : Prop := w_X7_isNoSheet a1 h (fun r2 hp1 => gR r2 ∧ (if r2 = 0 then gA hp1 a0 7 0 (fun r3 => gLA hp1 r3 112 a1 (fun r4 => gAL hp1 r4 102 (fun r5 => w_X7_isIn a2 0 r5 hp1 (fun r7 hp6 => gR r7 ∧ (if r7 = 0 then Q 1 hp6 else Q 0 hp6))))) else Q 1 hp1))
abbrev rm_X7_isNoGap : Room := { frames := 2, cells := 0, slots := 0, locals := 42 }
theorem hd_X7_isNoGap : yX7_isNoGap.cls = RX7 ∧ (yX7_isNoGap.cls ≠ "java/lang/invoke/MethodHandle" ∧ yX7_isNoGap.cls ≠ "java/lang/invoke/VarHandle" ∧ (parseMethodDescriptor yX7_isNoGap.desc).map (fun d => d.parameters.length) = some 2) := by decide +kernel
theorem k_X7_isNoGap {l : Launch} (hst : l.stackTraces = false) {G : gaG} {X : String → gaH → Prop} {a0 : Nat} {a1 : Int} {a2 : Int} {h : gaH} {Q : Int → gaH → Prop} (hw : w_X7_isNoGap a0 a1 a2 h Q) : gaC l G yX7_isNoGap (gaM yX7_isNoGap cX7_isNoGap 3 ((some .boolean))) rm_X7_isNoGap [.ref a0, gi a1, gi a2] h (gQi Q) X := by
  refine g_start (lv := [some (.ref a0), some (gi a1), some (gi a2)]) hpl_RX7 hst (Nat.le_of_ble_eq_true rfl) (gaArgs_pad (z := 0) rfl) ww_6_18 ?_
  intro p e s m args below meth c V hT
  unfold w_X7_isNoGap at hw
  refine g_iload_n V dX7_isNoGap_0 rfl rfl ?_
  refine g_callS (st := []) V (k_X7_isNoSheet hst hw) ww_5_214 ww_5_215 ww_1_5 ww_5_216 hd_X7_isNoSheet ⟨by decide, by decide⟩ rfl rfl (ga_cat rfl) dX7_isNoGap_1 (Nat.zero_le _) (Nat.zero_le _) rfl (gaX_all hT V) (ga_ki (fun r2 hp1 hw => ?_))
  obtain ⟨hx0, hw⟩ := hw
  refine gi_if_ne V dX7_isNoGap_4 rfl rfl hx0 (fun q => ?_) (fun q => ?_)
  · have hw := ga_f q hw
    refine g_iconst V (Int32.ofInt 1) dX7_isNoGap_22 rfl rfl ?_
    refine g_goto V dX7_isNoGap_23 rfl ?_
    exact g_iret V rfl rfl dX7_isNoGap_27 ⟨_, rfl, hw⟩
  · have hw := ga_t q hw
    refine g_iload_n V dX7_isNoGap_7 rfl rfl ?_
    refine g_iconst V (Int32.ofInt 0) dX7_isNoGap_8 rfl rfl ?_
    refine g_aload_n V dX7_isNoGap_9 rfl rfl ?_
    obtain ⟨fs, r3, ha, hv, hw⟩ := hw
    refine g_get (C := RX7) (T := TX7) (N := 8) V 0 rfl hin_RX7 (by decide) (by decide) ww_5_181 rfl ha hv dX7_isNoGap_10 rfl ?_
    refine g_iload_n V dX7_isNoGap_13 rfl rfl ?_
    obtain ⟨vs, r4, ha, h0, h9, hv, hw⟩ := hw
    refine gi_aaload V ha (by decide) h0 h9 hv dX7_isNoGap_14 rfl ?_
    obtain ⟨t9, vs, ha, ht, hw⟩ := hw
    refine gi_arraylength (t0 := 102) V (by simp [gaT]) ha ht dX7_isNoGap_15 rfl ?_
    generalize (vs.length : Int) = r5 at hw ⊢
    refine g_callS (st := []) V (k_X7_isIn hst hw) ww_5_217 ww_5_218 ww_1_5 ww_5_219 hd_X7_isIn ⟨by decide, by decide⟩ rfl rfl (ga_cat rfl) dX7_isNoGap_16 (Nat.zero_le _) (Nat.zero_le _) rfl (gaX_all hT V) (ga_ki (fun r7 hp6 hw => ?_))
    obtain ⟨hx0, hw⟩ := hw
    refine gi_if_ne V dX7_isNoGap_19 rfl rfl hx0 (fun q => ?_) (fun q => ?_)
    · have hw := ga_f q hw
      refine g_iconst V (Int32.ofInt 0) dX7_isNoGap_26 rfl rfl ?_
      exact g_iret V rfl rfl dX7_isNoGap_27 ⟨_, rfl, hw⟩
    · have hw := ga_t q hw
      refine g_iconst V (Int32.ofInt 1) dX7_isNoGap_22 rfl rfl ?_
      refine g_goto V dX7_isNoGap_23 rfl ?_
      exact g_iret V rfl rfl dX7_isNoGap_27 ⟨_, rfl, hw⟩
def w_X7_find_L34 (Q : Int → gaH → Prop) : Nat → (Nat → Int → Int → Int → gaH → Prop)
  | 0 => fun _ _ _ _ _ => False
  | n + 1 => fun v0 v1 v2 v4 h => gA h v0 7 0 (fun r1 => gLA h r1 112 v1 (fun r2 => gAL h r2 102 (fun r3 => gR v4 ∧ gR r3 ∧ (if r3 < v4 then Q (-1) h else gA h v0 7 0 (fun r4 => gLA h r4 112 v1 (fun r5 => gA h v0 7 0 (fun r6 => gLA h r6 112 v2 (fun r7 => w_X7_standsAt r5 r7 v4 h (fun r9 hp8 => gR r9 ∧ (if r9 = 0 then w_X7_find_L34 Q n v0 v1 v2 (v4 + 1) hp8 else Q v4 hp8))))))))))
def w_X7_find_J22 (Q : Int → gaH → Prop) (v0 : Nat) (v1 : Int) (v2 : Int) (v3 : Int) (t0 : Nat) (t1 : Int) (h : gaH) : Prop := gHas h t0 7 ∧ w_X7_start t0 t1 1 h (fun r2 hp1 => gR r2 ∧ (if r2 = 0 then ∃ z, w_X7_find_L34 Q z v0 v1 v2 v3 hp1 else Q 0 hp1))
def w_X7_find_J17 (Q : Int → gaH → Prop) (v0 : Nat) (v1 : Int) (v2 : Int) (v3 : Int) (t0 : Nat) (h : gaH) : Prop := w_X7_find_J22 Q v0 v1 v2 v3 t0 1 h
def w_X7_find (a0 : Nat) (a1 : Int) (a2 : Int) (a3 : Int) (h : gaH) (Q : Int → gaH → Prop) : Prop := gHas h a0 7 ∧ w_X7_isNoGap a0 a1 a3 h (fun r2 hp1 => gR r2 ∧ (if r2 = 0 then w_X7_isNoSheet a2 hp1 (fun r4 hp3 => gR r4 ∧ (if r4 = 0 then w_X7_find_J22 Q a0 a1 a2 a3 a0 0 hp3 else w_X7_find_J17 Q a0 a1 a2 a3 a0 hp3)) else w_X7_find_J17 Q a0 a1 a2 a3 a0 hp1))
abbrev rm_X7_find : Room := { frames := 3, cells := 0, slots := 0, locals := 64 }
theorem hd_X7_find : yX7_find.cls = RX7 ∧ (yX7_find.cls ≠ "java/lang/invoke/MethodHandle" ∧ yX7_find.cls ≠ "java/lang/invoke/VarHandle" ∧ (parseMethodDescriptor yX7_find.desc).map (fun d => d.parameters.length) = some 3) := by decide +kernel
theorem k_X7_find {l : Launch} (hst : l.stackTraces = false) {G : gaG} {X : String → gaH → Prop} {a0 : Nat} {a1 : Int} {a2 : Int} {a3 : Int} {h : gaH} {Q : Int → gaH → Prop} (hw : w_X7_find a0 a1 a2 a3 h Q) : gaC l G yX7_find (gaM yX7_find cX7_find 5 ((some .int))) rm_X7_find [.ref a0, gi a1, gi a2, gi a3] h (gQi Q) X := by
  refine g_start (lv := [some (.ref a0), some (gi a1), some (gi a2), some (gi a3), none]) hpl_RX7 hst (Nat.le_of_ble_eq_true rfl) (gaArgs_pad (z := 1) rfl) ww_6_182 ?_
  intro p e s m args below meth c V hT
  have h_X7_find_L34 : ∀ (n : Nat), ∀ (v0 : Nat) (v1 : Int) (v2 : Int) (v4 : Int) (h : gaH), w_X7_find_L34 Q n v0 v1 v2 v4 h → gaP p l e rm_X7_find s m args below meth c G 5 (gaZ below G (gQi Q) X args s rm_X7_find) 34 [some (.ref v0), some (gi v1), some (gi v2), none, some (gi v4)] [] h 0 0 := by
    intro n
    induction n with
    | zero =>
      intro v0 v1 v2 v4 h hw
      exact hw.elim
    | succ n ih =>
      intro v0 v1 v2 v4 h hw
      unfold w_X7_find_L34 at hw
      refine g_iload V dX7_find_34 rfl rfl ?_
      refine g_aload_n V dX7_find_36 rfl rfl ?_
      obtain ⟨fs, r1, ha, hv, hw⟩ := hw
      refine g_get (C := RX7) (T := TX7) (N := 8) V 0 rfl hin_RX7 (by decide) (by decide) ww_5_181 rfl ha hv dX7_find_37 rfl ?_
      refine g_iload_n V dX7_find_40 rfl rfl ?_
      obtain ⟨vs, r2, ha, h0, h9, hv, hw⟩ := hw
      refine gi_aaload V ha (by decide) h0 h9 hv dX7_find_41 rfl ?_
      obtain ⟨t9, vs, ha, ht, hw⟩ := hw
      refine gi_arraylength (t0 := 102) V (by simp [gaT]) ha ht dX7_find_42 rfl ?_
      generalize (vs.length : Int) = r3 at hw ⊢
      obtain ⟨hx0, hx1, hw⟩ := hw
      refine gi_icmp_gt V dX7_find_43 rfl rfl hx0 hx1 (fun q => ?_) (fun q => ?_)
      · have hw := ga_t q hw
        refine g_iconst V (Int32.ofInt (-1)) dX7_find_75 rfl rfl ?_
        exact g_iret V rfl rfl dX7_find_76 ⟨_, rfl, hw⟩
      · have hw := ga_f q hw
        refine g_aload_n V dX7_find_46 rfl rfl ?_
        obtain ⟨fs, r4, ha, hv, hw⟩ := hw
        refine g_get (C := RX7) (T := TX7) (N := 8) V 0 rfl hin_RX7 (by decide) (by decide) ww_5_181 rfl ha hv dX7_find_47 rfl ?_
        refine g_iload_n V dX7_find_50 rfl rfl ?_
        obtain ⟨vs, r5, ha, h0, h9, hv, hw⟩ := hw
        refine gi_aaload V ha (by decide) h0 h9 hv dX7_find_51 rfl ?_
        refine g_aload_n V dX7_find_52 rfl rfl ?_
        obtain ⟨fs, r6, ha, hv, hw⟩ := hw
        refine g_get (C := RX7) (T := TX7) (N := 8) V 0 rfl hin_RX7 (by decide) (by decide) ww_5_181 rfl ha hv dX7_find_53 rfl ?_
        refine g_iload_n V dX7_find_56 rfl rfl ?_
        obtain ⟨vs, r7, ha, h0, h9, hv, hw⟩ := hw
        refine gi_aaload V ha (by decide) h0 h9 hv dX7_find_57 rfl ?_
        refine g_iload V dX7_find_58 rfl rfl ?_
        refine g_callS (st := []) V (k_X7_standsAt hst hw) ww_6_71 ww_6_72 ww_1_5 ww_6_73 hd_X7_standsAt ⟨by decide, by decide⟩ rfl rfl (ga_cat rfl) dX7_find_60 (Nat.zero_le _) (Nat.zero_le _) rfl (gaX_all hT V) (ga_ki (fun r9 hp8 hw => ?_))
        obtain ⟨hx0, hw⟩ := hw
        refine gi_if_eq V dX7_find_63 rfl rfl hx0 (fun q => ?_) (fun q => ?_)
        · have hw := ga_t q hw
          refine gi_iinc (lv2 := [some (.ref v0), some (gi v1), some (gi v2), none, some (gi (v4 + 1))]) V dX7_find_69 (by decide) rfl rfl rfl rfl ?_
          refine g_goto V dX7_find_72 rfl ?_
          exact ih v0 v1 v2 (v4 + 1) hp8 hw
        · have hw := ga_f q hw
          refine g_iload V dX7_find_66 rfl rfl ?_
          exact g_iret V rfl rfl dX7_find_68 ⟨_, rfl, hw⟩
  have h_X7_find_J22 : ∀ (v0 : Nat) (v1 : Int) (v2 : Int) (v3 : Int) (t0 : Nat) (t1 : Int) (h : gaH), w_X7_find_J22 Q v0 v1 v2 v3 t0 t1 h → gaP p l e rm_X7_find s m args below meth c G 5 (gaZ below G (gQi Q) X args s rm_X7_find) 22 [some (.ref v0), some (gi v1), some (gi v2), some (gi v3), none] [gi t1, .ref t0] h 0 0 := by
    intro v0 v1 v2 v3 t0 t1 h hw
    unfold w_X7_find_J22 at hw
    refine g_iconst V (Int32.ofInt 1) dX7_find_22 rfl rfl ?_
    obtain ⟨hb, hw⟩ := hw
    obtain ⟨fb, hb⟩ := hb
    refine g_callV (C := RX7) (T := TX7) (N := 8) (st := []) V (k_X7_start hst hw) ww_5_220 ww_5_222 wp_2_2 ww_1_5 ww_5_223 hd_X7_start ⟨by decide, by decide⟩ rfl (by decide) hb rfl rfl (ga_cat rfl) dX7_find_23 (Nat.zero_le _) (Nat.zero_le _) rfl (gaX_all hT V) (ga_ki (fun r2 hp1 hw => ?_))
    obtain ⟨hx0, hw⟩ := hw
    refine gi_if_eq V dX7_find_26 rfl rfl hx0 (fun q => ?_) (fun q => ?_)
    · have hw := ga_t q hw
      refine g_iload_n V dX7_find_31 rfl rfl ?_
      refine g_istore (lv2 := [some (.ref v0), some (gi v1), some (gi v2), some (gi v3), some (gi v3)]) V dX7_find_32 (by decide) rfl rfl rfl ?_
      refine g_less (bs := [true, true, true, false, true]) (lv2 := [some (.ref v0), some (gi v1), some (gi v2), none, some (gi v3)]) rfl ?_
      obtain ⟨z, hw⟩ := hw
      exact h_X7_find_L34 z v0 v1 v2 v3 hp1 hw
    · have hw := ga_f q hw
      refine g_iconst V (Int32.ofInt 0) dX7_find_29 rfl rfl ?_
      exact g_iret V rfl rfl dX7_find_30 ⟨_, rfl, hw⟩
  have h_X7_find_J17 : ∀ (v0 : Nat) (v1 : Int) (v2 : Int) (v3 : Int) (t0 : Nat) (h : gaH), w_X7_find_J17 Q v0 v1 v2 v3 t0 h → gaP p l e rm_X7_find s m args below meth c G 5 (gaZ below G (gQi Q) X args s rm_X7_find) 17 [some (.ref v0), some (gi v1), some (gi v2), some (gi v3), none] [.ref t0] h 0 0 := by
    intro v0 v1 v2 v3 t0 h hw
    unfold w_X7_find_J17 at hw
    refine g_iconst V (Int32.ofInt 1) dX7_find_17 rfl rfl ?_
    refine g_goto V dX7_find_18 rfl ?_
    exact h_X7_find_J22 v0 v1 v2 v3 t0 1 h hw
  unfold w_X7_find at hw
  refine g_aload_n V dX7_find_0 rfl rfl ?_
  refine g_aload_n V dX7_find_1 rfl rfl ?_
  refine g_iload_n V dX7_find_2 rfl rfl ?_
  refine g_iload_n V dX7_find_3 rfl rfl ?_
  obtain ⟨hb, hw⟩ := hw
  obtain ⟨fb, hb⟩ := hb
  refine g_callV (C := RX7) (T := TX7) (N := 8) (st := [.ref a0]) V (k_X7_isNoGap hst hw) ww_6_15 ww_6_17 wp_2_7 ww_1_5 ww_6_18 hd_X7_isNoGap ⟨by decide, by decide⟩ rfl (by decide) hb rfl rfl (ga_cat rfl) dX7_find_4 (Nat.zero_le _) (Nat.zero_le _) rfl (gaX_all hT V) (ga_ki (fun r2 hp1 hw => ?_))
  obtain ⟨hx0, hw⟩ := hw
  refine gi_if_ne V dX7_find_7 rfl rfl hx0 (fun q => ?_) (fun q => ?_)
  · have hw := ga_f q hw
    exact h_X7_find_J17 a0 a1 a2 a3 a0 hp1 hw
  · have hw := ga_t q hw
    refine g_iload_n V dX7_find_10 rfl rfl ?_
    refine g_callS (st := [.ref a0]) V (k_X7_isNoSheet hst hw) ww_5_214 ww_5_215 ww_1_5 ww_5_216 hd_X7_isNoSheet ⟨by decide, by decide⟩ rfl rfl (ga_cat rfl) dX7_find_11 (Nat.zero_le _) (Nat.zero_le _) rfl (gaX_all hT V) (ga_ki (fun r4 hp3 hw => ?_))
    obtain ⟨hx0, hw⟩ := hw
    refine gi_if_eq V dX7_find_14 rfl rfl hx0 (fun q => ?_) (fun q => ?_)
    · have hw := ga_t q hw
      refine g_iconst V (Int32.ofInt 0) dX7_find_21 rfl rfl ?_
      exact h_X7_find_J22 a0 a1 a2 a3 a0 0 hp3 hw
    · have hw := ga_f q hw
      exact h_X7_find_J17 a0 a1 a2 a3 a0 hp3 hw
def w_X7_findLast_L34 (Q : Int → gaH → Prop) : Nat → (Nat → Int → Int → Int → gaH → Prop)
  | 0 => fun _ _ _ _ _ => False
  | n + 1 => fun v0 v1 v2 v4 h => gR v4 ∧ (if v4 < 0 then Q (-1) h else gA h v0 7 0 (fun r1 => gLA h r1 112 v1 (fun r2 => gA h v0 7 0 (fun r3 => gLA h r3 112 v2 (fun r4 => w_X7_standsAt r2 r4 v4 h (fun r6 hp5 => gR r6 ∧ (if r6 = 0 then w_X7_findLast_L34 Q n v0 v1 v2 (v4 + (-1)) hp5 else Q v4 hp5)))))))
def w_X7_findLast_J22 (Q : Int → gaH → Prop) (v0 : Nat) (v1 : Int) (v2 : Int) (v3 : Int) (t0 : Nat) (t1 : Int) (h : gaH) : Prop := gHas h t0 7 ∧ w_X7_start t0 t1 1 h (fun r2 hp1 => gR r2 ∧ (if r2 = 0 then ∃ z, w_X7_findLast_L34 Q z v0 v1 v2 v3 hp1 else Q 0 hp1))
def w_X7_findLast_J17 (Q : Int → gaH → Prop) (v0 : Nat) (v1 : Int) (v2 : Int) (v3 : Int) (t0 : Nat) (h : gaH) : Prop := w_X7_findLast_J22 Q v0 v1 v2 v3 t0 1 h
def w_X7_findLast (a0 : Nat) (a1 : Int) (a2 : Int) (a3 : Int) (h : gaH) (Q : Int → gaH → Prop) : Prop := gHas h a0 7 ∧ w_X7_isNoGap a0 a1 a3 h (fun r2 hp1 => gR r2 ∧ (if r2 = 0 then w_X7_isNoSheet a2 hp1 (fun r4 hp3 => gR r4 ∧ (if r4 = 0 then w_X7_findLast_J22 Q a0 a1 a2 a3 a0 0 hp3 else w_X7_findLast_J17 Q a0 a1 a2 a3 a0 hp3)) else w_X7_findLast_J17 Q a0 a1 a2 a3 a0 hp1))
abbrev rm_X7_findLast : Room := { frames := 3, cells := 0, slots := 0, locals := 64 }
theorem hd_X7_findLast : yX7_findLast.cls = RX7 ∧ (yX7_findLast.cls ≠ "java/lang/invoke/MethodHandle" ∧ yX7_findLast.cls ≠ "java/lang/invoke/VarHandle" ∧ (parseMethodDescriptor yX7_findLast.desc).map (fun d => d.parameters.length) = some 3) := by decide +kernel
theorem k_X7_findLast {l : Launch} (hst : l.stackTraces = false) {G : gaG} {X : String → gaH → Prop} {a0 : Nat} {a1 : Int} {a2 : Int} {a3 : Int} {h : gaH} {Q : Int → gaH → Prop} (hw : w_X7_findLast a0 a1 a2 a3 h Q) : gaC l G yX7_findLast (gaM yX7_findLast cX7_findLast 5 ((some .int))) rm_X7_findLast [.ref a0, gi a1, gi a2, gi a3] h (gQi Q) X := by
  refine g_start (lv := [some (.ref a0), some (gi a1), some (gi a2), some (gi a3), none]) hpl_RX7 hst (Nat.le_of_ble_eq_true rfl) (gaArgs_pad (z := 1) rfl) ww_6_186 ?_
  intro p e s m args below meth c V hT
  have h_X7_findLast_L34 : ∀ (n : Nat), ∀ (v0 : Nat) (v1 : Int) (v2 : Int) (v4 : Int) (h : gaH), w_X7_findLast_L34 Q n v0 v1 v2 v4 h → gaP p l e rm_X7_findLast s m args below meth c G 5 (gaZ below G (gQi Q) X args s rm_X7_findLast) 34 [some (.ref v0), some (gi v1), some (gi v2), none, some (gi v4)] [] h 0 0 := by
    intro n
    induction n with
    | zero =>
      intro v0 v1 v2 v4 h hw
      exact hw.elim
    | succ n ih =>
      intro v0 v1 v2 v4 h hw
      unfold w_X7_findLast_L34 at hw
      refine g_iload V dX7_findLast_34 rfl rfl ?_
      obtain ⟨hx0, hw⟩ := hw
      refine gi_if_lt V dX7_findLast_36 rfl rfl hx0 (fun q => ?_) (fun q => ?_)
      · have hw := ga_t q hw
        refine g_iconst V (Int32.ofInt (-1)) dX7_findLast_68 rfl rfl ?_
        exact g_iret V rfl rfl dX7_findLast_69 ⟨_, rfl, hw⟩
      · have hw := ga_f q hw
        refine g_aload_n V dX7_findLast_39 rfl rfl ?_
        obtain ⟨fs, r1, ha, hv, hw⟩ := hw
        refine g_get (C := RX7) (T := TX7) (N := 8) V 0 rfl hin_RX7 (by decide) (by decide) ww_5_181 rfl ha hv dX7_findLast_40 rfl ?_
        refine g_iload_n V dX7_findLast_43 rfl rfl ?_
        obtain ⟨vs, r2, ha, h0, h9, hv, hw⟩ := hw
        refine gi_aaload V ha (by decide) h0 h9 hv dX7_findLast_44 rfl ?_
        refine g_aload_n V dX7_findLast_45 rfl rfl ?_
        obtain ⟨fs, r3, ha, hv, hw⟩ := hw
        refine g_get (C := RX7) (T := TX7) (N := 8) V 0 rfl hin_RX7 (by decide) (by decide) ww_5_181 rfl ha hv dX7_findLast_46 rfl ?_
        refine g_iload_n V dX7_findLast_49 rfl rfl ?_
        obtain ⟨vs, r4, ha, h0, h9, hv, hw⟩ := hw
        refine gi_aaload V ha (by decide) h0 h9 hv dX7_findLast_50 rfl ?_
        refine g_iload V dX7_findLast_51 rfl rfl ?_
        refine g_callS (st := []) V (k_X7_standsAt hst hw) ww_6_71 ww_6_72 ww_1_5 ww_6_73 hd_X7_standsAt ⟨by decide, by decide⟩ rfl rfl (ga_cat rfl) dX7_findLast_53 (Nat.zero_le _) (Nat.zero_le _) rfl (gaX_all hT V) (ga_ki (fun r6 hp5 hw => ?_))
        obtain ⟨hx0, hw⟩ := hw
        refine gi_if_eq V dX7_findLast_56 rfl rfl hx0 (fun q => ?_) (fun q => ?_)
        · have hw := ga_t q hw
          refine gi_iinc (lv2 := [some (.ref v0), some (gi v1), some (gi v2), none, some (gi (v4 + (-1)))]) V dX7_findLast_62 (by decide) rfl rfl rfl rfl ?_
          refine g_goto V dX7_findLast_65 rfl ?_
          exact ih v0 v1 v2 (v4 + (-1)) hp5 hw
        · have hw := ga_f q hw
          refine g_iload V dX7_findLast_59 rfl rfl ?_
          exact g_iret V rfl rfl dX7_findLast_61 ⟨_, rfl, hw⟩
  have h_X7_findLast_J22 : ∀ (v0 : Nat) (v1 : Int) (v2 : Int) (v3 : Int) (t0 : Nat) (t1 : Int) (h : gaH), w_X7_findLast_J22 Q v0 v1 v2 v3 t0 t1 h → gaP p l e rm_X7_findLast s m args below meth c G 5 (gaZ below G (gQi Q) X args s rm_X7_findLast) 22 [some (.ref v0), some (gi v1), some (gi v2), some (gi v3), none] [gi t1, .ref t0] h 0 0 := by
    intro v0 v1 v2 v3 t0 t1 h hw
    unfold w_X7_findLast_J22 at hw
    refine g_iconst V (Int32.ofInt 1) dX7_findLast_22 rfl rfl ?_
    obtain ⟨hb, hw⟩ := hw
    obtain ⟨fb, hb⟩ := hb
    refine g_callV (C := RX7) (T := TX7) (N := 8) (st := []) V (k_X7_start hst hw) ww_5_220 ww_5_222 wp_2_2 ww_1_5 ww_5_223 hd_X7_start ⟨by decide, by decide⟩ rfl (by decide) hb rfl rfl (ga_cat rfl) dX7_findLast_23 (Nat.zero_le _) (Nat.zero_le _) rfl (gaX_all hT V) (ga_ki (fun r2 hp1 hw => ?_))
    obtain ⟨hx0, hw⟩ := hw
    refine gi_if_eq V dX7_findLast_26 rfl rfl hx0 (fun q => ?_) (fun q => ?_)
    · have hw := ga_t q hw
      refine g_iload_n V dX7_findLast_31 rfl rfl ?_
      refine g_istore (lv2 := [some (.ref v0), some (gi v1), some (gi v2), some (gi v3), some (gi v3)]) V dX7_findLast_32 (by decide) rfl rfl rfl ?_
      refine g_less (bs := [true, true, true, false, true]) (lv2 := [some (.ref v0), some (gi v1), some (gi v2), none, some (gi v3)]) rfl ?_
      obtain ⟨z, hw⟩ := hw
      exact h_X7_findLast_L34 z v0 v1 v2 v3 hp1 hw
    · have hw := ga_f q hw
      refine g_iconst V (Int32.ofInt 0) dX7_findLast_29 rfl rfl ?_
      exact g_iret V rfl rfl dX7_findLast_30 ⟨_, rfl, hw⟩
  have h_X7_findLast_J17 : ∀ (v0 : Nat) (v1 : Int) (v2 : Int) (v3 : Int) (t0 : Nat) (h : gaH), w_X7_findLast_J17 Q v0 v1 v2 v3 t0 h → gaP p l e rm_X7_findLast s m args below meth c G 5 (gaZ below G (gQi Q) X args s rm_X7_findLast) 17 [some (.ref v0), some (gi v1), some (gi v2), some (gi v3), none] [.ref t0] h 0 0 := by
    intro v0 v1 v2 v3 t0 h hw
    unfold w_X7_findLast_J17 at hw
    refine g_iconst V (Int32.ofInt 1) dX7_findLast_17 rfl rfl ?_
    refine g_goto V dX7_findLast_18 rfl ?_
    exact h_X7_findLast_J22 v0 v1 v2 v3 t0 1 h hw
  unfold w_X7_findLast at hw
  refine g_aload_n V dX7_findLast_0 rfl rfl ?_
  refine g_aload_n V dX7_findLast_1 rfl rfl ?_
  refine g_iload_n V dX7_findLast_2 rfl rfl ?_
  refine g_iload_n V dX7_findLast_3 rfl rfl ?_
  obtain ⟨hb, hw⟩ := hw
  obtain ⟨fb, hb⟩ := hb
  refine g_callV (C := RX7) (T := TX7) (N := 8) (st := [.ref a0]) V (k_X7_isNoGap hst hw) ww_6_15 ww_6_17 wp_2_7 ww_1_5 ww_6_18 hd_X7_isNoGap ⟨by decide, by decide⟩ rfl (by decide) hb rfl rfl (ga_cat rfl) dX7_findLast_4 (Nat.zero_le _) (Nat.zero_le _) rfl (gaX_all hT V) (ga_ki (fun r2 hp1 hw => ?_))
  obtain ⟨hx0, hw⟩ := hw
  refine gi_if_ne V dX7_findLast_7 rfl rfl hx0 (fun q => ?_) (fun q => ?_)
  · have hw := ga_f q hw
    exact h_X7_findLast_J17 a0 a1 a2 a3 a0 hp1 hw
  · have hw := ga_t q hw
    refine g_iload_n V dX7_findLast_10 rfl rfl ?_
    refine g_callS (st := [.ref a0]) V (k_X7_isNoSheet hst hw) ww_5_214 ww_5_215 ww_1_5 ww_5_216 hd_X7_isNoSheet ⟨by decide, by decide⟩ rfl rfl (ga_cat rfl) dX7_findLast_11 (Nat.zero_le _) (Nat.zero_le _) rfl (gaX_all hT V) (ga_ki (fun r4 hp3 hw => ?_))
    obtain ⟨hx0, hw⟩ := hw
    refine gi_if_eq V dX7_findLast_14 rfl rfl hx0 (fun q => ?_) (fun q => ?_)
    · have hw := ga_t q hw
      refine g_iconst V (Int32.ofInt 0) dX7_findLast_21 rfl rfl ?_
      exact h_X7_findLast_J22 a0 a1 a2 a3 a0 0 hp3 hw
    · have hw := ga_f q hw
      exact h_X7_findLast_J17 a0 a1 a2 a3 a0 hp3 hw
def w_X7_folds (a0 : Nat) (a1 : Int) (h : gaH) (Q : Int → gaH → Prop) : Prop := w_X7_isNoSheet a1 h (fun r2 hp1 => gHas hp1 a0 7 ∧ w_X7_start a0 r2 1 hp1 (fun r4 hp3 => gR r4 ∧ (if r4 = 0 then gA hp3 a0 7 0 (fun r5 => gLA hp3 r5 112 a1 (fun r6 => w_X7_foldsOf r6 hp3 (fun r8 hp7 => Q r8 hp7))) else Q 0 hp3)))
abbrev rm_X7_folds : Room := { frames := 2, cells := 0, slots := 0, locals := 45 }
theorem hd_X7_folds : yX7_folds.cls = RX7 ∧ (yX7_folds.cls ≠ "java/lang/invoke/MethodHandle" ∧ yX7_folds.cls ≠ "java/lang/invoke/VarHandle" ∧ (parseMethodDescriptor yX7_folds.desc).map (fun d => d.parameters.length) = some 1) := by decide +kernel
theorem k_X7_folds {l : Launch} (hst : l.stackTraces = false) {G : gaG} {X : String → gaH → Prop} {a0 : Nat} {a1 : Int} {h : gaH} {Q : Int → gaH → Prop} (hw : w_X7_folds a0 a1 h Q) : gaC l G yX7_folds (gaM yX7_folds cX7_folds 2 ((some .int))) rm_X7_folds [.ref a0, gi a1] h (gQi Q) X := by
  refine g_start (lv := [some (.ref a0), some (gi a1)]) hpl_RX7 hst (Nat.le_of_ble_eq_true rfl) (gaArgs_pad (z := 0) rfl) ww_6_235 ?_
  intro p e s m args below meth c V hT
  unfold w_X7_folds at hw
  refine g_aload_n V dX7_folds_0 rfl rfl ?_
  refine g_iload_n V dX7_folds_1 rfl rfl ?_
  refine g_callS (st := [.ref a0]) V (k_X7_isNoSheet hst hw) ww_5_214 ww_5_215 ww_1_5 ww_5_216 hd_X7_isNoSheet ⟨by decide, by decide⟩ rfl rfl (ga_cat rfl) dX7_folds_2 (Nat.zero_le _) (Nat.zero_le _) rfl (gaX_all hT V) (ga_ki (fun r2 hp1 hw => ?_))
  refine g_iconst V (Int32.ofInt 1) dX7_folds_5 rfl rfl ?_
  obtain ⟨hb, hw⟩ := hw
  obtain ⟨fb, hb⟩ := hb
  refine g_callV (C := RX7) (T := TX7) (N := 8) (st := []) V (k_X7_start hst hw) ww_5_220 ww_5_222 wp_2_2 ww_1_5 ww_5_223 hd_X7_start ⟨by decide, by decide⟩ rfl (by decide) hb rfl rfl (ga_cat rfl) dX7_folds_6 (Nat.zero_le _) (Nat.zero_le _) rfl (gaX_all hT V) (ga_ki (fun r4 hp3 hw => ?_))
  obtain ⟨hx0, hw⟩ := hw
  refine gi_if_eq V dX7_folds_9 rfl rfl hx0 (fun q => ?_) (fun q => ?_)
  · have hw := ga_t q hw
    refine g_aload_n V dX7_folds_16 rfl rfl ?_
    obtain ⟨fs, r5, ha, hv, hw⟩ := hw
    refine g_get (C := RX7) (T := TX7) (N := 8) V 0 rfl hin_RX7 (by decide) (by decide) ww_5_181 rfl ha hv dX7_folds_17 rfl ?_
    refine g_iload_n V dX7_folds_20 rfl rfl ?_
    obtain ⟨vs, r6, ha, h0, h9, hv, hw⟩ := hw
    refine gi_aaload V ha (by decide) h0 h9 hv dX7_folds_21 rfl ?_
    refine g_callS (st := []) V (k_X7_foldsOf hst hw) ww_6_236 ww_6_237 ww_1_5 ww_6_238 hd_X7_foldsOf ⟨by decide, by decide⟩ rfl rfl (ga_cat rfl) dX7_folds_22 (Nat.zero_le _) (Nat.zero_le _) rfl (gaX_all hT V) (ga_ki (fun r8 hp7 hw => ?_))
    exact g_iret V rfl rfl dX7_folds_25 ⟨_, rfl, hw⟩
  · have hw := ga_f q hw
    refine g_iconst V (Int32.ofInt 0) dX7_folds_12 rfl rfl ?_
    refine g_goto V dX7_folds_13 rfl ?_
    exact g_iret V rfl rfl dX7_folds_25 ⟨_, rfl, hw⟩
def w_X7_fresh (a0 : Nat) (a1 : Int) (h : gaH) (Q : Int → gaH → Prop) : Prop := w_X7_isNoGrowth a1 h (fun r2 hp1 => gHas hp1 a0 7 ∧ w_X7_start a0 r2 1 hp1 (fun r4 hp3 => gR r4 ∧ (if r4 = 0 then gA hp3 a0 7 2 (fun r5 => gLI hp3 r5 102 a1 (fun r6 => gA hp3 a0 7 2 (fun r7 => gSI hp3 r7 102 a1 (gi 0) (fun hp8 => gI hp8 a0 7 4 (fun r9 => gPF hp8 a0 7 4 (gi (r9 + 1)) (fun hp10 => Q r6 hp10)))))) else Q 0 hp3)))
abbrev rm_X7_fresh : Room := { frames := 2, cells := 0, slots := 0, locals := 44 }
theorem hd_X7_fresh : yX7_fresh.cls = RX7 ∧ (yX7_fresh.cls ≠ "java/lang/invoke/MethodHandle" ∧ yX7_fresh.cls ≠ "java/lang/invoke/VarHandle" ∧ (parseMethodDescriptor yX7_fresh.desc).map (fun d => d.parameters.length) = some 1) := by decide +kernel
theorem k_X7_fresh {l : Launch} (hst : l.stackTraces = false) {G : gaG} {X : String → gaH → Prop} {a0 : Nat} {a1 : Int} {h : gaH} {Q : Int → gaH → Prop} (hw : w_X7_fresh a0 a1 h Q) : gaC l G yX7_fresh (gaM yX7_fresh cX7_fresh 3 ((some .int))) rm_X7_fresh [.ref a0, gi a1] h (gQi Q) X := by
  refine g_start (lv := [some (.ref a0), some (gi a1), none]) hpl_RX7 hst (Nat.le_of_ble_eq_true rfl) (gaArgs_pad (z := 1) rfl) ww_6_154 ?_
  intro p e s m args below meth c V hT
  unfold w_X7_fresh at hw
  refine g_aload_n V dX7_fresh_0 rfl rfl ?_
  refine g_iload_n V dX7_fresh_1 rfl rfl ?_
  refine g_callS (st := [.ref a0]) V (k_X7_isNoGrowth hst hw) ww_6_110 ww_6_111 ww_1_5 ww_6_112 hd_X7_isNoGrowth ⟨by decide, by decide⟩ rfl rfl (ga_cat rfl) dX7_fresh_2 (Nat.zero_le _) (Nat.zero_le _) rfl (gaX_all hT V) (ga_ki (fun r2 hp1 hw => ?_))
  refine g_iconst V (Int32.ofInt 1) dX7_fresh_5 rfl rfl ?_
  obtain ⟨hb, hw⟩ := hw
  obtain ⟨fb, hb⟩ := hb
  refine g_callV (C := RX7) (T := TX7) (N := 8) (st := []) V (k_X7_start hst hw) ww_5_220 ww_5_222 wp_2_2 ww_1_5 ww_5_223 hd_X7_start ⟨by decide, by decide⟩ rfl (by decide) hb rfl rfl (ga_cat rfl) dX7_fresh_6 (Nat.zero_le _) (Nat.zero_le _) rfl (gaX_all hT V) (ga_ki (fun r4 hp3 hw => ?_))
  obtain ⟨hx0, hw⟩ := hw
  refine gi_if_eq V dX7_fresh_9 rfl rfl hx0 (fun q => ?_) (fun q => ?_)
  · have hw := ga_t q hw
    refine g_aload_n V dX7_fresh_14 rfl rfl ?_
    obtain ⟨fs, r5, ha, hv, hw⟩ := hw
    refine g_get (C := RX7) (T := TX7) (N := 8) V 2 rfl hin_RX7 (by decide) (by decide) ww_5_183 rfl ha hv dX7_fresh_15 rfl ?_
    refine g_iload_n V dX7_fresh_18 rfl rfl ?_
    obtain ⟨t9, vs, r6, ha, ht, h0, h9, hv, hw⟩ := hw
    refine gi_iaload V ha ht h0 h9 hv dX7_fresh_19 rfl ?_
    refine g_istore_n (lv2 := [some (.ref a0), some (gi a1), some (gi r6)]) V dX7_fresh_20 (by decide) rfl rfl rfl ?_
    refine g_aload_n V dX7_fresh_21 rfl rfl ?_
    obtain ⟨fs, r7, ha, hv, hw⟩ := hw
    refine g_get (C := RX7) (T := TX7) (N := 8) V 2 rfl hin_RX7 (by decide) (by decide) ww_5_183 rfl ha hv dX7_fresh_22 rfl ?_
    refine g_iload_n V dX7_fresh_25 rfl rfl ?_
    refine g_iconst V (Int32.ofInt 0) dX7_fresh_26 rfl rfl ?_
    obtain ⟨vs, ha, h0, h9, hi, hw⟩ := hw
    refine gi_iastore V ha h0 h9 hi dX7_fresh_27 rfl ?_
    generalize gaUp hp3 r7 _ = hp8 at hw ⊢
    refine g_aload_n V dX7_fresh_28 rfl rfl ?_
    refine g_dup V dX7_fresh_29 rfl rfl ?_
    obtain ⟨fs, r9, ha, hv, hw⟩ := hw
    refine g_get (C := RX7) (T := TX7) (N := 8) V 4 rfl hin_RX7 (by decide) (by decide) ww_5_185 rfl ha hv dX7_fresh_30 rfl ?_
    refine g_iconst V (Int32.ofInt 1) dX7_fresh_33 rfl rfl ?_
    refine gi_iadd V dX7_fresh_34 rfl ?_
    obtain ⟨fs, ha, hl, hw⟩ := hw
    refine g_put (C := RX7) (T := TX7) (N := 8) V 4 tyX7 tyX7_ok nmX7 rfl hin_RX7 (by decide) (by decide) ww_5_185 rfl rfl rfl rfl ha hl dX7_fresh_35 rfl ?_
    generalize gaUp hp8 a0 _ = hp10 at hw ⊢
    refine g_iload_n V dX7_fresh_38 rfl rfl ?_
    exact g_iret V rfl rfl dX7_fresh_39 ⟨_, rfl, hw⟩
  · have hw := ga_f q hw
    refine g_iconst V (Int32.ofInt 0) dX7_fresh_12 rfl rfl ?_
    exact g_iret V rfl rfl dX7_fresh_13 ⟨_, rfl, hw⟩
def w_X7_grow_J27 (Q : Int → gaH → Prop) (v0 : Nat) (v1 : Int) (v2 : Int) (t0 : Nat) (t1 : Int) (h : gaH) (kc ks : Nat) : Prop := gHas h t0 7 ∧ w_X7_refuse t0 t1 2 h (fun r2 hp1 => gR r2 ∧ (if r2 = 0 then gHas hp1 v0 7 ∧ gCall 66 4098 kc ks (fun c5 s6 => w_X7_byCopies v0 v1 0 hp1 (fun r4 hp3 => gAL hp3 r4 102 (fun r7 => gHas hp3 v0 7 ∧ gCall 67 4099 c5 s6 (fun c10 s11 => w_X7_elder v0 v1 hp3 (fun r9 hp8 => gAL hp8 r9 102 (fun r12 => gR ((v2 * r7) + r12) ∧ (if ((v2 * r7) + r12) ≤ 64 then gA hp8 v0 7 1 (fun r13 => gLA hp8 r13 112 v1 (fun r14 => gA hp8 v0 7 2 (fun r15 => gLI hp8 r15 102 v1 (fun r16 => gSI hp8 r14 102 r16 (gi v2) (fun hp17 => gA hp17 v0 7 2 (fun r18 => gLI hp17 r18 102 v1 (fun r19 => gSI hp17 r18 102 v1 (gi (r19 + 1)) (fun hp20 => gI hp20 v0 7 4 (fun r21 => gPF hp20 v0 7 4 (gi (r21 + 1)) (fun hp22 => Q ((v2 * r7) + r12) hp22)))))))))) else gHas hp8 v0 7 ∧ w_X7_cannot v0 hp8 (fun r24 hp23 => Q r24 hp23)))))))) else Q 0 hp1))
def w_X7_grow (a0 : Nat) (a1 : Int) (a2 : Int) (h : gaH) (Q : Int → gaH → Prop) : Prop := w_X7_isNoGrowth a1 h (fun r2 hp1 => gHas hp1 a0 7 ∧ w_X7_start a0 r2 1 hp1 (fun r4 hp3 => gR r4 ∧ (if r4 = 0 then w_X7_isIn a2 1 3 hp3 (fun r6 hp5 => gR r6 ∧ (if r6 = 0 then w_X7_grow_J27 Q a0 a1 a2 a0 1 hp5 133 8197 else w_X7_grow_J27 Q a0 a1 a2 a0 0 hp5 133 8197)) else Q 0 hp3)))
abbrev rm_X7_grow : Room := { frames := 2, cells := 133, slots := 8197, locals := 49 }
theorem hd_X7_grow : yX7_grow.cls = RX7 ∧ (yX7_grow.cls ≠ "java/lang/invoke/MethodHandle" ∧ yX7_grow.cls ≠ "java/lang/invoke/VarHandle" ∧ (parseMethodDescriptor yX7_grow.desc).map (fun d => d.parameters.length) = some 2) := by decide +kernel
theorem k_X7_grow {l : Launch} (hst : l.stackTraces = false) {G : gaG} {X : String → gaH → Prop} {a0 : Nat} {a1 : Int} {a2 : Int} {h : gaH} {Q : Int → gaH → Prop} (hw : w_X7_grow a0 a1 a2 h Q) : gaC l G yX7_grow (gaM yX7_grow cX7_grow 4 ((some .int))) rm_X7_grow [.ref a0, gi a1, gi a2] h (gQi Q) X := by
  refine g_start (lv := [some (.ref a0), some (gi a1), some (gi a2), none]) hpl_RX7 hst (Nat.le_of_ble_eq_true rfl) (gaArgs_pad (z := 1) rfl) ww_6_142 ?_
  intro p e s m args below meth c V hT
  have h_X7_grow_J27 : ∀ (v0 : Nat) (v1 : Int) (v2 : Int) (t0 : Nat) (t1 : Int) (h : gaH) (kc ks : Nat), w_X7_grow_J27 Q v0 v1 v2 t0 t1 h kc ks → gaP p l e rm_X7_grow s m args below meth c G 4 (gaZ below G (gQi Q) X args s rm_X7_grow) 27 [some (.ref v0), some (gi v1), some (gi v2), none] [gi t1, .ref t0] h kc ks := by
    intro v0 v1 v2 t0 t1 h kc ks hw
    unfold w_X7_grow_J27 at hw
    refine g_iconst V (Int32.ofInt 2) dX7_grow_27 rfl rfl ?_
    obtain ⟨hb, hw⟩ := hw
    obtain ⟨fb, hb⟩ := hb
    refine g_callV (C := RX7) (T := TX7) (N := 8) (st := []) V (k_X7_refuse hst hw) ww_5_224 ww_5_226 wp_2_3 ww_1_5 ww_5_227 hd_X7_refuse ⟨by decide, by decide⟩ rfl (by decide) hb rfl rfl (ga_cat rfl) dX7_grow_28 (Nat.zero_le _) (Nat.zero_le _) rfl (gaX_all hT V) (ga_ki (fun r2 hp1 hw => ?_))
    obtain ⟨hx0, hw⟩ := hw
    refine gi_if_eq V dX7_grow_31 rfl rfl hx0 (fun q => ?_) (fun q => ?_)
    · have hw := ga_t q hw
      refine g_iload_n V dX7_grow_36 rfl rfl ?_
      refine g_aload_n V dX7_grow_37 rfl rfl ?_
      refine g_iload_n V dX7_grow_38 rfl rfl ?_
      refine g_iconst V (Int32.ofInt 0) dX7_grow_39 rfl rfl ?_
      obtain ⟨hb, hw⟩ := hw
      obtain ⟨fb, hb⟩ := hb
      obtain ⟨hk, hj, c5, s6, ec, es, hw⟩ := hw
      refine g_callV (C := RX7) (T := TX7) (N := 8) (st := [gi v2]) V (k_X7_byCopies hst hw) ww_6_113 ww_6_115 wp_2_11 ww_1_5 ww_6_116 hd_X7_byCopies ⟨by decide, by decide⟩ rfl (by decide) hb rfl rfl (ga_cat rfl) dX7_grow_40 hk hj rfl (gaX_all hT V) (ga_ka (fun r4 hp3 hw => ?_))
      refine ga_re ec es ?_
      obtain ⟨t9, vs, ha, ht, hw⟩ := hw
      refine gi_arraylength (t0 := 102) V (by simp [gaT]) ha ht dX7_grow_43 rfl ?_
      generalize (vs.length : Int) = r7 at hw ⊢
      refine gi_imul V dX7_grow_44 rfl ?_
      refine g_aload_n V dX7_grow_45 rfl rfl ?_
      refine g_iload_n V dX7_grow_46 rfl rfl ?_
      obtain ⟨hb, hw⟩ := hw
      obtain ⟨fb, hb⟩ := hb
      obtain ⟨hk, hj, c10, s11, ec, es, hw⟩ := hw
      refine g_callV (C := RX7) (T := TX7) (N := 8) (st := [gi (v2 * r7)]) V (k_X7_elder hst hw) ww_6_143 ww_6_145 wp_2_14 ww_1_5 ww_6_146 hd_X7_elder ⟨by decide, by decide⟩ rfl (by decide) hb rfl rfl (ga_cat rfl) dX7_grow_47 hk hj rfl (gaX_all hT V) (ga_ka (fun r9 hp8 hw => ?_))
      refine ga_re ec es ?_
      obtain ⟨t9, vs, ha, ht, hw⟩ := hw
      refine gi_arraylength (t0 := 102) V (by simp [gaT]) ha ht dX7_grow_50 rfl ?_
      generalize (vs.length : Int) = r12 at hw ⊢
      refine gi_iadd V dX7_grow_51 rfl ?_
      refine g_istore_n (lv2 := [some (.ref v0), some (gi v1), some (gi v2), some (gi ((v2 * r7) + r12))]) V dX7_grow_52 (by decide) rfl rfl rfl ?_
      refine g_iload_n V dX7_grow_53 rfl rfl ?_
      refine g_bipush V (Int32.ofInt 64) dX7_grow_54 rfl rfl ?_
      obtain ⟨hx0, hw⟩ := hw
      refine gi_icmp_le V dX7_grow_56 rfl rfl hx0 (by decide) (fun q => ?_) (fun q => ?_)
      · have hw := ga_t q hw
        refine g_aload_n V dX7_grow_64 rfl rfl ?_
        obtain ⟨fs, r13, ha, hv, hw⟩ := hw
        refine g_get (C := RX7) (T := TX7) (N := 8) V 1 rfl hin_RX7 (by decide) (by decide) ww_5_182 rfl ha hv dX7_grow_65 rfl ?_
        refine g_iload_n V dX7_grow_68 rfl rfl ?_
        obtain ⟨vs, r14, ha, h0, h9, hv, hw⟩ := hw
        refine gi_aaload V ha (by decide) h0 h9 hv dX7_grow_69 rfl ?_
        refine g_aload_n V dX7_grow_70 rfl rfl ?_
        obtain ⟨fs, r15, ha, hv, hw⟩ := hw
        refine g_get (C := RX7) (T := TX7) (N := 8) V 2 rfl hin_RX7 (by decide) (by decide) ww_5_183 rfl ha hv dX7_grow_71 rfl ?_
        refine g_iload_n V dX7_grow_74 rfl rfl ?_
        obtain ⟨t9, vs, r16, ha, ht, h0, h9, hv, hw⟩ := hw
        refine gi_iaload V ha ht h0 h9 hv dX7_grow_75 rfl ?_
        refine g_iload_n V dX7_grow_76 rfl rfl ?_
        obtain ⟨vs, ha, h0, h9, hi, hw⟩ := hw
        refine gi_iastore V ha h0 h9 hi dX7_grow_77 rfl ?_
        generalize gaUp hp8 r14 _ = hp17 at hw ⊢
        refine g_aload_n V dX7_grow_78 rfl rfl ?_
        obtain ⟨fs, r18, ha, hv, hw⟩ := hw
        refine g_get (C := RX7) (T := TX7) (N := 8) V 2 rfl hin_RX7 (by decide) (by decide) ww_5_183 rfl ha hv dX7_grow_79 rfl ?_
        refine g_iload_n V dX7_grow_82 rfl rfl ?_
        refine g_dup2 V dX7_grow_83 rfl rfl rfl ?_
        obtain ⟨t9, vs, r19, ha, ht, h0, h9, hv, hw⟩ := hw
        refine gi_iaload V ha ht h0 h9 hv dX7_grow_84 rfl ?_
        refine g_iconst V (Int32.ofInt 1) dX7_grow_85 rfl rfl ?_
        refine gi_iadd V dX7_grow_86 rfl ?_
        obtain ⟨vs, ha, h0, h9, hi, hw⟩ := hw
        refine gi_iastore V ha h0 h9 hi dX7_grow_87 rfl ?_
        generalize gaUp hp17 r18 _ = hp20 at hw ⊢
        refine g_aload_n V dX7_grow_88 rfl rfl ?_
        refine g_dup V dX7_grow_89 rfl rfl ?_
        obtain ⟨fs, r21, ha, hv, hw⟩ := hw
        refine g_get (C := RX7) (T := TX7) (N := 8) V 4 rfl hin_RX7 (by decide) (by decide) ww_5_185 rfl ha hv dX7_grow_90 rfl ?_
        refine g_iconst V (Int32.ofInt 1) dX7_grow_93 rfl rfl ?_
        refine gi_iadd V dX7_grow_94 rfl ?_
        obtain ⟨fs, ha, hl, hw⟩ := hw
        refine g_put (C := RX7) (T := TX7) (N := 8) V 4 tyX7 tyX7_ok nmX7 rfl hin_RX7 (by decide) (by decide) ww_5_185 rfl rfl rfl rfl ha hl dX7_grow_95 rfl ?_
        generalize gaUp hp20 v0 _ = hp22 at hw ⊢
        refine g_iload_n V dX7_grow_98 rfl rfl ?_
        exact g_iret V rfl rfl dX7_grow_99 ⟨_, rfl, hw⟩
      · have hw := ga_f q hw
        refine g_aload_n V dX7_grow_59 rfl rfl ?_
        obtain ⟨hb, hw⟩ := hw
        obtain ⟨fb, hb⟩ := hb
        refine g_callV (C := RX7) (T := TX7) (N := 8) (st := []) V (k_X7_cannot hst hw) ww_6_4 ww_6_6 wp_2_6 ww_1_5 ww_6_7 hd_X7_cannot ⟨by decide, by decide⟩ rfl (by decide) hb rfl rfl (ga_cat rfl) dX7_grow_60 (Nat.zero_le _) (Nat.zero_le _) rfl (gaX_all hT V) (ga_ki (fun r24 hp23 hw => ?_))
        exact g_iret V rfl rfl dX7_grow_63 ⟨_, rfl, hw⟩
    · have hw := ga_f q hw
      refine g_iconst V (Int32.ofInt 0) dX7_grow_34 rfl rfl ?_
      exact g_iret V rfl rfl dX7_grow_35 ⟨_, rfl, hw⟩
  show gaP p l e rm_X7_grow s m args below meth c G 4 (gaZ below G (gQi Q) X args s rm_X7_grow) 0 [some (.ref a0), some (gi a1), some (gi a2), none] [] h 133 8197
  unfold w_X7_grow at hw
  refine g_aload_n V dX7_grow_0 rfl rfl ?_
  refine g_iload_n V dX7_grow_1 rfl rfl ?_
  refine g_callS (st := [.ref a0]) V (k_X7_isNoGrowth hst hw) ww_6_110 ww_6_111 ww_1_5 ww_6_112 hd_X7_isNoGrowth ⟨by decide, by decide⟩ rfl rfl (ga_cat rfl) dX7_grow_2 (Nat.zero_le _) (Nat.zero_le _) rfl (gaX_all hT V) (ga_ki (fun r2 hp1 hw => ?_))
  refine g_iconst V (Int32.ofInt 1) dX7_grow_5 rfl rfl ?_
  obtain ⟨hb, hw⟩ := hw
  obtain ⟨fb, hb⟩ := hb
  refine g_callV (C := RX7) (T := TX7) (N := 8) (st := []) V (k_X7_start hst hw) ww_5_220 ww_5_222 wp_2_2 ww_1_5 ww_5_223 hd_X7_start ⟨by decide, by decide⟩ rfl (by decide) hb rfl rfl (ga_cat rfl) dX7_grow_6 (Nat.zero_le _) (Nat.zero_le _) rfl (gaX_all hT V) (ga_ki (fun r4 hp3 hw => ?_))
  obtain ⟨hx0, hw⟩ := hw
  refine gi_if_ne V dX7_grow_9 rfl rfl hx0 (fun q => ?_) (fun q => ?_)
  · have hw := ga_f q hw
    refine g_iconst V (Int32.ofInt 0) dX7_grow_34 rfl rfl ?_
    exact g_iret V rfl rfl dX7_grow_35 ⟨_, rfl, hw⟩
  · have hw := ga_t q hw
    refine g_aload_n V dX7_grow_12 rfl rfl ?_
    refine g_iload_n V dX7_grow_13 rfl rfl ?_
    refine g_iconst V (Int32.ofInt 1) dX7_grow_14 rfl rfl ?_
    refine g_iconst V (Int32.ofInt 3) dX7_grow_15 rfl rfl ?_
    refine g_callS (st := [.ref a0]) V (k_X7_isIn hst hw) ww_5_217 ww_5_218 ww_1_5 ww_5_219 hd_X7_isIn ⟨by decide, by decide⟩ rfl rfl (ga_cat rfl) dX7_grow_16 (Nat.zero_le _) (Nat.zero_le _) rfl (gaX_all hT V) (ga_ki (fun r6 hp5 hw => ?_))
    obtain ⟨hx0, hw⟩ := hw
    refine gi_if_ne V dX7_grow_19 rfl rfl hx0 (fun q => ?_) (fun q => ?_)
    · have hw := ga_f q hw
      refine g_iconst V (Int32.ofInt 0) dX7_grow_26 rfl rfl ?_
      exact h_X7_grow_J27 a0 a1 a2 a0 0 hp5 133 8197 hw
    · have hw := ga_t q hw
      refine g_iconst V (Int32.ofInt 1) dX7_grow_22 rfl rfl ?_
      refine g_goto V dX7_grow_23 rfl ?_
      exact h_X7_grow_J27 a0 a1 a2 a0 1 hp5 133 8197 hw
def w_X7_house_J15 (Q : Int → gaH → Prop) (v0 : Nat) (v1 : Int) (t0 : Nat) (t1 : Int) (h : gaH) : Prop := gHas h t0 7 ∧ w_X7_start t0 t1 1 h (fun r2 hp1 => gR r2 ∧ (if r2 = 0 then gHas hp1 v0 7 ∧ w_X7_told v0 v1 hp1 (fun r4 hp3 => Q r4 hp3) else Q 0 hp1))
def w_X7_house (a0 : Nat) (a1 : Int) (h : gaH) (Q : Int → gaH → Prop) : Prop := w_X7_isIn a1 0 3 h (fun r2 hp1 => gR r2 ∧ (if r2 = 0 then w_X7_house_J15 Q a0 a1 a0 1 hp1 else w_X7_house_J15 Q a0 a1 a0 0 hp1))
abbrev rm_X7_house : Room := { frames := 2, cells := 0, slots := 0, locals := 44 }
theorem hd_X7_house : yX7_house.cls = RX7 ∧ (yX7_house.cls ≠ "java/lang/invoke/MethodHandle" ∧ yX7_house.cls ≠ "java/lang/invoke/VarHandle" ∧ (parseMethodDescriptor yX7_house.desc).map (fun d => d.parameters.length) = some 1) := by decide +kernel
theorem k_X7_house {l : Launch} (hst : l.stackTraces = false) {G : gaG} {X : String → gaH → Prop} {a0 : Nat} {a1 : Int} {h : gaH} {Q : Int → gaH → Prop} (hw : w_X7_house a0 a1 h Q) : gaC l G yX7_house (gaM yX7_house cX7_house 2 ((some .int))) rm_X7_house [.ref a0, gi a1] h (gQi Q) X := by
  refine g_start (lv := [some (.ref a0), some (gi a1)]) hpl_RX7 hst (Nat.le_of_ble_eq_true rfl) (gaArgs_pad (z := 0) rfl) ww_7_48 ?_
  intro p e s m args below meth c V hT
  have h_X7_house_J15 : ∀ (v0 : Nat) (v1 : Int) (t0 : Nat) (t1 : Int) (h : gaH), w_X7_house_J15 Q v0 v1 t0 t1 h → gaP p l e rm_X7_house s m args below meth c G 2 (gaZ below G (gQi Q) X args s rm_X7_house) 15 [some (.ref v0), some (gi v1)] [gi t1, .ref t0] h 0 0 := by
    intro v0 v1 t0 t1 h hw
    unfold w_X7_house_J15 at hw
    refine g_iconst V (Int32.ofInt 1) dX7_house_15 rfl rfl ?_
    obtain ⟨hb, hw⟩ := hw
    obtain ⟨fb, hb⟩ := hb
    refine g_callV (C := RX7) (T := TX7) (N := 8) (st := []) V (k_X7_start hst hw) ww_5_220 ww_5_222 wp_2_2 ww_1_5 ww_5_223 hd_X7_start ⟨by decide, by decide⟩ rfl (by decide) hb rfl rfl (ga_cat rfl) dX7_house_16 (Nat.zero_le _) (Nat.zero_le _) rfl (gaX_all hT V) (ga_ki (fun r2 hp1 hw => ?_))
    obtain ⟨hx0, hw⟩ := hw
    refine gi_if_eq V dX7_house_19 rfl rfl hx0 (fun q => ?_) (fun q => ?_)
    · have hw := ga_t q hw
      refine g_aload_n V dX7_house_26 rfl rfl ?_
      refine g_iload_n V dX7_house_27 rfl rfl ?_
      obtain ⟨hb, hw⟩ := hw
      obtain ⟨fb, hb⟩ := hb
      refine g_callV (C := RX7) (T := TX7) (N := 8) (st := []) V (k_X7_told hst hw) ww_7_49 ww_7_51 wp_3_0 ww_1_5 ww_7_52 hd_X7_told ⟨by decide, by decide⟩ rfl (by decide) hb rfl rfl (ga_cat rfl) dX7_house_28 (Nat.zero_le _) (Nat.zero_le _) rfl (gaX_all hT V) (ga_ki (fun r4 hp3 hw => ?_))
      exact g_iret V rfl rfl dX7_house_31 ⟨_, rfl, hw⟩
    · have hw := ga_f q hw
      refine g_iconst V (Int32.ofInt 0) dX7_house_22 rfl rfl ?_
      refine g_goto V dX7_house_23 rfl ?_
      exact g_iret V rfl rfl dX7_house_31 ⟨_, rfl, hw⟩
  unfold w_X7_house at hw
  refine g_aload_n V dX7_house_0 rfl rfl ?_
  refine g_iload_n V dX7_house_1 rfl rfl ?_
  refine g_iconst V (Int32.ofInt 0) dX7_house_2 rfl rfl ?_
  refine g_iconst V (Int32.ofInt 3) dX7_house_3 rfl rfl ?_
  refine g_callS (st := [.ref a0]) V (k_X7_isIn hst hw) ww_5_217 ww_5_218 ww_1_5 ww_5_219 hd_X7_isIn ⟨by decide, by decide⟩ rfl rfl (ga_cat rfl) dX7_house_4 (Nat.zero_le _) (Nat.zero_le _) rfl (gaX_all hT V) (ga_ki (fun r2 hp1 hw => ?_))
  obtain ⟨hx0, hw⟩ := hw
  refine gi_if_ne V dX7_house_7 rfl rfl hx0 (fun q => ?_) (fun q => ?_)
  · have hw := ga_f q hw
    refine g_iconst V (Int32.ofInt 0) dX7_house_14 rfl rfl ?_
    exact h_X7_house_J15 a0 a1 a0 0 hp1 hw
  · have hw := ga_t q hw
    refine g_iconst V (Int32.ofInt 1) dX7_house_10 rfl rfl ?_
    refine g_goto V dX7_house_11 rfl ?_
    exact h_X7_house_J15 a0 a1 a0 1 hp1 hw
def w_X7_init (a0 : Nat) (h : gaH) (Q : gaH → Prop) : Prop := gNA h 112 (.null) 3 8 512 (fun o1 hp2 c3 s4 => gNA hp2 102 (gi 0) 0 c3 s4 (fun o5 hp6 c7 s8 => gHas hp6 o5 102 ∧ gSI hp6 o1 112 0 (.ref o5) (fun hp9 => gNA hp9 102 (gi 0) 0 c7 s8 (fun o10 hp11 c12 s13 => gHas hp11 o10 102 ∧ gSI hp11 o1 112 1 (.ref o10) (fun hp14 => gNA hp14 102 (gi 0) 0 c12 s13 (fun o15 hp16 c17 s18 => gHas hp16 o15 102 ∧ gSI hp16 o1 112 2 (.ref o15) (fun hp19 => gPF hp19 a0 7 0 (.ref o1) (fun hp20 => gNA hp20 112 (.null) 2 c17 s18 (fun o21 hp22 c23 s24 => gNA hp22 102 (gi 0) 64 c23 s24 (fun o25 hp26 c27 s28 => gHas hp26 o25 102 ∧ gSI hp26 o21 112 0 (.ref o25) (fun hp29 => gNA hp29 102 (gi 0) 64 c27 s28 (fun o30 hp31 c32 s33 => gHas hp31 o30 102 ∧ gSI hp31 o21 112 1 (.ref o30) (fun hp34 => gPF hp34 a0 7 1 (.ref o21) (fun hp35 => gNA hp35 102 (gi 0) 2 c32 s33 (fun o36 hp37 c38 s39 => gPF hp37 a0 7 2 (.ref o36) (fun hp40 => Q hp40))))))))))))))))
abbrev rm_X7_init : Room := { frames := 2, cells := 8, slots := 512, locals := 60 }
theorem hd_X7_init : (yX7_init.cls ≠ "java/lang/invoke/MethodHandle" ∧ yX7_init.cls ≠ "java/lang/invoke/VarHandle" ∧ (parseMethodDescriptor yX7_init.desc).map (fun d => d.parameters.length) = some 0) := by decide +kernel
theorem k_X7_init {l : Launch} (hst : l.stackTraces = false) {G : gaG} {X : String → gaH → Prop} {a0 : Nat} {h : gaH} {Q : gaH → Prop} (hw : w_X7_init a0 h Q) : gaC l G yX7_init (gaM yX7_init cX7_init 1 ((none : Option Jvm.ClassFile.FieldType))) rm_X7_init [.ref a0] h (gQv Q) X := by
  refine g_start (lv := [some (.ref a0)]) hpl_RX7 hst (Nat.le_of_ble_eq_true rfl) (gaArgs_pad (z := 0) rfl) ww_5_177 ?_
  intro p e s m args below meth c V hT
  show gaP p l e rm_X7_init s m args below meth c G 1 (gaZ below G (gQv Q) X args s rm_X7_init) 0 [some (.ref a0)] [] h 8 512
  unfold w_X7_init at hw
  refine g_aload_n V dX7_init_0 rfl rfl ?_
  refine g_objInit V ww_5_178 ww_1_32 ww_1_33 dX7_init_1 (by decide) (by decide) (ga_cat rfl) rfl ?_
  refine g_aload_n V dX7_init_4 rfl rfl ?_
  refine g_iconst V (Int32.ofInt 3) dX7_init_5 rfl rfl ?_
  obtain ⟨h0, h9, hk, hj, hw⟩ := hw
  refine gi_anewarrayA V ww_5_179 h0 h9 dX7_init_6 rfl hk hj (fun o1 hf => ?_)
  obtain ⟨c3, s4, ec, es, hw⟩ := hw o1 hf
  refine ga_re ec es ?_
  generalize gaUp h o1 _ = hp2 at hw ⊢
  refine g_dup V dX7_init_9 rfl rfl ?_
  refine g_iconst V (Int32.ofInt 0) dX7_init_10 rfl rfl ?_
  refine g_iconst V (Int32.ofInt 0) dX7_init_11 rfl rfl ?_
  obtain ⟨h0, h9, hk, hj, hw⟩ := hw
  refine gi_newarray (atype := .int) (t := 102) V (by decide) rfl ww_1_109 h0 h9 dX7_init_12 rfl hk hj (fun o5 hf => ?_)
  obtain ⟨c7, s8, ec, es, hw⟩ := hw o5 hf
  refine ga_re ec es ?_
  generalize gaUp hp2 o5 _ = hp6 at hw ⊢
  obtain ⟨hb, hw⟩ := hw
  obtain ⟨vs, ha, h0, h9, hi, hw⟩ := hw
  refine gi_aastoreA V ha hb h0 h9 hi dX7_init_14 rfl ?_
  generalize gaUp hp6 o1 _ = hp9 at hw ⊢
  refine g_dup V dX7_init_15 rfl rfl ?_
  refine g_iconst V (Int32.ofInt 1) dX7_init_16 rfl rfl ?_
  refine g_iconst V (Int32.ofInt 0) dX7_init_17 rfl rfl ?_
  obtain ⟨h0, h9, hk, hj, hw⟩ := hw
  refine gi_newarray (atype := .int) (t := 102) V (by decide) rfl ww_1_109 h0 h9 dX7_init_18 rfl hk hj (fun o10 hf => ?_)
  obtain ⟨c12, s13, ec, es, hw⟩ := hw o10 hf
  refine ga_re ec es ?_
  generalize gaUp hp9 o10 _ = hp11 at hw ⊢
  obtain ⟨hb, hw⟩ := hw
  obtain ⟨vs, ha, h0, h9, hi, hw⟩ := hw
  refine gi_aastoreA V ha hb h0 h9 hi dX7_init_20 rfl ?_
  generalize gaUp hp11 o1 _ = hp14 at hw ⊢
  refine g_dup V dX7_init_21 rfl rfl ?_
  refine g_iconst V (Int32.ofInt 2) dX7_init_22 rfl rfl ?_
  refine g_iconst V (Int32.ofInt 0) dX7_init_23 rfl rfl ?_
  obtain ⟨h0, h9, hk, hj, hw⟩ := hw
  refine gi_newarray (atype := .int) (t := 102) V (by decide) rfl ww_1_109 h0 h9 dX7_init_24 rfl hk hj (fun o15 hf => ?_)
  obtain ⟨c17, s18, ec, es, hw⟩ := hw o15 hf
  refine ga_re ec es ?_
  generalize gaUp hp14 o15 _ = hp16 at hw ⊢
  obtain ⟨hb, hw⟩ := hw
  obtain ⟨vs, ha, h0, h9, hi, hw⟩ := hw
  refine gi_aastoreA V ha hb h0 h9 hi dX7_init_26 rfl ?_
  generalize gaUp hp16 o1 _ = hp19 at hw ⊢
  obtain ⟨fs, ha, hl, hw⟩ := hw
  refine g_putF (C := RX7) (T := TX7) (N := 8) V 0 tyX7 tyX7_ok nmX7 rfl hin_RX7 (by decide) (by decide) ww_5_181 rfl rfl rfl rfl rfl rfl ha hl dX7_init_27 rfl ?_
  generalize gaUp hp19 a0 _ = hp20 at hw ⊢
  refine g_aload_n V dX7_init_30 rfl rfl ?_
  refine g_iconst V (Int32.ofInt 2) dX7_init_31 rfl rfl ?_
  obtain ⟨h0, h9, hk, hj, hw⟩ := hw
  refine gi_anewarrayA V ww_5_179 h0 h9 dX7_init_32 rfl hk hj (fun o21 hf => ?_)
  obtain ⟨c23, s24, ec, es, hw⟩ := hw o21 hf
  refine ga_re ec es ?_
  generalize gaUp hp20 o21 _ = hp22 at hw ⊢
  refine g_dup V dX7_init_35 rfl rfl ?_
  refine g_iconst V (Int32.ofInt 0) dX7_init_36 rfl rfl ?_
  refine g_bipush V (Int32.ofInt 64) dX7_init_37 rfl rfl ?_
  obtain ⟨h0, h9, hk, hj, hw⟩ := hw
  refine gi_newarray (atype := .int) (t := 102) V (by decide) rfl ww_1_109 h0 h9 dX7_init_39 rfl hk hj (fun o25 hf => ?_)
  obtain ⟨c27, s28, ec, es, hw⟩ := hw o25 hf
  refine ga_re ec es ?_
  generalize gaUp hp22 o25 _ = hp26 at hw ⊢
  obtain ⟨hb, hw⟩ := hw
  obtain ⟨vs, ha, h0, h9, hi, hw⟩ := hw
  refine gi_aastoreA V ha hb h0 h9 hi dX7_init_41 rfl ?_
  generalize gaUp hp26 o21 _ = hp29 at hw ⊢
  refine g_dup V dX7_init_42 rfl rfl ?_
  refine g_iconst V (Int32.ofInt 1) dX7_init_43 rfl rfl ?_
  refine g_bipush V (Int32.ofInt 64) dX7_init_44 rfl rfl ?_
  obtain ⟨h0, h9, hk, hj, hw⟩ := hw
  refine gi_newarray (atype := .int) (t := 102) V (by decide) rfl ww_1_109 h0 h9 dX7_init_46 rfl hk hj (fun o30 hf => ?_)
  obtain ⟨c32, s33, ec, es, hw⟩ := hw o30 hf
  refine ga_re ec es ?_
  generalize gaUp hp29 o30 _ = hp31 at hw ⊢
  obtain ⟨hb, hw⟩ := hw
  obtain ⟨vs, ha, h0, h9, hi, hw⟩ := hw
  refine gi_aastoreA V ha hb h0 h9 hi dX7_init_48 rfl ?_
  generalize gaUp hp31 o21 _ = hp34 at hw ⊢
  obtain ⟨fs, ha, hl, hw⟩ := hw
  refine g_putF (C := RX7) (T := TX7) (N := 8) V 1 tyX7 tyX7_ok nmX7 rfl hin_RX7 (by decide) (by decide) ww_5_182 rfl rfl rfl rfl rfl rfl ha hl dX7_init_49 rfl ?_
  generalize gaUp hp34 a0 _ = hp35 at hw ⊢
  refine g_aload_n V dX7_init_52 rfl rfl ?_
  refine g_iconst V (Int32.ofInt 2) dX7_init_53 rfl rfl ?_
  obtain ⟨h0, h9, hk, hj, hw⟩ := hw
  refine gi_newarray (atype := .int) (t := 102) V (by decide) rfl ww_1_109 h0 h9 dX7_init_54 rfl hk hj (fun o36 hf => ?_)
  obtain ⟨c38, s39, ec, es, hw⟩ := hw o36 hf
  refine ga_re ec es ?_
  generalize gaUp hp35 o36 _ = hp37 at hw ⊢
  obtain ⟨fs, ha, hl, hw⟩ := hw
  refine g_putF (C := RX7) (T := TX7) (N := 8) V 2 tyX7 tyX7_ok nmX7 rfl hin_RX7 (by decide) (by decide) ww_5_183 rfl rfl rfl rfl rfl rfl ha hl dX7_init_56 rfl ?_
  generalize gaUp hp37 a0 _ = hp40 at hw ⊢
  exact g_vret V rfl dX7_init_59 ⟨rfl, hw⟩
def w_X7_insertSheet_J22 (Q : Int → gaH → Prop) (v0 : Nat) (v1 : Int) (v2 : Int) (v3 : Int) (t0 : Nat) (t1 : Int) (h : gaH) (kc ks : Nat) : Prop := gHas h t0 7 ∧ w_X7_start t0 t1 1 h (fun r2 hp1 => gR r2 ∧ (if r2 = 0 then gA hp1 v0 7 0 (fun r3 => gLA hp1 r3 112 v3 (fun r4 => gHas hp1 v0 7 ∧ gCall 1 128 kc ks (fun c7 s8 => w_X7_put v0 v1 v2 v2 r4 hp1 (fun r6 hp5 => Q r6 hp5)))) else Q 0 hp1))
def w_X7_insertSheet_J17 (Q : Int → gaH → Prop) (v0 : Nat) (v1 : Int) (v2 : Int) (v3 : Int) (t0 : Nat) (h : gaH) (kc ks : Nat) : Prop := w_X7_insertSheet_J22 Q v0 v1 v2 v3 t0 1 h kc ks
def w_X7_insertSheet (a0 : Nat) (a1 : Int) (a2 : Int) (a3 : Int) (h : gaH) (Q : Int → gaH → Prop) : Prop := gHas h a0 7 ∧ w_X7_isNoGap a0 a1 a2 h (fun r2 hp1 => gR r2 ∧ (if r2 = 0 then w_X7_isNoSheet a3 hp1 (fun r4 hp3 => gR r4 ∧ (if r4 = 0 then w_X7_insertSheet_J22 Q a0 a1 a2 a3 a0 0 hp3 1 128 else w_X7_insertSheet_J17 Q a0 a1 a2 a3 a0 hp3 1 128)) else w_X7_insertSheet_J17 Q a0 a1 a2 a3 a0 hp1 1 128))
abbrev rm_X7_insertSheet : Room := { frames := 3, cells := 1, slots := 128, locals := 64 }
theorem hd_X7_insertSheet : yX7_insertSheet.cls = RX7 ∧ (yX7_insertSheet.cls ≠ "java/lang/invoke/MethodHandle" ∧ yX7_insertSheet.cls ≠ "java/lang/invoke/VarHandle" ∧ (parseMethodDescriptor yX7_insertSheet.desc).map (fun d => d.parameters.length) = some 3) := by decide +kernel
theorem k_X7_insertSheet {l : Launch} (hst : l.stackTraces = false) {G : gaG} {X : String → gaH → Prop} {a0 : Nat} {a1 : Int} {a2 : Int} {a3 : Int} {h : gaH} {Q : Int → gaH → Prop} (hw : w_X7_insertSheet a0 a1 a2 a3 h Q) : gaC l G yX7_insertSheet (gaM yX7_insertSheet cX7_insertSheet 4 ((some .int))) rm_X7_insertSheet [.ref a0, gi a1, gi a2, gi a3] h (gQi Q) X := by
  refine g_start (lv := [some (.ref a0), some (gi a1), some (gi a2), some (gi a3)]) hpl_RX7 hst (Nat.le_of_ble_eq_true rfl) (gaArgs_pad (z := 0) rfl) ww_6_25 ?_
  intro p e s m args below meth c V hT
  have h_X7_insertSheet_J22 : ∀ (v0 : Nat) (v1 : Int) (v2 : Int) (v3 : Int) (t0 : Nat) (t1 : Int) (h : gaH) (kc ks : Nat), w_X7_insertSheet_J22 Q v0 v1 v2 v3 t0 t1 h kc ks → gaP p l e rm_X7_insertSheet s m args below meth c G 4 (gaZ below G (gQi Q) X args s rm_X7_insertSheet) 22 [some (.ref v0), some (gi v1), some (gi v2), some (gi v3)] [gi t1, .ref t0] h kc ks := by
    intro v0 v1 v2 v3 t0 t1 h kc ks hw
    unfold w_X7_insertSheet_J22 at hw
    refine g_iconst V (Int32.ofInt 1) dX7_insertSheet_22 rfl rfl ?_
    obtain ⟨hb, hw⟩ := hw
    obtain ⟨fb, hb⟩ := hb
    refine g_callV (C := RX7) (T := TX7) (N := 8) (st := []) V (k_X7_start hst hw) ww_5_220 ww_5_222 wp_2_2 ww_1_5 ww_5_223 hd_X7_start ⟨by decide, by decide⟩ rfl (by decide) hb rfl rfl (ga_cat rfl) dX7_insertSheet_23 (Nat.zero_le _) (Nat.zero_le _) rfl (gaX_all hT V) (ga_ki (fun r2 hp1 hw => ?_))
    obtain ⟨hx0, hw⟩ := hw
    refine gi_if_eq V dX7_insertSheet_26 rfl rfl hx0 (fun q => ?_) (fun q => ?_)
    · have hw := ga_t q hw
      refine g_aload_n V dX7_insertSheet_31 rfl rfl ?_
      refine g_iload_n V dX7_insertSheet_32 rfl rfl ?_
      refine g_iload_n V dX7_insertSheet_33 rfl rfl ?_
      refine g_iload_n V dX7_insertSheet_34 rfl rfl ?_
      refine g_aload_n V dX7_insertSheet_35 rfl rfl ?_
      obtain ⟨fs, r3, ha, hv, hw⟩ := hw
      refine g_get (C := RX7) (T := TX7) (N := 8) V 0 rfl hin_RX7 (by decide) (by decide) ww_5_181 rfl ha hv dX7_insertSheet_36 rfl ?_
      refine g_iload_n V dX7_insertSheet_39 rfl rfl ?_
      obtain ⟨vs, r4, ha, h0, h9, hv, hw⟩ := hw
      refine gi_aaload V ha (by decide) h0 h9 hv dX7_insertSheet_40 rfl ?_
      obtain ⟨hb, hw⟩ := hw
      obtain ⟨fb, hb⟩ := hb
      obtain ⟨hk, hj, c7, s8, ec, es, hw⟩ := hw
      refine g_callV (C := RX7) (T := TX7) (N := 8) (st := []) V (k_X7_put hst hw) ww_6_0 ww_6_2 wp_2_5 ww_1_5 ww_6_3 hd_X7_put ⟨by decide, by decide⟩ rfl (by decide) hb rfl rfl (ga_cat rfl) dX7_insertSheet_41 hk hj rfl (gaX_all hT V) (ga_ki (fun r6 hp5 hw => ?_))
      refine ga_re ec es ?_
      exact g_iret V rfl rfl dX7_insertSheet_44 ⟨_, rfl, hw⟩
    · have hw := ga_f q hw
      refine g_iconst V (Int32.ofInt 0) dX7_insertSheet_29 rfl rfl ?_
      exact g_iret V rfl rfl dX7_insertSheet_30 ⟨_, rfl, hw⟩
  have h_X7_insertSheet_J17 : ∀ (v0 : Nat) (v1 : Int) (v2 : Int) (v3 : Int) (t0 : Nat) (h : gaH) (kc ks : Nat), w_X7_insertSheet_J17 Q v0 v1 v2 v3 t0 h kc ks → gaP p l e rm_X7_insertSheet s m args below meth c G 4 (gaZ below G (gQi Q) X args s rm_X7_insertSheet) 17 [some (.ref v0), some (gi v1), some (gi v2), some (gi v3)] [.ref t0] h kc ks := by
    intro v0 v1 v2 v3 t0 h kc ks hw
    unfold w_X7_insertSheet_J17 at hw
    refine g_iconst V (Int32.ofInt 1) dX7_insertSheet_17 rfl rfl ?_
    refine g_goto V dX7_insertSheet_18 rfl ?_
    exact h_X7_insertSheet_J22 v0 v1 v2 v3 t0 1 h kc ks hw
  show gaP p l e rm_X7_insertSheet s m args below meth c G 4 (gaZ below G (gQi Q) X args s rm_X7_insertSheet) 0 [some (.ref a0), some (gi a1), some (gi a2), some (gi a3)] [] h 1 128
  unfold w_X7_insertSheet at hw
  refine g_aload_n V dX7_insertSheet_0 rfl rfl ?_
  refine g_aload_n V dX7_insertSheet_1 rfl rfl ?_
  refine g_iload_n V dX7_insertSheet_2 rfl rfl ?_
  refine g_iload_n V dX7_insertSheet_3 rfl rfl ?_
  obtain ⟨hb, hw⟩ := hw
  obtain ⟨fb, hb⟩ := hb
  refine g_callV (C := RX7) (T := TX7) (N := 8) (st := [.ref a0]) V (k_X7_isNoGap hst hw) ww_6_15 ww_6_17 wp_2_7 ww_1_5 ww_6_18 hd_X7_isNoGap ⟨by decide, by decide⟩ rfl (by decide) hb rfl rfl (ga_cat rfl) dX7_insertSheet_4 (Nat.zero_le _) (Nat.zero_le _) rfl (gaX_all hT V) (ga_ki (fun r2 hp1 hw => ?_))
  obtain ⟨hx0, hw⟩ := hw
  refine gi_if_ne V dX7_insertSheet_7 rfl rfl hx0 (fun q => ?_) (fun q => ?_)
  · have hw := ga_f q hw
    exact h_X7_insertSheet_J17 a0 a1 a2 a3 a0 hp1 1 128 hw
  · have hw := ga_t q hw
    refine g_iload_n V dX7_insertSheet_10 rfl rfl ?_
    refine g_callS (st := [.ref a0]) V (k_X7_isNoSheet hst hw) ww_5_214 ww_5_215 ww_1_5 ww_5_216 hd_X7_isNoSheet ⟨by decide, by decide⟩ rfl rfl (ga_cat rfl) dX7_insertSheet_11 (Nat.zero_le _) (Nat.zero_le _) rfl (gaX_all hT V) (ga_ki (fun r4 hp3 hw => ?_))
    obtain ⟨hx0, hw⟩ := hw
    refine gi_if_eq V dX7_insertSheet_14 rfl rfl hx0 (fun q => ?_) (fun q => ?_)
    · have hw := ga_t q hw
      refine g_iconst V (Int32.ofInt 0) dX7_insertSheet_21 rfl rfl ?_
      exact h_X7_insertSheet_J22 a0 a1 a2 a3 a0 0 hp3 1 128 hw
    · have hw := ga_f q hw
      exact h_X7_insertSheet_J17 a0 a1 a2 a3 a0 hp3 1 128 hw
def w_X7_insertSign (a0 : Nat) (a1 : Int) (a2 : Int) (a3 : Int) (h : gaH) (Q : Int → gaH → Prop) : Prop := gHas h a0 7 ∧ w_X7_isNoGap a0 a1 a2 h (fun r2 hp1 => gHas hp1 a0 7 ∧ w_X7_start a0 r2 1 hp1 (fun r4 hp3 => gR r4 ∧ (if r4 = 0 then gNA hp3 102 (gi 0) 1 2 192 (fun o5 hp6 c7 s8 => w_X7_one a3 hp6 (fun r10 hp9 => gSI hp9 o5 102 0 (gi r10) (fun hp11 => gHas hp11 a0 7 ∧ gCall 1 128 c7 s8 (fun c14 s15 => w_X7_put a0 a1 a2 a2 o5 hp11 (fun r13 hp12 => Q r13 hp12))))) else Q 0 hp3)))
abbrev rm_X7_insertSign : Room := { frames := 3, cells := 2, slots := 192, locals := 64 }
theorem hd_X7_insertSign : yX7_insertSign.cls = RX7 ∧ (yX7_insertSign.cls ≠ "java/lang/invoke/MethodHandle" ∧ yX7_insertSign.cls ≠ "java/lang/invoke/VarHandle" ∧ (parseMethodDescriptor yX7_insertSign.desc).map (fun d => d.parameters.length) = some 3) := by decide +kernel
theorem k_X7_insertSign {l : Launch} (hst : l.stackTraces = false) {G : gaG} {X : String → gaH → Prop} {a0 : Nat} {a1 : Int} {a2 : Int} {a3 : Int} {h : gaH} {Q : Int → gaH → Prop} (hw : w_X7_insertSign a0 a1 a2 a3 h Q) : gaC l G yX7_insertSign (gaM yX7_insertSign cX7_insertSign 4 ((some .int))) rm_X7_insertSign [.ref a0, gi a1, gi a2, gi a3] h (gQi Q) X := by
  refine g_start (lv := [some (.ref a0), some (gi a1), some (gi a2), some (gi a3)]) hpl_RX7 hst (Nat.le_of_ble_eq_true rfl) (gaArgs_pad (z := 0) rfl) ww_6_14 ?_
  intro p e s m args below meth c V hT
  show gaP p l e rm_X7_insertSign s m args below meth c G 4 (gaZ below G (gQi Q) X args s rm_X7_insertSign) 0 [some (.ref a0), some (gi a1), some (gi a2), some (gi a3)] [] h 2 192
  unfold w_X7_insertSign at hw
  refine g_aload_n V dX7_insertSign_0 rfl rfl ?_
  refine g_aload_n V dX7_insertSign_1 rfl rfl ?_
  refine g_iload_n V dX7_insertSign_2 rfl rfl ?_
  refine g_iload_n V dX7_insertSign_3 rfl rfl ?_
  obtain ⟨hb, hw⟩ := hw
  obtain ⟨fb, hb⟩ := hb
  refine g_callV (C := RX7) (T := TX7) (N := 8) (st := [.ref a0]) V (k_X7_isNoGap hst hw) ww_6_15 ww_6_17 wp_2_7 ww_1_5 ww_6_18 hd_X7_isNoGap ⟨by decide, by decide⟩ rfl (by decide) hb rfl rfl (ga_cat rfl) dX7_insertSign_4 (Nat.zero_le _) (Nat.zero_le _) rfl (gaX_all hT V) (ga_ki (fun r2 hp1 hw => ?_))
  refine g_iconst V (Int32.ofInt 1) dX7_insertSign_7 rfl rfl ?_
  obtain ⟨hb, hw⟩ := hw
  obtain ⟨fb, hb⟩ := hb
  refine g_callV (C := RX7) (T := TX7) (N := 8) (st := []) V (k_X7_start hst hw) ww_5_220 ww_5_222 wp_2_2 ww_1_5 ww_5_223 hd_X7_start ⟨by decide, by decide⟩ rfl (by decide) hb rfl rfl (ga_cat rfl) dX7_insertSign_8 (Nat.zero_le _) (Nat.zero_le _) rfl (gaX_all hT V) (ga_ki (fun r4 hp3 hw => ?_))
  obtain ⟨hx0, hw⟩ := hw
  refine gi_if_eq V dX7_insertSign_11 rfl rfl hx0 (fun q => ?_) (fun q => ?_)
  · have hw := ga_t q hw
    refine g_aload_n V dX7_insertSign_16 rfl rfl ?_
    refine g_iload_n V dX7_insertSign_17 rfl rfl ?_
    refine g_iload_n V dX7_insertSign_18 rfl rfl ?_
    refine g_iload_n V dX7_insertSign_19 rfl rfl ?_
    refine g_iconst V (Int32.ofInt 1) dX7_insertSign_20 rfl rfl ?_
    obtain ⟨h0, h9, hk, hj, hw⟩ := hw
    refine gi_newarray (atype := .int) (t := 102) V (by decide) rfl ww_1_109 h0 h9 dX7_insertSign_21 rfl hk hj (fun o5 hf => ?_)
    obtain ⟨c7, s8, ec, es, hw⟩ := hw o5 hf
    refine ga_re ec es ?_
    generalize gaUp hp3 o5 _ = hp6 at hw ⊢
    refine g_dup V dX7_insertSign_23 rfl rfl ?_
    refine g_iconst V (Int32.ofInt 0) dX7_insertSign_24 rfl rfl ?_
    refine g_iload_n V dX7_insertSign_25 rfl rfl ?_
    refine g_callS (st := [gi 0, .ref o5, .ref o5, gi a2, gi a2, gi a1, .ref a0]) V (k_X7_one hst hw) ww_6_19 ww_6_20 ww_1_5 ww_6_21 hd_X7_one ⟨by decide, by decide⟩ rfl rfl (ga_cat rfl) dX7_insertSign_26 (Nat.zero_le _) (Nat.zero_le _) rfl (gaX_all hT V) (ga_ki (fun r10 hp9 hw => ?_))
    obtain ⟨vs, ha, h0, h9, hi, hw⟩ := hw
    refine gi_iastore V ha h0 h9 hi dX7_insertSign_29 rfl ?_
    generalize gaUp hp9 o5 _ = hp11 at hw ⊢
    obtain ⟨hb, hw⟩ := hw
    obtain ⟨fb, hb⟩ := hb
    obtain ⟨hk, hj, c14, s15, ec, es, hw⟩ := hw
    refine g_callV (C := RX7) (T := TX7) (N := 8) (st := []) V (k_X7_put hst hw) ww_6_0 ww_6_2 wp_2_5 ww_1_5 ww_6_3 hd_X7_put ⟨by decide, by decide⟩ rfl (by decide) hb rfl rfl (ga_cat rfl) dX7_insertSign_30 hk hj rfl (gaX_all hT V) (ga_ki (fun r13 hp12 hw => ?_))
    refine ga_re ec es ?_
    exact g_iret V rfl rfl dX7_insertSign_33 ⟨_, rfl, hw⟩
  · have hw := ga_f q hw
    refine g_iconst V (Int32.ofInt 0) dX7_insertSign_14 rfl rfl ?_
    exact g_iret V rfl rfl dX7_insertSign_15 ⟨_, rfl, hw⟩
def w_X7_isApartRule (a0 : Int) (a1 : Int) (h : gaH) (Q : Int → gaH → Prop) : Prop := gCall 1 16 4 288 (fun c3 s4 => w_X7_ofCode a0 h (fun r2 hp1 => gCall 1 16 c3 s4 (fun c7 s8 => w_X7_ofCode a1 hp1 (fun r6 hp5 => gAL hp5 r2 102 (fun r9 => gAL hp5 r2 102 (fun r10 => gCall 1 128 c7 s8 (fun c13 s14 => w_X7_spliced r2 r9 r10 r6 hp5 (fun r12 hp11 => gAL hp11 r6 102 (fun r15 => gAL hp11 r6 102 (fun r16 => gCall 1 128 c13 s14 (fun c19 s20 => w_X7_spliced r6 r15 r16 r2 hp11 (fun r18 hp17 => w_X7_areSame r12 r18 hp17 (fun r22 hp21 => gR r22 ∧ (if r22 = 0 then Q 1 hp21 else Q 0 hp21))))))))))))))
abbrev rm_X7_isApartRule : Room := { frames := 2, cells := 4, slots := 288, locals := 44 }
theorem hd_X7_isApartRule : (yX7_isApartRule.cls ≠ "java/lang/invoke/MethodHandle" ∧ yX7_isApartRule.cls ≠ "java/lang/invoke/VarHandle" ∧ (parseMethodDescriptor yX7_isApartRule.desc).map (fun d => d.parameters.length) = some 2) := by decide +kernel
theorem k_X7_isApartRule {l : Launch} (hst : l.stackTraces = false) {G : gaG} {X : String → gaH → Prop} {a0 : Int} {a1 : Int} {h : gaH} {Q : Int → gaH → Prop} (hw : w_X7_isApartRule a0 a1 h Q) : gaC l G yX7_isApartRule (gaM yX7_isApartRule cX7_isApartRule 4 ((some .boolean))) rm_X7_isApartRule [gi a0, gi a1] h (gQi Q) X := by
  refine g_start (lv := [some (gi a0), some (gi a1), none, none]) hpl_RX7 hst (Nat.le_of_ble_eq_true rfl) (gaArgs_pad (z := 2) rfl) ww_6_102 ?_
  intro p e s m args below meth c V hT
  show gaP p l e rm_X7_isApartRule s m args below meth c G 4 (gaZ below G (gQi Q) X args s rm_X7_isApartRule) 0 [some (gi a0), some (gi a1), none, none] [] h 4 288
  unfold w_X7_isApartRule at hw
  refine g_iload_n V dX7_isApartRule_0 rfl rfl ?_
  obtain ⟨hk, hj, c3, s4, ec, es, hw⟩ := hw
  refine g_callS (st := []) V (k_X7_ofCode hst hw) ww_5_229 ww_5_230 ww_1_5 ww_5_231 hd_X7_ofCode ⟨by decide, by decide⟩ rfl rfl (ga_cat rfl) dX7_isApartRule_1 hk hj rfl (gaX_all hT V) (ga_ka (fun r2 hp1 hw => ?_))
  refine ga_re ec es ?_
  refine g_astore_n (lv2 := [some (gi a0), some (gi a1), some (.ref r2), none]) V dX7_isApartRule_4 (by decide) rfl rfl rfl ?_
  refine g_iload_n V dX7_isApartRule_5 rfl rfl ?_
  obtain ⟨hk, hj, c7, s8, ec, es, hw⟩ := hw
  refine g_callS (st := []) V (k_X7_ofCode hst hw) ww_5_229 ww_5_230 ww_1_5 ww_5_231 hd_X7_ofCode ⟨by decide, by decide⟩ rfl rfl (ga_cat rfl) dX7_isApartRule_6 hk hj rfl (gaX_all hT V) (ga_ka (fun r6 hp5 hw => ?_))
  refine ga_re ec es ?_
  refine g_astore_n (lv2 := [some (gi a0), some (gi a1), some (.ref r2), some (.ref r6)]) V dX7_isApartRule_9 (by decide) rfl rfl rfl ?_
  refine g_aload_n V dX7_isApartRule_10 rfl rfl ?_
  refine g_aload_n V dX7_isApartRule_11 rfl rfl ?_
  obtain ⟨t9, vs, ha, ht, hw⟩ := hw
  refine gi_arraylength (t0 := 102) V (by simp [gaT]) ha ht dX7_isApartRule_12 rfl ?_
  generalize (vs.length : Int) = r9 at hw ⊢
  refine g_aload_n V dX7_isApartRule_13 rfl rfl ?_
  obtain ⟨t9, vs, ha, ht, hw⟩ := hw
  refine gi_arraylength (t0 := 102) V (by simp [gaT]) ha ht dX7_isApartRule_14 rfl ?_
  generalize (vs.length : Int) = r10 at hw ⊢
  refine g_aload_n V dX7_isApartRule_15 rfl rfl ?_
  obtain ⟨hk, hj, c13, s14, ec, es, hw⟩ := hw
  refine g_callS (st := []) V (k_X7_spliced hst hw) ww_6_8 ww_6_9 ww_1_5 ww_6_10 hd_X7_spliced ⟨by decide, by decide⟩ rfl rfl (ga_cat rfl) dX7_isApartRule_16 hk hj rfl (gaX_all hT V) (ga_ka (fun r12 hp11 hw => ?_))
  refine ga_re ec es ?_
  refine g_aload_n V dX7_isApartRule_19 rfl rfl ?_
  refine g_aload_n V dX7_isApartRule_20 rfl rfl ?_
  obtain ⟨t9, vs, ha, ht, hw⟩ := hw
  refine gi_arraylength (t0 := 102) V (by simp [gaT]) ha ht dX7_isApartRule_21 rfl ?_
  generalize (vs.length : Int) = r15 at hw ⊢
  refine g_aload_n V dX7_isApartRule_22 rfl rfl ?_
  obtain ⟨t9, vs, ha, ht, hw⟩ := hw
  refine gi_arraylength (t0 := 102) V (by simp [gaT]) ha ht dX7_isApartRule_23 rfl ?_
  generalize (vs.length : Int) = r16 at hw ⊢
  refine g_aload_n V dX7_isApartRule_24 rfl rfl ?_
  obtain ⟨hk, hj, c19, s20, ec, es, hw⟩ := hw
  refine g_callS (st := [.ref r12]) V (k_X7_spliced hst hw) ww_6_8 ww_6_9 ww_1_5 ww_6_10 hd_X7_spliced ⟨by decide, by decide⟩ rfl rfl (ga_cat rfl) dX7_isApartRule_25 hk hj rfl (gaX_all hT V) (ga_ka (fun r18 hp17 hw => ?_))
  refine ga_re ec es ?_
  refine g_callS (st := []) V (k_X7_areSame hst hw) ww_6_68 ww_6_69 ww_1_5 ww_6_70 hd_X7_areSame ⟨by decide, by decide⟩ rfl rfl (ga_cat rfl) dX7_isApartRule_28 (Nat.zero_le _) (Nat.zero_le _) rfl (gaX_all hT V) (ga_ki (fun r22 hp21 hw => ?_))
  obtain ⟨hx0, hw⟩ := hw
  refine gi_if_ne V dX7_isApartRule_31 rfl rfl hx0 (fun q => ?_) (fun q => ?_)
  · have hw := ga_f q hw
    refine g_iconst V (Int32.ofInt 0) dX7_isApartRule_38 rfl rfl ?_
    exact g_iret V rfl rfl dX7_isApartRule_39 ⟨_, rfl, hw⟩
  · have hw := ga_t q hw
    refine g_iconst V (Int32.ofInt 1) dX7_isApartRule_34 rfl rfl ?_
    refine g_goto V dX7_isApartRule_35 rfl ?_
    exact g_iret V rfl rfl dX7_isApartRule_39 ⟨_, rfl, hw⟩
def w_X7_isApart (a0 : Nat) (a1 : Int) (a2 : Int) (h : gaH) (Q : Int → gaH → Prop) : Prop := w_X7_isNoRule a1 a2 h (fun r2 hp1 => gHas hp1 a0 7 ∧ w_X7_start a0 r2 1 hp1 (fun r4 hp3 => gR r4 ∧ (if r4 = 0 then gCall 4 288 4 288 (fun c7 s8 => w_X7_isApartRule a1 a2 hp3 (fun r6 hp5 => gR r6 ∧ (if r6 = 0 then Q 0 hp5 else Q 1 hp5))) else Q 0 hp3)))
abbrev rm_X7_isApart : Room := { frames := 3, cells := 4, slots := 288, locals := 67 }
theorem hd_X7_isApart : yX7_isApart.cls = RX7 ∧ (yX7_isApart.cls ≠ "java/lang/invoke/MethodHandle" ∧ yX7_isApart.cls ≠ "java/lang/invoke/VarHandle" ∧ (parseMethodDescriptor yX7_isApart.desc).map (fun d => d.parameters.length) = some 2) := by decide +kernel
theorem k_X7_isApart {l : Launch} (hst : l.stackTraces = false) {G : gaG} {X : String → gaH → Prop} {a0 : Nat} {a1 : Int} {a2 : Int} {h : gaH} {Q : Int → gaH → Prop} (hw : w_X7_isApart a0 a1 a2 h Q) : gaC l G yX7_isApart (gaM yX7_isApart cX7_isApart 3 ((some .boolean))) rm_X7_isApart [.ref a0, gi a1, gi a2] h (gQi Q) X := by
  refine g_start (lv := [some (.ref a0), some (gi a1), some (gi a2)]) hpl_RX7 hst (Nat.le_of_ble_eq_true rfl) (gaArgs_pad (z := 0) rfl) ww_7_9 ?_
  intro p e s m args below meth c V hT
  show gaP p l e rm_X7_isApart s m args below meth c G 3 (gaZ below G (gQi Q) X args s rm_X7_isApart) 0 [some (.ref a0), some (gi a1), some (gi a2)] [] h 4 288
  unfold w_X7_isApart at hw
  refine g_aload_n V dX7_isApart_0 rfl rfl ?_
  refine g_iload_n V dX7_isApart_1 rfl rfl ?_
  refine g_iload_n V dX7_isApart_2 rfl rfl ?_
  refine g_callS (st := [.ref a0]) V (k_X7_isNoRule hst hw) ww_6_93 ww_6_94 ww_1_5 ww_6_95 hd_X7_isNoRule ⟨by decide, by decide⟩ rfl rfl (ga_cat rfl) dX7_isApart_3 (Nat.zero_le _) (Nat.zero_le _) rfl (gaX_all hT V) (ga_ki (fun r2 hp1 hw => ?_))
  refine g_iconst V (Int32.ofInt 1) dX7_isApart_6 rfl rfl ?_
  obtain ⟨hb, hw⟩ := hw
  obtain ⟨fb, hb⟩ := hb
  refine g_callV (C := RX7) (T := TX7) (N := 8) (st := []) V (k_X7_start hst hw) ww_5_220 ww_5_222 wp_2_2 ww_1_5 ww_5_223 hd_X7_start ⟨by decide, by decide⟩ rfl (by decide) hb rfl rfl (ga_cat rfl) dX7_isApart_7 (Nat.zero_le _) (Nat.zero_le _) rfl (gaX_all hT V) (ga_ki (fun r4 hp3 hw => ?_))
  obtain ⟨hx0, hw⟩ := hw
  refine gi_if_ne V dX7_isApart_10 rfl rfl hx0 (fun q => ?_) (fun q => ?_)
  · have hw := ga_f q hw
    refine g_iconst V (Int32.ofInt 0) dX7_isApart_25 rfl rfl ?_
    exact g_iret V rfl rfl dX7_isApart_26 ⟨_, rfl, hw⟩
  · have hw := ga_t q hw
    refine g_iload_n V dX7_isApart_13 rfl rfl ?_
    refine g_iload_n V dX7_isApart_14 rfl rfl ?_
    obtain ⟨hk, hj, c7, s8, ec, es, hw⟩ := hw
    refine g_callS (st := []) V (k_X7_isApartRule hst hw) ww_6_100 ww_6_101 ww_1_5 ww_6_102 hd_X7_isApartRule ⟨by decide, by decide⟩ rfl rfl (ga_cat rfl) dX7_isApart_15 hk hj rfl (gaX_all hT V) (ga_ki (fun r6 hp5 hw => ?_))
    refine ga_re ec es ?_
    obtain ⟨hx0, hw⟩ := hw
    refine gi_if_eq V dX7_isApart_18 rfl rfl hx0 (fun q => ?_) (fun q => ?_)
    · have hw := ga_t q hw
      refine g_iconst V (Int32.ofInt 0) dX7_isApart_25 rfl rfl ?_
      exact g_iret V rfl rfl dX7_isApart_26 ⟨_, rfl, hw⟩
    · have hw := ga_f q hw
      refine g_iconst V (Int32.ofInt 1) dX7_isApart_21 rfl rfl ?_
      refine g_goto V dX7_isApart_22 rfl ?_
      exact g_iret V rfl rfl dX7_isApart_26 ⟨_, rfl, hw⟩
def w_X7_isNoPlace (a0 : Nat) (a1 : Int) (a2 : Int) (h : gaH) (Q : Int → gaH → Prop) : Prop := w_X7_isNoSheet a1 h (fun r2 hp1 => gR r2 ∧ (if r2 = 0 then gA hp1 a0 7 0 (fun r3 => gLA hp1 r3 112 a1 (fun r4 => gAL hp1 r4 102 (fun r5 => w_X7_isIn a2 0 (r5 - 1) hp1 (fun r7 hp6 => gR r7 ∧ (if r7 = 0 then Q 1 hp6 else Q 0 hp6))))) else Q 1 hp1))
abbrev rm_X7_isNoPlace : Room := { frames := 2, cells := 0, slots := 0, locals := 42 }
theorem hd_X7_isNoPlace : yX7_isNoPlace.cls = RX7 ∧ (yX7_isNoPlace.cls ≠ "java/lang/invoke/MethodHandle" ∧ yX7_isNoPlace.cls ≠ "java/lang/invoke/VarHandle" ∧ (parseMethodDescriptor yX7_isNoPlace.desc).map (fun d => d.parameters.length) = some 2) := by decide +kernel
theorem k_X7_isNoPlace {l : Launch} (hst : l.stackTraces = false) {G : gaG} {X : String → gaH → Prop} {a0 : Nat} {a1 : Int} {a2 : Int} {h : gaH} {Q : Int → gaH → Prop} (hw : w_X7_isNoPlace a0 a1 a2 h Q) : gaC l G yX7_isNoPlace (gaM yX7_isNoPlace cX7_isNoPlace 3 ((some .boolean))) rm_X7_isNoPlace [.ref a0, gi a1, gi a2] h (gQi Q) X := by
  refine g_start (lv := [some (.ref a0), some (gi a1), some (gi a2)]) hpl_RX7 hst (Nat.le_of_ble_eq_true rfl) (gaArgs_pad (z := 0) rfl) ww_6_33 ?_
  intro p e s m args below meth c V hT
  unfold w_X7_isNoPlace at hw
  refine g_iload_n V dX7_isNoPlace_0 rfl rfl ?_
  refine g_callS (st := []) V (k_X7_isNoSheet hst hw) ww_5_214 ww_5_215 ww_1_5 ww_5_216 hd_X7_isNoSheet ⟨by decide, by decide⟩ rfl rfl (ga_cat rfl) dX7_isNoPlace_1 (Nat.zero_le _) (Nat.zero_le _) rfl (gaX_all hT V) (ga_ki (fun r2 hp1 hw => ?_))
  obtain ⟨hx0, hw⟩ := hw
  refine gi_if_ne V dX7_isNoPlace_4 rfl rfl hx0 (fun q => ?_) (fun q => ?_)
  · have hw := ga_f q hw
    refine g_iconst V (Int32.ofInt 1) dX7_isNoPlace_24 rfl rfl ?_
    refine g_goto V dX7_isNoPlace_25 rfl ?_
    exact g_iret V rfl rfl dX7_isNoPlace_29 ⟨_, rfl, hw⟩
  · have hw := ga_t q hw
    refine g_iload_n V dX7_isNoPlace_7 rfl rfl ?_
    refine g_iconst V (Int32.ofInt 0) dX7_isNoPlace_8 rfl rfl ?_
    refine g_aload_n V dX7_isNoPlace_9 rfl rfl ?_
    obtain ⟨fs, r3, ha, hv, hw⟩ := hw
    refine g_get (C := RX7) (T := TX7) (N := 8) V 0 rfl hin_RX7 (by decide) (by decide) ww_5_181 rfl ha hv dX7_isNoPlace_10 rfl ?_
    refine g_iload_n V dX7_isNoPlace_13 rfl rfl ?_
    obtain ⟨vs, r4, ha, h0, h9, hv, hw⟩ := hw
    refine gi_aaload V ha (by decide) h0 h9 hv dX7_isNoPlace_14 rfl ?_
    obtain ⟨t9, vs, ha, ht, hw⟩ := hw
    refine gi_arraylength (t0 := 102) V (by simp [gaT]) ha ht dX7_isNoPlace_15 rfl ?_
    generalize (vs.length : Int) = r5 at hw ⊢
    refine g_iconst V (Int32.ofInt 1) dX7_isNoPlace_16 rfl rfl ?_
    refine gi_isub V dX7_isNoPlace_17 rfl ?_
    refine g_callS (st := []) V (k_X7_isIn hst hw) ww_5_217 ww_5_218 ww_1_5 ww_5_219 hd_X7_isIn ⟨by decide, by decide⟩ rfl rfl (ga_cat rfl) dX7_isNoPlace_18 (Nat.zero_le _) (Nat.zero_le _) rfl (gaX_all hT V) (ga_ki (fun r7 hp6 hw => ?_))
    obtain ⟨hx0, hw⟩ := hw
    refine gi_if_ne V dX7_isNoPlace_21 rfl rfl hx0 (fun q => ?_) (fun q => ?_)
    · have hw := ga_f q hw
      refine g_iconst V (Int32.ofInt 0) dX7_isNoPlace_28 rfl rfl ?_
      exact g_iret V rfl rfl dX7_isNoPlace_29 ⟨_, rfl, hw⟩
    · have hw := ga_t q hw
      refine g_iconst V (Int32.ofInt 1) dX7_isNoPlace_24 rfl rfl ?_
      refine g_goto V dX7_isNoPlace_25 rfl ?_
      exact g_iret V rfl rfl dX7_isNoPlace_29 ⟨_, rfl, hw⟩
def w_X7_isB (a0 : Nat) (a1 : Int) (a2 : Int) (h : gaH) (Q : Int → gaH → Prop) : Prop := gHas h a0 7 ∧ w_X7_isNoPlace a0 a1 a2 h (fun r2 hp1 => gHas hp1 a0 7 ∧ w_X7_start a0 r2 1 hp1 (fun r4 hp3 => gR r4 ∧ (if r4 = 0 then gA hp3 a0 7 0 (fun r5 => gLA hp3 r5 112 a1 (fun r6 => gLI hp3 r6 102 a2 (fun r7 => gR r7 ∧ (if r7 = 1 then Q 1 hp3 else Q 0 hp3)))) else Q 0 hp3)))
abbrev rm_X7_isB : Room := { frames := 3, cells := 0, slots := 0, locals := 64 }
theorem hd_X7_isB : yX7_isB.cls = RX7 ∧ (yX7_isB.cls ≠ "java/lang/invoke/MethodHandle" ∧ yX7_isB.cls ≠ "java/lang/invoke/VarHandle" ∧ (parseMethodDescriptor yX7_isB.desc).map (fun d => d.parameters.length) = some 2) := by decide +kernel
theorem k_X7_isB {l : Launch} (hst : l.stackTraces = false) {G : gaG} {X : String → gaH → Prop} {a0 : Nat} {a1 : Int} {a2 : Int} {h : gaH} {Q : Int → gaH → Prop} (hw : w_X7_isB a0 a1 a2 h Q) : gaC l G yX7_isB (gaM yX7_isB cX7_isB 3 ((some .boolean))) rm_X7_isB [.ref a0, gi a1, gi a2] h (gQi Q) X := by
  refine g_start (lv := [some (.ref a0), some (gi a1), some (gi a2)]) hpl_RX7 hst (Nat.le_of_ble_eq_true rfl) (gaArgs_pad (z := 0) rfl) ww_6_162 ?_
  intro p e s m args below meth c V hT
  unfold w_X7_isB at hw
  refine g_aload_n V dX7_isB_0 rfl rfl ?_
  refine g_aload_n V dX7_isB_1 rfl rfl ?_
  refine g_iload_n V dX7_isB_2 rfl rfl ?_
  refine g_iload_n V dX7_isB_3 rfl rfl ?_
  obtain ⟨hb, hw⟩ := hw
  obtain ⟨fb, hb⟩ := hb
  refine g_callV (C := RX7) (T := TX7) (N := 8) (st := [.ref a0]) V (k_X7_isNoPlace hst hw) ww_6_30 ww_6_32 wp_2_8 ww_1_5 ww_6_33 hd_X7_isNoPlace ⟨by decide, by decide⟩ rfl (by decide) hb rfl rfl (ga_cat rfl) dX7_isB_4 (Nat.zero_le _) (Nat.zero_le _) rfl (gaX_all hT V) (ga_ki (fun r2 hp1 hw => ?_))
  refine g_iconst V (Int32.ofInt 1) dX7_isB_7 rfl rfl ?_
  obtain ⟨hb, hw⟩ := hw
  obtain ⟨fb, hb⟩ := hb
  refine g_callV (C := RX7) (T := TX7) (N := 8) (st := []) V (k_X7_start hst hw) ww_5_220 ww_5_222 wp_2_2 ww_1_5 ww_5_223 hd_X7_start ⟨by decide, by decide⟩ rfl (by decide) hb rfl rfl (ga_cat rfl) dX7_isB_8 (Nat.zero_le _) (Nat.zero_le _) rfl (gaX_all hT V) (ga_ki (fun r4 hp3 hw => ?_))
  obtain ⟨hx0, hw⟩ := hw
  refine gi_if_ne V dX7_isB_11 rfl rfl hx0 (fun q => ?_) (fun q => ?_)
  · have hw := ga_f q hw
    refine g_iconst V (Int32.ofInt 0) dX7_isB_30 rfl rfl ?_
    exact g_iret V rfl rfl dX7_isB_31 ⟨_, rfl, hw⟩
  · have hw := ga_t q hw
    refine g_aload_n V dX7_isB_14 rfl rfl ?_
    obtain ⟨fs, r5, ha, hv, hw⟩ := hw
    refine g_get (C := RX7) (T := TX7) (N := 8) V 0 rfl hin_RX7 (by decide) (by decide) ww_5_181 rfl ha hv dX7_isB_15 rfl ?_
    refine g_iload_n V dX7_isB_18 rfl rfl ?_
    obtain ⟨vs, r6, ha, h0, h9, hv, hw⟩ := hw
    refine gi_aaload V ha (by decide) h0 h9 hv dX7_isB_19 rfl ?_
    refine g_iload_n V dX7_isB_20 rfl rfl ?_
    obtain ⟨t9, vs, r7, ha, ht, h0, h9, hv, hw⟩ := hw
    refine gi_iaload V ha ht h0 h9 hv dX7_isB_21 rfl ?_
    refine g_iconst V (Int32.ofInt 1) dX7_isB_22 rfl rfl ?_
    obtain ⟨hx0, hw⟩ := hw
    refine gi_icmp_ne V dX7_isB_23 rfl rfl hx0 (by decide) (fun q => ?_) (fun q => ?_)
    · have hw := ga_f q hw
      refine g_iconst V (Int32.ofInt 0) dX7_isB_30 rfl rfl ?_
      exact g_iret V rfl rfl dX7_isB_31 ⟨_, rfl, hw⟩
    · have hw := ga_t q hw
      refine g_iconst V (Int32.ofInt 1) dX7_isB_26 rfl rfl ?_
      refine g_goto V dX7_isB_27 rfl ?_
      exact g_iret V rfl rfl dX7_isB_31 ⟨_, rfl, hw⟩
def w_X7_isMirrored_ (a0 : Nat) (a1 : Int) (h : gaH) (Q : Int → gaH → Prop) : Prop := w_X7_isNoSheet a1 h (fun r2 hp1 => gHas hp1 a0 7 ∧ w_X7_start a0 r2 1 hp1 (fun r4 hp3 => gR r4 ∧ (if r4 = 0 then gA hp3 a0 7 0 (fun r5 => gLA hp3 r5 112 a1 (fun r6 => gA hp3 a0 7 0 (fun r7 => gLA hp3 r7 112 a1 (fun r8 => gAL hp3 r8 102 (fun r9 => w_X7_isMirrored r6 0 r9 hp3 (fun r11 hp10 => gR r11 ∧ (if r11 = 0 then Q 0 hp10 else Q 1 hp10))))))) else Q 0 hp3)))
abbrev rm_X7_isMirrored_ : Room := { frames := 2, cells := 0, slots := 0, locals := 44 }
theorem hd_X7_isMirrored_ : yX7_isMirrored_.cls = RX7 ∧ (yX7_isMirrored_.cls ≠ "java/lang/invoke/MethodHandle" ∧ yX7_isMirrored_.cls ≠ "java/lang/invoke/VarHandle" ∧ (parseMethodDescriptor yX7_isMirrored_.desc).map (fun d => d.parameters.length) = some 1) := by decide +kernel
theorem k_X7_isMirrored_ {l : Launch} (hst : l.stackTraces = false) {G : gaG} {X : String → gaH → Prop} {a0 : Nat} {a1 : Int} {h : gaH} {Q : Int → gaH → Prop} (hw : w_X7_isMirrored_ a0 a1 h Q) : gaC l G yX7_isMirrored_ (gaM yX7_isMirrored_ cX7_isMirrored_ 2 ((some .boolean))) rm_X7_isMirrored_ [.ref a0, gi a1] h (gQi Q) X := by
  refine g_start (lv := [some (.ref a0), some (gi a1)]) hpl_RX7 hst (Nat.le_of_ble_eq_true rfl) (gaArgs_pad (z := 0) rfl) ww_6_194 ?_
  intro p e s m args below meth c V hT
  unfold w_X7_isMirrored_ at hw
  refine g_aload_n V dX7_isMirrored__0 rfl rfl ?_
  refine g_iload_n V dX7_isMirrored__1 rfl rfl ?_
  refine g_callS (st := [.ref a0]) V (k_X7_isNoSheet hst hw) ww_5_214 ww_5_215 ww_1_5 ww_5_216 hd_X7_isNoSheet ⟨by decide, by decide⟩ rfl rfl (ga_cat rfl) dX7_isMirrored__2 (Nat.zero_le _) (Nat.zero_le _) rfl (gaX_all hT V) (ga_ki (fun r2 hp1 hw => ?_))
  refine g_iconst V (Int32.ofInt 1) dX7_isMirrored__5 rfl rfl ?_
  obtain ⟨hb, hw⟩ := hw
  obtain ⟨fb, hb⟩ := hb
  refine g_callV (C := RX7) (T := TX7) (N := 8) (st := []) V (k_X7_start hst hw) ww_5_220 ww_5_222 wp_2_2 ww_1_5 ww_5_223 hd_X7_start ⟨by decide, by decide⟩ rfl (by decide) hb rfl rfl (ga_cat rfl) dX7_isMirrored__6 (Nat.zero_le _) (Nat.zero_le _) rfl (gaX_all hT V) (ga_ki (fun r4 hp3 hw => ?_))
  obtain ⟨hx0, hw⟩ := hw
  refine gi_if_ne V dX7_isMirrored__9 rfl rfl hx0 (fun q => ?_) (fun q => ?_)
  · have hw := ga_f q hw
    refine g_iconst V (Int32.ofInt 0) dX7_isMirrored__36 rfl rfl ?_
    exact g_iret V rfl rfl dX7_isMirrored__37 ⟨_, rfl, hw⟩
  · have hw := ga_t q hw
    refine g_aload_n V dX7_isMirrored__12 rfl rfl ?_
    obtain ⟨fs, r5, ha, hv, hw⟩ := hw
    refine g_get (C := RX7) (T := TX7) (N := 8) V 0 rfl hin_RX7 (by decide) (by decide) ww_5_181 rfl ha hv dX7_isMirrored__13 rfl ?_
    refine g_iload_n V dX7_isMirrored__16 rfl rfl ?_
    obtain ⟨vs, r6, ha, h0, h9, hv, hw⟩ := hw
    refine gi_aaload V ha (by decide) h0 h9 hv dX7_isMirrored__17 rfl ?_
    refine g_iconst V (Int32.ofInt 0) dX7_isMirrored__18 rfl rfl ?_
    refine g_aload_n V dX7_isMirrored__19 rfl rfl ?_
    obtain ⟨fs, r7, ha, hv, hw⟩ := hw
    refine g_get (C := RX7) (T := TX7) (N := 8) V 0 rfl hin_RX7 (by decide) (by decide) ww_5_181 rfl ha hv dX7_isMirrored__20 rfl ?_
    refine g_iload_n V dX7_isMirrored__23 rfl rfl ?_
    obtain ⟨vs, r8, ha, h0, h9, hv, hw⟩ := hw
    refine gi_aaload V ha (by decide) h0 h9 hv dX7_isMirrored__24 rfl ?_
    obtain ⟨t9, vs, ha, ht, hw⟩ := hw
    refine gi_arraylength (t0 := 102) V (by simp [gaT]) ha ht dX7_isMirrored__25 rfl ?_
    generalize (vs.length : Int) = r9 at hw ⊢
    refine g_callS (st := []) V (k_X7_isMirrored hst hw) ww_6_195 ww_6_196 ww_1_5 ww_6_197 hd_X7_isMirrored ⟨by decide, by decide⟩ rfl rfl (ga_cat rfl) dX7_isMirrored__26 (Nat.zero_le _) (Nat.zero_le _) rfl (gaX_all hT V) (ga_ki (fun r11 hp10 hw => ?_))
    obtain ⟨hx0, hw⟩ := hw
    refine gi_if_eq V dX7_isMirrored__29 rfl rfl hx0 (fun q => ?_) (fun q => ?_)
    · have hw := ga_t q hw
      refine g_iconst V (Int32.ofInt 0) dX7_isMirrored__36 rfl rfl ?_
      exact g_iret V rfl rfl dX7_isMirrored__37 ⟨_, rfl, hw⟩
    · have hw := ga_f q hw
      refine g_iconst V (Int32.ofInt 1) dX7_isMirrored__32 rfl rfl ?_
      refine g_goto V dX7_isMirrored__33 rfl ?_
      exact g_iret V rfl rfl dX7_isMirrored__37 ⟨_, rfl, hw⟩
def w_X7_isNoPart (a0 : Nat) (a1 : Int) (a2 : Int) (a3 : Int) (h : gaH) (Q : Int → gaH → Prop) : Prop := w_X7_isNoSheet a1 h (fun r2 hp1 => gR r2 ∧ (if r2 = 0 then gR a2 ∧ (if a2 < 0 then Q 1 hp1 else gR a2 ∧ gR a3 ∧ (if a3 < a2 then Q 1 hp1 else gA hp1 a0 7 0 (fun r3 => gLA hp1 r3 112 a1 (fun r4 => gAL hp1 r4 102 (fun r5 => gR a3 ∧ gR r5 ∧ (if a3 ≤ r5 then Q 0 hp1 else Q 1 hp1)))))) else Q 1 hp1))
abbrev rm_X7_isNoPart : Room := { frames := 2, cells := 0, slots := 0, locals := 42 }
theorem hd_X7_isNoPart : yX7_isNoPart.cls = RX7 ∧ (yX7_isNoPart.cls ≠ "java/lang/invoke/MethodHandle" ∧ yX7_isNoPart.cls ≠ "java/lang/invoke/VarHandle" ∧ (parseMethodDescriptor yX7_isNoPart.desc).map (fun d => d.parameters.length) = some 3) := by decide +kernel
theorem k_X7_isNoPart {l : Launch} (hst : l.stackTraces = false) {G : gaG} {X : String → gaH → Prop} {a0 : Nat} {a1 : Int} {a2 : Int} {a3 : Int} {h : gaH} {Q : Int → gaH → Prop} (hw : w_X7_isNoPart a0 a1 a2 a3 h Q) : gaC l G yX7_isNoPart (gaM yX7_isNoPart cX7_isNoPart 4 ((some .boolean))) rm_X7_isNoPart [.ref a0, gi a1, gi a2, gi a3] h (gQi Q) X := by
  refine g_start (lv := [some (.ref a0), some (gi a1), some (gi a2), some (gi a3)]) hpl_RX7 hst (Nat.le_of_ble_eq_true rfl) (gaArgs_pad (z := 0) rfl) ww_6_45 ?_
  intro p e s m args below meth c V hT
  unfold w_X7_isNoPart at hw
  refine g_iload_n V dX7_isNoPart_0 rfl rfl ?_
  refine g_callS (st := []) V (k_X7_isNoSheet hst hw) ww_5_214 ww_5_215 ww_1_5 ww_5_216 hd_X7_isNoSheet ⟨by decide, by decide⟩ rfl rfl (ga_cat rfl) dX7_isNoPart_1 (Nat.zero_le _) (Nat.zero_le _) rfl (gaX_all hT V) (ga_ki (fun r2 hp1 hw => ?_))
  obtain ⟨hx0, hw⟩ := hw
  refine gi_if_ne V dX7_isNoPart_4 rfl rfl hx0 (fun q => ?_) (fun q => ?_)
  · have hw := ga_f q hw
    refine g_iconst V (Int32.ofInt 1) dX7_isNoPart_27 rfl rfl ?_
    refine g_goto V dX7_isNoPart_28 rfl ?_
    exact g_iret V rfl rfl dX7_isNoPart_32 ⟨_, rfl, hw⟩
  · have hw := ga_t q hw
    refine g_iload_n V dX7_isNoPart_7 rfl rfl ?_
    obtain ⟨hx0, hw⟩ := hw
    refine gi_if_lt V dX7_isNoPart_8 rfl rfl hx0 (fun q => ?_) (fun q => ?_)
    · have hw := ga_t q hw
      refine g_iconst V (Int32.ofInt 1) dX7_isNoPart_27 rfl rfl ?_
      refine g_goto V dX7_isNoPart_28 rfl ?_
      exact g_iret V rfl rfl dX7_isNoPart_32 ⟨_, rfl, hw⟩
    · have hw := ga_f q hw
      refine g_iload_n V dX7_isNoPart_11 rfl rfl ?_
      refine g_iload_n V dX7_isNoPart_12 rfl rfl ?_
      obtain ⟨hx0, hx1, hw⟩ := hw
      refine gi_icmp_gt V dX7_isNoPart_13 rfl rfl hx0 hx1 (fun q => ?_) (fun q => ?_)
      · have hw := ga_t q hw
        refine g_iconst V (Int32.ofInt 1) dX7_isNoPart_27 rfl rfl ?_
        refine g_goto V dX7_isNoPart_28 rfl ?_
        exact g_iret V rfl rfl dX7_isNoPart_32 ⟨_, rfl, hw⟩
      · have hw := ga_f q hw
        refine g_iload_n V dX7_isNoPart_16 rfl rfl ?_
        refine g_aload_n V dX7_isNoPart_17 rfl rfl ?_
        obtain ⟨fs, r3, ha, hv, hw⟩ := hw
        refine g_get (C := RX7) (T := TX7) (N := 8) V 0 rfl hin_RX7 (by decide) (by decide) ww_5_181 rfl ha hv dX7_isNoPart_18 rfl ?_
        refine g_iload_n V dX7_isNoPart_21 rfl rfl ?_
        obtain ⟨vs, r4, ha, h0, h9, hv, hw⟩ := hw
        refine gi_aaload V ha (by decide) h0 h9 hv dX7_isNoPart_22 rfl ?_
        obtain ⟨t9, vs, ha, ht, hw⟩ := hw
        refine gi_arraylength (t0 := 102) V (by simp [gaT]) ha ht dX7_isNoPart_23 rfl ?_
        generalize (vs.length : Int) = r5 at hw ⊢
        obtain ⟨hx0, hx1, hw⟩ := hw
        refine gi_icmp_le V dX7_isNoPart_24 rfl rfl hx0 hx1 (fun q => ?_) (fun q => ?_)
        · have hw := ga_t q hw
          refine g_iconst V (Int32.ofInt 0) dX7_isNoPart_31 rfl rfl ?_
          exact g_iret V rfl rfl dX7_isNoPart_32 ⟨_, rfl, hw⟩
        · have hw := ga_f q hw
          refine g_iconst V (Int32.ofInt 1) dX7_isNoPart_27 rfl rfl ?_
          refine g_goto V dX7_isNoPart_28 rfl ?_
          exact g_iret V rfl rfl dX7_isNoPart_32 ⟨_, rfl, hw⟩
def w_X7_isSound (a0 : Nat) (h : gaH) (Q : Int → gaH → Prop) : Prop := gPF h a0 7 7 (gi 0) (fun hp1 => gHas hp1 a0 7 ∧ gCall 928 55564 928 55564 (fun c4 s5 => w_X7_isWhole a0 hp1 (fun r3 hp2 => narrow .boolean (gi r3) = gi r3 ∧ Q r3 hp2)))
abbrev rm_X7_isSound : Room := { frames := 4, cells := 928, slots := 55564, locals := 105 }
theorem hd_X7_isSound : yX7_isSound.cls = RX7 ∧ (yX7_isSound.cls ≠ "java/lang/invoke/MethodHandle" ∧ yX7_isSound.cls ≠ "java/lang/invoke/VarHandle" ∧ (parseMethodDescriptor yX7_isSound.desc).map (fun d => d.parameters.length) = some 0) := by decide +kernel
theorem k_X7_isSound {l : Launch} (hst : l.stackTraces = false) {G : gaG} {X : String → gaH → Prop} {a0 : Nat} {h : gaH} {Q : Int → gaH → Prop} (hw : w_X7_isSound a0 h Q) : gaC l G yX7_isSound (gaM yX7_isSound cX7_isSound 1 ((some .boolean))) rm_X7_isSound [.ref a0] h (gQi Q) X := by
  refine g_start (lv := [some (.ref a0)]) hpl_RX7 hst (Nat.le_of_ble_eq_true rfl) (gaArgs_pad (z := 0) rfl) ww_7_60 ?_
  intro p e s m args below meth c V hT
  show gaP p l e rm_X7_isSound s m args below meth c G 1 (gaZ below G (gQi Q) X args s rm_X7_isSound) 0 [some (.ref a0)] [] h 928 55564
  unfold w_X7_isSound at hw
  refine g_aload_n V dX7_isSound_0 rfl rfl ?_
  refine g_iconst V (Int32.ofInt 0) dX7_isSound_1 rfl rfl ?_
  obtain ⟨fs, ha, hl, hw⟩ := hw
  refine g_put (C := RX7) (T := TX7) (N := 8) V 7 tyX7 tyX7_ok nmX7 rfl hin_RX7 (by decide) (by decide) ww_5_188 rfl rfl rfl rfl ha hl dX7_isSound_2 rfl ?_
  generalize gaUp h a0 _ = hp1 at hw ⊢
  refine g_aload_n V dX7_isSound_5 rfl rfl ?_
  obtain ⟨hb, hw⟩ := hw
  obtain ⟨fb, hb⟩ := hb
  obtain ⟨hk, hj, c4, s5, ec, es, hw⟩ := hw
  refine g_callV (C := RX7) (T := TX7) (N := 8) (st := []) V (k_X7_isWhole hst hw) ww_7_61 ww_7_63 wp_3_1 ww_1_5 ww_7_64 hd_X7_isWhole ⟨by decide, by decide⟩ rfl (by decide) hb rfl rfl (ga_cat rfl) dX7_isSound_6 hk hj rfl (gaX_all hT V) (ga_ki (fun r3 hp2 hw => ?_))
  refine ga_re ec es ?_
  exact g_iret V rfl hw.1 dX7_isSound_9 ⟨_, rfl, hw.2⟩
def w_X7_parts_J14 (Q : Int → gaH → Prop) (v0 : Nat) (v1 : Int) (h : gaH) : Prop := gAL h v0 102 (fun r1 => Q ((r1 - v1) + 1) h)
def w_X7_parts (a0 : Nat) (a1 : Int) (a2 : Int) (h : gaH) (Q : Int → gaH → Prop) : Prop := gR a2 ∧ (if a2 = 0 then w_X7_parts_J14 Q a0 a1 h else gAL h a0 102 (fun r1 => gR r1 ∧ (if r1 ≤ 0 then w_X7_parts_J14 Q a0 a1 h else gAL h a0 102 (fun r2 => Q r2 h))))
abbrev rm_X7_parts : Room := { frames := 0, cells := 0, slots := 0, locals := 0 }
theorem hd_X7_parts : (yX7_parts.cls ≠ "java/lang/invoke/MethodHandle" ∧ yX7_parts.cls ≠ "java/lang/invoke/VarHandle" ∧ (parseMethodDescriptor yX7_parts.desc).map (fun d => d.parameters.length) = some 3) := by decide +kernel
theorem k_X7_parts {l : Launch} (hst : l.stackTraces = false) {G : gaG} {X : String → gaH → Prop} {a0 : Nat} {a1 : Int} {a2 : Int} {h : gaH} {Q : Int → gaH → Prop} (hw : w_X7_parts a0 a1 a2 h Q) : gaC l G yX7_parts (gaM yX7_parts cX7_parts 3 ((some .int))) rm_X7_parts [.ref a0, gi a1, gi a2] h (gQi Q) X := by
  refine g_start (lv := [some (.ref a0), some (gi a1), some (gi a2)]) hpl_RX7 hst (Nat.le_of_ble_eq_true rfl) (gaArgs_pad (z := 0) rfl) ww_6_204 ?_
  intro p e s m args below meth c V hT
  have h_X7_parts_J14 : ∀ (v0 : Nat) (v1 : Int) (h : gaH), w_X7_parts_J14 Q v0 v1 h → gaP p l e rm_X7_parts s m args below meth c G 3 (gaZ below G (gQi Q) X args s rm_X7_parts) 14 [some (.ref v0), some (gi v1), none] [] h 0 0 := by
    intro v0 v1 h hw
    unfold w_X7_parts_J14 at hw
    refine g_aload_n V dX7_parts_14 rfl rfl ?_
    obtain ⟨t9, vs, ha, ht, hw⟩ := hw
    refine gi_arraylength (t0 := 102) V (by simp [gaT]) ha ht dX7_parts_15 rfl ?_
    generalize (vs.length : Int) = r1 at hw ⊢
    refine g_iload_n V dX7_parts_16 rfl rfl ?_
    refine gi_isub V dX7_parts_17 rfl ?_
    refine g_iconst V (Int32.ofInt 1) dX7_parts_18 rfl rfl ?_
    refine gi_iadd V dX7_parts_19 rfl ?_
    exact g_iret V rfl rfl dX7_parts_20 ⟨_, rfl, hw⟩
  unfold w_X7_parts at hw
  refine g_iload_n V dX7_parts_0 rfl rfl ?_
  obtain ⟨hx0, hw⟩ := hw
  refine gi_if_eq V dX7_parts_1 rfl rfl hx0 (fun q => ?_) (fun q => ?_)
  · have hw := ga_t q hw
    refine g_less (bs := [true, true, false]) (lv2 := [some (.ref a0), some (gi a1), none]) rfl ?_
    exact h_X7_parts_J14 a0 a1 h hw
  · have hw := ga_f q hw
    refine g_aload_n V dX7_parts_4 rfl rfl ?_
    obtain ⟨t9, vs, ha, ht, hw⟩ := hw
    refine gi_arraylength (t0 := 102) V (by simp [gaT]) ha ht dX7_parts_5 rfl ?_
    generalize (vs.length : Int) = r1 at hw ⊢
    obtain ⟨hx0, hw⟩ := hw
    refine gi_if_le V dX7_parts_6 rfl rfl hx0 (fun q => ?_) (fun q => ?_)
    · have hw := ga_t q hw
      refine g_less (bs := [true, true, false]) (lv2 := [some (.ref a0), some (gi a1), none]) rfl ?_
      exact h_X7_parts_J14 a0 a1 h hw
    · have hw := ga_f q hw
      refine g_aload_n V dX7_parts_9 rfl rfl ?_
      obtain ⟨t9, vs, ha, ht, hw⟩ := hw
      refine gi_arraylength (t0 := 102) V (by simp [gaT]) ha ht dX7_parts_10 rfl ?_
      generalize (vs.length : Int) = r2 at hw ⊢
      refine g_goto V dX7_parts_11 rfl ?_
      exact g_iret V rfl rfl dX7_parts_20 ⟨_, rfl, hw⟩
def w_X7_kinds_L74 (Q : Int → gaH → Prop) (K56 : Int → Int → Nat → Int → Int → gaH → Prop) : Nat → (Int → Int → Nat → Int → Int → Int → Int → gaH → Prop)
  | 0 => fun _ _ _ _ _ _ _ _ => False
  | n + 1 => fun v2 v3 v4 v5 v6 v7 v8 h => gR v8 ∧ gR v6 ∧ (if v6 ≤ v8 then w_X7_one v7 h (fun r2 hp1 => K56 v2 v3 v4 (v5 + r2) (v6 + 1) hp1) else w_X7_areLike v4 v8 v6 v2 h (fun r4 hp3 => gR r4 ∧ (if r4 = 0 then w_X7_kinds_L74 Q K56 n v2 v3 v4 v5 v6 (gAnd v7 1) (v8 + 1) hp3 else w_X7_kinds_L74 Q K56 n v2 v3 v4 v5 v6 (gAnd v7 0) (v8 + 1) hp3)))
def w_X7_kinds_L56 (Q : Int → gaH → Prop) : Nat → (Int → Int → Nat → Int → Int → gaH → Prop)
  | 0 => fun _ _ _ _ _ _ => False
  | n + 1 => fun v2 v3 v4 v5 v6 h => w_X7_parts v4 v2 v3 h (fun r2 hp1 => gR v6 ∧ gR r2 ∧ (if r2 ≤ v6 then Q v5 hp1 else ∃ z, w_X7_kinds_L74 Q (w_X7_kinds_L56 Q n) z v2 v3 v4 v5 v6 1 0 hp1))
def w_X7_kinds_J33 (Q : Int → gaH → Prop) (v0 : Nat) (v1 : Int) (v2 : Int) (v3 : Int) (t0 : Nat) (t1 : Int) (h : gaH) : Prop := gHas h t0 7 ∧ w_X7_refuse t0 t1 2 h (fun r2 hp1 => gR r2 ∧ (if r2 = 0 then gA hp1 v0 7 0 (fun r3 => gLA hp1 r3 112 v1 (fun r4 => ∃ z, w_X7_kinds_L56 Q z v2 v3 r4 0 0 hp1)) else Q 0 hp1))
def w_X7_kinds (a0 : Nat) (a1 : Int) (a2 : Int) (a3 : Int) (h : gaH) (Q : Int → gaH → Prop) : Prop := w_X7_isNoSheet a1 h (fun r2 hp1 => gHas hp1 a0 7 ∧ w_X7_start a0 r2 1 hp1 (fun r4 hp3 => gR r4 ∧ (if r4 = 0 then gA hp3 a0 7 0 (fun r5 => gLA hp3 r5 112 a1 (fun r6 => gAL hp3 r6 102 (fun r7 => w_X7_isIn a2 0 r7 hp3 (fun r9 hp8 => gR r9 ∧ (if r9 = 0 then w_X7_kinds_J33 Q a0 a1 a2 a3 a0 1 hp8 else w_X7_kinds_J33 Q a0 a1 a2 a3 a0 0 hp8))))) else Q 0 hp3)))
abbrev rm_X7_kinds : Room := { frames := 2, cells := 0, slots := 0, locals := 44 }
theorem hd_X7_kinds : yX7_kinds.cls = RX7 ∧ (yX7_kinds.cls ≠ "java/lang/invoke/MethodHandle" ∧ yX7_kinds.cls ≠ "java/lang/invoke/VarHandle" ∧ (parseMethodDescriptor yX7_kinds.desc).map (fun d => d.parameters.length) = some 3) := by decide +kernel
theorem k_X7_kinds {l : Launch} (hst : l.stackTraces = false) {G : gaG} {X : String → gaH → Prop} {a0 : Nat} {a1 : Int} {a2 : Int} {a3 : Int} {h : gaH} {Q : Int → gaH → Prop} (hw : w_X7_kinds a0 a1 a2 a3 h Q) : gaC l G yX7_kinds (gaM yX7_kinds cX7_kinds 9 ((some .int))) rm_X7_kinds [.ref a0, gi a1, gi a2, gi a3] h (gQi Q) X := by
  refine g_start (lv := [some (.ref a0), some (gi a1), some (gi a2), some (gi a3), none, none, none, none, none]) hpl_RX7 hst (Nat.le_of_ble_eq_true rfl) (gaArgs_pad (z := 5) rfl) ww_6_210 ?_
  intro p e s m args below meth c V hT
  have h_X7_kinds_L74 : ∀ (K56 : Int → Int → Nat → Int → Int → gaH → Prop), ∀ (hK56 : ∀ (v2 : Int) (v3 : Int) (v4 : Nat) (v5 : Int) (v6 : Int) (h : gaH), K56 v2 v3 v4 v5 v6 h → gaP p l e rm_X7_kinds s m args below meth c G 9 (gaZ below G (gQi Q) X args s rm_X7_kinds) 56 [none, none, some (gi v2), some (gi v3), some (.ref v4), some (gi v5), some (gi v6), none, none] [] h 0 0), ∀ (n : Nat), ∀ (v2 : Int) (v3 : Int) (v4 : Nat) (v5 : Int) (v6 : Int) (v7 : Int) (v8 : Int) (h : gaH), w_X7_kinds_L74 Q K56 n v2 v3 v4 v5 v6 v7 v8 h → gaP p l e rm_X7_kinds s m args below meth c G 9 (gaZ below G (gQi Q) X args s rm_X7_kinds) 74 [none, none, some (gi v2), some (gi v3), some (.ref v4), some (gi v5), some (gi v6), some (gi v7), some (gi v8)] [] h 0 0 := by
    intro K56 hK56
    intro n
    induction n with
    | zero =>
      intro v2 v3 v4 v5 v6 v7 v8 h hw
      exact hw.elim
    | succ n ih =>
      intro v2 v3 v4 v5 v6 v7 v8 h hw
      unfold w_X7_kinds_L74 at hw
      refine g_iload V dX7_kinds_74 rfl rfl ?_
      refine g_iload V dX7_kinds_76 rfl rfl ?_
      obtain ⟨hx0, hx1, hw⟩ := hw
      refine gi_icmp_ge V dX7_kinds_78 rfl rfl hx0 hx1 (fun q => ?_) (fun q => ?_)
      · have hw := ga_t q hw
        refine g_iload V dX7_kinds_110 rfl rfl ?_
        refine g_iload V dX7_kinds_112 rfl rfl ?_
        refine g_callS (st := [gi v5]) V (k_X7_one hst hw) ww_6_19 ww_6_20 ww_1_5 ww_6_21 hd_X7_one ⟨by decide, by decide⟩ rfl rfl (ga_cat rfl) dX7_kinds_114 (Nat.zero_le _) (Nat.zero_le _) rfl (gaX_all hT V) (ga_ki (fun r2 hp1 hw => ?_))
        refine gi_iadd V dX7_kinds_117 rfl ?_
        refine g_istore (lv2 := [none, none, some (gi v2), some (gi v3), some (.ref v4), some (gi (v5 + r2)), some (gi v6), some (gi v7), some (gi v8)]) V dX7_kinds_118 (by decide) rfl rfl rfl ?_
        refine gi_iinc (lv2 := [none, none, some (gi v2), some (gi v3), some (.ref v4), some (gi (v5 + r2)), some (gi (v6 + 1)), some (gi v7), some (gi v8)]) V dX7_kinds_120 (by decide) rfl rfl rfl rfl ?_
        refine g_goto V dX7_kinds_123 rfl ?_
        refine g_less (bs := [true, true, true, true, true, true, true, false, false]) (lv2 := [none, none, some (gi v2), some (gi v3), some (.ref v4), some (gi (v5 + r2)), some (gi (v6 + 1)), none, none]) rfl ?_
        exact hK56 v2 v3 v4 (v5 + r2) (v6 + 1) hp1 hw
      · have hw := ga_f q hw
        refine g_iload V dX7_kinds_81 rfl rfl ?_
        refine g_aload V dX7_kinds_83 rfl rfl ?_
        refine g_iload V dX7_kinds_85 rfl rfl ?_
        refine g_iload V dX7_kinds_87 rfl rfl ?_
        refine g_iload_n V dX7_kinds_89 rfl rfl ?_
        refine g_callS (st := [gi v7]) V (k_X7_areLike hst hw) ww_6_211 ww_6_212 ww_1_5 ww_6_213 hd_X7_areLike ⟨by decide, by decide⟩ rfl rfl (ga_cat rfl) dX7_kinds_90 (Nat.zero_le _) (Nat.zero_le _) rfl (gaX_all hT V) (ga_ki (fun r4 hp3 hw => ?_))
        obtain ⟨hx0, hw⟩ := hw
        refine gi_if_ne V dX7_kinds_93 rfl rfl hx0 (fun q => ?_) (fun q => ?_)
        · have hw := ga_f q hw
          refine g_iconst V (Int32.ofInt 0) dX7_kinds_100 rfl rfl ?_
          refine gi_iand V dX7_kinds_101 rfl ?_
          refine g_istore (lv2 := [none, none, some (gi v2), some (gi v3), some (.ref v4), some (gi v5), some (gi v6), some (gi (gAnd v7 0)), some (gi v8)]) V dX7_kinds_102 (by decide) rfl rfl rfl ?_
          refine gi_iinc (lv2 := [none, none, some (gi v2), some (gi v3), some (.ref v4), some (gi v5), some (gi v6), some (gi (gAnd v7 0)), some (gi (v8 + 1))]) V dX7_kinds_104 (by decide) rfl rfl rfl rfl ?_
          refine g_goto V dX7_kinds_107 rfl ?_
          exact ih v2 v3 v4 v5 v6 (gAnd v7 0) (v8 + 1) hp3 hw
        · have hw := ga_t q hw
          refine g_iconst V (Int32.ofInt 1) dX7_kinds_96 rfl rfl ?_
          refine g_goto V dX7_kinds_97 rfl ?_
          refine gi_iand V dX7_kinds_101 rfl ?_
          refine g_istore (lv2 := [none, none, some (gi v2), some (gi v3), some (.ref v4), some (gi v5), some (gi v6), some (gi (gAnd v7 1)), some (gi v8)]) V dX7_kinds_102 (by decide) rfl rfl rfl ?_
          refine gi_iinc (lv2 := [none, none, some (gi v2), some (gi v3), some (.ref v4), some (gi v5), some (gi v6), some (gi (gAnd v7 1)), some (gi (v8 + 1))]) V dX7_kinds_104 (by decide) rfl rfl rfl rfl ?_
          refine g_goto V dX7_kinds_107 rfl ?_
          exact ih v2 v3 v4 v5 v6 (gAnd v7 1) (v8 + 1) hp3 hw
  have h_X7_kinds_L56 : ∀ (n : Nat), ∀ (v2 : Int) (v3 : Int) (v4 : Nat) (v5 : Int) (v6 : Int) (h : gaH), w_X7_kinds_L56 Q n v2 v3 v4 v5 v6 h → gaP p l e rm_X7_kinds s m args below meth c G 9 (gaZ below G (gQi Q) X args s rm_X7_kinds) 56 [none, none, some (gi v2), some (gi v3), some (.ref v4), some (gi v5), some (gi v6), none, none] [] h 0 0 := by
    intro n
    induction n with
    | zero =>
      intro v2 v3 v4 v5 v6 h hw
      exact hw.elim
    | succ n ih =>
      intro v2 v3 v4 v5 v6 h hw
      unfold w_X7_kinds_L56 at hw
      refine g_iload V dX7_kinds_56 rfl rfl ?_
      refine g_aload V dX7_kinds_58 rfl rfl ?_
      refine g_iload_n V dX7_kinds_60 rfl rfl ?_
      refine g_iload_n V dX7_kinds_61 rfl rfl ?_
      refine g_callS (st := [gi v6]) V (k_X7_parts hst hw) ww_6_202 ww_6_203 ww_1_5 ww_6_204 hd_X7_parts ⟨by decide, by decide⟩ rfl rfl (ga_cat rfl) dX7_kinds_62 (Nat.zero_le _) (Nat.zero_le _) rfl (gaX_all hT V) (ga_ki (fun r2 hp1 hw => ?_))
      obtain ⟨hx0, hx1, hw⟩ := hw
      refine gi_icmp_ge V dX7_kinds_65 rfl rfl hx0 hx1 (fun q => ?_) (fun q => ?_)
      · have hw := ga_t q hw
        refine g_iload V dX7_kinds_126 rfl rfl ?_
        exact g_iret V rfl rfl dX7_kinds_128 ⟨_, rfl, hw⟩
      · have hw := ga_f q hw
        refine g_iconst V (Int32.ofInt 1) dX7_kinds_68 rfl rfl ?_
        refine g_istore (lv2 := [none, none, some (gi v2), some (gi v3), some (.ref v4), some (gi v5), some (gi v6), some (gi 1), none]) V dX7_kinds_69 (by decide) rfl rfl rfl ?_
        refine g_iconst V (Int32.ofInt 0) dX7_kinds_71 rfl rfl ?_
        refine g_istore (lv2 := [none, none, some (gi v2), some (gi v3), some (.ref v4), some (gi v5), some (gi v6), some (gi 1), some (gi 0)]) V dX7_kinds_72 (by decide) rfl rfl rfl ?_
        obtain ⟨z, hw⟩ := hw
        exact h_X7_kinds_L74 (w_X7_kinds_L56 Q n) ih z v2 v3 v4 v5 v6 1 0 hp1 hw
  have h_X7_kinds_J33 : ∀ (v0 : Nat) (v1 : Int) (v2 : Int) (v3 : Int) (t0 : Nat) (t1 : Int) (h : gaH), w_X7_kinds_J33 Q v0 v1 v2 v3 t0 t1 h → gaP p l e rm_X7_kinds s m args below meth c G 9 (gaZ below G (gQi Q) X args s rm_X7_kinds) 33 [some (.ref v0), some (gi v1), some (gi v2), some (gi v3), none, none, none, none, none] [gi t1, .ref t0] h 0 0 := by
    intro v0 v1 v2 v3 t0 t1 h hw
    unfold w_X7_kinds_J33 at hw
    refine g_iconst V (Int32.ofInt 2) dX7_kinds_33 rfl rfl ?_
    obtain ⟨hb, hw⟩ := hw
    obtain ⟨fb, hb⟩ := hb
    refine g_callV (C := RX7) (T := TX7) (N := 8) (st := []) V (k_X7_refuse hst hw) ww_5_224 ww_5_226 wp_2_3 ww_1_5 ww_5_227 hd_X7_refuse ⟨by decide, by decide⟩ rfl (by decide) hb rfl rfl (ga_cat rfl) dX7_kinds_34 (Nat.zero_le _) (Nat.zero_le _) rfl (gaX_all hT V) (ga_ki (fun r2 hp1 hw => ?_))
    obtain ⟨hx0, hw⟩ := hw
    refine gi_if_eq V dX7_kinds_37 rfl rfl hx0 (fun q => ?_) (fun q => ?_)
    · have hw := ga_t q hw
      refine g_aload_n V dX7_kinds_42 rfl rfl ?_
      obtain ⟨fs, r3, ha, hv, hw⟩ := hw
      refine g_get (C := RX7) (T := TX7) (N := 8) V 0 rfl hin_RX7 (by decide) (by decide) ww_5_181 rfl ha hv dX7_kinds_43 rfl ?_
      refine g_iload_n V dX7_kinds_46 rfl rfl ?_
      obtain ⟨vs, r4, ha, h0, h9, hv, hw⟩ := hw
      refine gi_aaload V ha (by decide) h0 h9 hv dX7_kinds_47 rfl ?_
      refine g_astore (lv2 := [some (.ref v0), some (gi v1), some (gi v2), some (gi v3), some (.ref r4), none, none, none, none]) V dX7_kinds_48 (by decide) rfl rfl rfl ?_
      refine g_iconst V (Int32.ofInt 0) dX7_kinds_50 rfl rfl ?_
      refine g_istore (lv2 := [some (.ref v0), some (gi v1), some (gi v2), some (gi v3), some (.ref r4), some (gi 0), none, none, none]) V dX7_kinds_51 (by decide) rfl rfl rfl ?_
      refine g_iconst V (Int32.ofInt 0) dX7_kinds_53 rfl rfl ?_
      refine g_istore (lv2 := [some (.ref v0), some (gi v1), some (gi v2), some (gi v3), some (.ref r4), some (gi 0), some (gi 0), none, none]) V dX7_kinds_54 (by decide) rfl rfl rfl ?_
      refine g_less (bs := [false, false, true, true, true, true, true, true, true]) (lv2 := [none, none, some (gi v2), some (gi v3), some (.ref r4), some (gi 0), some (gi 0), none, none]) rfl ?_
      obtain ⟨z, hw⟩ := hw
      exact h_X7_kinds_L56 z v2 v3 r4 0 0 hp1 hw
    · have hw := ga_f q hw
      refine g_iconst V (Int32.ofInt 0) dX7_kinds_40 rfl rfl ?_
      exact g_iret V rfl rfl dX7_kinds_41 ⟨_, rfl, hw⟩
  unfold w_X7_kinds at hw
  refine g_aload_n V dX7_kinds_0 rfl rfl ?_
  refine g_iload_n V dX7_kinds_1 rfl rfl ?_
  refine g_callS (st := [.ref a0]) V (k_X7_isNoSheet hst hw) ww_5_214 ww_5_215 ww_1_5 ww_5_216 hd_X7_isNoSheet ⟨by decide, by decide⟩ rfl rfl (ga_cat rfl) dX7_kinds_2 (Nat.zero_le _) (Nat.zero_le _) rfl (gaX_all hT V) (ga_ki (fun r2 hp1 hw => ?_))
  refine g_iconst V (Int32.ofInt 1) dX7_kinds_5 rfl rfl ?_
  obtain ⟨hb, hw⟩ := hw
  obtain ⟨fb, hb⟩ := hb
  refine g_callV (C := RX7) (T := TX7) (N := 8) (st := []) V (k_X7_start hst hw) ww_5_220 ww_5_222 wp_2_2 ww_1_5 ww_5_223 hd_X7_start ⟨by decide, by decide⟩ rfl (by decide) hb rfl rfl (ga_cat rfl) dX7_kinds_6 (Nat.zero_le _) (Nat.zero_le _) rfl (gaX_all hT V) (ga_ki (fun r4 hp3 hw => ?_))
  obtain ⟨hx0, hw⟩ := hw
  refine gi_if_ne V dX7_kinds_9 rfl rfl hx0 (fun q => ?_) (fun q => ?_)
  · have hw := ga_f q hw
    refine g_iconst V (Int32.ofInt 0) dX7_kinds_40 rfl rfl ?_
    exact g_iret V rfl rfl dX7_kinds_41 ⟨_, rfl, hw⟩
  · have hw := ga_t q hw
    refine g_aload_n V dX7_kinds_12 rfl rfl ?_
    refine g_iload_n V dX7_kinds_13 rfl rfl ?_
    refine g_iconst V (Int32.ofInt 0) dX7_kinds_14 rfl rfl ?_
    refine g_aload_n V dX7_kinds_15 rfl rfl ?_
    obtain ⟨fs, r5, ha, hv, hw⟩ := hw
    refine g_get (C := RX7) (T := TX7) (N := 8) V 0 rfl hin_RX7 (by decide) (by decide) ww_5_181 rfl ha hv dX7_kinds_16 rfl ?_
    refine g_iload_n V dX7_kinds_19 rfl rfl ?_
    obtain ⟨vs, r6, ha, h0, h9, hv, hw⟩ := hw
    refine gi_aaload V ha (by decide) h0 h9 hv dX7_kinds_20 rfl ?_
    obtain ⟨t9, vs, ha, ht, hw⟩ := hw
    refine gi_arraylength (t0 := 102) V (by simp [gaT]) ha ht dX7_kinds_21 rfl ?_
    generalize (vs.length : Int) = r7 at hw ⊢
    refine g_callS (st := [.ref a0]) V (k_X7_isIn hst hw) ww_5_217 ww_5_218 ww_1_5 ww_5_219 hd_X7_isIn ⟨by decide, by decide⟩ rfl rfl (ga_cat rfl) dX7_kinds_22 (Nat.zero_le _) (Nat.zero_le _) rfl (gaX_all hT V) (ga_ki (fun r9 hp8 hw => ?_))
    obtain ⟨hx0, hw⟩ := hw
    refine gi_if_ne V dX7_kinds_25 rfl rfl hx0 (fun q => ?_) (fun q => ?_)
    · have hw := ga_f q hw
      refine g_iconst V (Int32.ofInt 0) dX7_kinds_32 rfl rfl ?_
      exact h_X7_kinds_J33 a0 a1 a2 a3 a0 0 hp8 hw
    · have hw := ga_t q hw
      refine g_iconst V (Int32.ofInt 1) dX7_kinds_28 rfl rfl ?_
      refine g_goto V dX7_kinds_29 rfl ?_
      exact h_X7_kinds_J33 a0 a1 a2 a3 a0 1 hp8 hw
def w_X7_knock (a0 : Nat) (h : gaH) (Q : Int → gaH → Prop) : Prop := gPF h a0 7 7 (gi 0) (fun hp1 => gI hp1 a0 7 6 (fun r2 => gPF hp1 a0 7 6 (gi (r2 + 1)) (fun hp3 => gI hp3 a0 7 6 (fun r4 => Q r4 hp3))))
abbrev rm_X7_knock : Room := { frames := 0, cells := 0, slots := 0, locals := 0 }
theorem hd_X7_knock : yX7_knock.cls = RX7 ∧ (yX7_knock.cls ≠ "java/lang/invoke/MethodHandle" ∧ yX7_knock.cls ≠ "java/lang/invoke/VarHandle" ∧ (parseMethodDescriptor yX7_knock.desc).map (fun d => d.parameters.length) = some 0) := by decide +kernel
theorem k_X7_knock {l : Launch} (hst : l.stackTraces = false) {G : gaG} {X : String → gaH → Prop} {a0 : Nat} {h : gaH} {Q : Int → gaH → Prop} (hw : w_X7_knock a0 h Q) : gaC l G yX7_knock (gaM yX7_knock cX7_knock 1 ((some .int))) rm_X7_knock [.ref a0] h (gQi Q) X := by
  refine g_start (lv := [some (.ref a0)]) hpl_RX7 hst (Nat.le_of_ble_eq_true rfl) (gaArgs_pad (z := 0) rfl) ww_7_56 ?_
  intro p e s m args below meth c V hT
  unfold w_X7_knock at hw
  refine g_aload_n V dX7_knock_0 rfl rfl ?_
  refine g_iconst V (Int32.ofInt 0) dX7_knock_1 rfl rfl ?_
  obtain ⟨fs, ha, hl, hw⟩ := hw
  refine g_put (C := RX7) (T := TX7) (N := 8) V 7 tyX7 tyX7_ok nmX7 rfl hin_RX7 (by decide) (by decide) ww_5_188 rfl rfl rfl rfl ha hl dX7_knock_2 rfl ?_
  generalize gaUp h a0 _ = hp1 at hw ⊢
  refine g_aload_n V dX7_knock_5 rfl rfl ?_
  refine g_dup V dX7_knock_6 rfl rfl ?_
  obtain ⟨fs, r2, ha, hv, hw⟩ := hw
  refine g_get (C := RX7) (T := TX7) (N := 8) V 6 rfl hin_RX7 (by decide) (by decide) ww_5_187 rfl ha hv dX7_knock_7 rfl ?_
  refine g_iconst V (Int32.ofInt 1) dX7_knock_10 rfl rfl ?_
  refine gi_iadd V dX7_knock_11 rfl ?_
  obtain ⟨fs, ha, hl, hw⟩ := hw
  refine g_put (C := RX7) (T := TX7) (N := 8) V 6 tyX7 tyX7_ok nmX7 rfl hin_RX7 (by decide) (by decide) ww_5_187 rfl rfl rfl rfl ha hl dX7_knock_12 rfl ?_
  generalize gaUp hp1 a0 _ = hp3 at hw ⊢
  refine g_aload_n V dX7_knock_15 rfl rfl ?_
  obtain ⟨fs, r4, ha, hv, hw⟩ := hw
  refine g_get (C := RX7) (T := TX7) (N := 8) V 6 rfl hin_RX7 (by decide) (by decide) ww_5_187 rfl ha hv dX7_knock_16 rfl ?_
  exact g_iret V rfl rfl dX7_knock_19 ⟨_, rfl, hw⟩
def w_X7_lay_J84 (Q : Int → gaH → Prop) (t0 : Nat) (t1 : Int) (t2 : Nat) (h : gaH) (kc ks : Nat) : Prop := gHas h t0 7 ∧ w_X7_comes t0 t1 t2 h (fun r2 hp1 => Q r2 hp1)
def w_X7_lay_J42 (Q : Int → gaH → Prop) (v0 : Nat) (v1 : Int) (v2 : Int) (v3 : Int) (t0 : Nat) (t1 : Int) (h : gaH) (kc ks : Nat) : Prop := gHas h t0 7 ∧ w_X7_refuse t0 t1 2 h (fun r2 hp1 => gR r2 ∧ (if r2 = 0 then gR v3 ∧ (if v3 = 0 then gHas hp1 v0 7 ∧ gCall 66 4098 kc ks (fun c13 s14 => w_X7_byCopies v0 v1 0 hp1 (fun r12 hp11 => w_X7_lay_J84 Q v0 v2 r12 hp11 c13 s14)) else gR v3 ∧ (if v3 = 1 then gHas hp1 v0 7 ∧ gCall 193 18433 kc ks (fun c9 s10 => w_X7_byRules v0 v1 hp1 (fun r8 hp7 => w_X7_lay_J84 Q v0 v2 r8 hp7 c9 s10)) else gHas hp1 v0 7 ∧ gCall 132 325 kc ks (fun c5 s6 => w_X7_byLine v0 v1 hp1 (fun r4 hp3 => w_X7_lay_J84 Q v0 v2 r4 hp3 c5 s6)))) else Q 0 hp1))
def w_X7_lay_J20 (Q : Int → gaH → Prop) (v0 : Nat) (v1 : Int) (v2 : Int) (v3 : Int) (t0 : Nat) (t1 : Int) (h : gaH) (kc ks : Nat) : Prop := gHas h t0 7 ∧ w_X7_start t0 t1 1 h (fun r2 hp1 => gR r2 ∧ (if r2 = 0 then w_X7_isIn v3 0 2 hp1 (fun r4 hp3 => gR r4 ∧ (if r4 = 0 then w_X7_lay_J42 Q v0 v1 v2 v3 v0 1 hp3 kc ks else w_X7_lay_J42 Q v0 v1 v2 v3 v0 0 hp3 kc ks)) else Q 0 hp1))
def w_X7_lay_J15 (Q : Int → gaH → Prop) (v0 : Nat) (v1 : Int) (v2 : Int) (v3 : Int) (t0 : Nat) (h : gaH) (kc ks : Nat) : Prop := w_X7_lay_J20 Q v0 v1 v2 v3 t0 1 h kc ks
def w_X7_lay (a0 : Nat) (a1 : Int) (a2 : Int) (a3 : Int) (h : gaH) (Q : Int → gaH → Prop) : Prop := w_X7_isNoGrowth a1 h (fun r2 hp1 => gR r2 ∧ (if r2 = 0 then w_X7_isNoSheet a2 hp1 (fun r4 hp3 => gR r4 ∧ (if r4 = 0 then w_X7_lay_J20 Q a0 a1 a2 a3 a0 0 hp3 391 22856 else w_X7_lay_J15 Q a0 a1 a2 a3 a0 hp3 391 22856)) else w_X7_lay_J15 Q a0 a1 a2 a3 a0 hp1 391 22856))
abbrev rm_X7_lay : Room := { frames := 3, cells := 391, slots := 22856, locals := 81 }
theorem hd_X7_lay : yX7_lay.cls = RX7 ∧ (yX7_lay.cls ≠ "java/lang/invoke/MethodHandle" ∧ yX7_lay.cls ≠ "java/lang/invoke/VarHandle" ∧ (parseMethodDescriptor yX7_lay.desc).map (fun d => d.parameters.length) = some 3) := by decide +kernel
theorem k_X7_lay {l : Launch} (hst : l.stackTraces = false) {G : gaG} {X : String → gaH → Prop} {a0 : Nat} {a1 : Int} {a2 : Int} {a3 : Int} {h : gaH} {Q : Int → gaH → Prop} (hw : w_X7_lay a0 a1 a2 a3 h Q) : gaC l G yX7_lay (gaM yX7_lay cX7_lay 4 ((some .int))) rm_X7_lay [.ref a0, gi a1, gi a2, gi a3] h (gQi Q) X := by
  refine g_start (lv := [some (.ref a0), some (gi a1), some (gi a2), some (gi a3)]) hpl_RX7 hst (Nat.le_of_ble_eq_true rfl) (gaArgs_pad (z := 0) rfl) ww_6_109 ?_
  intro p e s m args below meth c V hT
  have h_X7_lay_J84 : ∀ (t0 : Nat) (t1 : Int) (t2 : Nat) (h : gaH) (kc ks : Nat), w_X7_lay_J84 Q t0 t1 t2 h kc ks → gaP p l e rm_X7_lay s m args below meth c G 4 (gaZ below G (gQi Q) X args s rm_X7_lay) 84 [none, none, none, none] [.ref t2, gi t1, .ref t0] h kc ks := by
    intro t0 t1 t2 h kc ks hw
    unfold w_X7_lay_J84 at hw
    obtain ⟨hb, hw⟩ := hw
    obtain ⟨fb, hb⟩ := hb
    refine g_callV (C := RX7) (T := TX7) (N := 8) (st := []) V (k_X7_comes hst hw) ww_5_232 ww_5_234 wp_2_4 ww_1_5 ww_5_235 hd_X7_comes ⟨by decide, by decide⟩ rfl (by decide) hb rfl rfl (ga_cat rfl) dX7_lay_84 (Nat.zero_le _) (Nat.zero_le _) rfl (gaX_all hT V) (ga_ki (fun r2 hp1 hw => ?_))
    exact g_iret V rfl rfl dX7_lay_87 ⟨_, rfl, hw⟩
  have h_X7_lay_J42 : ∀ (v0 : Nat) (v1 : Int) (v2 : Int) (v3 : Int) (t0 : Nat) (t1 : Int) (h : gaH) (kc ks : Nat), w_X7_lay_J42 Q v0 v1 v2 v3 t0 t1 h kc ks → gaP p l e rm_X7_lay s m args below meth c G 4 (gaZ below G (gQi Q) X args s rm_X7_lay) 42 [some (.ref v0), some (gi v1), some (gi v2), some (gi v3)] [gi t1, .ref t0] h kc ks := by
    intro v0 v1 v2 v3 t0 t1 h kc ks hw
    unfold w_X7_lay_J42 at hw
    refine g_iconst V (Int32.ofInt 2) dX7_lay_42 rfl rfl ?_
    obtain ⟨hb, hw⟩ := hw
    obtain ⟨fb, hb⟩ := hb
    refine g_callV (C := RX7) (T := TX7) (N := 8) (st := []) V (k_X7_refuse hst hw) ww_5_224 ww_5_226 wp_2_3 ww_1_5 ww_5_227 hd_X7_refuse ⟨by decide, by decide⟩ rfl (by decide) hb rfl rfl (ga_cat rfl) dX7_lay_43 (Nat.zero_le _) (Nat.zero_le _) rfl (gaX_all hT V) (ga_ki (fun r2 hp1 hw => ?_))
    obtain ⟨hx0, hw⟩ := hw
    refine gi_if_eq V dX7_lay_46 rfl rfl hx0 (fun q => ?_) (fun q => ?_)
    · have hw := ga_t q hw
      refine g_aload_n V dX7_lay_51 rfl rfl ?_
      refine g_iload_n V dX7_lay_52 rfl rfl ?_
      refine g_iload_n V dX7_lay_53 rfl rfl ?_
      obtain ⟨hx0, hw⟩ := hw
      refine gi_if_ne V dX7_lay_54 rfl rfl hx0 (fun q => ?_) (fun q => ?_)
      · have hw := ga_f q hw
        refine g_iload_n V dX7_lay_66 rfl rfl ?_
        refine g_iconst V (Int32.ofInt 1) dX7_lay_67 rfl rfl ?_
        obtain ⟨hx0, hw⟩ := hw
        refine gi_icmp_ne V dX7_lay_68 rfl rfl hx0 (by decide) (fun q => ?_) (fun q => ?_)
        · have hw := ga_f q hw
          refine g_aload_n V dX7_lay_79 rfl rfl ?_
          refine g_iload_n V dX7_lay_80 rfl rfl ?_
          obtain ⟨hb, hw⟩ := hw
          obtain ⟨fb, hb⟩ := hb
          obtain ⟨hk, hj, c5, s6, ec, es, hw⟩ := hw
          refine g_callV (C := RX7) (T := TX7) (N := 8) (st := [gi v2, .ref v0]) V (k_X7_byLine hst hw) ww_6_121 ww_6_123 wp_2_13 ww_1_5 ww_6_124 hd_X7_byLine ⟨by decide, by decide⟩ rfl (by decide) hb rfl rfl (ga_cat rfl) dX7_lay_81 hk hj rfl (gaX_all hT V) (ga_ka (fun r4 hp3 hw => ?_))
          refine ga_re ec es ?_
          refine g_less (bs := [false, false, false, false]) (lv2 := [none, none, none, none]) rfl ?_
          exact h_X7_lay_J84 v0 v2 r4 hp3 c5 s6 hw
        · have hw := ga_t q hw
          refine g_aload_n V dX7_lay_71 rfl rfl ?_
          refine g_iload_n V dX7_lay_72 rfl rfl ?_
          obtain ⟨hb, hw⟩ := hw
          obtain ⟨fb, hb⟩ := hb
          obtain ⟨hk, hj, c9, s10, ec, es, hw⟩ := hw
          refine g_callV (C := RX7) (T := TX7) (N := 8) (st := [gi v2, .ref v0]) V (k_X7_byRules hst hw) ww_6_117 ww_6_119 wp_2_12 ww_1_5 ww_6_120 hd_X7_byRules ⟨by decide, by decide⟩ rfl (by decide) hb rfl rfl (ga_cat rfl) dX7_lay_73 hk hj rfl (gaX_all hT V) (ga_ka (fun r8 hp7 hw => ?_))
          refine ga_re ec es ?_
          refine g_goto V dX7_lay_76 rfl ?_
          refine g_less (bs := [false, false, false, false]) (lv2 := [none, none, none, none]) rfl ?_
          exact h_X7_lay_J84 v0 v2 r8 hp7 c9 s10 hw
      · have hw := ga_t q hw
        refine g_aload_n V dX7_lay_57 rfl rfl ?_
        refine g_iload_n V dX7_lay_58 rfl rfl ?_
        refine g_iconst V (Int32.ofInt 0) dX7_lay_59 rfl rfl ?_
        obtain ⟨hb, hw⟩ := hw
        obtain ⟨fb, hb⟩ := hb
        obtain ⟨hk, hj, c13, s14, ec, es, hw⟩ := hw
        refine g_callV (C := RX7) (T := TX7) (N := 8) (st := [gi v2, .ref v0]) V (k_X7_byCopies hst hw) ww_6_113 ww_6_115 wp_2_11 ww_1_5 ww_6_116 hd_X7_byCopies ⟨by decide, by decide⟩ rfl (by decide) hb rfl rfl (ga_cat rfl) dX7_lay_60 hk hj rfl (gaX_all hT V) (ga_ka (fun r12 hp11 hw => ?_))
        refine ga_re ec es ?_
        refine g_goto V dX7_lay_63 rfl ?_
        refine g_less (bs := [false, false, false, false]) (lv2 := [none, none, none, none]) rfl ?_
        exact h_X7_lay_J84 v0 v2 r12 hp11 c13 s14 hw
    · have hw := ga_f q hw
      refine g_iconst V (Int32.ofInt 0) dX7_lay_49 rfl rfl ?_
      exact g_iret V rfl rfl dX7_lay_50 ⟨_, rfl, hw⟩
  have h_X7_lay_J20 : ∀ (v0 : Nat) (v1 : Int) (v2 : Int) (v3 : Int) (t0 : Nat) (t1 : Int) (h : gaH) (kc ks : Nat), w_X7_lay_J20 Q v0 v1 v2 v3 t0 t1 h kc ks → gaP p l e rm_X7_lay s m args below meth c G 4 (gaZ below G (gQi Q) X args s rm_X7_lay) 20 [some (.ref v0), some (gi v1), some (gi v2), some (gi v3)] [gi t1, .ref t0] h kc ks := by
    intro v0 v1 v2 v3 t0 t1 h kc ks hw
    unfold w_X7_lay_J20 at hw
    refine g_iconst V (Int32.ofInt 1) dX7_lay_20 rfl rfl ?_
    obtain ⟨hb, hw⟩ := hw
    obtain ⟨fb, hb⟩ := hb
    refine g_callV (C := RX7) (T := TX7) (N := 8) (st := []) V (k_X7_start hst hw) ww_5_220 ww_5_222 wp_2_2 ww_1_5 ww_5_223 hd_X7_start ⟨by decide, by decide⟩ rfl (by decide) hb rfl rfl (ga_cat rfl) dX7_lay_21 (Nat.zero_le _) (Nat.zero_le _) rfl (gaX_all hT V) (ga_ki (fun r2 hp1 hw => ?_))
    obtain ⟨hx0, hw⟩ := hw
    refine gi_if_ne V dX7_lay_24 rfl rfl hx0 (fun q => ?_) (fun q => ?_)
    · have hw := ga_f q hw
      refine g_iconst V (Int32.ofInt 0) dX7_lay_49 rfl rfl ?_
      exact g_iret V rfl rfl dX7_lay_50 ⟨_, rfl, hw⟩
    · have hw := ga_t q hw
      refine g_aload_n V dX7_lay_27 rfl rfl ?_
      refine g_iload_n V dX7_lay_28 rfl rfl ?_
      refine g_iconst V (Int32.ofInt 0) dX7_lay_29 rfl rfl ?_
      refine g_iconst V (Int32.ofInt 2) dX7_lay_30 rfl rfl ?_
      refine g_callS (st := [.ref v0]) V (k_X7_isIn hst hw) ww_5_217 ww_5_218 ww_1_5 ww_5_219 hd_X7_isIn ⟨by decide, by decide⟩ rfl rfl (ga_cat rfl) dX7_lay_31 (Nat.zero_le _) (Nat.zero_le _) rfl (gaX_all hT V) (ga_ki (fun r4 hp3 hw => ?_))
      obtain ⟨hx0, hw⟩ := hw
      refine gi_if_ne V dX7_lay_34 rfl rfl hx0 (fun q => ?_) (fun q => ?_)
      · have hw := ga_f q hw
        refine g_iconst V (Int32.ofInt 0) dX7_lay_41 rfl rfl ?_
        exact h_X7_lay_J42 v0 v1 v2 v3 v0 0 hp3 kc ks hw
      · have hw := ga_t q hw
        refine g_iconst V (Int32.ofInt 1) dX7_lay_37 rfl rfl ?_
        refine g_goto V dX7_lay_38 rfl ?_
        exact h_X7_lay_J42 v0 v1 v2 v3 v0 1 hp3 kc ks hw
  have h_X7_lay_J15 : ∀ (v0 : Nat) (v1 : Int) (v2 : Int) (v3 : Int) (t0 : Nat) (h : gaH) (kc ks : Nat), w_X7_lay_J15 Q v0 v1 v2 v3 t0 h kc ks → gaP p l e rm_X7_lay s m args below meth c G 4 (gaZ below G (gQi Q) X args s rm_X7_lay) 15 [some (.ref v0), some (gi v1), some (gi v2), some (gi v3)] [.ref t0] h kc ks := by
    intro v0 v1 v2 v3 t0 h kc ks hw
    unfold w_X7_lay_J15 at hw
    refine g_iconst V (Int32.ofInt 1) dX7_lay_15 rfl rfl ?_
    refine g_goto V dX7_lay_16 rfl ?_
    exact h_X7_lay_J20 v0 v1 v2 v3 t0 1 h kc ks hw
  show gaP p l e rm_X7_lay s m args below meth c G 4 (gaZ below G (gQi Q) X args s rm_X7_lay) 0 [some (.ref a0), some (gi a1), some (gi a2), some (gi a3)] [] h 391 22856
  unfold w_X7_lay at hw
  refine g_aload_n V dX7_lay_0 rfl rfl ?_
  refine g_iload_n V dX7_lay_1 rfl rfl ?_
  refine g_callS (st := [.ref a0]) V (k_X7_isNoGrowth hst hw) ww_6_110 ww_6_111 ww_1_5 ww_6_112 hd_X7_isNoGrowth ⟨by decide, by decide⟩ rfl rfl (ga_cat rfl) dX7_lay_2 (Nat.zero_le _) (Nat.zero_le _) rfl (gaX_all hT V) (ga_ki (fun r2 hp1 hw => ?_))
  obtain ⟨hx0, hw⟩ := hw
  refine gi_if_ne V dX7_lay_5 rfl rfl hx0 (fun q => ?_) (fun q => ?_)
  · have hw := ga_f q hw
    exact h_X7_lay_J15 a0 a1 a2 a3 a0 hp1 391 22856 hw
  · have hw := ga_t q hw
    refine g_iload_n V dX7_lay_8 rfl rfl ?_
    refine g_callS (st := [.ref a0]) V (k_X7_isNoSheet hst hw) ww_5_214 ww_5_215 ww_1_5 ww_5_216 hd_X7_isNoSheet ⟨by decide, by decide⟩ rfl rfl (ga_cat rfl) dX7_lay_9 (Nat.zero_le _) (Nat.zero_le _) rfl (gaX_all hT V) (ga_ki (fun r4 hp3 hw => ?_))
    obtain ⟨hx0, hw⟩ := hw
    refine gi_if_eq V dX7_lay_12 rfl rfl hx0 (fun q => ?_) (fun q => ?_)
    · have hw := ga_t q hw
      refine g_iconst V (Int32.ofInt 0) dX7_lay_19 rfl rfl ?_
      exact h_X7_lay_J20 a0 a1 a2 a3 a0 0 hp3 391 22856 hw
    · have hw := ga_f q hw
      exact h_X7_lay_J15 a0 a1 a2 a3 a0 hp3 391 22856 hw
def w_X7_least (a0 : Nat) (a1 : Int) (h : gaH) (Q : Int → gaH → Prop) : Prop := w_X7_isNoSheet a1 h (fun r2 hp1 => gHas hp1 a0 7 ∧ w_X7_start a0 r2 1 hp1 (fun r4 hp3 => gR r4 ∧ (if r4 = 0 then gA hp3 a0 7 0 (fun r5 => gLA hp3 r5 112 a1 (fun r6 => w_X7_leastOf r6 hp3 (fun r8 hp7 => Q r8 hp7))) else Q 0 hp3)))
abbrev rm_X7_least : Room := { frames := 2, cells := 0, slots := 0, locals := 44 }
theorem hd_X7_least : yX7_least.cls = RX7 ∧ (yX7_least.cls ≠ "java/lang/invoke/MethodHandle" ∧ yX7_least.cls ≠ "java/lang/invoke/VarHandle" ∧ (parseMethodDescriptor yX7_least.desc).map (fun d => d.parameters.length) = some 1) := by decide +kernel
theorem k_X7_least {l : Launch} (hst : l.stackTraces = false) {G : gaG} {X : String → gaH → Prop} {a0 : Nat} {a1 : Int} {h : gaH} {Q : Int → gaH → Prop} (hw : w_X7_least a0 a1 h Q) : gaC l G yX7_least (gaM yX7_least cX7_least 2 ((some .int))) rm_X7_least [.ref a0, gi a1] h (gQi Q) X := by
  refine g_start (lv := [some (.ref a0), some (gi a1)]) hpl_RX7 hst (Nat.le_of_ble_eq_true rfl) (gaArgs_pad (z := 0) rfl) ww_7_2 ?_
  intro p e s m args below meth c V hT
  unfold w_X7_least at hw
  refine g_aload_n V dX7_least_0 rfl rfl ?_
  refine g_iload_n V dX7_least_1 rfl rfl ?_
  refine g_callS (st := [.ref a0]) V (k_X7_isNoSheet hst hw) ww_5_214 ww_5_215 ww_1_5 ww_5_216 hd_X7_isNoSheet ⟨by decide, by decide⟩ rfl rfl (ga_cat rfl) dX7_least_2 (Nat.zero_le _) (Nat.zero_le _) rfl (gaX_all hT V) (ga_ki (fun r2 hp1 hw => ?_))
  refine g_iconst V (Int32.ofInt 1) dX7_least_5 rfl rfl ?_
  obtain ⟨hb, hw⟩ := hw
  obtain ⟨fb, hb⟩ := hb
  refine g_callV (C := RX7) (T := TX7) (N := 8) (st := []) V (k_X7_start hst hw) ww_5_220 ww_5_222 wp_2_2 ww_1_5 ww_5_223 hd_X7_start ⟨by decide, by decide⟩ rfl (by decide) hb rfl rfl (ga_cat rfl) dX7_least_6 (Nat.zero_le _) (Nat.zero_le _) rfl (gaX_all hT V) (ga_ki (fun r4 hp3 hw => ?_))
  obtain ⟨hx0, hw⟩ := hw
  refine gi_if_eq V dX7_least_9 rfl rfl hx0 (fun q => ?_) (fun q => ?_)
  · have hw := ga_t q hw
    refine g_aload_n V dX7_least_16 rfl rfl ?_
    obtain ⟨fs, r5, ha, hv, hw⟩ := hw
    refine g_get (C := RX7) (T := TX7) (N := 8) V 0 rfl hin_RX7 (by decide) (by decide) ww_5_181 rfl ha hv dX7_least_17 rfl ?_
    refine g_iload_n V dX7_least_20 rfl rfl ?_
    obtain ⟨vs, r6, ha, h0, h9, hv, hw⟩ := hw
    refine gi_aaload V ha (by decide) h0 h9 hv dX7_least_21 rfl ?_
    refine g_callS (st := []) V (k_X7_leastOf hst hw) ww_7_3 ww_7_4 ww_1_5 ww_7_5 hd_X7_leastOf ⟨by decide, by decide⟩ rfl rfl (ga_cat rfl) dX7_least_22 (Nat.zero_le _) (Nat.zero_le _) rfl (gaX_all hT V) (ga_ki (fun r8 hp7 hw => ?_))
    exact g_iret V rfl rfl dX7_least_25 ⟨_, rfl, hw⟩
  · have hw := ga_f q hw
    refine g_iconst V (Int32.ofInt 0) dX7_least_12 rfl rfl ?_
    refine g_goto V dX7_least_13 rfl ?_
    exact g_iret V rfl rfl dX7_least_25 ⟨_, rfl, hw⟩
def w_X7_length (a0 : Nat) (a1 : Int) (h : gaH) (Q : Int → gaH → Prop) : Prop := w_X7_isNoSheet a1 h (fun r2 hp1 => gHas hp1 a0 7 ∧ w_X7_start a0 r2 1 hp1 (fun r4 hp3 => gR r4 ∧ (if r4 = 0 then gA hp3 a0 7 0 (fun r5 => gLA hp3 r5 112 a1 (fun r6 => gAL hp3 r6 102 (fun r7 => Q r7 hp3))) else Q 0 hp3)))
abbrev rm_X7_length : Room := { frames := 2, cells := 0, slots := 0, locals := 44 }
theorem hd_X7_length : yX7_length.cls = RX7 ∧ (yX7_length.cls ≠ "java/lang/invoke/MethodHandle" ∧ yX7_length.cls ≠ "java/lang/invoke/VarHandle" ∧ (parseMethodDescriptor yX7_length.desc).map (fun d => d.parameters.length) = some 1) := by decide +kernel
theorem k_X7_length {l : Launch} (hst : l.stackTraces = false) {G : gaG} {X : String → gaH → Prop} {a0 : Nat} {a1 : Int} {h : gaH} {Q : Int → gaH → Prop} (hw : w_X7_length a0 a1 h Q) : gaC l G yX7_length (gaM yX7_length cX7_length 2 ((some .int))) rm_X7_length [.ref a0, gi a1] h (gQi Q) X := by
  refine g_start (lv := [some (.ref a0), some (gi a1)]) hpl_RX7 hst (Nat.le_of_ble_eq_true rfl) (gaArgs_pad (z := 0) rfl) ww_6_158 ?_
  intro p e s m args below meth c V hT
  unfold w_X7_length at hw
  refine g_aload_n V dX7_length_0 rfl rfl ?_
  refine g_iload_n V dX7_length_1 rfl rfl ?_
  refine g_callS (st := [.ref a0]) V (k_X7_isNoSheet hst hw) ww_5_214 ww_5_215 ww_1_5 ww_5_216 hd_X7_isNoSheet ⟨by decide, by decide⟩ rfl rfl (ga_cat rfl) dX7_length_2 (Nat.zero_le _) (Nat.zero_le _) rfl (gaX_all hT V) (ga_ki (fun r2 hp1 hw => ?_))
  refine g_iconst V (Int32.ofInt 1) dX7_length_5 rfl rfl ?_
  obtain ⟨hb, hw⟩ := hw
  obtain ⟨fb, hb⟩ := hb
  refine g_callV (C := RX7) (T := TX7) (N := 8) (st := []) V (k_X7_start hst hw) ww_5_220 ww_5_222 wp_2_2 ww_1_5 ww_5_223 hd_X7_start ⟨by decide, by decide⟩ rfl (by decide) hb rfl rfl (ga_cat rfl) dX7_length_6 (Nat.zero_le _) (Nat.zero_le _) rfl (gaX_all hT V) (ga_ki (fun r4 hp3 hw => ?_))
  obtain ⟨hx0, hw⟩ := hw
  refine gi_if_eq V dX7_length_9 rfl rfl hx0 (fun q => ?_) (fun q => ?_)
  · have hw := ga_t q hw
    refine g_aload_n V dX7_length_16 rfl rfl ?_
    obtain ⟨fs, r5, ha, hv, hw⟩ := hw
    refine g_get (C := RX7) (T := TX7) (N := 8) V 0 rfl hin_RX7 (by decide) (by decide) ww_5_181 rfl ha hv dX7_length_17 rfl ?_
    refine g_iload_n V dX7_length_20 rfl rfl ?_
    obtain ⟨vs, r6, ha, h0, h9, hv, hw⟩ := hw
    refine gi_aaload V ha (by decide) h0 h9 hv dX7_length_21 rfl ?_
    obtain ⟨t9, vs, ha, ht, hw⟩ := hw
    refine gi_arraylength (t0 := 102) V (by simp [gaT]) ha ht dX7_length_22 rfl ?_
    generalize (vs.length : Int) = r7 at hw ⊢
    exact g_iret V rfl rfl dX7_length_23 ⟨_, rfl, hw⟩
  · have hw := ga_f q hw
    refine g_iconst V (Int32.ofInt 0) dX7_length_12 rfl rfl ?_
    refine g_goto V dX7_length_13 rfl ?_
    exact g_iret V rfl rfl dX7_length_23 ⟨_, rfl, hw⟩
def w_X7_line_L66 (Q : Int → gaH → Prop) : Nat → (Nat → Int → Int → Int → Int → Nat → Int → gaH → Nat → Nat → Prop)
  | 0 => fun _ _ _ _ _ _ _ _ _ _ => False
  | n + 1 => fun v0 v1 v2 v3 v4 v5 v6 h kc ks => gR v6 ∧ gR v2 ∧ (if v2 ≤ v6 then gHas h v0 7 ∧ w_X7_becomes v0 v1 v5 h (fun r2 hp1 => Q r2 hp1) else w_X7_lineSign v2 v3 v4 v6 h (fun r4 hp3 => gSI hp3 v5 102 v6 (gi r4) (fun hp5 => w_X7_line_L66 Q n v0 v1 v2 v3 v4 v5 (v6 + 1) hp5 kc ks)))
def w_X7_line_J49 (Q : Int → gaH → Prop) (v0 : Nat) (v1 : Int) (v2 : Int) (v3 : Int) (v4 : Int) (t0 : Nat) (t1 : Int) (h : gaH) (kc ks : Nat) : Prop := gHas h t0 7 ∧ w_X7_refuse t0 t1 2 h (fun r2 hp1 => gR r2 ∧ (if r2 = 0 then gNA hp1 102 (gi 0) v2 kc ks (fun o3 hp4 c5 s6 => ∃ z, w_X7_line_L66 Q z v0 v1 v2 v3 v4 o3 0 hp4 c5 s6) else Q 0 hp1))
def w_X7_line_J44 (Q : Int → gaH → Prop) (v0 : Nat) (v1 : Int) (v2 : Int) (v3 : Int) (v4 : Int) (t0 : Nat) (h : gaH) (kc ks : Nat) : Prop := w_X7_line_J49 Q v0 v1 v2 v3 v4 t0 1 h kc ks
def w_X7_line (a0 : Nat) (a1 : Int) (a2 : Int) (a3 : Int) (a4 : Int) (h : gaH) (Q : Int → gaH → Prop) : Prop := w_X7_isNoSheet a1 h (fun r2 hp1 => gHas hp1 a0 7 ∧ w_X7_start a0 r2 1 hp1 (fun r4 hp3 => gR r4 ∧ (if r4 = 0 then w_X7_isIn a2 1 64 hp3 (fun r6 hp5 => gR r6 ∧ (if r6 = 0 then w_X7_line_J44 Q a0 a1 a2 a3 a4 a0 hp5 1 64 else w_X7_isIn a3 0 a2 hp5 (fun r8 hp7 => gR r8 ∧ (if r8 = 0 then w_X7_line_J44 Q a0 a1 a2 a3 a4 a0 hp7 1 64 else w_X7_isIn a4 0 (a2 - 1) hp7 (fun r10 hp9 => gR r10 ∧ (if r10 = 0 then w_X7_line_J44 Q a0 a1 a2 a3 a4 a0 hp9 1 64 else w_X7_line_J49 Q a0 a1 a2 a3 a4 a0 0 hp9 1 64)))))) else Q 0 hp3)))
abbrev rm_X7_line : Room := { frames := 3, cells := 1, slots := 64, locals := 67 }
theorem hd_X7_line : yX7_line.cls = RX7 ∧ (yX7_line.cls ≠ "java/lang/invoke/MethodHandle" ∧ yX7_line.cls ≠ "java/lang/invoke/VarHandle" ∧ (parseMethodDescriptor yX7_line.desc).map (fun d => d.parameters.length) = some 4) := by decide +kernel
theorem k_X7_line {l : Launch} (hst : l.stackTraces = false) {G : gaG} {X : String → gaH → Prop} {a0 : Nat} {a1 : Int} {a2 : Int} {a3 : Int} {a4 : Int} {h : gaH} {Q : Int → gaH → Prop} (hw : w_X7_line a0 a1 a2 a3 a4 h Q) : gaC l G yX7_line (gaM yX7_line cX7_line 7 ((some .int))) rm_X7_line [.ref a0, gi a1, gi a2, gi a3, gi a4] h (gQi Q) X := by
  refine g_start (lv := [some (.ref a0), some (gi a1), some (gi a2), some (gi a3), some (gi a4), none, none]) hpl_RX7 hst (Nat.le_of_ble_eq_true rfl) (gaArgs_pad (z := 2) rfl) ww_6_138 ?_
  intro p e s m args below meth c V hT
  have h_X7_line_L66 : ∀ (n : Nat), ∀ (v0 : Nat) (v1 : Int) (v2 : Int) (v3 : Int) (v4 : Int) (v5 : Nat) (v6 : Int) (h : gaH) (kc ks : Nat), w_X7_line_L66 Q n v0 v1 v2 v3 v4 v5 v6 h kc ks → gaP p l e rm_X7_line s m args below meth c G 7 (gaZ below G (gQi Q) X args s rm_X7_line) 66 [some (.ref v0), some (gi v1), some (gi v2), some (gi v3), some (gi v4), some (.ref v5), some (gi v6)] [] h kc ks := by
    intro n
    induction n with
    | zero =>
      intro v0 v1 v2 v3 v4 v5 v6 h kc ks hw
      exact hw.elim
    | succ n ih =>
      intro v0 v1 v2 v3 v4 v5 v6 h kc ks hw
      unfold w_X7_line_L66 at hw
      refine g_iload V dX7_line_66 rfl rfl ?_
      refine g_iload_n V dX7_line_68 rfl rfl ?_
      obtain ⟨hx0, hx1, hw⟩ := hw
      refine gi_icmp_ge V dX7_line_69 rfl rfl hx0 hx1 (fun q => ?_) (fun q => ?_)
      · have hw := ga_t q hw
        refine g_aload_n V dX7_line_92 rfl rfl ?_
        refine g_iload_n V dX7_line_93 rfl rfl ?_
        refine g_aload V dX7_line_94 rfl rfl ?_
        obtain ⟨hb, hw⟩ := hw
        obtain ⟨fb, hb⟩ := hb
        refine g_callV (C := RX7) (T := TX7) (N := 8) (st := []) V (k_X7_becomes hst hw) ww_6_64 ww_6_66 wp_2_10 ww_1_5 ww_6_67 hd_X7_becomes ⟨by decide, by decide⟩ rfl (by decide) hb rfl rfl (ga_cat rfl) dX7_line_96 (Nat.zero_le _) (Nat.zero_le _) rfl (gaX_all hT V) (ga_ki (fun r2 hp1 hw => ?_))
        exact g_iret V rfl rfl dX7_line_99 ⟨_, rfl, hw⟩
      · have hw := ga_f q hw
        refine g_aload V dX7_line_72 rfl rfl ?_
        refine g_iload V dX7_line_74 rfl rfl ?_
        refine g_iload_n V dX7_line_76 rfl rfl ?_
        refine g_iload_n V dX7_line_77 rfl rfl ?_
        refine g_iload V dX7_line_78 rfl rfl ?_
        refine g_iload V dX7_line_80 rfl rfl ?_
        refine g_callS (st := [gi v6, .ref v5]) V (k_X7_lineSign hst hw) ww_6_125 ww_6_126 ww_1_5 ww_6_127 hd_X7_lineSign ⟨by decide, by decide⟩ rfl rfl (ga_cat rfl) dX7_line_82 (Nat.zero_le _) (Nat.zero_le _) rfl (gaX_all hT V) (ga_ki (fun r4 hp3 hw => ?_))
        obtain ⟨vs, ha, h0, h9, hi, hw⟩ := hw
        refine gi_iastore V ha h0 h9 hi dX7_line_85 rfl ?_
        generalize gaUp hp3 v5 _ = hp5 at hw ⊢
        refine gi_iinc (lv2 := [some (.ref v0), some (gi v1), some (gi v2), some (gi v3), some (gi v4), some (.ref v5), some (gi (v6 + 1))]) V dX7_line_86 (by decide) rfl rfl rfl rfl ?_
        refine g_goto V dX7_line_89 rfl ?_
        exact ih v0 v1 v2 v3 v4 v5 (v6 + 1) hp5 kc ks hw
  have h_X7_line_J49 : ∀ (v0 : Nat) (v1 : Int) (v2 : Int) (v3 : Int) (v4 : Int) (t0 : Nat) (t1 : Int) (h : gaH) (kc ks : Nat), w_X7_line_J49 Q v0 v1 v2 v3 v4 t0 t1 h kc ks → gaP p l e rm_X7_line s m args below meth c G 7 (gaZ below G (gQi Q) X args s rm_X7_line) 49 [some (.ref v0), some (gi v1), some (gi v2), some (gi v3), some (gi v4), none, none] [gi t1, .ref t0] h kc ks := by
    intro v0 v1 v2 v3 v4 t0 t1 h kc ks hw
    unfold w_X7_line_J49 at hw
    refine g_iconst V (Int32.ofInt 2) dX7_line_49 rfl rfl ?_
    obtain ⟨hb, hw⟩ := hw
    obtain ⟨fb, hb⟩ := hb
    refine g_callV (C := RX7) (T := TX7) (N := 8) (st := []) V (k_X7_refuse hst hw) ww_5_224 ww_5_226 wp_2_3 ww_1_5 ww_5_227 hd_X7_refuse ⟨by decide, by decide⟩ rfl (by decide) hb rfl rfl (ga_cat rfl) dX7_line_50 (Nat.zero_le _) (Nat.zero_le _) rfl (gaX_all hT V) (ga_ki (fun r2 hp1 hw => ?_))
    obtain ⟨hx0, hw⟩ := hw
    refine gi_if_eq V dX7_line_53 rfl rfl hx0 (fun q => ?_) (fun q => ?_)
    · have hw := ga_t q hw
      refine g_iload_n V dX7_line_58 rfl rfl ?_
      obtain ⟨h0, h9, hk, hj, hw⟩ := hw
      refine gi_newarray (atype := .int) (t := 102) V (by decide) rfl ww_1_109 h0 h9 dX7_line_59 rfl hk hj (fun o3 hf => ?_)
      obtain ⟨c5, s6, ec, es, hw⟩ := hw o3 hf
      refine ga_re ec es ?_
      generalize gaUp hp1 o3 _ = hp4 at hw ⊢
      refine g_astore (lv2 := [some (.ref v0), some (gi v1), some (gi v2), some (gi v3), some (gi v4), some (.ref o3), none]) V dX7_line_61 (by decide) rfl rfl rfl ?_
      refine g_iconst V (Int32.ofInt 0) dX7_line_63 rfl rfl ?_
      refine g_istore (lv2 := [some (.ref v0), some (gi v1), some (gi v2), some (gi v3), some (gi v4), some (.ref o3), some (gi 0)]) V dX7_line_64 (by decide) rfl rfl rfl ?_
      obtain ⟨z, hw⟩ := hw
      exact h_X7_line_L66 z v0 v1 v2 v3 v4 o3 0 hp4 c5 s6 hw
    · have hw := ga_f q hw
      refine g_iconst V (Int32.ofInt 0) dX7_line_56 rfl rfl ?_
      exact g_iret V rfl rfl dX7_line_57 ⟨_, rfl, hw⟩
  have h_X7_line_J44 : ∀ (v0 : Nat) (v1 : Int) (v2 : Int) (v3 : Int) (v4 : Int) (t0 : Nat) (h : gaH) (kc ks : Nat), w_X7_line_J44 Q v0 v1 v2 v3 v4 t0 h kc ks → gaP p l e rm_X7_line s m args below meth c G 7 (gaZ below G (gQi Q) X args s rm_X7_line) 44 [some (.ref v0), some (gi v1), some (gi v2), some (gi v3), some (gi v4), none, none] [.ref t0] h kc ks := by
    intro v0 v1 v2 v3 v4 t0 h kc ks hw
    unfold w_X7_line_J44 at hw
    refine g_iconst V (Int32.ofInt 1) dX7_line_44 rfl rfl ?_
    refine g_goto V dX7_line_45 rfl ?_
    exact h_X7_line_J49 v0 v1 v2 v3 v4 t0 1 h kc ks hw
  show gaP p l e rm_X7_line s m args below meth c G 7 (gaZ below G (gQi Q) X args s rm_X7_line) 0 [some (.ref a0), some (gi a1), some (gi a2), some (gi a3), some (gi a4), none, none] [] h 1 64
  unfold w_X7_line at hw
  refine g_aload_n V dX7_line_0 rfl rfl ?_
  refine g_iload_n V dX7_line_1 rfl rfl ?_
  refine g_callS (st := [.ref a0]) V (k_X7_isNoSheet hst hw) ww_5_214 ww_5_215 ww_1_5 ww_5_216 hd_X7_isNoSheet ⟨by decide, by decide⟩ rfl rfl (ga_cat rfl) dX7_line_2 (Nat.zero_le _) (Nat.zero_le _) rfl (gaX_all hT V) (ga_ki (fun r2 hp1 hw => ?_))
  refine g_iconst V (Int32.ofInt 1) dX7_line_5 rfl rfl ?_
  obtain ⟨hb, hw⟩ := hw
  obtain ⟨fb, hb⟩ := hb
  refine g_callV (C := RX7) (T := TX7) (N := 8) (st := []) V (k_X7_start hst hw) ww_5_220 ww_5_222 wp_2_2 ww_1_5 ww_5_223 hd_X7_start ⟨by decide, by decide⟩ rfl (by decide) hb rfl rfl (ga_cat rfl) dX7_line_6 (Nat.zero_le _) (Nat.zero_le _) rfl (gaX_all hT V) (ga_ki (fun r4 hp3 hw => ?_))
  obtain ⟨hx0, hw⟩ := hw
  refine gi_if_ne V dX7_line_9 rfl rfl hx0 (fun q => ?_) (fun q => ?_)
  · have hw := ga_f q hw
    refine g_iconst V (Int32.ofInt 0) dX7_line_56 rfl rfl ?_
    exact g_iret V rfl rfl dX7_line_57 ⟨_, rfl, hw⟩
  · have hw := ga_t q hw
    refine g_aload_n V dX7_line_12 rfl rfl ?_
    refine g_iload_n V dX7_line_13 rfl rfl ?_
    refine g_iconst V (Int32.ofInt 1) dX7_line_14 rfl rfl ?_
    refine g_bipush V (Int32.ofInt 64) dX7_line_15 rfl rfl ?_
    refine g_callS (st := [.ref a0]) V (k_X7_isIn hst hw) ww_5_217 ww_5_218 ww_1_5 ww_5_219 hd_X7_isIn ⟨by decide, by decide⟩ rfl rfl (ga_cat rfl) dX7_line_17 (Nat.zero_le _) (Nat.zero_le _) rfl (gaX_all hT V) (ga_ki (fun r6 hp5 hw => ?_))
    obtain ⟨hx0, hw⟩ := hw
    refine gi_if_eq V dX7_line_20 rfl rfl hx0 (fun q => ?_) (fun q => ?_)
    · have hw := ga_t q hw
      exact h_X7_line_J44 a0 a1 a2 a3 a4 a0 hp5 1 64 hw
    · have hw := ga_f q hw
      refine g_iload_n V dX7_line_23 rfl rfl ?_
      refine g_iconst V (Int32.ofInt 0) dX7_line_24 rfl rfl ?_
      refine g_iload_n V dX7_line_25 rfl rfl ?_
      refine g_callS (st := [.ref a0]) V (k_X7_isIn hst hw) ww_5_217 ww_5_218 ww_1_5 ww_5_219 hd_X7_isIn ⟨by decide, by decide⟩ rfl rfl (ga_cat rfl) dX7_line_26 (Nat.zero_le _) (Nat.zero_le _) rfl (gaX_all hT V) (ga_ki (fun r8 hp7 hw => ?_))
      obtain ⟨hx0, hw⟩ := hw
      refine gi_if_eq V dX7_line_29 rfl rfl hx0 (fun q => ?_) (fun q => ?_)
      · have hw := ga_t q hw
        exact h_X7_line_J44 a0 a1 a2 a3 a4 a0 hp7 1 64 hw
      · have hw := ga_f q hw
        refine g_iload V dX7_line_32 rfl rfl ?_
        refine g_iconst V (Int32.ofInt 0) dX7_line_34 rfl rfl ?_
        refine g_iload_n V dX7_line_35 rfl rfl ?_
        refine g_iconst V (Int32.ofInt 1) dX7_line_36 rfl rfl ?_
        refine gi_isub V dX7_line_37 rfl ?_
        refine g_callS (st := [.ref a0]) V (k_X7_isIn hst hw) ww_5_217 ww_5_218 ww_1_5 ww_5_219 hd_X7_isIn ⟨by decide, by decide⟩ rfl rfl (ga_cat rfl) dX7_line_38 (Nat.zero_le _) (Nat.zero_le _) rfl (gaX_all hT V) (ga_ki (fun r10 hp9 hw => ?_))
        obtain ⟨hx0, hw⟩ := hw
        refine gi_if_ne V dX7_line_41 rfl rfl hx0 (fun q => ?_) (fun q => ?_)
        · have hw := ga_f q hw
          refine g_iconst V (Int32.ofInt 0) dX7_line_48 rfl rfl ?_
          exact h_X7_line_J49 a0 a1 a2 a3 a4 a0 0 hp9 1 64 hw
        · have hw := ga_t q hw
          exact h_X7_line_J44 a0 a1 a2 a3 a4 a0 hp9 1 64 hw
def w_X7_mirrors_J107 (Q : Int → gaH → Prop) (K26 : Nat → Int → Int → gaH → Prop) (K36 : Nat → Int → Int → Int → gaH → Prop) (v2 : Nat) (v3 : Int) (v4 : Int) (v5 : Int) (v6 : Int) (h : gaH) : Prop := w_X7_one v6 h (fun r2 hp1 => K36 v2 (v3 + r2) v4 (v5 + 1) hp1)
def w_X7_mirrors_L69 (Q : Int → gaH → Prop) (K26 : Nat → Int → Int → gaH → Prop) (K36 : Nat → Int → Int → Int → gaH → Prop) : Nat → (Nat → Int → Int → Int → Int → Int → gaH → Prop)
  | 0 => fun _ _ _ _ _ _ _ => False
  | n + 1 => fun v2 v3 v4 v5 v6 v7 h => gR v7 ∧ gR v5 ∧ (if v5 ≤ v7 then w_X7_mirrors_J107 Q K26 K36 v2 v3 v4 v5 v6 h else gR v6 ∧ (if v6 = 0 then w_X7_mirrors_J107 Q K26 K36 v2 v3 v4 v5 v6 h else w_X7_areLike v2 v7 v5 v4 h (fun r2 hp1 => gR r2 ∧ (if r2 = 0 then w_X7_mirrors_L69 Q K26 K36 n v2 v3 v4 v5 1 (v7 + 1) hp1 else w_X7_mirrors_L69 Q K26 K36 n v2 v3 v4 v5 0 (v7 + 1) hp1))))
def w_X7_mirrors_L36 (Q : Int → gaH → Prop) (K26 : Nat → Int → Int → gaH → Prop) : Nat → (Nat → Int → Int → Int → gaH → Prop)
  | 0 => fun _ _ _ _ _ => False
  | n + 1 => fun v2 v3 v4 v5 h => gAL h v2 102 (fun r1 => gR (v5 + v4) ∧ gR r1 ∧ (if r1 < (v5 + v4) then K26 v2 v3 (v4 + 1) h else w_X7_isMirrored v2 v5 (v5 + v4) h (fun r3 hp2 => gR r3 ∧ (if r3 = 0 then w_X7_mirrors_L36 Q K26 n v2 v3 v4 (v5 + 1) hp2 else ∃ z, w_X7_mirrors_L69 Q K26 (w_X7_mirrors_L36 Q K26 n) z v2 v3 v4 v5 1 0 hp2))))
def w_X7_mirrors_L26 (Q : Int → gaH → Prop) : Nat → (Nat → Int → Int → gaH → Prop)
  | 0 => fun _ _ _ _ => False
  | n + 1 => fun v2 v3 v4 h => gAL h v2 102 (fun r1 => gR v4 ∧ gR r1 ∧ (if r1 < v4 then Q v3 h else ∃ z, w_X7_mirrors_L36 Q (w_X7_mirrors_L26 Q n) z v2 v3 v4 0 h))
def w_X7_mirrors (a0 : Nat) (a1 : Int) (h : gaH) (Q : Int → gaH → Prop) : Prop := w_X7_isNoSheet a1 h (fun r2 hp1 => gHas hp1 a0 7 ∧ w_X7_start a0 r2 1 hp1 (fun r4 hp3 => gR r4 ∧ (if r4 = 0 then gA hp3 a0 7 0 (fun r5 => gLA hp3 r5 112 a1 (fun r6 => ∃ z, w_X7_mirrors_L26 Q z r6 0 1 hp3)) else Q 0 hp3)))
abbrev rm_X7_mirrors : Room := { frames := 2, cells := 0, slots := 0, locals := 44 }
theorem hd_X7_mirrors : yX7_mirrors.cls = RX7 ∧ (yX7_mirrors.cls ≠ "java/lang/invoke/MethodHandle" ∧ yX7_mirrors.cls ≠ "java/lang/invoke/VarHandle" ∧ (parseMethodDescriptor yX7_mirrors.desc).map (fun d => d.parameters.length) = some 1) := by decide +kernel
theorem k_X7_mirrors {l : Launch} (hst : l.stackTraces = false) {G : gaG} {X : String → gaH → Prop} {a0 : Nat} {a1 : Int} {h : gaH} {Q : Int → gaH → Prop} (hw : w_X7_mirrors a0 a1 h Q) : gaC l G yX7_mirrors (gaM yX7_mirrors cX7_mirrors 8 ((some .int))) rm_X7_mirrors [.ref a0, gi a1] h (gQi Q) X := by
  refine g_start (lv := [some (.ref a0), some (gi a1), none, none, none, none, none, none]) hpl_RX7 hst (Nat.le_of_ble_eq_true rfl) (gaArgs_pad (z := 6) rfl) ww_6_231 ?_
  intro p e s m args below meth c V hT
  have h_X7_mirrors_J107 : ∀ (K26 : Nat → Int → Int → gaH → Prop), ∀ (K36 : Nat → Int → Int → Int → gaH → Prop), ∀ (hK26 : ∀ (v2 : Nat) (v3 : Int) (v4 : Int) (h : gaH), K26 v2 v3 v4 h → gaP p l e rm_X7_mirrors s m args below meth c G 8 (gaZ below G (gQi Q) X args s rm_X7_mirrors) 26 [none, none, some (.ref v2), some (gi v3), some (gi v4), none, none, none] [] h 0 0), ∀ (hK36 : ∀ (v2 : Nat) (v3 : Int) (v4 : Int) (v5 : Int) (h : gaH), K36 v2 v3 v4 v5 h → gaP p l e rm_X7_mirrors s m args below meth c G 8 (gaZ below G (gQi Q) X args s rm_X7_mirrors) 36 [none, none, some (.ref v2), some (gi v3), some (gi v4), some (gi v5), none, none] [] h 0 0), ∀ (v2 : Nat) (v3 : Int) (v4 : Int) (v5 : Int) (v6 : Int) (h : gaH), w_X7_mirrors_J107 Q K26 K36 v2 v3 v4 v5 v6 h → gaP p l e rm_X7_mirrors s m args below meth c G 8 (gaZ below G (gQi Q) X args s rm_X7_mirrors) 107 [none, none, some (.ref v2), some (gi v3), some (gi v4), some (gi v5), some (gi v6), none] [] h 0 0 := by
    intro K26 K36 hK26 hK36
    intro v2 v3 v4 v5 v6 h hw
    unfold w_X7_mirrors_J107 at hw
    refine g_iload_n V dX7_mirrors_107 rfl rfl ?_
    refine g_iload V dX7_mirrors_108 rfl rfl ?_
    refine g_callS (st := [gi v3]) V (k_X7_one hst hw) ww_6_19 ww_6_20 ww_1_5 ww_6_21 hd_X7_one ⟨by decide, by decide⟩ rfl rfl (ga_cat rfl) dX7_mirrors_110 (Nat.zero_le _) (Nat.zero_le _) rfl (gaX_all hT V) (ga_ki (fun r2 hp1 hw => ?_))
    refine gi_iadd V dX7_mirrors_113 rfl ?_
    refine g_istore_n (lv2 := [none, none, some (.ref v2), some (gi (v3 + r2)), some (gi v4), some (gi v5), some (gi v6), none]) V dX7_mirrors_114 (by decide) rfl rfl rfl ?_
    refine gi_iinc (lv2 := [none, none, some (.ref v2), some (gi (v3 + r2)), some (gi v4), some (gi (v5 + 1)), some (gi v6), none]) V dX7_mirrors_115 (by decide) rfl rfl rfl rfl ?_
    refine g_goto V dX7_mirrors_118 rfl ?_
    refine g_less (bs := [true, true, true, true, true, true, false, true]) (lv2 := [none, none, some (.ref v2), some (gi (v3 + r2)), some (gi v4), some (gi (v5 + 1)), none, none]) rfl ?_
    exact hK36 v2 (v3 + r2) v4 (v5 + 1) hp1 hw
  have h_X7_mirrors_L69 : ∀ (K26 : Nat → Int → Int → gaH → Prop), ∀ (K36 : Nat → Int → Int → Int → gaH → Prop), ∀ (hK26 : ∀ (v2 : Nat) (v3 : Int) (v4 : Int) (h : gaH), K26 v2 v3 v4 h → gaP p l e rm_X7_mirrors s m args below meth c G 8 (gaZ below G (gQi Q) X args s rm_X7_mirrors) 26 [none, none, some (.ref v2), some (gi v3), some (gi v4), none, none, none] [] h 0 0), ∀ (hK36 : ∀ (v2 : Nat) (v3 : Int) (v4 : Int) (v5 : Int) (h : gaH), K36 v2 v3 v4 v5 h → gaP p l e rm_X7_mirrors s m args below meth c G 8 (gaZ below G (gQi Q) X args s rm_X7_mirrors) 36 [none, none, some (.ref v2), some (gi v3), some (gi v4), some (gi v5), none, none] [] h 0 0), ∀ (n : Nat), ∀ (v2 : Nat) (v3 : Int) (v4 : Int) (v5 : Int) (v6 : Int) (v7 : Int) (h : gaH), w_X7_mirrors_L69 Q K26 K36 n v2 v3 v4 v5 v6 v7 h → gaP p l e rm_X7_mirrors s m args below meth c G 8 (gaZ below G (gQi Q) X args s rm_X7_mirrors) 69 [none, none, some (.ref v2), some (gi v3), some (gi v4), some (gi v5), some (gi v6), some (gi v7)] [] h 0 0 := by
    intro K26 K36 hK26 hK36
    intro n
    induction n with
    | zero =>
      intro v2 v3 v4 v5 v6 v7 h hw
      exact hw.elim
    | succ n ih =>
      intro v2 v3 v4 v5 v6 v7 h hw
      unfold w_X7_mirrors_L69 at hw
      refine g_iload V dX7_mirrors_69 rfl rfl ?_
      refine g_iload V dX7_mirrors_71 rfl rfl ?_
      obtain ⟨hx0, hx1, hw⟩ := hw
      refine gi_icmp_ge V dX7_mirrors_73 rfl rfl hx0 hx1 (fun q => ?_) (fun q => ?_)
      · have hw := ga_t q hw
        refine g_less (bs := [true, true, true, true, true, true, true, false]) (lv2 := [none, none, some (.ref v2), some (gi v3), some (gi v4), some (gi v5), some (gi v6), none]) rfl ?_
        exact h_X7_mirrors_J107 K26 K36 hK26 hK36 v2 v3 v4 v5 v6 h hw
      · have hw := ga_f q hw
        refine g_iload V dX7_mirrors_76 rfl rfl ?_
        obtain ⟨hx0, hw⟩ := hw
        refine gi_if_eq V dX7_mirrors_78 rfl rfl hx0 (fun q => ?_) (fun q => ?_)
        · have hw := ga_t q hw
          refine g_less (bs := [true, true, true, true, true, true, true, false]) (lv2 := [none, none, some (.ref v2), some (gi v3), some (gi v4), some (gi v5), some (gi v6), none]) rfl ?_
          exact h_X7_mirrors_J107 K26 K36 hK26 hK36 v2 v3 v4 v5 v6 h hw
        · have hw := ga_f q hw
          refine g_aload_n V dX7_mirrors_81 rfl rfl ?_
          refine g_iload V dX7_mirrors_82 rfl rfl ?_
          refine g_iload V dX7_mirrors_84 rfl rfl ?_
          refine g_iload V dX7_mirrors_86 rfl rfl ?_
          refine g_callS (st := []) V (k_X7_areLike hst hw) ww_6_211 ww_6_212 ww_1_5 ww_6_213 hd_X7_areLike ⟨by decide, by decide⟩ rfl rfl (ga_cat rfl) dX7_mirrors_88 (Nat.zero_le _) (Nat.zero_le _) rfl (gaX_all hT V) (ga_ki (fun r2 hp1 hw => ?_))
          obtain ⟨hx0, hw⟩ := hw
          refine gi_if_ne V dX7_mirrors_91 rfl rfl hx0 (fun q => ?_) (fun q => ?_)
          · have hw := ga_f q hw
            refine g_iconst V (Int32.ofInt 0) dX7_mirrors_98 rfl rfl ?_
            refine g_istore (lv2 := [none, none, some (.ref v2), some (gi v3), some (gi v4), some (gi v5), some (gi 0), some (gi v7)]) V dX7_mirrors_99 (by decide) rfl rfl rfl ?_
            refine gi_iinc (lv2 := [none, none, some (.ref v2), some (gi v3), some (gi v4), some (gi v5), some (gi 0), some (gi (v7 + 1))]) V dX7_mirrors_101 (by decide) rfl rfl rfl rfl ?_
            refine g_goto V dX7_mirrors_104 rfl ?_
            exact ih v2 v3 v4 v5 0 (v7 + 1) hp1 hw
          · have hw := ga_t q hw
            refine g_iconst V (Int32.ofInt 1) dX7_mirrors_94 rfl rfl ?_
            refine g_goto V dX7_mirrors_95 rfl ?_
            refine g_istore (lv2 := [none, none, some (.ref v2), some (gi v3), some (gi v4), some (gi v5), some (gi 1), some (gi v7)]) V dX7_mirrors_99 (by decide) rfl rfl rfl ?_
            refine gi_iinc (lv2 := [none, none, some (.ref v2), some (gi v3), some (gi v4), some (gi v5), some (gi 1), some (gi (v7 + 1))]) V dX7_mirrors_101 (by decide) rfl rfl rfl rfl ?_
            refine g_goto V dX7_mirrors_104 rfl ?_
            exact ih v2 v3 v4 v5 1 (v7 + 1) hp1 hw
  have h_X7_mirrors_L36 : ∀ (K26 : Nat → Int → Int → gaH → Prop), ∀ (hK26 : ∀ (v2 : Nat) (v3 : Int) (v4 : Int) (h : gaH), K26 v2 v3 v4 h → gaP p l e rm_X7_mirrors s m args below meth c G 8 (gaZ below G (gQi Q) X args s rm_X7_mirrors) 26 [none, none, some (.ref v2), some (gi v3), some (gi v4), none, none, none] [] h 0 0), ∀ (n : Nat), ∀ (v2 : Nat) (v3 : Int) (v4 : Int) (v5 : Int) (h : gaH), w_X7_mirrors_L36 Q K26 n v2 v3 v4 v5 h → gaP p l e rm_X7_mirrors s m args below meth c G 8 (gaZ below G (gQi Q) X args s rm_X7_mirrors) 36 [none, none, some (.ref v2), some (gi v3), some (gi v4), some (gi v5), none, none] [] h 0 0 := by
    intro K26 hK26
    intro n
    induction n with
    | zero =>
      intro v2 v3 v4 v5 h hw
      exact hw.elim
    | succ n ih =>
      intro v2 v3 v4 v5 h hw
      unfold w_X7_mirrors_L36 at hw
      refine g_iload V dX7_mirrors_36 rfl rfl ?_
      refine g_iload V dX7_mirrors_38 rfl rfl ?_
      refine gi_iadd V dX7_mirrors_40 rfl ?_
      refine g_aload_n V dX7_mirrors_41 rfl rfl ?_
      obtain ⟨t9, vs, ha, ht, hw⟩ := hw
      refine gi_arraylength (t0 := 102) V (by simp [gaT]) ha ht dX7_mirrors_42 rfl ?_
      generalize (vs.length : Int) = r1 at hw ⊢
      obtain ⟨hx0, hx1, hw⟩ := hw
      refine gi_icmp_gt V dX7_mirrors_43 rfl rfl hx0 hx1 (fun q => ?_) (fun q => ?_)
      · have hw := ga_t q hw
        refine gi_iinc (lv2 := [none, none, some (.ref v2), some (gi v3), some (gi (v4 + 1)), some (gi v5), none, none]) V dX7_mirrors_121 (by decide) rfl rfl rfl rfl ?_
        refine g_goto V dX7_mirrors_124 rfl ?_
        refine g_less (bs := [true, true, true, true, true, false, true, true]) (lv2 := [none, none, some (.ref v2), some (gi v3), some (gi (v4 + 1)), none, none, none]) rfl ?_
        exact hK26 v2 v3 (v4 + 1) h hw
      · have hw := ga_f q hw
        refine g_aload_n V dX7_mirrors_46 rfl rfl ?_
        refine g_iload V dX7_mirrors_47 rfl rfl ?_
        refine g_iload V dX7_mirrors_49 rfl rfl ?_
        refine g_iload V dX7_mirrors_51 rfl rfl ?_
        refine gi_iadd V dX7_mirrors_53 rfl ?_
        refine g_callS (st := []) V (k_X7_isMirrored hst hw) ww_6_195 ww_6_196 ww_1_5 ww_6_197 hd_X7_isMirrored ⟨by decide, by decide⟩ rfl rfl (ga_cat rfl) dX7_mirrors_54 (Nat.zero_le _) (Nat.zero_le _) rfl (gaX_all hT V) (ga_ki (fun r3 hp2 hw => ?_))
        obtain ⟨hx0, hw⟩ := hw
        refine gi_if_ne V dX7_mirrors_57 rfl rfl hx0 (fun q => ?_) (fun q => ?_)
        · have hw := ga_f q hw
          refine g_iconst V (Int32.ofInt 1) dX7_mirrors_63 rfl rfl ?_
          refine g_istore (lv2 := [none, none, some (.ref v2), some (gi v3), some (gi v4), some (gi v5), some (gi 1), none]) V dX7_mirrors_64 (by decide) rfl rfl rfl ?_
          refine g_iconst V (Int32.ofInt 0) dX7_mirrors_66 rfl rfl ?_
          refine g_istore (lv2 := [none, none, some (.ref v2), some (gi v3), some (gi v4), some (gi v5), some (gi 1), some (gi 0)]) V dX7_mirrors_67 (by decide) rfl rfl rfl ?_
          obtain ⟨z, hw⟩ := hw
          exact h_X7_mirrors_L69 K26 (w_X7_mirrors_L36 Q K26 n) hK26 ih z v2 v3 v4 v5 1 0 hp2 hw
        · have hw := ga_t q hw
          refine g_goto V dX7_mirrors_60 rfl ?_
          refine gi_iinc (lv2 := [none, none, some (.ref v2), some (gi v3), some (gi v4), some (gi (v5 + 1)), none, none]) V dX7_mirrors_115 (by decide) rfl rfl rfl rfl ?_
          refine g_goto V dX7_mirrors_118 rfl ?_
          exact ih v2 v3 v4 (v5 + 1) hp2 hw
  have h_X7_mirrors_L26 : ∀ (n : Nat), ∀ (v2 : Nat) (v3 : Int) (v4 : Int) (h : gaH), w_X7_mirrors_L26 Q n v2 v3 v4 h → gaP p l e rm_X7_mirrors s m args below meth c G 8 (gaZ below G (gQi Q) X args s rm_X7_mirrors) 26 [none, none, some (.ref v2), some (gi v3), some (gi v4), none, none, none] [] h 0 0 := by
    intro n
    induction n with
    | zero =>
      intro v2 v3 v4 h hw
      exact hw.elim
    | succ n ih =>
      intro v2 v3 v4 h hw
      unfold w_X7_mirrors_L26 at hw
      refine g_iload V dX7_mirrors_26 rfl rfl ?_
      refine g_aload_n V dX7_mirrors_28 rfl rfl ?_
      obtain ⟨t9, vs, ha, ht, hw⟩ := hw
      refine gi_arraylength (t0 := 102) V (by simp [gaT]) ha ht dX7_mirrors_29 rfl ?_
      generalize (vs.length : Int) = r1 at hw ⊢
      obtain ⟨hx0, hx1, hw⟩ := hw
      refine gi_icmp_gt V dX7_mirrors_30 rfl rfl hx0 hx1 (fun q => ?_) (fun q => ?_)
      · have hw := ga_t q hw
        refine g_iload_n V dX7_mirrors_127 rfl rfl ?_
        exact g_iret V rfl rfl dX7_mirrors_128 ⟨_, rfl, hw⟩
      · have hw := ga_f q hw
        refine g_iconst V (Int32.ofInt 0) dX7_mirrors_33 rfl rfl ?_
        refine g_istore (lv2 := [none, none, some (.ref v2), some (gi v3), some (gi v4), some (gi 0), none, none]) V dX7_mirrors_34 (by decide) rfl rfl rfl ?_
        obtain ⟨z, hw⟩ := hw
        exact h_X7_mirrors_L36 (w_X7_mirrors_L26 Q n) ih z v2 v3 v4 0 h hw
  unfold w_X7_mirrors at hw
  refine g_aload_n V dX7_mirrors_0 rfl rfl ?_
  refine g_iload_n V dX7_mirrors_1 rfl rfl ?_
  refine g_callS (st := [.ref a0]) V (k_X7_isNoSheet hst hw) ww_5_214 ww_5_215 ww_1_5 ww_5_216 hd_X7_isNoSheet ⟨by decide, by decide⟩ rfl rfl (ga_cat rfl) dX7_mirrors_2 (Nat.zero_le _) (Nat.zero_le _) rfl (gaX_all hT V) (ga_ki (fun r2 hp1 hw => ?_))
  refine g_iconst V (Int32.ofInt 1) dX7_mirrors_5 rfl rfl ?_
  obtain ⟨hb, hw⟩ := hw
  obtain ⟨fb, hb⟩ := hb
  refine g_callV (C := RX7) (T := TX7) (N := 8) (st := []) V (k_X7_start hst hw) ww_5_220 ww_5_222 wp_2_2 ww_1_5 ww_5_223 hd_X7_start ⟨by decide, by decide⟩ rfl (by decide) hb rfl rfl (ga_cat rfl) dX7_mirrors_6 (Nat.zero_le _) (Nat.zero_le _) rfl (gaX_all hT V) (ga_ki (fun r4 hp3 hw => ?_))
  obtain ⟨hx0, hw⟩ := hw
  refine gi_if_eq V dX7_mirrors_9 rfl rfl hx0 (fun q => ?_) (fun q => ?_)
  · have hw := ga_t q hw
    refine g_aload_n V dX7_mirrors_14 rfl rfl ?_
    obtain ⟨fs, r5, ha, hv, hw⟩ := hw
    refine g_get (C := RX7) (T := TX7) (N := 8) V 0 rfl hin_RX7 (by decide) (by decide) ww_5_181 rfl ha hv dX7_mirrors_15 rfl ?_
    refine g_iload_n V dX7_mirrors_18 rfl rfl ?_
    obtain ⟨vs, r6, ha, h0, h9, hv, hw⟩ := hw
    refine gi_aaload V ha (by decide) h0 h9 hv dX7_mirrors_19 rfl ?_
    refine g_astore_n (lv2 := [some (.ref a0), some (gi a1), some (.ref r6), none, none, none, none, none]) V dX7_mirrors_20 (by decide) rfl rfl rfl ?_
    refine g_iconst V (Int32.ofInt 0) dX7_mirrors_21 rfl rfl ?_
    refine g_istore_n (lv2 := [some (.ref a0), some (gi a1), some (.ref r6), some (gi 0), none, none, none, none]) V dX7_mirrors_22 (by decide) rfl rfl rfl ?_
    refine g_iconst V (Int32.ofInt 1) dX7_mirrors_23 rfl rfl ?_
    refine g_istore (lv2 := [some (.ref a0), some (gi a1), some (.ref r6), some (gi 0), some (gi 1), none, none, none]) V dX7_mirrors_24 (by decide) rfl rfl rfl ?_
    refine g_less (bs := [false, false, true, true, true, true, true, true]) (lv2 := [none, none, some (.ref r6), some (gi 0), some (gi 1), none, none, none]) rfl ?_
    obtain ⟨z, hw⟩ := hw
    exact h_X7_mirrors_L26 z r6 0 1 hp3 hw
  · have hw := ga_f q hw
    refine g_iconst V (Int32.ofInt 0) dX7_mirrors_12 rfl rfl ?_
    exact g_iret V rfl rfl dX7_mirrors_13 ⟨_, rfl, hw⟩
def w_X7_order_J98 (Q : Int → gaH → Prop) (v3 : Nat) (v4 : Nat) (h : gaH) : Prop := gAL h v3 102 (fun r1 => gAL h v4 102 (fun r2 => gR r1 ∧ gR r2 ∧ (if r2 ≤ r1 then gAL h v3 102 (fun r3 => gAL h v4 102 (fun r4 => gR r3 ∧ gR r4 ∧ (if r3 ≤ r4 then Q 0 h else Q 1 h))) else Q (-1) h)))
def w_X7_order_L47 (Q : Int → gaH → Prop) : Nat → (Nat → Nat → Int → gaH → Prop)
  | 0 => fun _ _ _ _ => False
  | n + 1 => fun v3 v4 v5 h => gAL h v3 102 (fun r1 => gR v5 ∧ gR r1 ∧ (if r1 ≤ v5 then w_X7_order_J98 Q v3 v4 h else gAL h v4 102 (fun r2 => gR v5 ∧ gR r2 ∧ (if r2 ≤ v5 then w_X7_order_J98 Q v3 v4 h else gLI h v3 102 v5 (fun r3 => gLI h v4 102 v5 (fun r4 => gR r3 ∧ gR r4 ∧ (if r3 = r4 then w_X7_order_L47 Q n v3 v4 (v5 + 1) h else gLI h v3 102 v5 (fun r5 => gLI h v4 102 v5 (fun r6 => gR r5 ∧ gR r6 ∧ (if r6 ≤ r5 then Q 1 h else Q (-1) h))))))))))
def w_X7_order_J20 (Q : Int → gaH → Prop) (v0 : Nat) (v1 : Int) (v2 : Int) (t0 : Nat) (t1 : Int) (h : gaH) : Prop := gHas h t0 7 ∧ w_X7_start t0 t1 1 h (fun r2 hp1 => gR r2 ∧ (if r2 = 0 then gA hp1 v0 7 0 (fun r3 => gLA hp1 r3 112 v1 (fun r4 => gA hp1 v0 7 0 (fun r5 => gLA hp1 r5 112 v2 (fun r6 => ∃ z, w_X7_order_L47 Q z r4 r6 0 hp1)))) else Q 0 hp1))
def w_X7_order_J15 (Q : Int → gaH → Prop) (v0 : Nat) (v1 : Int) (v2 : Int) (t0 : Nat) (h : gaH) : Prop := w_X7_order_J20 Q v0 v1 v2 t0 1 h
def w_X7_order (a0 : Nat) (a1 : Int) (a2 : Int) (h : gaH) (Q : Int → gaH → Prop) : Prop := w_X7_isNoSheet a1 h (fun r2 hp1 => gR r2 ∧ (if r2 = 0 then w_X7_isNoSheet a2 hp1 (fun r4 hp3 => gR r4 ∧ (if r4 = 0 then w_X7_order_J20 Q a0 a1 a2 a0 0 hp3 else w_X7_order_J15 Q a0 a1 a2 a0 hp3)) else w_X7_order_J15 Q a0 a1 a2 a0 hp1))
abbrev rm_X7_order : Room := { frames := 2, cells := 0, slots := 0, locals := 44 }
theorem hd_X7_order : yX7_order.cls = RX7 ∧ (yX7_order.cls ≠ "java/lang/invoke/MethodHandle" ∧ yX7_order.cls ≠ "java/lang/invoke/VarHandle" ∧ (parseMethodDescriptor yX7_order.desc).map (fun d => d.parameters.length) = some 2) := by decide +kernel
theorem k_X7_order {l : Launch} (hst : l.stackTraces = false) {G : gaG} {X : String → gaH → Prop} {a0 : Nat} {a1 : Int} {a2 : Int} {h : gaH} {Q : Int → gaH → Prop} (hw : w_X7_order a0 a1 a2 h Q) : gaC l G yX7_order (gaM yX7_order cX7_order 6 ((some .int))) rm_X7_order [.ref a0, gi a1, gi a2] h (gQi Q) X := by
  refine g_start (lv := [some (.ref a0), some (gi a1), some (gi a2), none, none, none]) hpl_RX7 hst (Nat.le_of_ble_eq_true rfl) (gaArgs_pad (z := 3) rfl) ww_6_190 ?_
  intro p e s m args below meth c V hT
  have h_X7_order_J98 : ∀ (v3 : Nat) (v4 : Nat) (h : gaH), w_X7_order_J98 Q v3 v4 h → gaP p l e rm_X7_order s m args below meth c G 6 (gaZ below G (gQi Q) X args s rm_X7_order) 98 [none, none, none, some (.ref v3), some (.ref v4), none] [] h 0 0 := by
    intro v3 v4 h hw
    unfold w_X7_order_J98 at hw
    refine g_aload_n V dX7_order_98 rfl rfl ?_
    obtain ⟨t9, vs, ha, ht, hw⟩ := hw
    refine gi_arraylength (t0 := 102) V (by simp [gaT]) ha ht dX7_order_99 rfl ?_
    generalize (vs.length : Int) = r1 at hw ⊢
    refine g_aload V dX7_order_100 rfl rfl ?_
    obtain ⟨t9, vs, ha, ht, hw⟩ := hw
    refine gi_arraylength (t0 := 102) V (by simp [gaT]) ha ht dX7_order_102 rfl ?_
    generalize (vs.length : Int) = r2 at hw ⊢
    obtain ⟨hx0, hx1, hw⟩ := hw
    refine gi_icmp_ge V dX7_order_103 rfl rfl hx0 hx1 (fun q => ?_) (fun q => ?_)
    · have hw := ga_t q hw
      refine g_aload_n V dX7_order_110 rfl rfl ?_
      obtain ⟨t9, vs, ha, ht, hw⟩ := hw
      refine gi_arraylength (t0 := 102) V (by simp [gaT]) ha ht dX7_order_111 rfl ?_
      generalize (vs.length : Int) = r3 at hw ⊢
      refine g_aload V dX7_order_112 rfl rfl ?_
      obtain ⟨t9, vs, ha, ht, hw⟩ := hw
      refine gi_arraylength (t0 := 102) V (by simp [gaT]) ha ht dX7_order_114 rfl ?_
      generalize (vs.length : Int) = r4 at hw ⊢
      obtain ⟨hx0, hx1, hw⟩ := hw
      refine gi_icmp_le V dX7_order_115 rfl rfl hx0 hx1 (fun q => ?_) (fun q => ?_)
      · have hw := ga_t q hw
        refine g_iconst V (Int32.ofInt 0) dX7_order_122 rfl rfl ?_
        exact g_iret V rfl rfl dX7_order_123 ⟨_, rfl, hw⟩
      · have hw := ga_f q hw
        refine g_iconst V (Int32.ofInt 1) dX7_order_118 rfl rfl ?_
        refine g_goto V dX7_order_119 rfl ?_
        exact g_iret V rfl rfl dX7_order_123 ⟨_, rfl, hw⟩
    · have hw := ga_f q hw
      refine g_iconst V (Int32.ofInt (-1)) dX7_order_106 rfl rfl ?_
      refine g_goto V dX7_order_107 rfl ?_
      exact g_iret V rfl rfl dX7_order_123 ⟨_, rfl, hw⟩
  have h_X7_order_L47 : ∀ (n : Nat), ∀ (v3 : Nat) (v4 : Nat) (v5 : Int) (h : gaH), w_X7_order_L47 Q n v3 v4 v5 h → gaP p l e rm_X7_order s m args below meth c G 6 (gaZ below G (gQi Q) X args s rm_X7_order) 47 [none, none, none, some (.ref v3), some (.ref v4), some (gi v5)] [] h 0 0 := by
    intro n
    induction n with
    | zero =>
      intro v3 v4 v5 h hw
      exact hw.elim
    | succ n ih =>
      intro v3 v4 v5 h hw
      unfold w_X7_order_L47 at hw
      refine g_iload V dX7_order_47 rfl rfl ?_
      refine g_aload_n V dX7_order_49 rfl rfl ?_
      obtain ⟨t9, vs, ha, ht, hw⟩ := hw
      refine gi_arraylength (t0 := 102) V (by simp [gaT]) ha ht dX7_order_50 rfl ?_
      generalize (vs.length : Int) = r1 at hw ⊢
      obtain ⟨hx0, hx1, hw⟩ := hw
      refine gi_icmp_ge V dX7_order_51 rfl rfl hx0 hx1 (fun q => ?_) (fun q => ?_)
      · have hw := ga_t q hw
        refine g_less (bs := [true, true, true, true, true, false]) (lv2 := [none, none, none, some (.ref v3), some (.ref v4), none]) rfl ?_
        exact h_X7_order_J98 v3 v4 h hw
      · have hw := ga_f q hw
        refine g_iload V dX7_order_54 rfl rfl ?_
        refine g_aload V dX7_order_56 rfl rfl ?_
        obtain ⟨t9, vs, ha, ht, hw⟩ := hw
        refine gi_arraylength (t0 := 102) V (by simp [gaT]) ha ht dX7_order_58 rfl ?_
        generalize (vs.length : Int) = r2 at hw ⊢
        obtain ⟨hx0, hx1, hw⟩ := hw
        refine gi_icmp_ge V dX7_order_59 rfl rfl hx0 hx1 (fun q => ?_) (fun q => ?_)
        · have hw := ga_t q hw
          refine g_less (bs := [true, true, true, true, true, false]) (lv2 := [none, none, none, some (.ref v3), some (.ref v4), none]) rfl ?_
          exact h_X7_order_J98 v3 v4 h hw
        · have hw := ga_f q hw
          refine g_aload_n V dX7_order_62 rfl rfl ?_
          refine g_iload V dX7_order_63 rfl rfl ?_
          obtain ⟨t9, vs, r3, ha, ht, h0, h9, hv, hw⟩ := hw
          refine gi_iaload V ha ht h0 h9 hv dX7_order_65 rfl ?_
          refine g_aload V dX7_order_66 rfl rfl ?_
          refine g_iload V dX7_order_68 rfl rfl ?_
          obtain ⟨t9, vs, r4, ha, ht, h0, h9, hv, hw⟩ := hw
          refine gi_iaload V ha ht h0 h9 hv dX7_order_70 rfl ?_
          obtain ⟨hx0, hx1, hw⟩ := hw
          refine gi_icmp_eq V dX7_order_71 rfl rfl hx0 hx1 (fun q => ?_) (fun q => ?_)
          · have hw := ga_t q hw
            refine gi_iinc (lv2 := [none, none, none, some (.ref v3), some (.ref v4), some (gi (v5 + 1))]) V dX7_order_92 (by decide) rfl rfl rfl rfl ?_
            refine g_goto V dX7_order_95 rfl ?_
            exact ih v3 v4 (v5 + 1) h hw
          · have hw := ga_f q hw
            refine g_aload_n V dX7_order_74 rfl rfl ?_
            refine g_iload V dX7_order_75 rfl rfl ?_
            obtain ⟨t9, vs, r5, ha, ht, h0, h9, hv, hw⟩ := hw
            refine gi_iaload V ha ht h0 h9 hv dX7_order_77 rfl ?_
            refine g_aload V dX7_order_78 rfl rfl ?_
            refine g_iload V dX7_order_80 rfl rfl ?_
            obtain ⟨t9, vs, r6, ha, ht, h0, h9, hv, hw⟩ := hw
            refine gi_iaload V ha ht h0 h9 hv dX7_order_82 rfl ?_
            obtain ⟨hx0, hx1, hw⟩ := hw
            refine gi_icmp_ge V dX7_order_83 rfl rfl hx0 hx1 (fun q => ?_) (fun q => ?_)
            · have hw := ga_t q hw
              refine g_iconst V (Int32.ofInt 1) dX7_order_90 rfl rfl ?_
              exact g_iret V rfl rfl dX7_order_91 ⟨_, rfl, hw⟩
            · have hw := ga_f q hw
              refine g_iconst V (Int32.ofInt (-1)) dX7_order_86 rfl rfl ?_
              refine g_goto V dX7_order_87 rfl ?_
              exact g_iret V rfl rfl dX7_order_91 ⟨_, rfl, hw⟩
  have h_X7_order_J20 : ∀ (v0 : Nat) (v1 : Int) (v2 : Int) (t0 : Nat) (t1 : Int) (h : gaH), w_X7_order_J20 Q v0 v1 v2 t0 t1 h → gaP p l e rm_X7_order s m args below meth c G 6 (gaZ below G (gQi Q) X args s rm_X7_order) 20 [some (.ref v0), some (gi v1), some (gi v2), none, none, none] [gi t1, .ref t0] h 0 0 := by
    intro v0 v1 v2 t0 t1 h hw
    unfold w_X7_order_J20 at hw
    refine g_iconst V (Int32.ofInt 1) dX7_order_20 rfl rfl ?_
    obtain ⟨hb, hw⟩ := hw
    obtain ⟨fb, hb⟩ := hb
    refine g_callV (C := RX7) (T := TX7) (N := 8) (st := []) V (k_X7_start hst hw) ww_5_220 ww_5_222 wp_2_2 ww_1_5 ww_5_223 hd_X7_start ⟨by decide, by decide⟩ rfl (by decide) hb rfl rfl (ga_cat rfl) dX7_order_21 (Nat.zero_le _) (Nat.zero_le _) rfl (gaX_all hT V) (ga_ki (fun r2 hp1 hw => ?_))
    obtain ⟨hx0, hw⟩ := hw
    refine gi_if_eq V dX7_order_24 rfl rfl hx0 (fun q => ?_) (fun q => ?_)
    · have hw := ga_t q hw
      refine g_aload_n V dX7_order_29 rfl rfl ?_
      obtain ⟨fs, r3, ha, hv, hw⟩ := hw
      refine g_get (C := RX7) (T := TX7) (N := 8) V 0 rfl hin_RX7 (by decide) (by decide) ww_5_181 rfl ha hv dX7_order_30 rfl ?_
      refine g_iload_n V dX7_order_33 rfl rfl ?_
      obtain ⟨vs, r4, ha, h0, h9, hv, hw⟩ := hw
      refine gi_aaload V ha (by decide) h0 h9 hv dX7_order_34 rfl ?_
      refine g_astore_n (lv2 := [some (.ref v0), some (gi v1), some (gi v2), some (.ref r4), none, none]) V dX7_order_35 (by decide) rfl rfl rfl ?_
      refine g_aload_n V dX7_order_36 rfl rfl ?_
      obtain ⟨fs, r5, ha, hv, hw⟩ := hw
      refine g_get (C := RX7) (T := TX7) (N := 8) V 0 rfl hin_RX7 (by decide) (by decide) ww_5_181 rfl ha hv dX7_order_37 rfl ?_
      refine g_iload_n V dX7_order_40 rfl rfl ?_
      obtain ⟨vs, r6, ha, h0, h9, hv, hw⟩ := hw
      refine gi_aaload V ha (by decide) h0 h9 hv dX7_order_41 rfl ?_
      refine g_astore (lv2 := [some (.ref v0), some (gi v1), some (gi v2), some (.ref r4), some (.ref r6), none]) V dX7_order_42 (by decide) rfl rfl rfl ?_
      refine g_iconst V (Int32.ofInt 0) dX7_order_44 rfl rfl ?_
      refine g_istore (lv2 := [some (.ref v0), some (gi v1), some (gi v2), some (.ref r4), some (.ref r6), some (gi 0)]) V dX7_order_45 (by decide) rfl rfl rfl ?_
      refine g_less (bs := [false, false, false, true, true, true]) (lv2 := [none, none, none, some (.ref r4), some (.ref r6), some (gi 0)]) rfl ?_
      obtain ⟨z, hw⟩ := hw
      exact h_X7_order_L47 z r4 r6 0 hp1 hw
    · have hw := ga_f q hw
      refine g_iconst V (Int32.ofInt 0) dX7_order_27 rfl rfl ?_
      exact g_iret V rfl rfl dX7_order_28 ⟨_, rfl, hw⟩
  have h_X7_order_J15 : ∀ (v0 : Nat) (v1 : Int) (v2 : Int) (t0 : Nat) (h : gaH), w_X7_order_J15 Q v0 v1 v2 t0 h → gaP p l e rm_X7_order s m args below meth c G 6 (gaZ below G (gQi Q) X args s rm_X7_order) 15 [some (.ref v0), some (gi v1), some (gi v2), none, none, none] [.ref t0] h 0 0 := by
    intro v0 v1 v2 t0 h hw
    unfold w_X7_order_J15 at hw
    refine g_iconst V (Int32.ofInt 1) dX7_order_15 rfl rfl ?_
    refine g_goto V dX7_order_16 rfl ?_
    exact h_X7_order_J20 v0 v1 v2 t0 1 h hw
  unfold w_X7_order at hw
  refine g_aload_n V dX7_order_0 rfl rfl ?_
  refine g_iload_n V dX7_order_1 rfl rfl ?_
  refine g_callS (st := [.ref a0]) V (k_X7_isNoSheet hst hw) ww_5_214 ww_5_215 ww_1_5 ww_5_216 hd_X7_isNoSheet ⟨by decide, by decide⟩ rfl rfl (ga_cat rfl) dX7_order_2 (Nat.zero_le _) (Nat.zero_le _) rfl (gaX_all hT V) (ga_ki (fun r2 hp1 hw => ?_))
  obtain ⟨hx0, hw⟩ := hw
  refine gi_if_ne V dX7_order_5 rfl rfl hx0 (fun q => ?_) (fun q => ?_)
  · have hw := ga_f q hw
    exact h_X7_order_J15 a0 a1 a2 a0 hp1 hw
  · have hw := ga_t q hw
    refine g_iload_n V dX7_order_8 rfl rfl ?_
    refine g_callS (st := [.ref a0]) V (k_X7_isNoSheet hst hw) ww_5_214 ww_5_215 ww_1_5 ww_5_216 hd_X7_isNoSheet ⟨by decide, by decide⟩ rfl rfl (ga_cat rfl) dX7_order_9 (Nat.zero_le _) (Nat.zero_le _) rfl (gaX_all hT V) (ga_ki (fun r4 hp3 hw => ?_))
    obtain ⟨hx0, hw⟩ := hw
    refine gi_if_eq V dX7_order_12 rfl rfl hx0 (fun q => ?_) (fun q => ?_)
    · have hw := ga_t q hw
      refine g_iconst V (Int32.ofInt 0) dX7_order_19 rfl rfl ?_
      exact h_X7_order_J20 a0 a1 a2 a0 0 hp3 hw
    · have hw := ga_f q hw
      exact h_X7_order_J15 a0 a1 a2 a0 hp3 hw
def w_X7_overlaps (a0 : Nat) (a1 : Int) (h : gaH) (Q : Int → gaH → Prop) : Prop := w_X7_isNoSheet a1 h (fun r2 hp1 => gHas hp1 a0 7 ∧ w_X7_start a0 r2 1 hp1 (fun r4 hp3 => gR r4 ∧ (if r4 = 0 then gA hp3 a0 7 0 (fun r5 => gLA hp3 r5 112 a1 (fun r6 => w_X7_overlapsOf r6 hp3 (fun r8 hp7 => Q r8 hp7))) else Q 0 hp3)))
abbrev rm_X7_overlaps : Room := { frames := 2, cells := 0, slots := 0, locals := 47 }
theorem hd_X7_overlaps : yX7_overlaps.cls = RX7 ∧ (yX7_overlaps.cls ≠ "java/lang/invoke/MethodHandle" ∧ yX7_overlaps.cls ≠ "java/lang/invoke/VarHandle" ∧ (parseMethodDescriptor yX7_overlaps.desc).map (fun d => d.parameters.length) = some 1) := by decide +kernel
theorem k_X7_overlaps {l : Launch} (hst : l.stackTraces = false) {G : gaG} {X : String → gaH → Prop} {a0 : Nat} {a1 : Int} {h : gaH} {Q : Int → gaH → Prop} (hw : w_X7_overlaps a0 a1 h Q) : gaC l G yX7_overlaps (gaM yX7_overlaps cX7_overlaps 2 ((some .int))) rm_X7_overlaps [.ref a0, gi a1] h (gQi Q) X := by
  refine g_start (lv := [some (.ref a0), some (gi a1)]) hpl_RX7 hst (Nat.le_of_ble_eq_true rfl) (gaArgs_pad (z := 0) rfl) ww_6_224 ?_
  intro p e s m args below meth c V hT
  unfold w_X7_overlaps at hw
  refine g_aload_n V dX7_overlaps_0 rfl rfl ?_
  refine g_iload_n V dX7_overlaps_1 rfl rfl ?_
  refine g_callS (st := [.ref a0]) V (k_X7_isNoSheet hst hw) ww_5_214 ww_5_215 ww_1_5 ww_5_216 hd_X7_isNoSheet ⟨by decide, by decide⟩ rfl rfl (ga_cat rfl) dX7_overlaps_2 (Nat.zero_le _) (Nat.zero_le _) rfl (gaX_all hT V) (ga_ki (fun r2 hp1 hw => ?_))
  refine g_iconst V (Int32.ofInt 1) dX7_overlaps_5 rfl rfl ?_
  obtain ⟨hb, hw⟩ := hw
  obtain ⟨fb, hb⟩ := hb
  refine g_callV (C := RX7) (T := TX7) (N := 8) (st := []) V (k_X7_start hst hw) ww_5_220 ww_5_222 wp_2_2 ww_1_5 ww_5_223 hd_X7_start ⟨by decide, by decide⟩ rfl (by decide) hb rfl rfl (ga_cat rfl) dX7_overlaps_6 (Nat.zero_le _) (Nat.zero_le _) rfl (gaX_all hT V) (ga_ki (fun r4 hp3 hw => ?_))
  obtain ⟨hx0, hw⟩ := hw
  refine gi_if_eq V dX7_overlaps_9 rfl rfl hx0 (fun q => ?_) (fun q => ?_)
  · have hw := ga_t q hw
    refine g_aload_n V dX7_overlaps_16 rfl rfl ?_
    obtain ⟨fs, r5, ha, hv, hw⟩ := hw
    refine g_get (C := RX7) (T := TX7) (N := 8) V 0 rfl hin_RX7 (by decide) (by decide) ww_5_181 rfl ha hv dX7_overlaps_17 rfl ?_
    refine g_iload_n V dX7_overlaps_20 rfl rfl ?_
    obtain ⟨vs, r6, ha, h0, h9, hv, hw⟩ := hw
    refine gi_aaload V ha (by decide) h0 h9 hv dX7_overlaps_21 rfl ?_
    refine g_callS (st := []) V (k_X7_overlapsOf hst hw) ww_6_225 ww_6_226 ww_1_5 ww_6_227 hd_X7_overlapsOf ⟨by decide, by decide⟩ rfl rfl (ga_cat rfl) dX7_overlaps_22 (Nat.zero_le _) (Nat.zero_le _) rfl (gaX_all hT V) (ga_ki (fun r8 hp7 hw => ?_))
    exact g_iret V rfl rfl dX7_overlaps_25 ⟨_, rfl, hw⟩
  · have hw := ga_f q hw
    refine g_iconst V (Int32.ofInt 0) dX7_overlaps_12 rfl rfl ?_
    refine g_goto V dX7_overlaps_13 rfl ?_
    exact g_iret V rfl rfl dX7_overlaps_25 ⟨_, rfl, hw⟩
def w_X7_remove (a0 : Nat) (a1 : Int) (a2 : Int) (a3 : Int) (h : gaH) (Q : Int → gaH → Prop) : Prop := gHas h a0 7 ∧ w_X7_isNoPart a0 a1 a2 a3 h (fun r2 hp1 => gHas hp1 a0 7 ∧ w_X7_start a0 r2 1 hp1 (fun r4 hp3 => gR r4 ∧ (if r4 = 0 then gA hp3 a0 7 0 (fun r5 => gLA hp3 r5 112 a1 (fun r6 => w_X7_bs r6 hp3 (fun r8 hp7 => gA hp7 a0 7 0 (fun r9 => gLA hp7 r9 112 a1 (fun r10 => gNA hp7 102 (gi 0) 0 2 192 (fun o11 hp12 c13 s14 => gCall 1 128 c13 s14 (fun c17 s18 => w_X7_spliced r10 a2 a3 o11 hp12 (fun r16 hp15 => gHas hp15 a0 7 ∧ w_X7_comes a0 a1 r16 hp15 (fun r20 hp19 => gA hp19 a0 7 0 (fun r21 => gLA hp19 r21 112 a1 (fun r22 => w_X7_bs r22 hp19 (fun r24 hp23 => Q (r8 - r24) hp23)))))))))))) else Q 0 hp3)))
abbrev rm_X7_remove : Room := { frames := 3, cells := 2, slots := 192, locals := 65 }
theorem hd_X7_remove : yX7_remove.cls = RX7 ∧ (yX7_remove.cls ≠ "java/lang/invoke/MethodHandle" ∧ yX7_remove.cls ≠ "java/lang/invoke/VarHandle" ∧ (parseMethodDescriptor yX7_remove.desc).map (fun d => d.parameters.length) = some 3) := by decide +kernel
theorem k_X7_remove {l : Launch} (hst : l.stackTraces = false) {G : gaG} {X : String → gaH → Prop} {a0 : Nat} {a1 : Int} {a2 : Int} {a3 : Int} {h : gaH} {Q : Int → gaH → Prop} (hw : w_X7_remove a0 a1 a2 a3 h Q) : gaC l G yX7_remove (gaM yX7_remove cX7_remove 5 ((some .int))) rm_X7_remove [.ref a0, gi a1, gi a2, gi a3] h (gQi Q) X := by
  refine g_start (lv := [some (.ref a0), some (gi a1), some (gi a2), some (gi a3), none]) hpl_RX7 hst (Nat.le_of_ble_eq_true rfl) (gaArgs_pad (z := 1) rfl) ww_6_41 ?_
  intro p e s m args below meth c V hT
  show gaP p l e rm_X7_remove s m args below meth c G 5 (gaZ below G (gQi Q) X args s rm_X7_remove) 0 [some (.ref a0), some (gi a1), some (gi a2), some (gi a3), none] [] h 2 192
  unfold w_X7_remove at hw
  refine g_aload_n V dX7_remove_0 rfl rfl ?_
  refine g_aload_n V dX7_remove_1 rfl rfl ?_
  refine g_iload_n V dX7_remove_2 rfl rfl ?_
  refine g_iload_n V dX7_remove_3 rfl rfl ?_
  refine g_iload_n V dX7_remove_4 rfl rfl ?_
  obtain ⟨hb, hw⟩ := hw
  obtain ⟨fb, hb⟩ := hb
  refine g_callV (C := RX7) (T := TX7) (N := 8) (st := [.ref a0]) V (k_X7_isNoPart hst hw) ww_6_42 ww_6_44 wp_2_9 ww_1_5 ww_6_45 hd_X7_isNoPart ⟨by decide, by decide⟩ rfl (by decide) hb rfl rfl (ga_cat rfl) dX7_remove_5 (Nat.zero_le _) (Nat.zero_le _) rfl (gaX_all hT V) (ga_ki (fun r2 hp1 hw => ?_))
  refine g_iconst V (Int32.ofInt 1) dX7_remove_8 rfl rfl ?_
  obtain ⟨hb, hw⟩ := hw
  obtain ⟨fb, hb⟩ := hb
  refine g_callV (C := RX7) (T := TX7) (N := 8) (st := []) V (k_X7_start hst hw) ww_5_220 ww_5_222 wp_2_2 ww_1_5 ww_5_223 hd_X7_start ⟨by decide, by decide⟩ rfl (by decide) hb rfl rfl (ga_cat rfl) dX7_remove_9 (Nat.zero_le _) (Nat.zero_le _) rfl (gaX_all hT V) (ga_ki (fun r4 hp3 hw => ?_))
  obtain ⟨hx0, hw⟩ := hw
  refine gi_if_eq V dX7_remove_12 rfl rfl hx0 (fun q => ?_) (fun q => ?_)
  · have hw := ga_t q hw
    refine g_aload_n V dX7_remove_17 rfl rfl ?_
    obtain ⟨fs, r5, ha, hv, hw⟩ := hw
    refine g_get (C := RX7) (T := TX7) (N := 8) V 0 rfl hin_RX7 (by decide) (by decide) ww_5_181 rfl ha hv dX7_remove_18 rfl ?_
    refine g_iload_n V dX7_remove_21 rfl rfl ?_
    obtain ⟨vs, r6, ha, h0, h9, hv, hw⟩ := hw
    refine gi_aaload V ha (by decide) h0 h9 hv dX7_remove_22 rfl ?_
    refine g_callS (st := []) V (k_X7_bs hst hw) ww_6_46 ww_6_47 ww_1_5 ww_6_48 hd_X7_bs ⟨by decide, by decide⟩ rfl rfl (ga_cat rfl) dX7_remove_23 (Nat.zero_le _) (Nat.zero_le _) rfl (gaX_all hT V) (ga_ki (fun r8 hp7 hw => ?_))
    refine g_istore (lv2 := [some (.ref a0), some (gi a1), some (gi a2), some (gi a3), some (gi r8)]) V dX7_remove_26 (by decide) rfl rfl rfl ?_
    refine g_aload_n V dX7_remove_28 rfl rfl ?_
    refine g_iload_n V dX7_remove_29 rfl rfl ?_
    refine g_aload_n V dX7_remove_30 rfl rfl ?_
    obtain ⟨fs, r9, ha, hv, hw⟩ := hw
    refine g_get (C := RX7) (T := TX7) (N := 8) V 0 rfl hin_RX7 (by decide) (by decide) ww_5_181 rfl ha hv dX7_remove_31 rfl ?_
    refine g_iload_n V dX7_remove_34 rfl rfl ?_
    obtain ⟨vs, r10, ha, h0, h9, hv, hw⟩ := hw
    refine gi_aaload V ha (by decide) h0 h9 hv dX7_remove_35 rfl ?_
    refine g_iload_n V dX7_remove_36 rfl rfl ?_
    refine g_iload_n V dX7_remove_37 rfl rfl ?_
    refine g_iconst V (Int32.ofInt 0) dX7_remove_38 rfl rfl ?_
    obtain ⟨h0, h9, hk, hj, hw⟩ := hw
    refine gi_newarray (atype := .int) (t := 102) V (by decide) rfl ww_1_109 h0 h9 dX7_remove_39 rfl hk hj (fun o11 hf => ?_)
    obtain ⟨c13, s14, ec, es, hw⟩ := hw o11 hf
    refine ga_re ec es ?_
    generalize gaUp hp7 o11 _ = hp12 at hw ⊢
    obtain ⟨hk, hj, c17, s18, ec, es, hw⟩ := hw
    refine g_callS (st := [gi a1, .ref a0]) V (k_X7_spliced hst hw) ww_6_8 ww_6_9 ww_1_5 ww_6_10 hd_X7_spliced ⟨by decide, by decide⟩ rfl rfl (ga_cat rfl) dX7_remove_41 hk hj rfl (gaX_all hT V) (ga_ka (fun r16 hp15 hw => ?_))
    refine ga_re ec es ?_
    obtain ⟨hb, hw⟩ := hw
    obtain ⟨fb, hb⟩ := hb
    refine g_callV (C := RX7) (T := TX7) (N := 8) (st := []) V (k_X7_comes hst hw) ww_5_232 ww_5_234 wp_2_4 ww_1_5 ww_5_235 hd_X7_comes ⟨by decide, by decide⟩ rfl (by decide) hb rfl rfl (ga_cat rfl) dX7_remove_44 (Nat.zero_le _) (Nat.zero_le _) rfl (gaX_all hT V) (ga_ki (fun r20 hp19 hw => ?_))
    refine g_pop V dX7_remove_47 rfl rfl ?_
    refine g_iload V dX7_remove_48 rfl rfl ?_
    refine g_aload_n V dX7_remove_50 rfl rfl ?_
    obtain ⟨fs, r21, ha, hv, hw⟩ := hw
    refine g_get (C := RX7) (T := TX7) (N := 8) V 0 rfl hin_RX7 (by decide) (by decide) ww_5_181 rfl ha hv dX7_remove_51 rfl ?_
    refine g_iload_n V dX7_remove_54 rfl rfl ?_
    obtain ⟨vs, r22, ha, h0, h9, hv, hw⟩ := hw
    refine gi_aaload V ha (by decide) h0 h9 hv dX7_remove_55 rfl ?_
    refine g_callS (st := [gi r8]) V (k_X7_bs hst hw) ww_6_46 ww_6_47 ww_1_5 ww_6_48 hd_X7_bs ⟨by decide, by decide⟩ rfl rfl (ga_cat rfl) dX7_remove_56 (Nat.zero_le _) (Nat.zero_le _) rfl (gaX_all hT V) (ga_ki (fun r24 hp23 hw => ?_))
    refine gi_isub V dX7_remove_59 rfl ?_
    exact g_iret V rfl rfl dX7_remove_60 ⟨_, rfl, hw⟩
  · have hw := ga_f q hw
    refine g_iconst V (Int32.ofInt 0) dX7_remove_15 rfl rfl ?_
    exact g_iret V rfl rfl dX7_remove_16 ⟨_, rfl, hw⟩
def w_X7_removeSign (a0 : Nat) (a1 : Int) (a2 : Int) (h : gaH) (Q : Int → gaH → Prop) : Prop := gHas h a0 7 ∧ w_X7_isNoPlace a0 a1 a2 h (fun r2 hp1 => gHas hp1 a0 7 ∧ w_X7_start a0 r2 1 hp1 (fun r4 hp3 => gR r4 ∧ (if r4 = 0 then gA hp3 a0 7 0 (fun r5 => gLA hp3 r5 112 a1 (fun r6 => gLI hp3 r6 102 a2 (fun r7 => gA hp3 a0 7 0 (fun r8 => gLA hp3 r8 112 a1 (fun r9 => gNA hp3 102 (gi 0) 0 2 192 (fun o10 hp11 c12 s13 => gCall 1 128 c12 s13 (fun c16 s17 => w_X7_spliced r9 a2 (a2 + 1) o10 hp11 (fun r15 hp14 => gHas hp14 a0 7 ∧ w_X7_comes a0 a1 r15 hp14 (fun r19 hp18 => Q r7 hp18))))))))) else Q 0 hp3)))
abbrev rm_X7_removeSign : Room := { frames := 3, cells := 2, slots := 192, locals := 64 }
theorem hd_X7_removeSign : yX7_removeSign.cls = RX7 ∧ (yX7_removeSign.cls ≠ "java/lang/invoke/MethodHandle" ∧ yX7_removeSign.cls ≠ "java/lang/invoke/VarHandle" ∧ (parseMethodDescriptor yX7_removeSign.desc).map (fun d => d.parameters.length) = some 2) := by decide +kernel
theorem k_X7_removeSign {l : Launch} (hst : l.stackTraces = false) {G : gaG} {X : String → gaH → Prop} {a0 : Nat} {a1 : Int} {a2 : Int} {h : gaH} {Q : Int → gaH → Prop} (hw : w_X7_removeSign a0 a1 a2 h Q) : gaC l G yX7_removeSign (gaM yX7_removeSign cX7_removeSign 4 ((some .int))) rm_X7_removeSign [.ref a0, gi a1, gi a2] h (gQi Q) X := by
  refine g_start (lv := [some (.ref a0), some (gi a1), some (gi a2), none]) hpl_RX7 hst (Nat.le_of_ble_eq_true rfl) (gaArgs_pad (z := 1) rfl) ww_6_37 ?_
  intro p e s m args below meth c V hT
  show gaP p l e rm_X7_removeSign s m args below meth c G 4 (gaZ below G (gQi Q) X args s rm_X7_removeSign) 0 [some (.ref a0), some (gi a1), some (gi a2), none] [] h 2 192
  unfold w_X7_removeSign at hw
  refine g_aload_n V dX7_removeSign_0 rfl rfl ?_
  refine g_aload_n V dX7_removeSign_1 rfl rfl ?_
  refine g_iload_n V dX7_removeSign_2 rfl rfl ?_
  refine g_iload_n V dX7_removeSign_3 rfl rfl ?_
  obtain ⟨hb, hw⟩ := hw
  obtain ⟨fb, hb⟩ := hb
  refine g_callV (C := RX7) (T := TX7) (N := 8) (st := [.ref a0]) V (k_X7_isNoPlace hst hw) ww_6_30 ww_6_32 wp_2_8 ww_1_5 ww_6_33 hd_X7_isNoPlace ⟨by decide, by decide⟩ rfl (by decide) hb rfl rfl (ga_cat rfl) dX7_removeSign_4 (Nat.zero_le _) (Nat.zero_le _) rfl (gaX_all hT V) (ga_ki (fun r2 hp1 hw => ?_))
  refine g_iconst V (Int32.ofInt 1) dX7_removeSign_7 rfl rfl ?_
  obtain ⟨hb, hw⟩ := hw
  obtain ⟨fb, hb⟩ := hb
  refine g_callV (C := RX7) (T := TX7) (N := 8) (st := []) V (k_X7_start hst hw) ww_5_220 ww_5_222 wp_2_2 ww_1_5 ww_5_223 hd_X7_start ⟨by decide, by decide⟩ rfl (by decide) hb rfl rfl (ga_cat rfl) dX7_removeSign_8 (Nat.zero_le _) (Nat.zero_le _) rfl (gaX_all hT V) (ga_ki (fun r4 hp3 hw => ?_))
  obtain ⟨hx0, hw⟩ := hw
  refine gi_if_eq V dX7_removeSign_11 rfl rfl hx0 (fun q => ?_) (fun q => ?_)
  · have hw := ga_t q hw
    refine g_aload_n V dX7_removeSign_16 rfl rfl ?_
    obtain ⟨fs, r5, ha, hv, hw⟩ := hw
    refine g_get (C := RX7) (T := TX7) (N := 8) V 0 rfl hin_RX7 (by decide) (by decide) ww_5_181 rfl ha hv dX7_removeSign_17 rfl ?_
    refine g_iload_n V dX7_removeSign_20 rfl rfl ?_
    obtain ⟨vs, r6, ha, h0, h9, hv, hw⟩ := hw
    refine gi_aaload V ha (by decide) h0 h9 hv dX7_removeSign_21 rfl ?_
    refine g_iload_n V dX7_removeSign_22 rfl rfl ?_
    obtain ⟨t9, vs, r7, ha, ht, h0, h9, hv, hw⟩ := hw
    refine gi_iaload V ha ht h0 h9 hv dX7_removeSign_23 rfl ?_
    refine g_istore_n (lv2 := [some (.ref a0), some (gi a1), some (gi a2), some (gi r7)]) V dX7_removeSign_24 (by decide) rfl rfl rfl ?_
    refine g_aload_n V dX7_removeSign_25 rfl rfl ?_
    refine g_iload_n V dX7_removeSign_26 rfl rfl ?_
    refine g_aload_n V dX7_removeSign_27 rfl rfl ?_
    obtain ⟨fs, r8, ha, hv, hw⟩ := hw
    refine g_get (C := RX7) (T := TX7) (N := 8) V 0 rfl hin_RX7 (by decide) (by decide) ww_5_181 rfl ha hv dX7_removeSign_28 rfl ?_
    refine g_iload_n V dX7_removeSign_31 rfl rfl ?_
    obtain ⟨vs, r9, ha, h0, h9, hv, hw⟩ := hw
    refine gi_aaload V ha (by decide) h0 h9 hv dX7_removeSign_32 rfl ?_
    refine g_iload_n V dX7_removeSign_33 rfl rfl ?_
    refine g_iload_n V dX7_removeSign_34 rfl rfl ?_
    refine g_iconst V (Int32.ofInt 1) dX7_removeSign_35 rfl rfl ?_
    refine gi_iadd V dX7_removeSign_36 rfl ?_
    refine g_iconst V (Int32.ofInt 0) dX7_removeSign_37 rfl rfl ?_
    obtain ⟨h0, h9, hk, hj, hw⟩ := hw
    refine gi_newarray (atype := .int) (t := 102) V (by decide) rfl ww_1_109 h0 h9 dX7_removeSign_38 rfl hk hj (fun o10 hf => ?_)
    obtain ⟨c12, s13, ec, es, hw⟩ := hw o10 hf
    refine ga_re ec es ?_
    generalize gaUp hp3 o10 _ = hp11 at hw ⊢
    obtain ⟨hk, hj, c16, s17, ec, es, hw⟩ := hw
    refine g_callS (st := [gi a1, .ref a0]) V (k_X7_spliced hst hw) ww_6_8 ww_6_9 ww_1_5 ww_6_10 hd_X7_spliced ⟨by decide, by decide⟩ rfl rfl (ga_cat rfl) dX7_removeSign_40 hk hj rfl (gaX_all hT V) (ga_ka (fun r15 hp14 hw => ?_))
    refine ga_re ec es ?_
    obtain ⟨hb, hw⟩ := hw
    obtain ⟨fb, hb⟩ := hb
    refine g_callV (C := RX7) (T := TX7) (N := 8) (st := []) V (k_X7_comes hst hw) ww_5_232 ww_5_234 wp_2_4 ww_1_5 ww_5_235 hd_X7_comes ⟨by decide, by decide⟩ rfl (by decide) hb rfl rfl (ga_cat rfl) dX7_removeSign_43 (Nat.zero_le _) (Nat.zero_le _) rfl (gaX_all hT V) (ga_ki (fun r19 hp18 hw => ?_))
    refine g_pop V dX7_removeSign_46 rfl rfl ?_
    refine g_iload_n V dX7_removeSign_47 rfl rfl ?_
    exact g_iret V rfl rfl dX7_removeSign_48 ⟨_, rfl, hw⟩
  · have hw := ga_f q hw
    refine g_iconst V (Int32.ofInt 0) dX7_removeSign_14 rfl rfl ?_
    exact g_iret V rfl rfl dX7_removeSign_15 ⟨_, rfl, hw⟩
def w_X7_replace_J24 (Q : Int → gaH → Prop) (v0 : Nat) (v1 : Int) (v2 : Int) (v3 : Int) (v4 : Int) (t0 : Nat) (t1 : Int) (h : gaH) (kc ks : Nat) : Prop := gHas h t0 7 ∧ w_X7_start t0 t1 1 h (fun r2 hp1 => gR r2 ∧ (if r2 = 0 then gA hp1 v0 7 0 (fun r3 => gLA hp1 r3 112 v4 (fun r4 => gHas hp1 v0 7 ∧ gCall 1 128 kc ks (fun c7 s8 => w_X7_put v0 v1 v2 v3 r4 hp1 (fun r6 hp5 => Q r6 hp5)))) else Q 0 hp1))
def w_X7_replace_J19 (Q : Int → gaH → Prop) (v0 : Nat) (v1 : Int) (v2 : Int) (v3 : Int) (v4 : Int) (t0 : Nat) (h : gaH) (kc ks : Nat) : Prop := w_X7_replace_J24 Q v0 v1 v2 v3 v4 t0 1 h kc ks
def w_X7_replace (a0 : Nat) (a1 : Int) (a2 : Int) (a3 : Int) (a4 : Int) (h : gaH) (Q : Int → gaH → Prop) : Prop := gHas h a0 7 ∧ w_X7_isNoPart a0 a1 a2 a3 h (fun r2 hp1 => gR r2 ∧ (if r2 = 0 then w_X7_isNoSheet a4 hp1 (fun r4 hp3 => gR r4 ∧ (if r4 = 0 then w_X7_replace_J24 Q a0 a1 a2 a3 a4 a0 0 hp3 1 128 else w_X7_replace_J19 Q a0 a1 a2 a3 a4 a0 hp3 1 128)) else w_X7_replace_J19 Q a0 a1 a2 a3 a4 a0 hp1 1 128))
abbrev rm_X7_replace : Room := { frames := 3, cells := 1, slots := 128, locals := 65 }
theorem hd_X7_replace : yX7_replace.cls = RX7 ∧ (yX7_replace.cls ≠ "java/lang/invoke/MethodHandle" ∧ yX7_replace.cls ≠ "java/lang/invoke/VarHandle" ∧ (parseMethodDescriptor yX7_replace.desc).map (fun d => d.parameters.length) = some 4) := by decide +kernel
theorem k_X7_replace {l : Launch} (hst : l.stackTraces = false) {G : gaG} {X : String → gaH → Prop} {a0 : Nat} {a1 : Int} {a2 : Int} {a3 : Int} {a4 : Int} {h : gaH} {Q : Int → gaH → Prop} (hw : w_X7_replace a0 a1 a2 a3 a4 h Q) : gaC l G yX7_replace (gaM yX7_replace cX7_replace 5 ((some .int))) rm_X7_replace [.ref a0, gi a1, gi a2, gi a3, gi a4] h (gQi Q) X := by
  refine g_start (lv := [some (.ref a0), some (gi a1), some (gi a2), some (gi a3), some (gi a4)]) hpl_RX7 hst (Nat.le_of_ble_eq_true rfl) (gaArgs_pad (z := 0) rfl) ww_6_52 ?_
  intro p e s m args below meth c V hT
  have h_X7_replace_J24 : ∀ (v0 : Nat) (v1 : Int) (v2 : Int) (v3 : Int) (v4 : Int) (t0 : Nat) (t1 : Int) (h : gaH) (kc ks : Nat), w_X7_replace_J24 Q v0 v1 v2 v3 v4 t0 t1 h kc ks → gaP p l e rm_X7_replace s m args below meth c G 5 (gaZ below G (gQi Q) X args s rm_X7_replace) 24 [some (.ref v0), some (gi v1), some (gi v2), some (gi v3), some (gi v4)] [gi t1, .ref t0] h kc ks := by
    intro v0 v1 v2 v3 v4 t0 t1 h kc ks hw
    unfold w_X7_replace_J24 at hw
    refine g_iconst V (Int32.ofInt 1) dX7_replace_24 rfl rfl ?_
    obtain ⟨hb, hw⟩ := hw
    obtain ⟨fb, hb⟩ := hb
    refine g_callV (C := RX7) (T := TX7) (N := 8) (st := []) V (k_X7_start hst hw) ww_5_220 ww_5_222 wp_2_2 ww_1_5 ww_5_223 hd_X7_start ⟨by decide, by decide⟩ rfl (by decide) hb rfl rfl (ga_cat rfl) dX7_replace_25 (Nat.zero_le _) (Nat.zero_le _) rfl (gaX_all hT V) (ga_ki (fun r2 hp1 hw => ?_))
    obtain ⟨hx0, hw⟩ := hw
    refine gi_if_eq V dX7_replace_28 rfl rfl hx0 (fun q => ?_) (fun q => ?_)
    · have hw := ga_t q hw
      refine g_aload_n V dX7_replace_33 rfl rfl ?_
      refine g_iload_n V dX7_replace_34 rfl rfl ?_
      refine g_iload_n V dX7_replace_35 rfl rfl ?_
      refine g_iload_n V dX7_replace_36 rfl rfl ?_
      refine g_aload_n V dX7_replace_37 rfl rfl ?_
      obtain ⟨fs, r3, ha, hv, hw⟩ := hw
      refine g_get (C := RX7) (T := TX7) (N := 8) V 0 rfl hin_RX7 (by decide) (by decide) ww_5_181 rfl ha hv dX7_replace_38 rfl ?_
      refine g_iload V dX7_replace_41 rfl rfl ?_
      obtain ⟨vs, r4, ha, h0, h9, hv, hw⟩ := hw
      refine gi_aaload V ha (by decide) h0 h9 hv dX7_replace_43 rfl ?_
      obtain ⟨hb, hw⟩ := hw
      obtain ⟨fb, hb⟩ := hb
      obtain ⟨hk, hj, c7, s8, ec, es, hw⟩ := hw
      refine g_callV (C := RX7) (T := TX7) (N := 8) (st := []) V (k_X7_put hst hw) ww_6_0 ww_6_2 wp_2_5 ww_1_5 ww_6_3 hd_X7_put ⟨by decide, by decide⟩ rfl (by decide) hb rfl rfl (ga_cat rfl) dX7_replace_44 hk hj rfl (gaX_all hT V) (ga_ki (fun r6 hp5 hw => ?_))
      refine ga_re ec es ?_
      exact g_iret V rfl rfl dX7_replace_47 ⟨_, rfl, hw⟩
    · have hw := ga_f q hw
      refine g_iconst V (Int32.ofInt 0) dX7_replace_31 rfl rfl ?_
      exact g_iret V rfl rfl dX7_replace_32 ⟨_, rfl, hw⟩
  have h_X7_replace_J19 : ∀ (v0 : Nat) (v1 : Int) (v2 : Int) (v3 : Int) (v4 : Int) (t0 : Nat) (h : gaH) (kc ks : Nat), w_X7_replace_J19 Q v0 v1 v2 v3 v4 t0 h kc ks → gaP p l e rm_X7_replace s m args below meth c G 5 (gaZ below G (gQi Q) X args s rm_X7_replace) 19 [some (.ref v0), some (gi v1), some (gi v2), some (gi v3), some (gi v4)] [.ref t0] h kc ks := by
    intro v0 v1 v2 v3 v4 t0 h kc ks hw
    unfold w_X7_replace_J19 at hw
    refine g_iconst V (Int32.ofInt 1) dX7_replace_19 rfl rfl ?_
    refine g_goto V dX7_replace_20 rfl ?_
    exact h_X7_replace_J24 v0 v1 v2 v3 v4 t0 1 h kc ks hw
  show gaP p l e rm_X7_replace s m args below meth c G 5 (gaZ below G (gQi Q) X args s rm_X7_replace) 0 [some (.ref a0), some (gi a1), some (gi a2), some (gi a3), some (gi a4)] [] h 1 128
  unfold w_X7_replace at hw
  refine g_aload_n V dX7_replace_0 rfl rfl ?_
  refine g_aload_n V dX7_replace_1 rfl rfl ?_
  refine g_iload_n V dX7_replace_2 rfl rfl ?_
  refine g_iload_n V dX7_replace_3 rfl rfl ?_
  refine g_iload_n V dX7_replace_4 rfl rfl ?_
  obtain ⟨hb, hw⟩ := hw
  obtain ⟨fb, hb⟩ := hb
  refine g_callV (C := RX7) (T := TX7) (N := 8) (st := [.ref a0]) V (k_X7_isNoPart hst hw) ww_6_42 ww_6_44 wp_2_9 ww_1_5 ww_6_45 hd_X7_isNoPart ⟨by decide, by decide⟩ rfl (by decide) hb rfl rfl (ga_cat rfl) dX7_replace_5 (Nat.zero_le _) (Nat.zero_le _) rfl (gaX_all hT V) (ga_ki (fun r2 hp1 hw => ?_))
  obtain ⟨hx0, hw⟩ := hw
  refine gi_if_ne V dX7_replace_8 rfl rfl hx0 (fun q => ?_) (fun q => ?_)
  · have hw := ga_f q hw
    exact h_X7_replace_J19 a0 a1 a2 a3 a4 a0 hp1 1 128 hw
  · have hw := ga_t q hw
    refine g_iload V dX7_replace_11 rfl rfl ?_
    refine g_callS (st := [.ref a0]) V (k_X7_isNoSheet hst hw) ww_5_214 ww_5_215 ww_1_5 ww_5_216 hd_X7_isNoSheet ⟨by decide, by decide⟩ rfl rfl (ga_cat rfl) dX7_replace_13 (Nat.zero_le _) (Nat.zero_le _) rfl (gaX_all hT V) (ga_ki (fun r4 hp3 hw => ?_))
    obtain ⟨hx0, hw⟩ := hw
    refine gi_if_eq V dX7_replace_16 rfl rfl hx0 (fun q => ?_) (fun q => ?_)
    · have hw := ga_t q hw
      refine g_iconst V (Int32.ofInt 0) dX7_replace_23 rfl rfl ?_
      exact h_X7_replace_J24 a0 a1 a2 a3 a4 a0 0 hp3 1 128 hw
    · have hw := ga_f q hw
      exact h_X7_replace_J19 a0 a1 a2 a3 a4 a0 hp3 1 128 hw
def w_X7_rotate_L58 (Q : Int → gaH → Prop) : Nat → (Nat → Int → Int → Nat → Nat → Int → gaH → Nat → Nat → Prop)
  | 0 => fun _ _ _ _ _ _ _ _ _ => False
  | n + 1 => fun v0 v1 v2 v3 v4 v5 h kc ks => gAL h v4 102 (fun r1 => gR v5 ∧ gR r1 ∧ (if r1 ≤ v5 then gHas h v0 7 ∧ w_X7_becomes v0 v1 v4 h (fun r3 hp2 => Q r3 hp2) else gAL h v3 102 (fun r4 => gR r4 ∧ ¬ r4 = 0 ∧ (gLI h v3 102 (gRem (v5 + v2) r4) (fun r5 => gSI h v4 102 v5 (gi r5) (fun hp6 => w_X7_rotate_L58 Q n v0 v1 v2 v3 v4 (v5 + 1) hp6 kc ks))))))
def w_X7_rotate_J33 (Q : Int → gaH → Prop) (v0 : Nat) (v1 : Int) (v2 : Int) (t0 : Nat) (t1 : Int) (h : gaH) (kc ks : Nat) : Prop := gHas h t0 7 ∧ w_X7_refuse t0 t1 2 h (fun r2 hp1 => gR r2 ∧ (if r2 = 0 then gA hp1 v0 7 0 (fun r3 => gLA hp1 r3 112 v1 (fun r4 => gAL hp1 r4 102 (fun r5 => gNA hp1 102 (gi 0) r5 kc ks (fun o6 hp7 c8 s9 => ∃ z, w_X7_rotate_L58 Q z v0 v1 v2 r4 o6 0 hp7 c8 s9)))) else Q 0 hp1))
def w_X7_rotate (a0 : Nat) (a1 : Int) (a2 : Int) (h : gaH) (Q : Int → gaH → Prop) : Prop := w_X7_isNoSheet a1 h (fun r2 hp1 => gHas hp1 a0 7 ∧ w_X7_start a0 r2 1 hp1 (fun r4 hp3 => gR r4 ∧ (if r4 = 0 then gA hp3 a0 7 0 (fun r5 => gLA hp3 r5 112 a1 (fun r6 => gAL hp3 r6 102 (fun r7 => w_X7_isIn a2 0 r7 hp3 (fun r9 hp8 => gR r9 ∧ (if r9 = 0 then w_X7_rotate_J33 Q a0 a1 a2 a0 1 hp8 1 64 else w_X7_rotate_J33 Q a0 a1 a2 a0 0 hp8 1 64))))) else Q 0 hp3)))
abbrev rm_X7_rotate : Room := { frames := 3, cells := 1, slots := 64, locals := 67 }
theorem hd_X7_rotate : yX7_rotate.cls = RX7 ∧ (yX7_rotate.cls ≠ "java/lang/invoke/MethodHandle" ∧ yX7_rotate.cls ≠ "java/lang/invoke/VarHandle" ∧ (parseMethodDescriptor yX7_rotate.desc).map (fun d => d.parameters.length) = some 2) := by decide +kernel
theorem k_X7_rotate {l : Launch} (hst : l.stackTraces = false) {G : gaG} {X : String → gaH → Prop} {a0 : Nat} {a1 : Int} {a2 : Int} {h : gaH} {Q : Int → gaH → Prop} (hw : w_X7_rotate a0 a1 a2 h Q) : gaC l G yX7_rotate (gaM yX7_rotate cX7_rotate 6 ((some .int))) rm_X7_rotate [.ref a0, gi a1, gi a2] h (gQi Q) X := by
  refine g_start (lv := [some (.ref a0), some (gi a1), some (gi a2), none, none, none]) hpl_RX7 hst (Nat.le_of_ble_eq_true rfl) (gaArgs_pad (z := 3) rfl) ww_6_84 ?_
  intro p e s m args below meth c V hT
  have h_X7_rotate_L58 : ∀ (n : Nat), ∀ (v0 : Nat) (v1 : Int) (v2 : Int) (v3 : Nat) (v4 : Nat) (v5 : Int) (h : gaH) (kc ks : Nat), w_X7_rotate_L58 Q n v0 v1 v2 v3 v4 v5 h kc ks → gaP p l e rm_X7_rotate s m args below meth c G 6 (gaZ below G (gQi Q) X args s rm_X7_rotate) 58 [some (.ref v0), some (gi v1), some (gi v2), some (.ref v3), some (.ref v4), some (gi v5)] [] h kc ks := by
    intro n
    induction n with
    | zero =>
      intro v0 v1 v2 v3 v4 v5 h kc ks hw
      exact hw.elim
    | succ n ih =>
      intro v0 v1 v2 v3 v4 v5 h kc ks hw
      unfold w_X7_rotate_L58 at hw
      refine g_iload V dX7_rotate_58 rfl rfl ?_
      refine g_aload V dX7_rotate_60 rfl rfl ?_
      obtain ⟨t9, vs, ha, ht, hw⟩ := hw
      refine gi_arraylength (t0 := 102) V (by simp [gaT]) ha ht dX7_rotate_62 rfl ?_
      generalize (vs.length : Int) = r1 at hw ⊢
      obtain ⟨hx0, hx1, hw⟩ := hw
      refine gi_icmp_ge V dX7_rotate_63 rfl rfl hx0 hx1 (fun q => ?_) (fun q => ?_)
      · have hw := ga_t q hw
        refine g_aload_n V dX7_rotate_86 rfl rfl ?_
        refine g_iload_n V dX7_rotate_87 rfl rfl ?_
        refine g_aload V dX7_rotate_88 rfl rfl ?_
        obtain ⟨hb, hw⟩ := hw
        obtain ⟨fb, hb⟩ := hb
        refine g_callV (C := RX7) (T := TX7) (N := 8) (st := []) V (k_X7_becomes hst hw) ww_6_64 ww_6_66 wp_2_10 ww_1_5 ww_6_67 hd_X7_becomes ⟨by decide, by decide⟩ rfl (by decide) hb rfl rfl (ga_cat rfl) dX7_rotate_90 (Nat.zero_le _) (Nat.zero_le _) rfl (gaX_all hT V) (ga_ki (fun r3 hp2 hw => ?_))
        exact g_iret V rfl rfl dX7_rotate_93 ⟨_, rfl, hw⟩
      · have hw := ga_f q hw
        refine g_aload V dX7_rotate_66 rfl rfl ?_
        refine g_iload V dX7_rotate_68 rfl rfl ?_
        refine g_aload_n V dX7_rotate_70 rfl rfl ?_
        refine g_iload V dX7_rotate_71 rfl rfl ?_
        refine g_iload_n V dX7_rotate_73 rfl rfl ?_
        refine gi_iadd V dX7_rotate_74 rfl ?_
        refine g_aload_n V dX7_rotate_75 rfl rfl ?_
        obtain ⟨t9, vs, ha, ht, hw⟩ := hw
        refine gi_arraylength (t0 := 102) V (by simp [gaT]) ha ht dX7_rotate_76 rfl ?_
        generalize (vs.length : Int) = r4 at hw ⊢
        obtain ⟨hx, h0, hw⟩ := hw
        refine gi_irem V dX7_rotate_77 hx h0 rfl ?_
        obtain ⟨t9, vs, r5, ha, ht, h0, h9, hv, hw⟩ := hw
        refine gi_iaload V ha ht h0 h9 hv dX7_rotate_78 rfl ?_
        obtain ⟨vs, ha, h0, h9, hi, hw⟩ := hw
        refine gi_iastore V ha h0 h9 hi dX7_rotate_79 rfl ?_
        generalize gaUp h v4 _ = hp6 at hw ⊢
        refine gi_iinc (lv2 := [some (.ref v0), some (gi v1), some (gi v2), some (.ref v3), some (.ref v4), some (gi (v5 + 1))]) V dX7_rotate_80 (by decide) rfl rfl rfl rfl ?_
        refine g_goto V dX7_rotate_83 rfl ?_
        exact ih v0 v1 v2 v3 v4 (v5 + 1) hp6 kc ks hw
  have h_X7_rotate_J33 : ∀ (v0 : Nat) (v1 : Int) (v2 : Int) (t0 : Nat) (t1 : Int) (h : gaH) (kc ks : Nat), w_X7_rotate_J33 Q v0 v1 v2 t0 t1 h kc ks → gaP p l e rm_X7_rotate s m args below meth c G 6 (gaZ below G (gQi Q) X args s rm_X7_rotate) 33 [some (.ref v0), some (gi v1), some (gi v2), none, none, none] [gi t1, .ref t0] h kc ks := by
    intro v0 v1 v2 t0 t1 h kc ks hw
    unfold w_X7_rotate_J33 at hw
    refine g_iconst V (Int32.ofInt 2) dX7_rotate_33 rfl rfl ?_
    obtain ⟨hb, hw⟩ := hw
    obtain ⟨fb, hb⟩ := hb
    refine g_callV (C := RX7) (T := TX7) (N := 8) (st := []) V (k_X7_refuse hst hw) ww_5_224 ww_5_226 wp_2_3 ww_1_5 ww_5_227 hd_X7_refuse ⟨by decide, by decide⟩ rfl (by decide) hb rfl rfl (ga_cat rfl) dX7_rotate_34 (Nat.zero_le _) (Nat.zero_le _) rfl (gaX_all hT V) (ga_ki (fun r2 hp1 hw => ?_))
    obtain ⟨hx0, hw⟩ := hw
    refine gi_if_eq V dX7_rotate_37 rfl rfl hx0 (fun q => ?_) (fun q => ?_)
    · have hw := ga_t q hw
      refine g_aload_n V dX7_rotate_42 rfl rfl ?_
      obtain ⟨fs, r3, ha, hv, hw⟩ := hw
      refine g_get (C := RX7) (T := TX7) (N := 8) V 0 rfl hin_RX7 (by decide) (by decide) ww_5_181 rfl ha hv dX7_rotate_43 rfl ?_
      refine g_iload_n V dX7_rotate_46 rfl rfl ?_
      obtain ⟨vs, r4, ha, h0, h9, hv, hw⟩ := hw
      refine gi_aaload V ha (by decide) h0 h9 hv dX7_rotate_47 rfl ?_
      refine g_astore_n (lv2 := [some (.ref v0), some (gi v1), some (gi v2), some (.ref r4), none, none]) V dX7_rotate_48 (by decide) rfl rfl rfl ?_
      refine g_aload_n V dX7_rotate_49 rfl rfl ?_
      obtain ⟨t9, vs, ha, ht, hw⟩ := hw
      refine gi_arraylength (t0 := 102) V (by simp [gaT]) ha ht dX7_rotate_50 rfl ?_
      generalize (vs.length : Int) = r5 at hw ⊢
      obtain ⟨h0, h9, hk, hj, hw⟩ := hw
      refine gi_newarray (atype := .int) (t := 102) V (by decide) rfl ww_1_109 h0 h9 dX7_rotate_51 rfl hk hj (fun o6 hf => ?_)
      obtain ⟨c8, s9, ec, es, hw⟩ := hw o6 hf
      refine ga_re ec es ?_
      generalize gaUp hp1 o6 _ = hp7 at hw ⊢
      refine g_astore (lv2 := [some (.ref v0), some (gi v1), some (gi v2), some (.ref r4), some (.ref o6), none]) V dX7_rotate_53 (by decide) rfl rfl rfl ?_
      refine g_iconst V (Int32.ofInt 0) dX7_rotate_55 rfl rfl ?_
      refine g_istore (lv2 := [some (.ref v0), some (gi v1), some (gi v2), some (.ref r4), some (.ref o6), some (gi 0)]) V dX7_rotate_56 (by decide) rfl rfl rfl ?_
      obtain ⟨z, hw⟩ := hw
      exact h_X7_rotate_L58 z v0 v1 v2 r4 o6 0 hp7 c8 s9 hw
    · have hw := ga_f q hw
      refine g_iconst V (Int32.ofInt 0) dX7_rotate_40 rfl rfl ?_
      exact g_iret V rfl rfl dX7_rotate_41 ⟨_, rfl, hw⟩
  show gaP p l e rm_X7_rotate s m args below meth c G 6 (gaZ below G (gQi Q) X args s rm_X7_rotate) 0 [some (.ref a0), some (gi a1), some (gi a2), none, none, none] [] h 1 64
  unfold w_X7_rotate at hw
  refine g_aload_n V dX7_rotate_0 rfl rfl ?_
  refine g_iload_n V dX7_rotate_1 rfl rfl ?_
  refine g_callS (st := [.ref a0]) V (k_X7_isNoSheet hst hw) ww_5_214 ww_5_215 ww_1_5 ww_5_216 hd_X7_isNoSheet ⟨by decide, by decide⟩ rfl rfl (ga_cat rfl) dX7_rotate_2 (Nat.zero_le _) (Nat.zero_le _) rfl (gaX_all hT V) (ga_ki (fun r2 hp1 hw => ?_))
  refine g_iconst V (Int32.ofInt 1) dX7_rotate_5 rfl rfl ?_
  obtain ⟨hb, hw⟩ := hw
  obtain ⟨fb, hb⟩ := hb
  refine g_callV (C := RX7) (T := TX7) (N := 8) (st := []) V (k_X7_start hst hw) ww_5_220 ww_5_222 wp_2_2 ww_1_5 ww_5_223 hd_X7_start ⟨by decide, by decide⟩ rfl (by decide) hb rfl rfl (ga_cat rfl) dX7_rotate_6 (Nat.zero_le _) (Nat.zero_le _) rfl (gaX_all hT V) (ga_ki (fun r4 hp3 hw => ?_))
  obtain ⟨hx0, hw⟩ := hw
  refine gi_if_ne V dX7_rotate_9 rfl rfl hx0 (fun q => ?_) (fun q => ?_)
  · have hw := ga_f q hw
    refine g_iconst V (Int32.ofInt 0) dX7_rotate_40 rfl rfl ?_
    exact g_iret V rfl rfl dX7_rotate_41 ⟨_, rfl, hw⟩
  · have hw := ga_t q hw
    refine g_aload_n V dX7_rotate_12 rfl rfl ?_
    refine g_iload_n V dX7_rotate_13 rfl rfl ?_
    refine g_iconst V (Int32.ofInt 0) dX7_rotate_14 rfl rfl ?_
    refine g_aload_n V dX7_rotate_15 rfl rfl ?_
    obtain ⟨fs, r5, ha, hv, hw⟩ := hw
    refine g_get (C := RX7) (T := TX7) (N := 8) V 0 rfl hin_RX7 (by decide) (by decide) ww_5_181 rfl ha hv dX7_rotate_16 rfl ?_
    refine g_iload_n V dX7_rotate_19 rfl rfl ?_
    obtain ⟨vs, r6, ha, h0, h9, hv, hw⟩ := hw
    refine gi_aaload V ha (by decide) h0 h9 hv dX7_rotate_20 rfl ?_
    obtain ⟨t9, vs, ha, ht, hw⟩ := hw
    refine gi_arraylength (t0 := 102) V (by simp [gaT]) ha ht dX7_rotate_21 rfl ?_
    generalize (vs.length : Int) = r7 at hw ⊢
    refine g_callS (st := [.ref a0]) V (k_X7_isIn hst hw) ww_5_217 ww_5_218 ww_1_5 ww_5_219 hd_X7_isIn ⟨by decide, by decide⟩ rfl rfl (ga_cat rfl) dX7_rotate_22 (Nat.zero_le _) (Nat.zero_le _) rfl (gaX_all hT V) (ga_ki (fun r9 hp8 hw => ?_))
    obtain ⟨hx0, hw⟩ := hw
    refine gi_if_ne V dX7_rotate_25 rfl rfl hx0 (fun q => ?_) (fun q => ?_)
    · have hw := ga_f q hw
      refine g_iconst V (Int32.ofInt 0) dX7_rotate_32 rfl rfl ?_
      exact h_X7_rotate_J33 a0 a1 a2 a0 0 hp8 1 64 hw
    · have hw := ga_t q hw
      refine g_iconst V (Int32.ofInt 1) dX7_rotate_28 rfl rfl ?_
      refine g_goto V dX7_rotate_29 rfl ?_
      exact h_X7_rotate_J33 a0 a1 a2 a0 1 hp8 1 64 hw
def w_X7_setSign_J69 (Q : Int → gaH → Prop) (t0 : Int) (h : gaH) (kc ks : Nat) : Prop := w_X7_one t0 h (fun r2 hp1 => Q r2 hp1)
def w_X7_setSign (a0 : Nat) (a1 : Int) (a2 : Int) (a3 : Int) (h : gaH) (Q : Int → gaH → Prop) : Prop := gHas h a0 7 ∧ w_X7_isNoPlace a0 a1 a2 h (fun r2 hp1 => gHas hp1 a0 7 ∧ w_X7_start a0 r2 1 hp1 (fun r4 hp3 => gR r4 ∧ (if r4 = 0 then gA hp3 a0 7 0 (fun r5 => gLA hp3 r5 112 a1 (fun r6 => gLI hp3 r6 102 a2 (fun r7 => gA hp3 a0 7 0 (fun r8 => gLA hp3 r8 112 a1 (fun r9 => gNA hp3 102 (gi 0) 1 2 192 (fun o10 hp11 c12 s13 => w_X7_one a3 hp11 (fun r15 hp14 => gSI hp14 o10 102 0 (gi r15) (fun hp16 => gCall 1 128 c12 s13 (fun c19 s20 => w_X7_spliced r9 a2 (a2 + 1) o10 hp16 (fun r18 hp17 => gHas hp17 a0 7 ∧ w_X7_comes a0 a1 r18 hp17 (fun r22 hp21 => w_X7_one a3 hp21 (fun r24 hp23 => gR r7 ∧ gR r24 ∧ (if r7 = r24 then w_X7_setSign_J69 Q 0 hp23 c19 s20 else w_X7_setSign_J69 Q 1 hp23 c19 s20))))))))))))) else Q 0 hp3)))
abbrev rm_X7_setSign : Room := { frames := 3, cells := 2, slots := 192, locals := 64 }
theorem hd_X7_setSign : yX7_setSign.cls = RX7 ∧ (yX7_setSign.cls ≠ "java/lang/invoke/MethodHandle" ∧ yX7_setSign.cls ≠ "java/lang/invoke/VarHandle" ∧ (parseMethodDescriptor yX7_setSign.desc).map (fun d => d.parameters.length) = some 3) := by decide +kernel
theorem k_X7_setSign {l : Launch} (hst : l.stackTraces = false) {G : gaG} {X : String → gaH → Prop} {a0 : Nat} {a1 : Int} {a2 : Int} {a3 : Int} {h : gaH} {Q : Int → gaH → Prop} (hw : w_X7_setSign a0 a1 a2 a3 h Q) : gaC l G yX7_setSign (gaM yX7_setSign cX7_setSign 5 ((some .int))) rm_X7_setSign [.ref a0, gi a1, gi a2, gi a3] h (gQi Q) X := by
  refine g_start (lv := [some (.ref a0), some (gi a1), some (gi a2), some (gi a3), none]) hpl_RX7 hst (Nat.le_of_ble_eq_true rfl) (gaArgs_pad (z := 1) rfl) ww_6_29 ?_
  intro p e s m args below meth c V hT
  have h_X7_setSign_J69 : ∀ (t0 : Int) (h : gaH) (kc ks : Nat), w_X7_setSign_J69 Q t0 h kc ks → gaP p l e rm_X7_setSign s m args below meth c G 5 (gaZ below G (gQi Q) X args s rm_X7_setSign) 69 [none, none, none, none, none] [gi t0] h kc ks := by
    intro t0 h kc ks hw
    unfold w_X7_setSign_J69 at hw
    refine g_callS (st := []) V (k_X7_one hst hw) ww_6_19 ww_6_20 ww_1_5 ww_6_21 hd_X7_one ⟨by decide, by decide⟩ rfl rfl (ga_cat rfl) dX7_setSign_69 (Nat.zero_le _) (Nat.zero_le _) rfl (gaX_all hT V) (ga_ki (fun r2 hp1 hw => ?_))
    exact g_iret V rfl rfl dX7_setSign_72 ⟨_, rfl, hw⟩
  show gaP p l e rm_X7_setSign s m args below meth c G 5 (gaZ below G (gQi Q) X args s rm_X7_setSign) 0 [some (.ref a0), some (gi a1), some (gi a2), some (gi a3), none] [] h 2 192
  unfold w_X7_setSign at hw
  refine g_aload_n V dX7_setSign_0 rfl rfl ?_
  refine g_aload_n V dX7_setSign_1 rfl rfl ?_
  refine g_iload_n V dX7_setSign_2 rfl rfl ?_
  refine g_iload_n V dX7_setSign_3 rfl rfl ?_
  obtain ⟨hb, hw⟩ := hw
  obtain ⟨fb, hb⟩ := hb
  refine g_callV (C := RX7) (T := TX7) (N := 8) (st := [.ref a0]) V (k_X7_isNoPlace hst hw) ww_6_30 ww_6_32 wp_2_8 ww_1_5 ww_6_33 hd_X7_isNoPlace ⟨by decide, by decide⟩ rfl (by decide) hb rfl rfl (ga_cat rfl) dX7_setSign_4 (Nat.zero_le _) (Nat.zero_le _) rfl (gaX_all hT V) (ga_ki (fun r2 hp1 hw => ?_))
  refine g_iconst V (Int32.ofInt 1) dX7_setSign_7 rfl rfl ?_
  obtain ⟨hb, hw⟩ := hw
  obtain ⟨fb, hb⟩ := hb
  refine g_callV (C := RX7) (T := TX7) (N := 8) (st := []) V (k_X7_start hst hw) ww_5_220 ww_5_222 wp_2_2 ww_1_5 ww_5_223 hd_X7_start ⟨by decide, by decide⟩ rfl (by decide) hb rfl rfl (ga_cat rfl) dX7_setSign_8 (Nat.zero_le _) (Nat.zero_le _) rfl (gaX_all hT V) (ga_ki (fun r4 hp3 hw => ?_))
  obtain ⟨hx0, hw⟩ := hw
  refine gi_if_eq V dX7_setSign_11 rfl rfl hx0 (fun q => ?_) (fun q => ?_)
  · have hw := ga_t q hw
    refine g_aload_n V dX7_setSign_16 rfl rfl ?_
    obtain ⟨fs, r5, ha, hv, hw⟩ := hw
    refine g_get (C := RX7) (T := TX7) (N := 8) V 0 rfl hin_RX7 (by decide) (by decide) ww_5_181 rfl ha hv dX7_setSign_17 rfl ?_
    refine g_iload_n V dX7_setSign_20 rfl rfl ?_
    obtain ⟨vs, r6, ha, h0, h9, hv, hw⟩ := hw
    refine gi_aaload V ha (by decide) h0 h9 hv dX7_setSign_21 rfl ?_
    refine g_iload_n V dX7_setSign_22 rfl rfl ?_
    obtain ⟨t9, vs, r7, ha, ht, h0, h9, hv, hw⟩ := hw
    refine gi_iaload V ha ht h0 h9 hv dX7_setSign_23 rfl ?_
    refine g_istore (lv2 := [some (.ref a0), some (gi a1), some (gi a2), some (gi a3), some (gi r7)]) V dX7_setSign_24 (by decide) rfl rfl rfl ?_
    refine g_aload_n V dX7_setSign_26 rfl rfl ?_
    refine g_iload_n V dX7_setSign_27 rfl rfl ?_
    refine g_aload_n V dX7_setSign_28 rfl rfl ?_
    obtain ⟨fs, r8, ha, hv, hw⟩ := hw
    refine g_get (C := RX7) (T := TX7) (N := 8) V 0 rfl hin_RX7 (by decide) (by decide) ww_5_181 rfl ha hv dX7_setSign_29 rfl ?_
    refine g_iload_n V dX7_setSign_32 rfl rfl ?_
    obtain ⟨vs, r9, ha, h0, h9, hv, hw⟩ := hw
    refine gi_aaload V ha (by decide) h0 h9 hv dX7_setSign_33 rfl ?_
    refine g_iload_n V dX7_setSign_34 rfl rfl ?_
    refine g_iload_n V dX7_setSign_35 rfl rfl ?_
    refine g_iconst V (Int32.ofInt 1) dX7_setSign_36 rfl rfl ?_
    refine gi_iadd V dX7_setSign_37 rfl ?_
    refine g_iconst V (Int32.ofInt 1) dX7_setSign_38 rfl rfl ?_
    obtain ⟨h0, h9, hk, hj, hw⟩ := hw
    refine gi_newarray (atype := .int) (t := 102) V (by decide) rfl ww_1_109 h0 h9 dX7_setSign_39 rfl hk hj (fun o10 hf => ?_)
    obtain ⟨c12, s13, ec, es, hw⟩ := hw o10 hf
    refine ga_re ec es ?_
    generalize gaUp hp3 o10 _ = hp11 at hw ⊢
    refine g_dup V dX7_setSign_41 rfl rfl ?_
    refine g_iconst V (Int32.ofInt 0) dX7_setSign_42 rfl rfl ?_
    refine g_iload_n V dX7_setSign_43 rfl rfl ?_
    refine g_callS (st := [gi 0, .ref o10, .ref o10, gi (a2 + 1), gi a2, .ref r9, gi a1, .ref a0]) V (k_X7_one hst hw) ww_6_19 ww_6_20 ww_1_5 ww_6_21 hd_X7_one ⟨by decide, by decide⟩ rfl rfl (ga_cat rfl) dX7_setSign_44 (Nat.zero_le _) (Nat.zero_le _) rfl (gaX_all hT V) (ga_ki (fun r15 hp14 hw => ?_))
    obtain ⟨vs, ha, h0, h9, hi, hw⟩ := hw
    refine gi_iastore V ha h0 h9 hi dX7_setSign_47 rfl ?_
    generalize gaUp hp14 o10 _ = hp16 at hw ⊢
    obtain ⟨hk, hj, c19, s20, ec, es, hw⟩ := hw
    refine g_callS (st := [gi a1, .ref a0]) V (k_X7_spliced hst hw) ww_6_8 ww_6_9 ww_1_5 ww_6_10 hd_X7_spliced ⟨by decide, by decide⟩ rfl rfl (ga_cat rfl) dX7_setSign_48 hk hj rfl (gaX_all hT V) (ga_ka (fun r18 hp17 hw => ?_))
    refine ga_re ec es ?_
    obtain ⟨hb, hw⟩ := hw
    obtain ⟨fb, hb⟩ := hb
    refine g_callV (C := RX7) (T := TX7) (N := 8) (st := []) V (k_X7_comes hst hw) ww_5_232 ww_5_234 wp_2_4 ww_1_5 ww_5_235 hd_X7_comes ⟨by decide, by decide⟩ rfl (by decide) hb rfl rfl (ga_cat rfl) dX7_setSign_51 (Nat.zero_le _) (Nat.zero_le _) rfl (gaX_all hT V) (ga_ki (fun r22 hp21 hw => ?_))
    refine g_pop V dX7_setSign_54 rfl rfl ?_
    refine g_iload V dX7_setSign_55 rfl rfl ?_
    refine g_iload_n V dX7_setSign_57 rfl rfl ?_
    refine g_callS (st := [gi r7]) V (k_X7_one hst hw) ww_6_19 ww_6_20 ww_1_5 ww_6_21 hd_X7_one ⟨by decide, by decide⟩ rfl rfl (ga_cat rfl) dX7_setSign_58 (Nat.zero_le _) (Nat.zero_le _) rfl (gaX_all hT V) (ga_ki (fun r24 hp23 hw => ?_))
    obtain ⟨hx0, hx1, hw⟩ := hw
    refine gi_icmp_eq V dX7_setSign_61 rfl rfl hx0 hx1 (fun q => ?_) (fun q => ?_)
    · have hw := ga_t q hw
      refine g_iconst V (Int32.ofInt 0) dX7_setSign_68 rfl rfl ?_
      refine g_less (bs := [false, false, false, false, false]) (lv2 := [none, none, none, none, none]) rfl ?_
      exact h_X7_setSign_J69 0 hp23 c19 s20 hw
    · have hw := ga_f q hw
      refine g_iconst V (Int32.ofInt 1) dX7_setSign_64 rfl rfl ?_
      refine g_goto V dX7_setSign_65 rfl ?_
      refine g_less (bs := [false, false, false, false, false]) (lv2 := [none, none, none, none, none]) rfl ?_
      exact h_X7_setSign_J69 1 hp23 c19 s20 hw
  · have hw := ga_f q hw
    refine g_iconst V (Int32.ofInt 0) dX7_setSign_14 rfl rfl ?_
    exact g_iret V rfl rfl dX7_setSign_15 ⟨_, rfl, hw⟩
def w_X7_shrink_J27 (Q : Int → gaH → Prop) (v0 : Nat) (v1 : Int) (t0 : Nat) (t1 : Int) (h : gaH) : Prop := gHas h t0 7 ∧ w_X7_refuse t0 t1 2 h (fun r2 hp1 => gR r2 ∧ (if r2 = 0 then gA hp1 v0 7 2 (fun r3 => gLI hp1 r3 102 v1 (fun r4 => gSI hp1 r3 102 v1 (gi (r4 - 1)) (fun hp5 => gI hp5 v0 7 4 (fun r6 => gPF hp5 v0 7 4 (gi (r6 + 1)) (fun hp7 => gA hp7 v0 7 1 (fun r8 => gLA hp7 r8 112 v1 (fun r9 => gA hp7 v0 7 2 (fun r10 => gLI hp7 r10 102 v1 (fun r11 => gLI hp7 r9 102 r11 (fun r12 => Q r12 hp7)))))))))) else Q 0 hp1))
def w_X7_shrink (a0 : Nat) (a1 : Int) (h : gaH) (Q : Int → gaH → Prop) : Prop := w_X7_isNoGrowth a1 h (fun r2 hp1 => gHas hp1 a0 7 ∧ w_X7_start a0 r2 1 hp1 (fun r4 hp3 => gR r4 ∧ (if r4 = 0 then gA hp3 a0 7 2 (fun r5 => gLI hp3 r5 102 a1 (fun r6 => gR r6 ∧ (if r6 = 0 then w_X7_shrink_J27 Q a0 a1 a0 1 hp3 else w_X7_shrink_J27 Q a0 a1 a0 0 hp3))) else Q 0 hp3)))
abbrev rm_X7_shrink : Room := { frames := 2, cells := 0, slots := 0, locals := 44 }
theorem hd_X7_shrink : yX7_shrink.cls = RX7 ∧ (yX7_shrink.cls ≠ "java/lang/invoke/MethodHandle" ∧ yX7_shrink.cls ≠ "java/lang/invoke/VarHandle" ∧ (parseMethodDescriptor yX7_shrink.desc).map (fun d => d.parameters.length) = some 1) := by decide +kernel
theorem k_X7_shrink {l : Launch} (hst : l.stackTraces = false) {G : gaG} {X : String → gaH → Prop} {a0 : Nat} {a1 : Int} {h : gaH} {Q : Int → gaH → Prop} (hw : w_X7_shrink a0 a1 h Q) : gaC l G yX7_shrink (gaM yX7_shrink cX7_shrink 2 ((some .int))) rm_X7_shrink [.ref a0, gi a1] h (gQi Q) X := by
  refine g_start (lv := [some (.ref a0), some (gi a1)]) hpl_RX7 hst (Nat.le_of_ble_eq_true rfl) (gaArgs_pad (z := 0) rfl) ww_6_150 ?_
  intro p e s m args below meth c V hT
  have h_X7_shrink_J27 : ∀ (v0 : Nat) (v1 : Int) (t0 : Nat) (t1 : Int) (h : gaH), w_X7_shrink_J27 Q v0 v1 t0 t1 h → gaP p l e rm_X7_shrink s m args below meth c G 2 (gaZ below G (gQi Q) X args s rm_X7_shrink) 27 [some (.ref v0), some (gi v1)] [gi t1, .ref t0] h 0 0 := by
    intro v0 v1 t0 t1 h hw
    unfold w_X7_shrink_J27 at hw
    refine g_iconst V (Int32.ofInt 2) dX7_shrink_27 rfl rfl ?_
    obtain ⟨hb, hw⟩ := hw
    obtain ⟨fb, hb⟩ := hb
    refine g_callV (C := RX7) (T := TX7) (N := 8) (st := []) V (k_X7_refuse hst hw) ww_5_224 ww_5_226 wp_2_3 ww_1_5 ww_5_227 hd_X7_refuse ⟨by decide, by decide⟩ rfl (by decide) hb rfl rfl (ga_cat rfl) dX7_shrink_28 (Nat.zero_le _) (Nat.zero_le _) rfl (gaX_all hT V) (ga_ki (fun r2 hp1 hw => ?_))
    obtain ⟨hx0, hw⟩ := hw
    refine gi_if_eq V dX7_shrink_31 rfl rfl hx0 (fun q => ?_) (fun q => ?_)
    · have hw := ga_t q hw
      refine g_aload_n V dX7_shrink_36 rfl rfl ?_
      obtain ⟨fs, r3, ha, hv, hw⟩ := hw
      refine g_get (C := RX7) (T := TX7) (N := 8) V 2 rfl hin_RX7 (by decide) (by decide) ww_5_183 rfl ha hv dX7_shrink_37 rfl ?_
      refine g_iload_n V dX7_shrink_40 rfl rfl ?_
      refine g_dup2 V dX7_shrink_41 rfl rfl rfl ?_
      obtain ⟨t9, vs, r4, ha, ht, h0, h9, hv, hw⟩ := hw
      refine gi_iaload V ha ht h0 h9 hv dX7_shrink_42 rfl ?_
      refine g_iconst V (Int32.ofInt 1) dX7_shrink_43 rfl rfl ?_
      refine gi_isub V dX7_shrink_44 rfl ?_
      obtain ⟨vs, ha, h0, h9, hi, hw⟩ := hw
      refine gi_iastore V ha h0 h9 hi dX7_shrink_45 rfl ?_
      generalize gaUp hp1 r3 _ = hp5 at hw ⊢
      refine g_aload_n V dX7_shrink_46 rfl rfl ?_
      refine g_dup V dX7_shrink_47 rfl rfl ?_
      obtain ⟨fs, r6, ha, hv, hw⟩ := hw
      refine g_get (C := RX7) (T := TX7) (N := 8) V 4 rfl hin_RX7 (by decide) (by decide) ww_5_185 rfl ha hv dX7_shrink_48 rfl ?_
      refine g_iconst V (Int32.ofInt 1) dX7_shrink_51 rfl rfl ?_
      refine gi_iadd V dX7_shrink_52 rfl ?_
      obtain ⟨fs, ha, hl, hw⟩ := hw
      refine g_put (C := RX7) (T := TX7) (N := 8) V 4 tyX7 tyX7_ok nmX7 rfl hin_RX7 (by decide) (by decide) ww_5_185 rfl rfl rfl rfl ha hl dX7_shrink_53 rfl ?_
      generalize gaUp hp5 v0 _ = hp7 at hw ⊢
      refine g_aload_n V dX7_shrink_56 rfl rfl ?_
      obtain ⟨fs, r8, ha, hv, hw⟩ := hw
      refine g_get (C := RX7) (T := TX7) (N := 8) V 1 rfl hin_RX7 (by decide) (by decide) ww_5_182 rfl ha hv dX7_shrink_57 rfl ?_
      refine g_iload_n V dX7_shrink_60 rfl rfl ?_
      obtain ⟨vs, r9, ha, h0, h9, hv, hw⟩ := hw
      refine gi_aaload V ha (by decide) h0 h9 hv dX7_shrink_61 rfl ?_
      refine g_aload_n V dX7_shrink_62 rfl rfl ?_
      obtain ⟨fs, r10, ha, hv, hw⟩ := hw
      refine g_get (C := RX7) (T := TX7) (N := 8) V 2 rfl hin_RX7 (by decide) (by decide) ww_5_183 rfl ha hv dX7_shrink_63 rfl ?_
      refine g_iload_n V dX7_shrink_66 rfl rfl ?_
      obtain ⟨t9, vs, r11, ha, ht, h0, h9, hv, hw⟩ := hw
      refine gi_iaload V ha ht h0 h9 hv dX7_shrink_67 rfl ?_
      obtain ⟨t9, vs, r12, ha, ht, h0, h9, hv, hw⟩ := hw
      refine gi_iaload V ha ht h0 h9 hv dX7_shrink_68 rfl ?_
      exact g_iret V rfl rfl dX7_shrink_69 ⟨_, rfl, hw⟩
    · have hw := ga_f q hw
      refine g_iconst V (Int32.ofInt 0) dX7_shrink_34 rfl rfl ?_
      exact g_iret V rfl rfl dX7_shrink_35 ⟨_, rfl, hw⟩
  unfold w_X7_shrink at hw
  refine g_aload_n V dX7_shrink_0 rfl rfl ?_
  refine g_iload_n V dX7_shrink_1 rfl rfl ?_
  refine g_callS (st := [.ref a0]) V (k_X7_isNoGrowth hst hw) ww_6_110 ww_6_111 ww_1_5 ww_6_112 hd_X7_isNoGrowth ⟨by decide, by decide⟩ rfl rfl (ga_cat rfl) dX7_shrink_2 (Nat.zero_le _) (Nat.zero_le _) rfl (gaX_all hT V) (ga_ki (fun r2 hp1 hw => ?_))
  refine g_iconst V (Int32.ofInt 1) dX7_shrink_5 rfl rfl ?_
  obtain ⟨hb, hw⟩ := hw
  obtain ⟨fb, hb⟩ := hb
  refine g_callV (C := RX7) (T := TX7) (N := 8) (st := []) V (k_X7_start hst hw) ww_5_220 ww_5_222 wp_2_2 ww_1_5 ww_5_223 hd_X7_start ⟨by decide, by decide⟩ rfl (by decide) hb rfl rfl (ga_cat rfl) dX7_shrink_6 (Nat.zero_le _) (Nat.zero_le _) rfl (gaX_all hT V) (ga_ki (fun r4 hp3 hw => ?_))
  obtain ⟨hx0, hw⟩ := hw
  refine gi_if_ne V dX7_shrink_9 rfl rfl hx0 (fun q => ?_) (fun q => ?_)
  · have hw := ga_f q hw
    refine g_iconst V (Int32.ofInt 0) dX7_shrink_34 rfl rfl ?_
    exact g_iret V rfl rfl dX7_shrink_35 ⟨_, rfl, hw⟩
  · have hw := ga_t q hw
    refine g_aload_n V dX7_shrink_12 rfl rfl ?_
    refine g_aload_n V dX7_shrink_13 rfl rfl ?_
    obtain ⟨fs, r5, ha, hv, hw⟩ := hw
    refine g_get (C := RX7) (T := TX7) (N := 8) V 2 rfl hin_RX7 (by decide) (by decide) ww_5_183 rfl ha hv dX7_shrink_14 rfl ?_
    refine g_iload_n V dX7_shrink_17 rfl rfl ?_
    obtain ⟨t9, vs, r6, ha, ht, h0, h9, hv, hw⟩ := hw
    refine gi_iaload V ha ht h0 h9 hv dX7_shrink_18 rfl ?_
    obtain ⟨hx0, hw⟩ := hw
    refine gi_if_ne V dX7_shrink_19 rfl rfl hx0 (fun q => ?_) (fun q => ?_)
    · have hw := ga_f q hw
      refine g_iconst V (Int32.ofInt 0) dX7_shrink_26 rfl rfl ?_
      exact h_X7_shrink_J27 a0 a1 a0 0 hp3 hw
    · have hw := ga_t q hw
      refine g_iconst V (Int32.ofInt 1) dX7_shrink_22 rfl rfl ?_
      refine g_goto V dX7_shrink_23 rfl ?_
      exact h_X7_shrink_J27 a0 a1 a0 1 hp3 hw
def w_X7_size (a0 : Nat) (a1 : Int) (a2 : Int) (h : gaH) (Q : Int → gaH → Prop) : Prop := w_X7_isNoGrowth a1 h (fun r2 hp1 => gHas hp1 a0 7 ∧ w_X7_start a0 r2 1 hp1 (fun r4 hp3 => gR r4 ∧ (if r4 = 0 then gHas hp3 a0 7 ∧ gCall 67 4288 67 4288 (fun c7 s8 => w_X7_word a0 a1 a2 hp3 (fun r6 hp5 => gAL hp5 r6 102 (fun r9 => Q r9 hp5))) else Q 0 hp3)))
abbrev rm_X7_size : Room := { frames := 3, cells := 67, slots := 4288, locals := 71 }
theorem hd_X7_size : yX7_size.cls = RX7 ∧ (yX7_size.cls ≠ "java/lang/invoke/MethodHandle" ∧ yX7_size.cls ≠ "java/lang/invoke/VarHandle" ∧ (parseMethodDescriptor yX7_size.desc).map (fun d => d.parameters.length) = some 2) := by decide +kernel
theorem k_X7_size {l : Launch} (hst : l.stackTraces = false) {G : gaG} {X : String → gaH → Prop} {a0 : Nat} {a1 : Int} {a2 : Int} {h : gaH} {Q : Int → gaH → Prop} (hw : w_X7_size a0 a1 a2 h Q) : gaC l G yX7_size (gaM yX7_size cX7_size 3 ((some .int))) rm_X7_size [.ref a0, gi a1, gi a2] h (gQi Q) X := by
  refine g_start (lv := [some (.ref a0), some (gi a1), some (gi a2)]) hpl_RX7 hst (Nat.le_of_ble_eq_true rfl) (gaArgs_pad (z := 0) rfl) ww_7_26 ?_
  intro p e s m args below meth c V hT
  show gaP p l e rm_X7_size s m args below meth c G 3 (gaZ below G (gQi Q) X args s rm_X7_size) 0 [some (.ref a0), some (gi a1), some (gi a2)] [] h 67 4288
  unfold w_X7_size at hw
  refine g_aload_n V dX7_size_0 rfl rfl ?_
  refine g_iload_n V dX7_size_1 rfl rfl ?_
  refine g_callS (st := [.ref a0]) V (k_X7_isNoGrowth hst hw) ww_6_110 ww_6_111 ww_1_5 ww_6_112 hd_X7_isNoGrowth ⟨by decide, by decide⟩ rfl rfl (ga_cat rfl) dX7_size_2 (Nat.zero_le _) (Nat.zero_le _) rfl (gaX_all hT V) (ga_ki (fun r2 hp1 hw => ?_))
  refine g_iconst V (Int32.ofInt 1) dX7_size_5 rfl rfl ?_
  obtain ⟨hb, hw⟩ := hw
  obtain ⟨fb, hb⟩ := hb
  refine g_callV (C := RX7) (T := TX7) (N := 8) (st := []) V (k_X7_start hst hw) ww_5_220 ww_5_222 wp_2_2 ww_1_5 ww_5_223 hd_X7_start ⟨by decide, by decide⟩ rfl (by decide) hb rfl rfl (ga_cat rfl) dX7_size_6 (Nat.zero_le _) (Nat.zero_le _) rfl (gaX_all hT V) (ga_ki (fun r4 hp3 hw => ?_))
  obtain ⟨hx0, hw⟩ := hw
  refine gi_if_eq V dX7_size_9 rfl rfl hx0 (fun q => ?_) (fun q => ?_)
  · have hw := ga_t q hw
    refine g_aload_n V dX7_size_16 rfl rfl ?_
    refine g_iload_n V dX7_size_17 rfl rfl ?_
    refine g_iload_n V dX7_size_18 rfl rfl ?_
    obtain ⟨hb, hw⟩ := hw
    obtain ⟨fb, hb⟩ := hb
    obtain ⟨hk, hj, c7, s8, ec, es, hw⟩ := hw
    refine g_callV (C := RX7) (T := TX7) (N := 8) (st := []) V (k_X7_word hst hw) ww_7_19 ww_7_21 wp_2_15 ww_1_5 ww_7_22 hd_X7_word ⟨by decide, by decide⟩ rfl (by decide) hb rfl rfl (ga_cat rfl) dX7_size_19 hk hj rfl (gaX_all hT V) (ga_ka (fun r6 hp5 hw => ?_))
    refine ga_re ec es ?_
    obtain ⟨t9, vs, ha, ht, hw⟩ := hw
    refine gi_arraylength (t0 := 102) V (by simp [gaT]) ha ht dX7_size_22 rfl ?_
    generalize (vs.length : Int) = r9 at hw ⊢
    exact g_iret V rfl rfl dX7_size_23 ⟨_, rfl, hw⟩
  · have hw := ga_f q hw
    refine g_iconst V (Int32.ofInt 0) dX7_size_12 rfl rfl ?_
    refine g_goto V dX7_size_13 rfl ?_
    exact g_iret V rfl rfl dX7_size_23 ⟨_, rfl, hw⟩
def w_X7_spread_L77 (Q : Int → gaH → Prop) (K59 : Int → Int → Nat → Int → Int → Int → gaH → Prop) : Nat → (Int → Int → Nat → Int → Int → Int → Int → Int → gaH → Prop)
  | 0 => fun _ _ _ _ _ _ _ _ _ => False
  | n + 1 => fun v2 v3 v4 v5 v6 v7 v8 v9 h => gR v9 ∧ gR v2 ∧ (if v2 ≤ v9 then gR v5 ∧ gR v8 ∧ (gR v6 ∧ gR v8 ∧ (K59 v2 v3 v4 (max v5 v8) (min v6 v8) (v7 + 1) h)) else gAL h v4 102 (fun r1 => gR r1 ∧ ¬ r1 = 0 ∧ (gLI h v4 102 (gRem (v7 + v9) r1) (fun r2 => w_X7_spread_L77 Q K59 n v2 v3 v4 v5 v6 v7 (v8 + r2) (v9 + 1) h))))
def w_X7_spread_L59 (Q : Int → gaH → Prop) : Nat → (Int → Int → Nat → Int → Int → Int → gaH → Prop)
  | 0 => fun _ _ _ _ _ _ _ => False
  | n + 1 => fun v2 v3 v4 v5 v6 v7 h => w_X7_parts v4 v2 v3 h (fun r2 hp1 => gR v7 ∧ gR r2 ∧ (if r2 ≤ v7 then Q (v5 - v6) hp1 else ∃ z, w_X7_spread_L77 Q (w_X7_spread_L59 Q n) z v2 v3 v4 v5 v6 v7 0 0 hp1))
def w_X7_spread_J33 (Q : Int → gaH → Prop) (v0 : Nat) (v1 : Int) (v2 : Int) (v3 : Int) (t0 : Nat) (t1 : Int) (h : gaH) : Prop := gHas h t0 7 ∧ w_X7_refuse t0 t1 2 h (fun r2 hp1 => gR r2 ∧ (if r2 = 0 then gA hp1 v0 7 0 (fun r3 => gLA hp1 r3 112 v1 (fun r4 => ∃ z, w_X7_spread_L59 Q z v2 v3 r4 0 v2 0 hp1)) else Q 0 hp1))
def w_X7_spread (a0 : Nat) (a1 : Int) (a2 : Int) (a3 : Int) (h : gaH) (Q : Int → gaH → Prop) : Prop := w_X7_isNoSheet a1 h (fun r2 hp1 => gHas hp1 a0 7 ∧ w_X7_start a0 r2 1 hp1 (fun r4 hp3 => gR r4 ∧ (if r4 = 0 then gA hp3 a0 7 0 (fun r5 => gLA hp3 r5 112 a1 (fun r6 => gAL hp3 r6 102 (fun r7 => w_X7_isIn a2 0 r7 hp3 (fun r9 hp8 => gR r9 ∧ (if r9 = 0 then w_X7_spread_J33 Q a0 a1 a2 a3 a0 1 hp8 else w_X7_spread_J33 Q a0 a1 a2 a3 a0 0 hp8))))) else Q 0 hp3)))
abbrev rm_X7_spread : Room := { frames := 2, cells := 0, slots := 0, locals := 60 }
theorem hd_X7_spread : yX7_spread.cls = RX7 ∧ (yX7_spread.cls ≠ "java/lang/invoke/MethodHandle" ∧ yX7_spread.cls ≠ "java/lang/invoke/VarHandle" ∧ (parseMethodDescriptor yX7_spread.desc).map (fun d => d.parameters.length) = some 3) := by decide +kernel
theorem k_X7_spread {l : Launch} (hst : l.stackTraces = false) {G : gaG} {X : String → gaH → Prop} {a0 : Nat} {a1 : Int} {a2 : Int} {a3 : Int} {h : gaH} {Q : Int → gaH → Prop} (hw : w_X7_spread a0 a1 a2 a3 h Q) : gaC l G yX7_spread (gaM yX7_spread cX7_spread 10 ((some .int))) rm_X7_spread [.ref a0, gi a1, gi a2, gi a3] h (gQi Q) X := by
  refine g_start (lv := [some (.ref a0), some (gi a1), some (gi a2), some (gi a3), none, none, none, none, none, none]) hpl_RX7 hst (Nat.le_of_ble_eq_true rfl) (gaArgs_pad (z := 6) rfl) ww_6_201 ?_
  intro p e s m args below meth c V hT
  have h_X7_spread_L77 : ∀ (K59 : Int → Int → Nat → Int → Int → Int → gaH → Prop), ∀ (hK59 : ∀ (v2 : Int) (v3 : Int) (v4 : Nat) (v5 : Int) (v6 : Int) (v7 : Int) (h : gaH), K59 v2 v3 v4 v5 v6 v7 h → gaP p l e rm_X7_spread s m args below meth c G 10 (gaZ below G (gQi Q) X args s rm_X7_spread) 59 [none, none, some (gi v2), some (gi v3), some (.ref v4), some (gi v5), some (gi v6), some (gi v7), none, none] [] h 0 0), ∀ (n : Nat), ∀ (v2 : Int) (v3 : Int) (v4 : Nat) (v5 : Int) (v6 : Int) (v7 : Int) (v8 : Int) (v9 : Int) (h : gaH), w_X7_spread_L77 Q K59 n v2 v3 v4 v5 v6 v7 v8 v9 h → gaP p l e rm_X7_spread s m args below meth c G 10 (gaZ below G (gQi Q) X args s rm_X7_spread) 77 [none, none, some (gi v2), some (gi v3), some (.ref v4), some (gi v5), some (gi v6), some (gi v7), some (gi v8), some (gi v9)] [] h 0 0 := by
    intro K59 hK59
    intro n
    induction n with
    | zero =>
      intro v2 v3 v4 v5 v6 v7 v8 v9 h hw
      exact hw.elim
    | succ n ih =>
      intro v2 v3 v4 v5 v6 v7 v8 v9 h hw
      unfold w_X7_spread_L77 at hw
      refine g_iload V dX7_spread_77 rfl rfl ?_
      refine g_iload_n V dX7_spread_79 rfl rfl ?_
      obtain ⟨hx0, hx1, hw⟩ := hw
      refine gi_icmp_ge V dX7_spread_80 rfl rfl hx0 hx1 (fun q => ?_) (fun q => ?_)
      · have hw := ga_t q hw
        refine g_iload V dX7_spread_106 rfl rfl ?_
        refine g_iload V dX7_spread_108 rfl rfl ?_
        obtain ⟨hx0, hx1, hw⟩ := hw
        refine gi_mmax V ww_6_205 ww_2_118 ww_1_13 ww_2_119 (by decide) (by decide) (ga_cat rfl) hx0 hx1 dX7_spread_110 rfl ?_
        refine g_istore (lv2 := [none, none, some (gi v2), some (gi v3), some (.ref v4), some (gi (max v5 v8)), some (gi v6), some (gi v7), some (gi v8), some (gi v9)]) V dX7_spread_113 (by decide) rfl rfl rfl ?_
        refine g_iload V dX7_spread_115 rfl rfl ?_
        refine g_iload V dX7_spread_117 rfl rfl ?_
        obtain ⟨hx0, hx1, hw⟩ := hw
        refine gi_mmin V ww_6_206 ww_2_4 ww_1_13 ww_2_5 (by decide) (by decide) (ga_cat rfl) hx0 hx1 dX7_spread_119 rfl ?_
        refine g_istore (lv2 := [none, none, some (gi v2), some (gi v3), some (.ref v4), some (gi (max v5 v8)), some (gi (min v6 v8)), some (gi v7), some (gi v8), some (gi v9)]) V dX7_spread_122 (by decide) rfl rfl rfl ?_
        refine gi_iinc (lv2 := [none, none, some (gi v2), some (gi v3), some (.ref v4), some (gi (max v5 v8)), some (gi (min v6 v8)), some (gi (v7 + 1)), some (gi v8), some (gi v9)]) V dX7_spread_124 (by decide) rfl rfl rfl rfl ?_
        refine g_goto V dX7_spread_127 rfl ?_
        refine g_less (bs := [true, true, true, true, true, true, true, true, false, false]) (lv2 := [none, none, some (gi v2), some (gi v3), some (.ref v4), some (gi (max v5 v8)), some (gi (min v6 v8)), some (gi (v7 + 1)), none, none]) rfl ?_
        exact hK59 v2 v3 v4 (max v5 v8) (min v6 v8) (v7 + 1) h hw
      · have hw := ga_f q hw
        refine g_iload V dX7_spread_83 rfl rfl ?_
        refine g_aload V dX7_spread_85 rfl rfl ?_
        refine g_iload V dX7_spread_87 rfl rfl ?_
        refine g_iload V dX7_spread_89 rfl rfl ?_
        refine gi_iadd V dX7_spread_91 rfl ?_
        refine g_aload V dX7_spread_92 rfl rfl ?_
        obtain ⟨t9, vs, ha, ht, hw⟩ := hw
        refine gi_arraylength (t0 := 102) V (by simp [gaT]) ha ht dX7_spread_94 rfl ?_
        generalize (vs.length : Int) = r1 at hw ⊢
        obtain ⟨hx, h0, hw⟩ := hw
        refine gi_irem V dX7_spread_95 hx h0 rfl ?_
        obtain ⟨t9, vs, r2, ha, ht, h0, h9, hv, hw⟩ := hw
        refine gi_iaload V ha ht h0 h9 hv dX7_spread_96 rfl ?_
        refine gi_iadd V dX7_spread_97 rfl ?_
        refine g_istore (lv2 := [none, none, some (gi v2), some (gi v3), some (.ref v4), some (gi v5), some (gi v6), some (gi v7), some (gi (v8 + r2)), some (gi v9)]) V dX7_spread_98 (by decide) rfl rfl rfl ?_
        refine gi_iinc (lv2 := [none, none, some (gi v2), some (gi v3), some (.ref v4), some (gi v5), some (gi v6), some (gi v7), some (gi (v8 + r2)), some (gi (v9 + 1))]) V dX7_spread_100 (by decide) rfl rfl rfl rfl ?_
        refine g_goto V dX7_spread_103 rfl ?_
        exact ih v2 v3 v4 v5 v6 v7 (v8 + r2) (v9 + 1) h hw
  have h_X7_spread_L59 : ∀ (n : Nat), ∀ (v2 : Int) (v3 : Int) (v4 : Nat) (v5 : Int) (v6 : Int) (v7 : Int) (h : gaH), w_X7_spread_L59 Q n v2 v3 v4 v5 v6 v7 h → gaP p l e rm_X7_spread s m args below meth c G 10 (gaZ below G (gQi Q) X args s rm_X7_spread) 59 [none, none, some (gi v2), some (gi v3), some (.ref v4), some (gi v5), some (gi v6), some (gi v7), none, none] [] h 0 0 := by
    intro n
    induction n with
    | zero =>
      intro v2 v3 v4 v5 v6 v7 h hw
      exact hw.elim
    | succ n ih =>
      intro v2 v3 v4 v5 v6 v7 h hw
      unfold w_X7_spread_L59 at hw
      refine g_iload V dX7_spread_59 rfl rfl ?_
      refine g_aload V dX7_spread_61 rfl rfl ?_
      refine g_iload_n V dX7_spread_63 rfl rfl ?_
      refine g_iload_n V dX7_spread_64 rfl rfl ?_
      refine g_callS (st := [gi v7]) V (k_X7_parts hst hw) ww_6_202 ww_6_203 ww_1_5 ww_6_204 hd_X7_parts ⟨by decide, by decide⟩ rfl rfl (ga_cat rfl) dX7_spread_65 (Nat.zero_le _) (Nat.zero_le _) rfl (gaX_all hT V) (ga_ki (fun r2 hp1 hw => ?_))
      obtain ⟨hx0, hx1, hw⟩ := hw
      refine gi_icmp_ge V dX7_spread_68 rfl rfl hx0 hx1 (fun q => ?_) (fun q => ?_)
      · have hw := ga_t q hw
        refine g_iload V dX7_spread_130 rfl rfl ?_
        refine g_iload V dX7_spread_132 rfl rfl ?_
        refine gi_isub V dX7_spread_134 rfl ?_
        exact g_iret V rfl rfl dX7_spread_135 ⟨_, rfl, hw⟩
      · have hw := ga_f q hw
        refine g_iconst V (Int32.ofInt 0) dX7_spread_71 rfl rfl ?_
        refine g_istore (lv2 := [none, none, some (gi v2), some (gi v3), some (.ref v4), some (gi v5), some (gi v6), some (gi v7), some (gi 0), none]) V dX7_spread_72 (by decide) rfl rfl rfl ?_
        refine g_iconst V (Int32.ofInt 0) dX7_spread_74 rfl rfl ?_
        refine g_istore (lv2 := [none, none, some (gi v2), some (gi v3), some (.ref v4), some (gi v5), some (gi v6), some (gi v7), some (gi 0), some (gi 0)]) V dX7_spread_75 (by decide) rfl rfl rfl ?_
        obtain ⟨z, hw⟩ := hw
        exact h_X7_spread_L77 (w_X7_spread_L59 Q n) ih z v2 v3 v4 v5 v6 v7 0 0 hp1 hw
  have h_X7_spread_J33 : ∀ (v0 : Nat) (v1 : Int) (v2 : Int) (v3 : Int) (t0 : Nat) (t1 : Int) (h : gaH), w_X7_spread_J33 Q v0 v1 v2 v3 t0 t1 h → gaP p l e rm_X7_spread s m args below meth c G 10 (gaZ below G (gQi Q) X args s rm_X7_spread) 33 [some (.ref v0), some (gi v1), some (gi v2), some (gi v3), none, none, none, none, none, none] [gi t1, .ref t0] h 0 0 := by
    intro v0 v1 v2 v3 t0 t1 h hw
    unfold w_X7_spread_J33 at hw
    refine g_iconst V (Int32.ofInt 2) dX7_spread_33 rfl rfl ?_
    obtain ⟨hb, hw⟩ := hw
    obtain ⟨fb, hb⟩ := hb
    refine g_callV (C := RX7) (T := TX7) (N := 8) (st := []) V (k_X7_refuse hst hw) ww_5_224 ww_5_226 wp_2_3 ww_1_5 ww_5_227 hd_X7_refuse ⟨by decide, by decide⟩ rfl (by decide) hb rfl rfl (ga_cat rfl) dX7_spread_34 (Nat.zero_le _) (Nat.zero_le _) rfl (gaX_all hT V) (ga_ki (fun r2 hp1 hw => ?_))
    obtain ⟨hx0, hw⟩ := hw
    refine gi_if_eq V dX7_spread_37 rfl rfl hx0 (fun q => ?_) (fun q => ?_)
    · have hw := ga_t q hw
      refine g_aload_n V dX7_spread_42 rfl rfl ?_
      obtain ⟨fs, r3, ha, hv, hw⟩ := hw
      refine g_get (C := RX7) (T := TX7) (N := 8) V 0 rfl hin_RX7 (by decide) (by decide) ww_5_181 rfl ha hv dX7_spread_43 rfl ?_
      refine g_iload_n V dX7_spread_46 rfl rfl ?_
      obtain ⟨vs, r4, ha, h0, h9, hv, hw⟩ := hw
      refine gi_aaload V ha (by decide) h0 h9 hv dX7_spread_47 rfl ?_
      refine g_astore (lv2 := [some (.ref v0), some (gi v1), some (gi v2), some (gi v3), some (.ref r4), none, none, none, none, none]) V dX7_spread_48 (by decide) rfl rfl rfl ?_
      refine g_iconst V (Int32.ofInt 0) dX7_spread_50 rfl rfl ?_
      refine g_istore (lv2 := [some (.ref v0), some (gi v1), some (gi v2), some (gi v3), some (.ref r4), some (gi 0), none, none, none, none]) V dX7_spread_51 (by decide) rfl rfl rfl ?_
      refine g_iload_n V dX7_spread_53 rfl rfl ?_
      refine g_istore (lv2 := [some (.ref v0), some (gi v1), some (gi v2), some (gi v3), some (.ref r4), some (gi 0), some (gi v2), none, none, none]) V dX7_spread_54 (by decide) rfl rfl rfl ?_
      refine g_iconst V (Int32.ofInt 0) dX7_spread_56 rfl rfl ?_
      refine g_istore (lv2 := [some (.ref v0), some (gi v1), some (gi v2), some (gi v3), some (.ref r4), some (gi 0), some (gi v2), some (gi 0), none, none]) V dX7_spread_57 (by decide) rfl rfl rfl ?_
      refine g_less (bs := [false, false, true, true, true, true, true, true, true, true]) (lv2 := [none, none, some (gi v2), some (gi v3), some (.ref r4), some (gi 0), some (gi v2), some (gi 0), none, none]) rfl ?_
      obtain ⟨z, hw⟩ := hw
      exact h_X7_spread_L59 z v2 v3 r4 0 v2 0 hp1 hw
    · have hw := ga_f q hw
      refine g_iconst V (Int32.ofInt 0) dX7_spread_40 rfl rfl ?_
      exact g_iret V rfl rfl dX7_spread_41 ⟨_, rfl, hw⟩
  unfold w_X7_spread at hw
  refine g_aload_n V dX7_spread_0 rfl rfl ?_
  refine g_iload_n V dX7_spread_1 rfl rfl ?_
  refine g_callS (st := [.ref a0]) V (k_X7_isNoSheet hst hw) ww_5_214 ww_5_215 ww_1_5 ww_5_216 hd_X7_isNoSheet ⟨by decide, by decide⟩ rfl rfl (ga_cat rfl) dX7_spread_2 (Nat.zero_le _) (Nat.zero_le _) rfl (gaX_all hT V) (ga_ki (fun r2 hp1 hw => ?_))
  refine g_iconst V (Int32.ofInt 1) dX7_spread_5 rfl rfl ?_
  obtain ⟨hb, hw⟩ := hw
  obtain ⟨fb, hb⟩ := hb
  refine g_callV (C := RX7) (T := TX7) (N := 8) (st := []) V (k_X7_start hst hw) ww_5_220 ww_5_222 wp_2_2 ww_1_5 ww_5_223 hd_X7_start ⟨by decide, by decide⟩ rfl (by decide) hb rfl rfl (ga_cat rfl) dX7_spread_6 (Nat.zero_le _) (Nat.zero_le _) rfl (gaX_all hT V) (ga_ki (fun r4 hp3 hw => ?_))
  obtain ⟨hx0, hw⟩ := hw
  refine gi_if_ne V dX7_spread_9 rfl rfl hx0 (fun q => ?_) (fun q => ?_)
  · have hw := ga_f q hw
    refine g_iconst V (Int32.ofInt 0) dX7_spread_40 rfl rfl ?_
    exact g_iret V rfl rfl dX7_spread_41 ⟨_, rfl, hw⟩
  · have hw := ga_t q hw
    refine g_aload_n V dX7_spread_12 rfl rfl ?_
    refine g_iload_n V dX7_spread_13 rfl rfl ?_
    refine g_iconst V (Int32.ofInt 0) dX7_spread_14 rfl rfl ?_
    refine g_aload_n V dX7_spread_15 rfl rfl ?_
    obtain ⟨fs, r5, ha, hv, hw⟩ := hw
    refine g_get (C := RX7) (T := TX7) (N := 8) V 0 rfl hin_RX7 (by decide) (by decide) ww_5_181 rfl ha hv dX7_spread_16 rfl ?_
    refine g_iload_n V dX7_spread_19 rfl rfl ?_
    obtain ⟨vs, r6, ha, h0, h9, hv, hw⟩ := hw
    refine gi_aaload V ha (by decide) h0 h9 hv dX7_spread_20 rfl ?_
    obtain ⟨t9, vs, ha, ht, hw⟩ := hw
    refine gi_arraylength (t0 := 102) V (by simp [gaT]) ha ht dX7_spread_21 rfl ?_
    generalize (vs.length : Int) = r7 at hw ⊢
    refine g_callS (st := [.ref a0]) V (k_X7_isIn hst hw) ww_5_217 ww_5_218 ww_1_5 ww_5_219 hd_X7_isIn ⟨by decide, by decide⟩ rfl rfl (ga_cat rfl) dX7_spread_22 (Nat.zero_le _) (Nat.zero_le _) rfl (gaX_all hT V) (ga_ki (fun r9 hp8 hw => ?_))
    obtain ⟨hx0, hw⟩ := hw
    refine gi_if_ne V dX7_spread_25 rfl rfl hx0 (fun q => ?_) (fun q => ?_)
    · have hw := ga_f q hw
      refine g_iconst V (Int32.ofInt 0) dX7_spread_32 rfl rfl ?_
      exact h_X7_spread_J33 a0 a1 a2 a3 a0 0 hp8 hw
    · have hw := ga_t q hw
      refine g_iconst V (Int32.ofInt 1) dX7_spread_28 rfl rfl ?_
      refine g_goto V dX7_spread_29 rfl ?_
      exact h_X7_spread_J33 a0 a1 a2 a3 a0 1 hp8 hw
def w_X7_steps_J114 (Q : Nat → gaH → Prop) (K13 : Nat → Nat → Nat → Nat → Int → gaH → Nat → Nat → Prop) (v0 : Nat) (v1 : Nat) (v2 : Nat) (v3 : Nat) (v4 : Int) (t0 : Nat) (t1 : Int) (t2 : Int) (h : gaH) (kc ks : Nat) : Prop := gSI h t0 102 t1 (gi t2) (fun hp1 => K13 v0 v1 v2 v3 (v4 + (-1)) hp1 kc ks)
def w_X7_steps_J90 (Q : Nat → gaH → Prop) (K13 : Nat → Nat → Nat → Nat → Int → gaH → Nat → Nat → Prop) (v0 : Nat) (v1 : Nat) (v2 : Nat) (v3 : Nat) (v4 : Int) (v5 : Int) (t0 : Int) (h : gaH) (kc ks : Nat) : Prop := gR v5 ∧ (if v5 = 0 then gR t0 ∧ (if t0 = 0 then w_X7_steps_J114 Q K13 v0 v1 v2 v3 v4 v3 v4 0 h kc ks else w_X7_steps_J114 Q K13 v0 v1 v2 v3 v4 v3 v4 2 h kc ks) else w_X7_steps_J114 Q K13 v0 v1 v2 v3 v4 v3 v4 1 h kc ks)
def w_X7_steps_J89 (Q : Nat → gaH → Prop) (K13 : Nat → Nat → Nat → Nat → Int → gaH → Nat → Nat → Prop) (v0 : Nat) (v1 : Nat) (v2 : Nat) (v3 : Nat) (v4 : Int) (v5 : Int) (h : gaH) (kc ks : Nat) : Prop := w_X7_steps_J90 Q K13 v0 v1 v2 v3 v4 v5 0 h kc ks
def w_X7_steps_J85 (Q : Nat → gaH → Prop) (K13 : Nat → Nat → Nat → Nat → Int → gaH → Nat → Nat → Prop) (v0 : Nat) (v1 : Nat) (v2 : Nat) (v3 : Nat) (v4 : Int) (v5 : Int) (h : gaH) (kc ks : Nat) : Prop := w_X7_steps_J90 Q K13 v0 v1 v2 v3 v4 v5 1 h kc ks
def w_X7_steps_J53 (Q : Nat → gaH → Prop) (K13 : Nat → Nat → Nat → Nat → Int → gaH → Nat → Nat → Prop) (v0 : Nat) (v1 : Nat) (v2 : Nat) (v3 : Nat) (v4 : Int) (t0 : Int) (h : gaH) (kc ks : Nat) : Prop := w_X7_standsAt v0 v2 v4 h (fun r2 hp1 => gR r2 ∧ (if r2 = 0 then w_X7_steps_J89 Q K13 v0 v1 v2 v3 v4 t0 hp1 kc ks else gAL hp1 v2 102 (fun r3 => gAL hp1 v0 102 (fun r4 => gR (v4 + r3) ∧ gR r4 ∧ (if (v4 + r3) = r4 then w_X7_steps_J85 Q K13 v0 v1 v2 v3 v4 t0 hp1 kc ks else gAL hp1 v2 102 (fun r5 => gLI hp1 v3 102 (v4 + r5) (fun r6 => gR r6 ∧ (if r6 ≤ 0 then w_X7_steps_J89 Q K13 v0 v1 v2 v3 v4 t0 hp1 kc ks else w_X7_steps_J85 Q K13 v0 v1 v2 v3 v4 t0 hp1 kc ks))))))))
def w_X7_steps_J52 (Q : Nat → gaH → Prop) (K13 : Nat → Nat → Nat → Nat → Int → gaH → Nat → Nat → Prop) (v0 : Nat) (v1 : Nat) (v2 : Nat) (v3 : Nat) (v4 : Int) (h : gaH) (kc ks : Nat) : Prop := w_X7_steps_J53 Q K13 v0 v1 v2 v3 v4 0 h kc ks
def w_X7_steps_J48 (Q : Nat → gaH → Prop) (K13 : Nat → Nat → Nat → Nat → Int → gaH → Nat → Nat → Prop) (v0 : Nat) (v1 : Nat) (v2 : Nat) (v3 : Nat) (v4 : Int) (h : gaH) (kc ks : Nat) : Prop := w_X7_steps_J53 Q K13 v0 v1 v2 v3 v4 1 h kc ks
def w_X7_steps_L13 (Q : Nat → gaH → Prop) : Nat → (Nat → Nat → Nat → Nat → Int → gaH → Nat → Nat → Prop)
  | 0 => fun _ _ _ _ _ _ _ _ => False
  | n + 1 => fun v0 v1 v2 v3 v4 h kc ks => gR v4 ∧ (if v4 < 0 then Q v3 h else w_X7_standsAt v0 v1 v4 h (fun r2 hp1 => gR r2 ∧ (if r2 = 0 then w_X7_steps_J52 Q (w_X7_steps_L13 Q n) v0 v1 v2 v3 v4 hp1 kc ks else gAL hp1 v1 102 (fun r3 => gAL hp1 v0 102 (fun r4 => gR (v4 + r3) ∧ gR r4 ∧ (if (v4 + r3) = r4 then w_X7_steps_J48 Q (w_X7_steps_L13 Q n) v0 v1 v2 v3 v4 hp1 kc ks else gAL hp1 v1 102 (fun r5 => gLI hp1 v3 102 (v4 + r5) (fun r6 => gR r6 ∧ (if r6 ≤ 0 then w_X7_steps_J52 Q (w_X7_steps_L13 Q n) v0 v1 v2 v3 v4 hp1 kc ks else w_X7_steps_J48 Q (w_X7_steps_L13 Q n) v0 v1 v2 v3 v4 hp1 kc ks)))))))))
def w_X7_steps (a0 : Nat) (a1 : Nat) (a2 : Nat) (h : gaH) (Q : Nat → gaH → Prop) : Prop := gAL h a0 102 (fun r1 => gNA h 102 (gi 0) (r1 + 1) 1 66 (fun o2 hp3 c4 s5 => gAL hp3 a0 102 (fun r6 => ∃ z, w_X7_steps_L13 Q z a0 a1 a2 o2 (r6 - 1) hp3 c4 s5)))
abbrev rm_X7_steps : Room := { frames := 1, cells := 1, slots := 66, locals := 23 }
theorem hd_X7_steps : (yX7_steps.cls ≠ "java/lang/invoke/MethodHandle" ∧ yX7_steps.cls ≠ "java/lang/invoke/VarHandle" ∧ (parseMethodDescriptor yX7_steps.desc).map (fun d => d.parameters.length) = some 3) := by decide +kernel
theorem k_X7_steps {l : Launch} (hst : l.stackTraces = false) {G : gaG} {X : String → gaH → Prop} {a0 : Nat} {a1 : Nat} {a2 : Nat} {h : gaH} {Q : Nat → gaH → Prop} (hw : w_X7_steps a0 a1 a2 h Q) : gaC l G yX7_steps (gaM yX7_steps cX7_steps 7 ((some (.array .int)))) rm_X7_steps [.ref a0, .ref a1, .ref a2] h (gQa Q) X := by
  refine g_start (lv := [some (.ref a0), some (.ref a1), some (.ref a2), none, none, none, none]) hpl_RX7 hst (Nat.le_of_ble_eq_true rfl) (gaArgs_pad (z := 4) rfl) ww_6_105 ?_
  intro p e s m args below meth c V hT
  have h_X7_steps_J114 : ∀ (K13 : Nat → Nat → Nat → Nat → Int → gaH → Nat → Nat → Prop), ∀ (hK13 : ∀ (v0 : Nat) (v1 : Nat) (v2 : Nat) (v3 : Nat) (v4 : Int) (h : gaH) (kc ks : Nat), K13 v0 v1 v2 v3 v4 h kc ks → gaP p l e rm_X7_steps s m args below meth c G 7 (gaZ below G (gQa Q) X args s rm_X7_steps) 13 [some (.ref v0), some (.ref v1), some (.ref v2), some (.ref v3), some (gi v4), none, none] [] h kc ks), ∀ (v0 : Nat) (v1 : Nat) (v2 : Nat) (v3 : Nat) (v4 : Int) (t0 : Nat) (t1 : Int) (t2 : Int) (h : gaH) (kc ks : Nat), w_X7_steps_J114 Q K13 v0 v1 v2 v3 v4 t0 t1 t2 h kc ks → gaP p l e rm_X7_steps s m args below meth c G 7 (gaZ below G (gQa Q) X args s rm_X7_steps) 114 [some (.ref v0), some (.ref v1), some (.ref v2), some (.ref v3), some (gi v4), none, none] [gi t2, gi t1, .ref t0] h kc ks := by
    intro K13 hK13
    intro v0 v1 v2 v3 v4 t0 t1 t2 h kc ks hw
    unfold w_X7_steps_J114 at hw
    obtain ⟨vs, ha, h0, h9, hi, hw⟩ := hw
    refine gi_iastore V ha h0 h9 hi dX7_steps_114 rfl ?_
    generalize gaUp h t0 _ = hp1 at hw ⊢
    refine gi_iinc (lv2 := [some (.ref v0), some (.ref v1), some (.ref v2), some (.ref v3), some (gi (v4 + (-1))), none, none]) V dX7_steps_115 (by decide) rfl rfl rfl rfl ?_
    refine g_goto V dX7_steps_118 rfl ?_
    exact hK13 v0 v1 v2 v3 (v4 + (-1)) hp1 kc ks hw
  have h_X7_steps_J90 : ∀ (K13 : Nat → Nat → Nat → Nat → Int → gaH → Nat → Nat → Prop), ∀ (hK13 : ∀ (v0 : Nat) (v1 : Nat) (v2 : Nat) (v3 : Nat) (v4 : Int) (h : gaH) (kc ks : Nat), K13 v0 v1 v2 v3 v4 h kc ks → gaP p l e rm_X7_steps s m args below meth c G 7 (gaZ below G (gQa Q) X args s rm_X7_steps) 13 [some (.ref v0), some (.ref v1), some (.ref v2), some (.ref v3), some (gi v4), none, none] [] h kc ks), ∀ (v0 : Nat) (v1 : Nat) (v2 : Nat) (v3 : Nat) (v4 : Int) (v5 : Int) (t0 : Int) (h : gaH) (kc ks : Nat), w_X7_steps_J90 Q K13 v0 v1 v2 v3 v4 v5 t0 h kc ks → gaP p l e rm_X7_steps s m args below meth c G 7 (gaZ below G (gQa Q) X args s rm_X7_steps) 90 [some (.ref v0), some (.ref v1), some (.ref v2), some (.ref v3), some (gi v4), some (gi v5), none] [gi t0] h kc ks := by
    intro K13 hK13
    intro v0 v1 v2 v3 v4 v5 t0 h kc ks hw
    unfold w_X7_steps_J90 at hw
    refine g_istore (lv2 := [some (.ref v0), some (.ref v1), some (.ref v2), some (.ref v3), some (gi v4), some (gi v5), some (gi t0)]) V dX7_steps_90 (by decide) rfl rfl rfl ?_
    refine g_aload_n V dX7_steps_92 rfl rfl ?_
    refine g_iload V dX7_steps_93 rfl rfl ?_
    refine g_iload V dX7_steps_95 rfl rfl ?_
    obtain ⟨hx0, hw⟩ := hw
    refine gi_if_eq V dX7_steps_97 rfl rfl hx0 (fun q => ?_) (fun q => ?_)
    · have hw := ga_t q hw
      refine g_iload V dX7_steps_104 rfl rfl ?_
      obtain ⟨hx0, hw⟩ := hw
      refine gi_if_eq V dX7_steps_106 rfl rfl hx0 (fun q => ?_) (fun q => ?_)
      · have hw := ga_t q hw
        refine g_iconst V (Int32.ofInt 0) dX7_steps_113 rfl rfl ?_
        refine g_less (bs := [true, true, true, true, true, false, false]) (lv2 := [some (.ref v0), some (.ref v1), some (.ref v2), some (.ref v3), some (gi v4), none, none]) rfl ?_
        exact h_X7_steps_J114 K13 hK13 v0 v1 v2 v3 v4 v3 v4 0 h kc ks hw
      · have hw := ga_f q hw
        refine g_iconst V (Int32.ofInt 2) dX7_steps_109 rfl rfl ?_
        refine g_goto V dX7_steps_110 rfl ?_
        refine g_less (bs := [true, true, true, true, true, false, false]) (lv2 := [some (.ref v0), some (.ref v1), some (.ref v2), some (.ref v3), some (gi v4), none, none]) rfl ?_
        exact h_X7_steps_J114 K13 hK13 v0 v1 v2 v3 v4 v3 v4 2 h kc ks hw
    · have hw := ga_f q hw
      refine g_iconst V (Int32.ofInt 1) dX7_steps_100 rfl rfl ?_
      refine g_goto V dX7_steps_101 rfl ?_
      refine g_less (bs := [true, true, true, true, true, false, false]) (lv2 := [some (.ref v0), some (.ref v1), some (.ref v2), some (.ref v3), some (gi v4), none, none]) rfl ?_
      exact h_X7_steps_J114 K13 hK13 v0 v1 v2 v3 v4 v3 v4 1 h kc ks hw
  have h_X7_steps_J89 : ∀ (K13 : Nat → Nat → Nat → Nat → Int → gaH → Nat → Nat → Prop), ∀ (hK13 : ∀ (v0 : Nat) (v1 : Nat) (v2 : Nat) (v3 : Nat) (v4 : Int) (h : gaH) (kc ks : Nat), K13 v0 v1 v2 v3 v4 h kc ks → gaP p l e rm_X7_steps s m args below meth c G 7 (gaZ below G (gQa Q) X args s rm_X7_steps) 13 [some (.ref v0), some (.ref v1), some (.ref v2), some (.ref v3), some (gi v4), none, none] [] h kc ks), ∀ (v0 : Nat) (v1 : Nat) (v2 : Nat) (v3 : Nat) (v4 : Int) (v5 : Int) (h : gaH) (kc ks : Nat), w_X7_steps_J89 Q K13 v0 v1 v2 v3 v4 v5 h kc ks → gaP p l e rm_X7_steps s m args below meth c G 7 (gaZ below G (gQa Q) X args s rm_X7_steps) 89 [some (.ref v0), some (.ref v1), some (.ref v2), some (.ref v3), some (gi v4), some (gi v5), none] [] h kc ks := by
    intro K13 hK13
    intro v0 v1 v2 v3 v4 v5 h kc ks hw
    unfold w_X7_steps_J89 at hw
    refine g_iconst V (Int32.ofInt 0) dX7_steps_89 rfl rfl ?_
    exact h_X7_steps_J90 K13 hK13 v0 v1 v2 v3 v4 v5 0 h kc ks hw
  have h_X7_steps_J85 : ∀ (K13 : Nat → Nat → Nat → Nat → Int → gaH → Nat → Nat → Prop), ∀ (hK13 : ∀ (v0 : Nat) (v1 : Nat) (v2 : Nat) (v3 : Nat) (v4 : Int) (h : gaH) (kc ks : Nat), K13 v0 v1 v2 v3 v4 h kc ks → gaP p l e rm_X7_steps s m args below meth c G 7 (gaZ below G (gQa Q) X args s rm_X7_steps) 13 [some (.ref v0), some (.ref v1), some (.ref v2), some (.ref v3), some (gi v4), none, none] [] h kc ks), ∀ (v0 : Nat) (v1 : Nat) (v2 : Nat) (v3 : Nat) (v4 : Int) (v5 : Int) (h : gaH) (kc ks : Nat), w_X7_steps_J85 Q K13 v0 v1 v2 v3 v4 v5 h kc ks → gaP p l e rm_X7_steps s m args below meth c G 7 (gaZ below G (gQa Q) X args s rm_X7_steps) 85 [some (.ref v0), some (.ref v1), some (.ref v2), some (.ref v3), some (gi v4), some (gi v5), none] [] h kc ks := by
    intro K13 hK13
    intro v0 v1 v2 v3 v4 v5 h kc ks hw
    unfold w_X7_steps_J85 at hw
    refine g_iconst V (Int32.ofInt 1) dX7_steps_85 rfl rfl ?_
    refine g_goto V dX7_steps_86 rfl ?_
    exact h_X7_steps_J90 K13 hK13 v0 v1 v2 v3 v4 v5 1 h kc ks hw
  have h_X7_steps_J53 : ∀ (K13 : Nat → Nat → Nat → Nat → Int → gaH → Nat → Nat → Prop), ∀ (hK13 : ∀ (v0 : Nat) (v1 : Nat) (v2 : Nat) (v3 : Nat) (v4 : Int) (h : gaH) (kc ks : Nat), K13 v0 v1 v2 v3 v4 h kc ks → gaP p l e rm_X7_steps s m args below meth c G 7 (gaZ below G (gQa Q) X args s rm_X7_steps) 13 [some (.ref v0), some (.ref v1), some (.ref v2), some (.ref v3), some (gi v4), none, none] [] h kc ks), ∀ (v0 : Nat) (v1 : Nat) (v2 : Nat) (v3 : Nat) (v4 : Int) (t0 : Int) (h : gaH) (kc ks : Nat), w_X7_steps_J53 Q K13 v0 v1 v2 v3 v4 t0 h kc ks → gaP p l e rm_X7_steps s m args below meth c G 7 (gaZ below G (gQa Q) X args s rm_X7_steps) 53 [some (.ref v0), some (.ref v1), some (.ref v2), some (.ref v3), some (gi v4), none, none] [gi t0] h kc ks := by
    intro K13 hK13
    intro v0 v1 v2 v3 v4 t0 h kc ks hw
    unfold w_X7_steps_J53 at hw
    refine g_istore (lv2 := [some (.ref v0), some (.ref v1), some (.ref v2), some (.ref v3), some (gi v4), some (gi t0), none]) V dX7_steps_53 (by decide) rfl rfl rfl ?_
    refine g_aload_n V dX7_steps_55 rfl rfl ?_
    refine g_aload_n V dX7_steps_56 rfl rfl ?_
    refine g_iload V dX7_steps_57 rfl rfl ?_
    refine g_callS (st := []) V (k_X7_standsAt hst hw) ww_6_71 ww_6_72 ww_1_5 ww_6_73 hd_X7_standsAt ⟨by decide, by decide⟩ rfl rfl (ga_cat rfl) dX7_steps_59 (Nat.zero_le _) (Nat.zero_le _) rfl (gaX_all hT V) (ga_ki (fun r2 hp1 hw => ?_))
    obtain ⟨hx0, hw⟩ := hw
    refine gi_if_eq V dX7_steps_62 rfl rfl hx0 (fun q => ?_) (fun q => ?_)
    · have hw := ga_t q hw
      exact h_X7_steps_J89 K13 hK13 v0 v1 v2 v3 v4 t0 hp1 kc ks hw
    · have hw := ga_f q hw
      refine g_iload V dX7_steps_65 rfl rfl ?_
      refine g_aload_n V dX7_steps_67 rfl rfl ?_
      obtain ⟨t9, vs, ha, ht, hw⟩ := hw
      refine gi_arraylength (t0 := 102) V (by simp [gaT]) ha ht dX7_steps_68 rfl ?_
      generalize (vs.length : Int) = r3 at hw ⊢
      refine gi_iadd V dX7_steps_69 rfl ?_
      refine g_aload_n V dX7_steps_70 rfl rfl ?_
      obtain ⟨t9, vs, ha, ht, hw⟩ := hw
      refine gi_arraylength (t0 := 102) V (by simp [gaT]) ha ht dX7_steps_71 rfl ?_
      generalize (vs.length : Int) = r4 at hw ⊢
      obtain ⟨hx0, hx1, hw⟩ := hw
      refine gi_icmp_eq V dX7_steps_72 rfl rfl hx0 hx1 (fun q => ?_) (fun q => ?_)
      · have hw := ga_t q hw
        exact h_X7_steps_J85 K13 hK13 v0 v1 v2 v3 v4 t0 hp1 kc ks hw
      · have hw := ga_f q hw
        refine g_aload_n V dX7_steps_75 rfl rfl ?_
        refine g_iload V dX7_steps_76 rfl rfl ?_
        refine g_aload_n V dX7_steps_78 rfl rfl ?_
        obtain ⟨t9, vs, ha, ht, hw⟩ := hw
        refine gi_arraylength (t0 := 102) V (by simp [gaT]) ha ht dX7_steps_79 rfl ?_
        generalize (vs.length : Int) = r5 at hw ⊢
        refine gi_iadd V dX7_steps_80 rfl ?_
        obtain ⟨t9, vs, r6, ha, ht, h0, h9, hv, hw⟩ := hw
        refine gi_iaload V ha ht h0 h9 hv dX7_steps_81 rfl ?_
        obtain ⟨hx0, hw⟩ := hw
        refine gi_if_le V dX7_steps_82 rfl rfl hx0 (fun q => ?_) (fun q => ?_)
        · have hw := ga_t q hw
          exact h_X7_steps_J89 K13 hK13 v0 v1 v2 v3 v4 t0 hp1 kc ks hw
        · have hw := ga_f q hw
          exact h_X7_steps_J85 K13 hK13 v0 v1 v2 v3 v4 t0 hp1 kc ks hw
  have h_X7_steps_J52 : ∀ (K13 : Nat → Nat → Nat → Nat → Int → gaH → Nat → Nat → Prop), ∀ (hK13 : ∀ (v0 : Nat) (v1 : Nat) (v2 : Nat) (v3 : Nat) (v4 : Int) (h : gaH) (kc ks : Nat), K13 v0 v1 v2 v3 v4 h kc ks → gaP p l e rm_X7_steps s m args below meth c G 7 (gaZ below G (gQa Q) X args s rm_X7_steps) 13 [some (.ref v0), some (.ref v1), some (.ref v2), some (.ref v3), some (gi v4), none, none] [] h kc ks), ∀ (v0 : Nat) (v1 : Nat) (v2 : Nat) (v3 : Nat) (v4 : Int) (h : gaH) (kc ks : Nat), w_X7_steps_J52 Q K13 v0 v1 v2 v3 v4 h kc ks → gaP p l e rm_X7_steps s m args below meth c G 7 (gaZ below G (gQa Q) X args s rm_X7_steps) 52 [some (.ref v0), some (.ref v1), some (.ref v2), some (.ref v3), some (gi v4), none, none] [] h kc ks := by
    intro K13 hK13
    intro v0 v1 v2 v3 v4 h kc ks hw
    unfold w_X7_steps_J52 at hw
    refine g_iconst V (Int32.ofInt 0) dX7_steps_52 rfl rfl ?_
    exact h_X7_steps_J53 K13 hK13 v0 v1 v2 v3 v4 0 h kc ks hw
  have h_X7_steps_J48 : ∀ (K13 : Nat → Nat → Nat → Nat → Int → gaH → Nat → Nat → Prop), ∀ (hK13 : ∀ (v0 : Nat) (v1 : Nat) (v2 : Nat) (v3 : Nat) (v4 : Int) (h : gaH) (kc ks : Nat), K13 v0 v1 v2 v3 v4 h kc ks → gaP p l e rm_X7_steps s m args below meth c G 7 (gaZ below G (gQa Q) X args s rm_X7_steps) 13 [some (.ref v0), some (.ref v1), some (.ref v2), some (.ref v3), some (gi v4), none, none] [] h kc ks), ∀ (v0 : Nat) (v1 : Nat) (v2 : Nat) (v3 : Nat) (v4 : Int) (h : gaH) (kc ks : Nat), w_X7_steps_J48 Q K13 v0 v1 v2 v3 v4 h kc ks → gaP p l e rm_X7_steps s m args below meth c G 7 (gaZ below G (gQa Q) X args s rm_X7_steps) 48 [some (.ref v0), some (.ref v1), some (.ref v2), some (.ref v3), some (gi v4), none, none] [] h kc ks := by
    intro K13 hK13
    intro v0 v1 v2 v3 v4 h kc ks hw
    unfold w_X7_steps_J48 at hw
    refine g_iconst V (Int32.ofInt 1) dX7_steps_48 rfl rfl ?_
    refine g_goto V dX7_steps_49 rfl ?_
    exact h_X7_steps_J53 K13 hK13 v0 v1 v2 v3 v4 1 h kc ks hw
  have h_X7_steps_L13 : ∀ (n : Nat), ∀ (v0 : Nat) (v1 : Nat) (v2 : Nat) (v3 : Nat) (v4 : Int) (h : gaH) (kc ks : Nat), w_X7_steps_L13 Q n v0 v1 v2 v3 v4 h kc ks → gaP p l e rm_X7_steps s m args below meth c G 7 (gaZ below G (gQa Q) X args s rm_X7_steps) 13 [some (.ref v0), some (.ref v1), some (.ref v2), some (.ref v3), some (gi v4), none, none] [] h kc ks := by
    intro n
    induction n with
    | zero =>
      intro v0 v1 v2 v3 v4 h kc ks hw
      exact hw.elim
    | succ n ih =>
      intro v0 v1 v2 v3 v4 h kc ks hw
      unfold w_X7_steps_L13 at hw
      refine g_iload V dX7_steps_13 rfl rfl ?_
      obtain ⟨hx0, hw⟩ := hw
      refine gi_if_lt V dX7_steps_15 rfl rfl hx0 (fun q => ?_) (fun q => ?_)
      · have hw := ga_t q hw
        refine g_aload_n V dX7_steps_121 rfl rfl ?_
        exact g_aret V rfl (by first | exact Or.inl ⟨_, rfl⟩ | exact Or.inr ⟨_, rfl⟩) dX7_steps_122 ⟨_, rfl, hw⟩
      · have hw := ga_f q hw
        refine g_aload_n V dX7_steps_18 rfl rfl ?_
        refine g_aload_n V dX7_steps_19 rfl rfl ?_
        refine g_iload V dX7_steps_20 rfl rfl ?_
        refine g_callS (st := []) V (k_X7_standsAt hst hw) ww_6_71 ww_6_72 ww_1_5 ww_6_73 hd_X7_standsAt ⟨by decide, by decide⟩ rfl rfl (ga_cat rfl) dX7_steps_22 (Nat.zero_le _) (Nat.zero_le _) rfl (gaX_all hT V) (ga_ki (fun r2 hp1 hw => ?_))
        obtain ⟨hx0, hw⟩ := hw
        refine gi_if_eq V dX7_steps_25 rfl rfl hx0 (fun q => ?_) (fun q => ?_)
        · have hw := ga_t q hw
          exact h_X7_steps_J52 (w_X7_steps_L13 Q n) ih v0 v1 v2 v3 v4 hp1 kc ks hw
        · have hw := ga_f q hw
          refine g_iload V dX7_steps_28 rfl rfl ?_
          refine g_aload_n V dX7_steps_30 rfl rfl ?_
          obtain ⟨t9, vs, ha, ht, hw⟩ := hw
          refine gi_arraylength (t0 := 102) V (by simp [gaT]) ha ht dX7_steps_31 rfl ?_
          generalize (vs.length : Int) = r3 at hw ⊢
          refine gi_iadd V dX7_steps_32 rfl ?_
          refine g_aload_n V dX7_steps_33 rfl rfl ?_
          obtain ⟨t9, vs, ha, ht, hw⟩ := hw
          refine gi_arraylength (t0 := 102) V (by simp [gaT]) ha ht dX7_steps_34 rfl ?_
          generalize (vs.length : Int) = r4 at hw ⊢
          obtain ⟨hx0, hx1, hw⟩ := hw
          refine gi_icmp_eq V dX7_steps_35 rfl rfl hx0 hx1 (fun q => ?_) (fun q => ?_)
          · have hw := ga_t q hw
            exact h_X7_steps_J48 (w_X7_steps_L13 Q n) ih v0 v1 v2 v3 v4 hp1 kc ks hw
          · have hw := ga_f q hw
            refine g_aload_n V dX7_steps_38 rfl rfl ?_
            refine g_iload V dX7_steps_39 rfl rfl ?_
            refine g_aload_n V dX7_steps_41 rfl rfl ?_
            obtain ⟨t9, vs, ha, ht, hw⟩ := hw
            refine gi_arraylength (t0 := 102) V (by simp [gaT]) ha ht dX7_steps_42 rfl ?_
            generalize (vs.length : Int) = r5 at hw ⊢
            refine gi_iadd V dX7_steps_43 rfl ?_
            obtain ⟨t9, vs, r6, ha, ht, h0, h9, hv, hw⟩ := hw
            refine gi_iaload V ha ht h0 h9 hv dX7_steps_44 rfl ?_
            obtain ⟨hx0, hw⟩ := hw
            refine gi_if_le V dX7_steps_45 rfl rfl hx0 (fun q => ?_) (fun q => ?_)
            · have hw := ga_t q hw
              exact h_X7_steps_J52 (w_X7_steps_L13 Q n) ih v0 v1 v2 v3 v4 hp1 kc ks hw
            · have hw := ga_f q hw
              exact h_X7_steps_J48 (w_X7_steps_L13 Q n) ih v0 v1 v2 v3 v4 hp1 kc ks hw
  show gaP p l e rm_X7_steps s m args below meth c G 7 (gaZ below G (gQa Q) X args s rm_X7_steps) 0 [some (.ref a0), some (.ref a1), some (.ref a2), none, none, none, none] [] h 1 66
  unfold w_X7_steps at hw
  refine g_aload_n V dX7_steps_0 rfl rfl ?_
  obtain ⟨t9, vs, ha, ht, hw⟩ := hw
  refine gi_arraylength (t0 := 102) V (by simp [gaT]) ha ht dX7_steps_1 rfl ?_
  generalize (vs.length : Int) = r1 at hw ⊢
  refine g_iconst V (Int32.ofInt 1) dX7_steps_2 rfl rfl ?_
  refine gi_iadd V dX7_steps_3 rfl ?_
  obtain ⟨h0, h9, hk, hj, hw⟩ := hw
  refine gi_newarray (atype := .int) (t := 102) V (by decide) rfl ww_1_109 h0 h9 dX7_steps_4 rfl hk hj (fun o2 hf => ?_)
  obtain ⟨c4, s5, ec, es, hw⟩ := hw o2 hf
  refine ga_re ec es ?_
  generalize gaUp h o2 _ = hp3 at hw ⊢
  refine g_astore_n (lv2 := [some (.ref a0), some (.ref a1), some (.ref a2), some (.ref o2), none, none, none]) V dX7_steps_6 (by decide) rfl rfl rfl ?_
  refine g_aload_n V dX7_steps_7 rfl rfl ?_
  obtain ⟨t9, vs, ha, ht, hw⟩ := hw
  refine gi_arraylength (t0 := 102) V (by simp [gaT]) ha ht dX7_steps_8 rfl ?_
  generalize (vs.length : Int) = r6 at hw ⊢
  refine g_iconst V (Int32.ofInt 1) dX7_steps_9 rfl rfl ?_
  refine gi_isub V dX7_steps_10 rfl ?_
  refine g_istore (lv2 := [some (.ref a0), some (.ref a1), some (.ref a2), some (.ref o2), some (gi (r6 - 1)), none, none]) V dX7_steps_11 (by decide) rfl rfl rfl ?_
  obtain ⟨z, hw⟩ := hw
  exact h_X7_steps_L13 z a0 a1 a2 o2 (r6 - 1) hp3 c4 s5 hw
def w_X7_thrown (a0 : Nat) (h : gaH) (Q : Int → gaH → Prop) : Prop := gI h a0 7 7 (fun r1 => Q r1 h)
abbrev rm_X7_thrown : Room := { frames := 0, cells := 0, slots := 0, locals := 0 }
theorem hd_X7_thrown : yX7_thrown.cls = RX7 ∧ (yX7_thrown.cls ≠ "java/lang/invoke/MethodHandle" ∧ yX7_thrown.cls ≠ "java/lang/invoke/VarHandle" ∧ (parseMethodDescriptor yX7_thrown.desc).map (fun d => d.parameters.length) = some 0) := by decide +kernel
theorem k_X7_thrown {l : Launch} (hst : l.stackTraces = false) {G : gaG} {X : String → gaH → Prop} {a0 : Nat} {h : gaH} {Q : Int → gaH → Prop} (hw : w_X7_thrown a0 h Q) : gaC l G yX7_thrown (gaM yX7_thrown cX7_thrown 1 ((some .int))) rm_X7_thrown [.ref a0] h (gQi Q) X := by
  refine g_start (lv := [some (.ref a0)]) hpl_RX7 hst (Nat.le_of_ble_eq_true rfl) (gaArgs_pad (z := 0) rfl) ww_5_209 ?_
  intro p e s m args below meth c V hT
  unfold w_X7_thrown at hw
  refine g_aload_n V dX7_thrown_0 rfl rfl ?_
  obtain ⟨fs, r1, ha, hv, hw⟩ := hw
  refine g_get (C := RX7) (T := TX7) (N := 8) V 7 rfl hin_RX7 (by decide) (by decide) ww_5_188 rfl ha hv dX7_thrown_1 rfl ?_
  exact g_iret V rfl rfl dX7_thrown_4 ⟨_, rfl, hw⟩
def w_X7_times (a0 : Nat) (a1 : Int) (h : gaH) (Q : Int → gaH → Prop) : Prop := w_X7_isNoSheet a1 h (fun r2 hp1 => gHas hp1 a0 7 ∧ w_X7_start a0 r2 1 hp1 (fun r4 hp3 => gR r4 ∧ (if r4 = 0 then gA hp3 a0 7 0 (fun r5 => gLA hp3 r5 112 a1 (fun r6 => w_X7_timesOf r6 hp3 (fun r8 hp7 => Q r8 hp7))) else Q 0 hp3)))
abbrev rm_X7_times : Room := { frames := 3, cells := 0, slots := 0, locals := 84 }
theorem hd_X7_times : yX7_times.cls = RX7 ∧ (yX7_times.cls ≠ "java/lang/invoke/MethodHandle" ∧ yX7_times.cls ≠ "java/lang/invoke/VarHandle" ∧ (parseMethodDescriptor yX7_times.desc).map (fun d => d.parameters.length) = some 1) := by decide +kernel
theorem k_X7_times {l : Launch} (hst : l.stackTraces = false) {G : gaG} {X : String → gaH → Prop} {a0 : Nat} {a1 : Int} {h : gaH} {Q : Int → gaH → Prop} (hw : w_X7_times a0 a1 h Q) : gaC l G yX7_times (gaM yX7_times cX7_times 2 ((some .int))) rm_X7_times [.ref a0, gi a1] h (gQi Q) X := by
  refine g_start (lv := [some (.ref a0), some (gi a1)]) hpl_RX7 hst (Nat.le_of_ble_eq_true rfl) (gaArgs_pad (z := 0) rfl) ww_6_217 ?_
  intro p e s m args below meth c V hT
  unfold w_X7_times at hw
  refine g_aload_n V dX7_times_0 rfl rfl ?_
  refine g_iload_n V dX7_times_1 rfl rfl ?_
  refine g_callS (st := [.ref a0]) V (k_X7_isNoSheet hst hw) ww_5_214 ww_5_215 ww_1_5 ww_5_216 hd_X7_isNoSheet ⟨by decide, by decide⟩ rfl rfl (ga_cat rfl) dX7_times_2 (Nat.zero_le _) (Nat.zero_le _) rfl (gaX_all hT V) (ga_ki (fun r2 hp1 hw => ?_))
  refine g_iconst V (Int32.ofInt 1) dX7_times_5 rfl rfl ?_
  obtain ⟨hb, hw⟩ := hw
  obtain ⟨fb, hb⟩ := hb
  refine g_callV (C := RX7) (T := TX7) (N := 8) (st := []) V (k_X7_start hst hw) ww_5_220 ww_5_222 wp_2_2 ww_1_5 ww_5_223 hd_X7_start ⟨by decide, by decide⟩ rfl (by decide) hb rfl rfl (ga_cat rfl) dX7_times_6 (Nat.zero_le _) (Nat.zero_le _) rfl (gaX_all hT V) (ga_ki (fun r4 hp3 hw => ?_))
  obtain ⟨hx0, hw⟩ := hw
  refine gi_if_eq V dX7_times_9 rfl rfl hx0 (fun q => ?_) (fun q => ?_)
  · have hw := ga_t q hw
    refine g_aload_n V dX7_times_16 rfl rfl ?_
    obtain ⟨fs, r5, ha, hv, hw⟩ := hw
    refine g_get (C := RX7) (T := TX7) (N := 8) V 0 rfl hin_RX7 (by decide) (by decide) ww_5_181 rfl ha hv dX7_times_17 rfl ?_
    refine g_iload_n V dX7_times_20 rfl rfl ?_
    obtain ⟨vs, r6, ha, h0, h9, hv, hw⟩ := hw
    refine gi_aaload V ha (by decide) h0 h9 hv dX7_times_21 rfl ?_
    refine g_callS (st := []) V (k_X7_timesOf hst hw) ww_6_218 ww_6_219 ww_1_5 ww_6_220 hd_X7_timesOf ⟨by decide, by decide⟩ rfl rfl (ga_cat rfl) dX7_times_22 (Nat.zero_le _) (Nat.zero_le _) rfl (gaX_all hT V) (ga_ki (fun r8 hp7 hw => ?_))
    exact g_iret V rfl rfl dX7_times_25 ⟨_, rfl, hw⟩
  · have hw := ga_f q hw
    refine g_iconst V (Int32.ofInt 0) dX7_times_12 rfl rfl ?_
    refine g_goto V dX7_times_13 rfl ?_
    exact g_iret V rfl rfl dX7_times_25 ⟨_, rfl, hw⟩
def w_X7_turn (a0 : Nat) (a1 : Int) (h : gaH) (Q : Int → gaH → Prop) : Prop := w_X7_isNoSheet a1 h (fun r2 hp1 => gHas hp1 a0 7 ∧ w_X7_start a0 r2 1 hp1 (fun r4 hp3 => gR r4 ∧ (if r4 = 0 then gA hp3 a0 7 0 (fun r5 => gLA hp3 r5 112 a1 (fun r6 => gCall 1 64 1 64 (fun c9 s10 => w_X7_turned r6 hp3 (fun r8 hp7 => gHas hp7 a0 7 ∧ w_X7_becomes a0 a1 r8 hp7 (fun r12 hp11 => Q r12 hp11))))) else Q 0 hp3)))
abbrev rm_X7_turn : Room := { frames := 3, cells := 1, slots := 64, locals := 67 }
theorem hd_X7_turn : yX7_turn.cls = RX7 ∧ (yX7_turn.cls ≠ "java/lang/invoke/MethodHandle" ∧ yX7_turn.cls ≠ "java/lang/invoke/VarHandle" ∧ (parseMethodDescriptor yX7_turn.desc).map (fun d => d.parameters.length) = some 1) := by decide +kernel
theorem k_X7_turn {l : Launch} (hst : l.stackTraces = false) {G : gaG} {X : String → gaH → Prop} {a0 : Nat} {a1 : Int} {h : gaH} {Q : Int → gaH → Prop} (hw : w_X7_turn a0 a1 h Q) : gaC l G yX7_turn (gaM yX7_turn cX7_turn 2 ((some .int))) rm_X7_turn [.ref a0, gi a1] h (gQi Q) X := by
  refine g_start (lv := [some (.ref a0), some (gi a1)]) hpl_RX7 hst (Nat.le_of_ble_eq_true rfl) (gaArgs_pad (z := 0) rfl) ww_6_60 ?_
  intro p e s m args below meth c V hT
  show gaP p l e rm_X7_turn s m args below meth c G 2 (gaZ below G (gQi Q) X args s rm_X7_turn) 0 [some (.ref a0), some (gi a1)] [] h 1 64
  unfold w_X7_turn at hw
  refine g_aload_n V dX7_turn_0 rfl rfl ?_
  refine g_iload_n V dX7_turn_1 rfl rfl ?_
  refine g_callS (st := [.ref a0]) V (k_X7_isNoSheet hst hw) ww_5_214 ww_5_215 ww_1_5 ww_5_216 hd_X7_isNoSheet ⟨by decide, by decide⟩ rfl rfl (ga_cat rfl) dX7_turn_2 (Nat.zero_le _) (Nat.zero_le _) rfl (gaX_all hT V) (ga_ki (fun r2 hp1 hw => ?_))
  refine g_iconst V (Int32.ofInt 1) dX7_turn_5 rfl rfl ?_
  obtain ⟨hb, hw⟩ := hw
  obtain ⟨fb, hb⟩ := hb
  refine g_callV (C := RX7) (T := TX7) (N := 8) (st := []) V (k_X7_start hst hw) ww_5_220 ww_5_222 wp_2_2 ww_1_5 ww_5_223 hd_X7_start ⟨by decide, by decide⟩ rfl (by decide) hb rfl rfl (ga_cat rfl) dX7_turn_6 (Nat.zero_le _) (Nat.zero_le _) rfl (gaX_all hT V) (ga_ki (fun r4 hp3 hw => ?_))
  obtain ⟨hx0, hw⟩ := hw
  refine gi_if_eq V dX7_turn_9 rfl rfl hx0 (fun q => ?_) (fun q => ?_)
  · have hw := ga_t q hw
    refine g_aload_n V dX7_turn_14 rfl rfl ?_
    refine g_iload_n V dX7_turn_15 rfl rfl ?_
    refine g_aload_n V dX7_turn_16 rfl rfl ?_
    obtain ⟨fs, r5, ha, hv, hw⟩ := hw
    refine g_get (C := RX7) (T := TX7) (N := 8) V 0 rfl hin_RX7 (by decide) (by decide) ww_5_181 rfl ha hv dX7_turn_17 rfl ?_
    refine g_iload_n V dX7_turn_20 rfl rfl ?_
    obtain ⟨vs, r6, ha, h0, h9, hv, hw⟩ := hw
    refine gi_aaload V ha (by decide) h0 h9 hv dX7_turn_21 rfl ?_
    obtain ⟨hk, hj, c9, s10, ec, es, hw⟩ := hw
    refine g_callS (st := [gi a1, .ref a0]) V (k_X7_turned hst hw) ww_6_61 ww_6_62 ww_1_5 ww_6_63 hd_X7_turned ⟨by decide, by decide⟩ rfl rfl (ga_cat rfl) dX7_turn_22 hk hj rfl (gaX_all hT V) (ga_ka (fun r8 hp7 hw => ?_))
    refine ga_re ec es ?_
    obtain ⟨hb, hw⟩ := hw
    obtain ⟨fb, hb⟩ := hb
    refine g_callV (C := RX7) (T := TX7) (N := 8) (st := []) V (k_X7_becomes hst hw) ww_6_64 ww_6_66 wp_2_10 ww_1_5 ww_6_67 hd_X7_becomes ⟨by decide, by decide⟩ rfl (by decide) hb rfl rfl (ga_cat rfl) dX7_turn_25 (Nat.zero_le _) (Nat.zero_le _) rfl (gaX_all hT V) (ga_ki (fun r12 hp11 hw => ?_))
    exact g_iret V rfl rfl dX7_turn_28 ⟨_, rfl, hw⟩
  · have hw := ga_f q hw
    refine g_iconst V (Int32.ofInt 0) dX7_turn_12 rfl rfl ?_
    exact g_iret V rfl rfl dX7_turn_13 ⟨_, rfl, hw⟩
def w_X7_twosOf_L96 (Q : Nat → gaH → Prop) (K87 : Nat → Int → gaH → Nat → Nat → Prop) : Nat → (Nat → Int → Int → gaH → Nat → Nat → Prop)
  | 0 => fun _ _ _ _ _ _ => False
  | n + 1 => fun v2 v3 v4 h kc ks => gR v4 ∧ (if v4 ≤ 0 then K87 v2 (v3 + 1) h kc ks else gLI h v2 102 v3 (fun r1 => gSI h v2 102 v3 (gi (gRem (r1 + v4) 2)) (fun hp2 => w_X7_twosOf_L96 Q K87 n v2 v3 (gDiv v4 2) hp2 kc ks)))
def w_X7_twosOf_L87 (Q : Nat → gaH → Prop) : Nat → (Nat → Int → gaH → Nat → Nat → Prop)
  | 0 => fun _ _ _ _ _ => False
  | n + 1 => fun v2 v3 h kc ks => gAL h v2 102 (fun r1 => gR v3 ∧ gR r1 ∧ (if r1 ≤ v3 then Q v2 h else ∃ z, w_X7_twosOf_L96 Q (w_X7_twosOf_L87 Q n) z v2 v3 v3 h kc ks))
def w_X7_twosOf_L15 (Q : Nat → gaH → Prop) : Nat → (Int → Int → Nat → Int → gaH → Nat → Nat → Prop)
  | 0 => fun _ _ _ _ _ _ _ => False
  | n + 1 => fun v0 v1 v2 v3 h kc ks => gR v3 ∧ gR v0 ∧ (if v0 ≤ v3 then Q v2 h else gNA h 102 (gi 0) 1 kc ks (fun o1 hp2 c3 s4 => gSI hp2 o1 102 0 (gi 1) (fun hp5 => gNA hp5 102 (gi 0) 1 c3 s4 (fun o6 hp7 c8 s9 => gSI hp7 o6 102 0 (gi 0) (fun hp10 => gCall 1 256 c8 s9 (fun c13 s14 => w_X7_image v2 o1 o6 hp10 (fun r12 hp11 => gR v1 ∧ (if v1 = 0 then gCall 1 16 c13 s14 (fun c23 s24 => w_X7_ofCode 5 hp11 (fun r22 hp21 => gCall 1 16 c23 s24 (fun c27 s28 => w_X7_ofCode 6 hp21 (fun r26 hp25 => gCall 1 256 c27 s28 (fun c31 s32 => w_X7_image v2 r22 r26 hp25 (fun r30 hp29 => w_X7_twosOf_L15 Q n v0 v1 r30 (v3 + 1) hp29 c31 s32)))))) else gAL hp11 v2 102 (fun r15 => gAL hp11 v2 102 (fun r16 => gCall 1 128 c13 s14 (fun c19 s20 => w_X7_spliced v2 r15 r16 r12 hp11 (fun r18 hp17 => w_X7_twosOf_L15 Q n v0 v1 r18 (v3 + 1) hp17 c19 s20))))))))))))
def w_X7_twosOf (a0 : Int) (a1 : Int) (h : gaH) (Q : Nat → gaH → Prop) : Prop := gNA h 102 (gi 0) 1 44 4928 (fun o1 hp2 c3 s4 => gSI hp2 o1 102 0 (gi 0) (fun hp5 => gR a1 ∧ (if 2 ≤ a1 then gNA hp5 102 (gi 0) (gShl 1 a0) c3 s4 (fun o6 hp7 c8 s9 => ∃ z, w_X7_twosOf_L87 Q z o6 0 hp7 c8 s9) else ∃ z, w_X7_twosOf_L15 Q z a0 a1 o1 0 hp5 c3 s4)))
abbrev rm_X7_twosOf : Room := { frames := 2, cells := 44, slots := 4928, locals := 58 }
theorem hd_X7_twosOf : (yX7_twosOf.cls ≠ "java/lang/invoke/MethodHandle" ∧ yX7_twosOf.cls ≠ "java/lang/invoke/VarHandle" ∧ (parseMethodDescriptor yX7_twosOf.desc).map (fun d => d.parameters.length) = some 2) := by decide +kernel
theorem k_X7_twosOf {l : Launch} (hst : l.stackTraces = false) {G : gaG} {X : String → gaH → Prop} {a0 : Int} {a1 : Int} {h : gaH} {Q : Nat → gaH → Prop} (hw : w_X7_twosOf a0 a1 h Q) : gaC l G yX7_twosOf (gaM yX7_twosOf cX7_twosOf 5 ((some (.array .int)))) rm_X7_twosOf [gi a0, gi a1] h (gQa Q) X := by
  refine g_start (lv := [some (gi a0), some (gi a1), none, none, none]) hpl_RX7 hst (Nat.le_of_ble_eq_true rfl) (gaArgs_pad (z := 3) rfl) ww_6_134 ?_
  intro p e s m args below meth c V hT
  have h_X7_twosOf_L96 : ∀ (K87 : Nat → Int → gaH → Nat → Nat → Prop), ∀ (hK87 : ∀ (v2 : Nat) (v3 : Int) (h : gaH) (kc ks : Nat), K87 v2 v3 h kc ks → gaP p l e rm_X7_twosOf s m args below meth c G 5 (gaZ below G (gQa Q) X args s rm_X7_twosOf) 87 [none, none, some (.ref v2), some (gi v3), none] [] h kc ks), ∀ (n : Nat), ∀ (v2 : Nat) (v3 : Int) (v4 : Int) (h : gaH) (kc ks : Nat), w_X7_twosOf_L96 Q K87 n v2 v3 v4 h kc ks → gaP p l e rm_X7_twosOf s m args below meth c G 5 (gaZ below G (gQa Q) X args s rm_X7_twosOf) 96 [none, none, some (.ref v2), some (gi v3), some (gi v4)] [] h kc ks := by
    intro K87 hK87
    intro n
    induction n with
    | zero =>
      intro v2 v3 v4 h kc ks hw
      exact hw.elim
    | succ n ih =>
      intro v2 v3 v4 h kc ks hw
      unfold w_X7_twosOf_L96 at hw
      refine g_iload V dX7_twosOf_96 rfl rfl ?_
      obtain ⟨hx0, hw⟩ := hw
      refine gi_if_le V dX7_twosOf_98 rfl rfl hx0 (fun q => ?_) (fun q => ?_)
      · have hw := ga_t q hw
        refine gi_iinc (lv2 := [none, none, some (.ref v2), some (gi (v3 + 1)), some (gi v4)]) V dX7_twosOf_121 (by decide) rfl rfl rfl rfl ?_
        refine g_goto V dX7_twosOf_124 rfl ?_
        refine g_less (bs := [true, true, true, true, false]) (lv2 := [none, none, some (.ref v2), some (gi (v3 + 1)), none]) rfl ?_
        exact hK87 v2 (v3 + 1) h kc ks hw
      · have hw := ga_f q hw
        refine g_aload_n V dX7_twosOf_101 rfl rfl ?_
        refine g_iload_n V dX7_twosOf_102 rfl rfl ?_
        refine g_aload_n V dX7_twosOf_103 rfl rfl ?_
        refine g_iload_n V dX7_twosOf_104 rfl rfl ?_
        obtain ⟨t9, vs, r1, ha, ht, h0, h9, hv, hw⟩ := hw
        refine gi_iaload V ha ht h0 h9 hv dX7_twosOf_105 rfl ?_
        refine g_iload V dX7_twosOf_106 rfl rfl ?_
        refine gi_iadd V dX7_twosOf_108 rfl ?_
        refine g_iconst V (Int32.ofInt 2) dX7_twosOf_109 rfl rfl ?_
        refine gi_irem V dX7_twosOf_110 (by decide) (by decide) rfl ?_
        obtain ⟨vs, ha, h0, h9, hi, hw⟩ := hw
        refine gi_iastore V ha h0 h9 hi dX7_twosOf_111 rfl ?_
        generalize gaUp h v2 _ = hp2 at hw ⊢
        refine g_iload V dX7_twosOf_112 rfl rfl ?_
        refine g_iconst V (Int32.ofInt 2) dX7_twosOf_114 rfl rfl ?_
        refine gi_idiv V dX7_twosOf_115 (by decide) (by decide) rfl ?_
        refine g_istore (lv2 := [none, none, some (.ref v2), some (gi v3), some (gi (gDiv v4 2))]) V dX7_twosOf_116 (by decide) rfl rfl rfl ?_
        refine g_goto V dX7_twosOf_118 rfl ?_
        exact ih v2 v3 (gDiv v4 2) hp2 kc ks hw
  have h_X7_twosOf_L87 : ∀ (n : Nat), ∀ (v2 : Nat) (v3 : Int) (h : gaH) (kc ks : Nat), w_X7_twosOf_L87 Q n v2 v3 h kc ks → gaP p l e rm_X7_twosOf s m args below meth c G 5 (gaZ below G (gQa Q) X args s rm_X7_twosOf) 87 [none, none, some (.ref v2), some (gi v3), none] [] h kc ks := by
    intro n
    induction n with
    | zero =>
      intro v2 v3 h kc ks hw
      exact hw.elim
    | succ n ih =>
      intro v2 v3 h kc ks hw
      unfold w_X7_twosOf_L87 at hw
      refine g_iload_n V dX7_twosOf_87 rfl rfl ?_
      refine g_aload_n V dX7_twosOf_88 rfl rfl ?_
      obtain ⟨t9, vs, ha, ht, hw⟩ := hw
      refine gi_arraylength (t0 := 102) V (by simp [gaT]) ha ht dX7_twosOf_89 rfl ?_
      generalize (vs.length : Int) = r1 at hw ⊢
      obtain ⟨hx0, hx1, hw⟩ := hw
      refine gi_icmp_ge V dX7_twosOf_90 rfl rfl hx0 hx1 (fun q => ?_) (fun q => ?_)
      · have hw := ga_t q hw
        refine g_aload_n V dX7_twosOf_127 rfl rfl ?_
        exact g_aret V rfl (by first | exact Or.inl ⟨_, rfl⟩ | exact Or.inr ⟨_, rfl⟩) dX7_twosOf_128 ⟨_, rfl, hw⟩
      · have hw := ga_f q hw
        refine g_iload_n V dX7_twosOf_93 rfl rfl ?_
        refine g_istore (lv2 := [none, none, some (.ref v2), some (gi v3), some (gi v3)]) V dX7_twosOf_94 (by decide) rfl rfl rfl ?_
        obtain ⟨z, hw⟩ := hw
        exact h_X7_twosOf_L96 (w_X7_twosOf_L87 Q n) ih z v2 v3 v3 h kc ks hw
  have h_X7_twosOf_L15 : ∀ (n : Nat), ∀ (v0 : Int) (v1 : Int) (v2 : Nat) (v3 : Int) (h : gaH) (kc ks : Nat), w_X7_twosOf_L15 Q n v0 v1 v2 v3 h kc ks → gaP p l e rm_X7_twosOf s m args below meth c G 5 (gaZ below G (gQa Q) X args s rm_X7_twosOf) 15 [some (gi v0), some (gi v1), some (.ref v2), some (gi v3), none] [] h kc ks := by
    intro n
    induction n with
    | zero =>
      intro v0 v1 v2 v3 h kc ks hw
      exact hw.elim
    | succ n ih =>
      intro v0 v1 v2 v3 h kc ks hw
      unfold w_X7_twosOf_L15 at hw
      refine g_iload_n V dX7_twosOf_15 rfl rfl ?_
      refine g_iload_n V dX7_twosOf_16 rfl rfl ?_
      obtain ⟨hx0, hx1, hw⟩ := hw
      refine gi_icmp_ge V dX7_twosOf_17 rfl rfl hx0 hx1 (fun q => ?_) (fun q => ?_)
      · have hw := ga_t q hw
        refine g_aload_n V dX7_twosOf_77 rfl rfl ?_
        exact g_aret V rfl (by first | exact Or.inl ⟨_, rfl⟩ | exact Or.inr ⟨_, rfl⟩) dX7_twosOf_78 ⟨_, rfl, hw⟩
      · have hw := ga_f q hw
        refine g_aload_n V dX7_twosOf_20 rfl rfl ?_
        refine g_iconst V (Int32.ofInt 1) dX7_twosOf_21 rfl rfl ?_
        obtain ⟨h0, h9, hk, hj, hw⟩ := hw
        refine gi_newarray (atype := .int) (t := 102) V (by decide) rfl ww_1_109 h0 h9 dX7_twosOf_22 rfl hk hj (fun o1 hf => ?_)
        obtain ⟨c3, s4, ec, es, hw⟩ := hw o1 hf
        refine ga_re ec es ?_
        generalize gaUp h o1 _ = hp2 at hw ⊢
        refine g_dup V dX7_twosOf_24 rfl rfl ?_
        refine g_iconst V (Int32.ofInt 0) dX7_twosOf_25 rfl rfl ?_
        refine g_iconst V (Int32.ofInt 1) dX7_twosOf_26 rfl rfl ?_
        obtain ⟨vs, ha, h0, h9, hi, hw⟩ := hw
        refine gi_iastore V ha h0 h9 hi dX7_twosOf_27 rfl ?_
        generalize gaUp hp2 o1 _ = hp5 at hw ⊢
        refine g_iconst V (Int32.ofInt 1) dX7_twosOf_28 rfl rfl ?_
        obtain ⟨h0, h9, hk, hj, hw⟩ := hw
        refine gi_newarray (atype := .int) (t := 102) V (by decide) rfl ww_1_109 h0 h9 dX7_twosOf_29 rfl hk hj (fun o6 hf => ?_)
        obtain ⟨c8, s9, ec, es, hw⟩ := hw o6 hf
        refine ga_re ec es ?_
        generalize gaUp hp5 o6 _ = hp7 at hw ⊢
        refine g_dup V dX7_twosOf_31 rfl rfl ?_
        refine g_iconst V (Int32.ofInt 0) dX7_twosOf_32 rfl rfl ?_
        refine g_iconst V (Int32.ofInt 0) dX7_twosOf_33 rfl rfl ?_
        obtain ⟨vs, ha, h0, h9, hi, hw⟩ := hw
        refine gi_iastore V ha h0 h9 hi dX7_twosOf_34 rfl ?_
        generalize gaUp hp7 o6 _ = hp10 at hw ⊢
        obtain ⟨hk, hj, c13, s14, ec, es, hw⟩ := hw
        refine g_callS (st := []) V (k_X7_image hst hw) ww_6_78 ww_6_79 ww_1_5 ww_6_80 hd_X7_image ⟨by decide, by decide⟩ rfl rfl (ga_cat rfl) dX7_twosOf_35 hk hj rfl (gaX_all hT V) (ga_ka (fun r12 hp11 hw => ?_))
        refine ga_re ec es ?_
        refine g_astore (lv2 := [some (gi v0), some (gi v1), some (.ref v2), some (gi v3), some (.ref r12)]) V dX7_twosOf_38 (by decide) rfl rfl rfl ?_
        refine g_iload_n V dX7_twosOf_40 rfl rfl ?_
        obtain ⟨hx0, hw⟩ := hw
        refine gi_if_ne V dX7_twosOf_41 rfl rfl hx0 (fun q => ?_) (fun q => ?_)
        · have hw := ga_f q hw
          refine g_aload_n V dX7_twosOf_60 rfl rfl ?_
          refine g_aload_n V dX7_twosOf_61 rfl rfl ?_
          obtain ⟨t9, vs, ha, ht, hw⟩ := hw
          refine gi_arraylength (t0 := 102) V (by simp [gaT]) ha ht dX7_twosOf_62 rfl ?_
          generalize (vs.length : Int) = r15 at hw ⊢
          refine g_aload_n V dX7_twosOf_63 rfl rfl ?_
          obtain ⟨t9, vs, ha, ht, hw⟩ := hw
          refine gi_arraylength (t0 := 102) V (by simp [gaT]) ha ht dX7_twosOf_64 rfl ?_
          generalize (vs.length : Int) = r16 at hw ⊢
          refine g_aload V dX7_twosOf_65 rfl rfl ?_
          obtain ⟨hk, hj, c19, s20, ec, es, hw⟩ := hw
          refine g_callS (st := []) V (k_X7_spliced hst hw) ww_6_8 ww_6_9 ww_1_5 ww_6_10 hd_X7_spliced ⟨by decide, by decide⟩ rfl rfl (ga_cat rfl) dX7_twosOf_67 hk hj rfl (gaX_all hT V) (ga_ka (fun r18 hp17 hw => ?_))
          refine ga_re ec es ?_
          refine g_astore_n (lv2 := [some (gi v0), some (gi v1), some (.ref r18), some (gi v3), some (.ref r12)]) V dX7_twosOf_70 (by decide) rfl rfl rfl ?_
          refine gi_iinc (lv2 := [some (gi v0), some (gi v1), some (.ref r18), some (gi (v3 + 1)), some (.ref r12)]) V dX7_twosOf_71 (by decide) rfl rfl rfl rfl ?_
          refine g_goto V dX7_twosOf_74 rfl ?_
          refine g_less (bs := [true, true, true, true, false]) (lv2 := [some (gi v0), some (gi v1), some (.ref r18), some (gi (v3 + 1)), none]) rfl ?_
          exact ih v0 v1 r18 (v3 + 1) hp17 c19 s20 hw
        · have hw := ga_t q hw
          refine g_aload_n V dX7_twosOf_44 rfl rfl ?_
          refine g_iconst V (Int32.ofInt 5) dX7_twosOf_45 rfl rfl ?_
          obtain ⟨hk, hj, c23, s24, ec, es, hw⟩ := hw
          refine g_callS (st := [.ref v2]) V (k_X7_ofCode hst hw) ww_5_229 ww_5_230 ww_1_5 ww_5_231 hd_X7_ofCode ⟨by decide, by decide⟩ rfl rfl (ga_cat rfl) dX7_twosOf_46 hk hj rfl (gaX_all hT V) (ga_ka (fun r22 hp21 hw => ?_))
          refine ga_re ec es ?_
          refine g_bipush V (Int32.ofInt 6) dX7_twosOf_49 rfl rfl ?_
          obtain ⟨hk, hj, c27, s28, ec, es, hw⟩ := hw
          refine g_callS (st := [.ref r22, .ref v2]) V (k_X7_ofCode hst hw) ww_5_229 ww_5_230 ww_1_5 ww_5_231 hd_X7_ofCode ⟨by decide, by decide⟩ rfl rfl (ga_cat rfl) dX7_twosOf_51 hk hj rfl (gaX_all hT V) (ga_ka (fun r26 hp25 hw => ?_))
          refine ga_re ec es ?_
          obtain ⟨hk, hj, c31, s32, ec, es, hw⟩ := hw
          refine g_callS (st := []) V (k_X7_image hst hw) ww_6_78 ww_6_79 ww_1_5 ww_6_80 hd_X7_image ⟨by decide, by decide⟩ rfl rfl (ga_cat rfl) dX7_twosOf_54 hk hj rfl (gaX_all hT V) (ga_ka (fun r30 hp29 hw => ?_))
          refine ga_re ec es ?_
          refine g_goto V dX7_twosOf_57 rfl ?_
          refine g_astore_n (lv2 := [some (gi v0), some (gi v1), some (.ref r30), some (gi v3), some (.ref r12)]) V dX7_twosOf_70 (by decide) rfl rfl rfl ?_
          refine gi_iinc (lv2 := [some (gi v0), some (gi v1), some (.ref r30), some (gi (v3 + 1)), some (.ref r12)]) V dX7_twosOf_71 (by decide) rfl rfl rfl rfl ?_
          refine g_goto V dX7_twosOf_74 rfl ?_
          refine g_less (bs := [true, true, true, true, false]) (lv2 := [some (gi v0), some (gi v1), some (.ref r30), some (gi (v3 + 1)), none]) rfl ?_
          exact ih v0 v1 r30 (v3 + 1) hp29 c31 s32 hw
  show gaP p l e rm_X7_twosOf s m args below meth c G 5 (gaZ below G (gQa Q) X args s rm_X7_twosOf) 0 [some (gi a0), some (gi a1), none, none, none] [] h 44 4928
  unfold w_X7_twosOf at hw
  refine g_iconst V (Int32.ofInt 1) dX7_twosOf_0 rfl rfl ?_
  obtain ⟨h0, h9, hk, hj, hw⟩ := hw
  refine gi_newarray (atype := .int) (t := 102) V (by decide) rfl ww_1_109 h0 h9 dX7_twosOf_1 rfl hk hj (fun o1 hf => ?_)
  obtain ⟨c3, s4, ec, es, hw⟩ := hw o1 hf
  refine ga_re ec es ?_
  generalize gaUp h o1 _ = hp2 at hw ⊢
  refine g_dup V dX7_twosOf_3 rfl rfl ?_
  refine g_iconst V (Int32.ofInt 0) dX7_twosOf_4 rfl rfl ?_
  refine g_iconst V (Int32.ofInt 0) dX7_twosOf_5 rfl rfl ?_
  obtain ⟨vs, ha, h0, h9, hi, hw⟩ := hw
  refine gi_iastore V ha h0 h9 hi dX7_twosOf_6 rfl ?_
  generalize gaUp hp2 o1 _ = hp5 at hw ⊢
  refine g_astore_n (lv2 := [some (gi a0), some (gi a1), some (.ref o1), none, none]) V dX7_twosOf_7 (by decide) rfl rfl rfl ?_
  refine g_iload_n V dX7_twosOf_8 rfl rfl ?_
  refine g_iconst V (Int32.ofInt 2) dX7_twosOf_9 rfl rfl ?_
  obtain ⟨hx0, hw⟩ := hw
  refine gi_icmp_ge V dX7_twosOf_10 rfl rfl hx0 (by decide) (fun q => ?_) (fun q => ?_)
  · have hw := ga_t q hw
    refine g_iconst V (Int32.ofInt 1) dX7_twosOf_79 rfl rfl ?_
    refine g_iload_n V dX7_twosOf_80 rfl rfl ?_
    refine gi_ishl V dX7_twosOf_81 rfl ?_
    obtain ⟨h0, h9, hk, hj, hw⟩ := hw
    refine gi_newarray (atype := .int) (t := 102) V (by decide) rfl ww_1_109 h0 h9 dX7_twosOf_82 rfl hk hj (fun o6 hf => ?_)
    obtain ⟨c8, s9, ec, es, hw⟩ := hw o6 hf
    refine ga_re ec es ?_
    generalize gaUp hp5 o6 _ = hp7 at hw ⊢
    refine g_astore_n (lv2 := [some (gi a0), some (gi a1), some (.ref o6), none, none]) V dX7_twosOf_84 (by decide) rfl rfl rfl ?_
    refine g_iconst V (Int32.ofInt 0) dX7_twosOf_85 rfl rfl ?_
    refine g_istore_n (lv2 := [some (gi a0), some (gi a1), some (.ref o6), some (gi 0), none]) V dX7_twosOf_86 (by decide) rfl rfl rfl ?_
    refine g_less (bs := [false, false, true, true, true]) (lv2 := [none, none, some (.ref o6), some (gi 0), none]) rfl ?_
    obtain ⟨z, hw⟩ := hw
    exact h_X7_twosOf_L87 z o6 0 hp7 c8 s9 hw
  · have hw := ga_f q hw
    refine g_iconst V (Int32.ofInt 0) dX7_twosOf_13 rfl rfl ?_
    refine g_istore_n (lv2 := [some (gi a0), some (gi a1), some (.ref o1), some (gi 0), none]) V dX7_twosOf_14 (by decide) rfl rfl rfl ?_
    obtain ⟨z, hw⟩ := hw
    exact h_X7_twosOf_L15 z a0 a1 o1 0 hp5 c3 s4 hw
def w_X7_twos_J37 (Q : Int → gaH → Prop) (v0 : Nat) (v1 : Int) (v2 : Int) (v3 : Int) (t0 : Nat) (t1 : Int) (h : gaH) (kc ks : Nat) : Prop := gHas h t0 7 ∧ w_X7_refuse t0 t1 2 h (fun r2 hp1 => gR r2 ∧ (if r2 = 0 then gCall 44 4928 kc ks (fun c5 s6 => w_X7_twosOf v2 v3 hp1 (fun r4 hp3 => gHas hp3 v0 7 ∧ w_X7_comes v0 v1 r4 hp3 (fun r8 hp7 => Q r8 hp7))) else Q 0 hp1))
def w_X7_twos_J32 (Q : Int → gaH → Prop) (v0 : Nat) (v1 : Int) (v2 : Int) (v3 : Int) (t0 : Nat) (h : gaH) (kc ks : Nat) : Prop := w_X7_twos_J37 Q v0 v1 v2 v3 t0 1 h kc ks
def w_X7_twos (a0 : Nat) (a1 : Int) (a2 : Int) (a3 : Int) (h : gaH) (Q : Int → gaH → Prop) : Prop := w_X7_isNoSheet a1 h (fun r2 hp1 => gHas hp1 a0 7 ∧ w_X7_start a0 r2 1 hp1 (fun r4 hp3 => gR r4 ∧ (if r4 = 0 then w_X7_isIn a2 0 6 hp3 (fun r6 hp5 => gR r6 ∧ (if r6 = 0 then w_X7_twos_J32 Q a0 a1 a2 a3 a0 hp5 44 4928 else w_X7_isIn a3 0 2 hp5 (fun r8 hp7 => gR r8 ∧ (if r8 = 0 then w_X7_twos_J32 Q a0 a1 a2 a3 a0 hp7 44 4928 else w_X7_twos_J37 Q a0 a1 a2 a3 a0 0 hp7 44 4928)))) else Q 0 hp3)))
abbrev rm_X7_twos : Room := { frames := 3, cells := 44, slots := 4928, locals := 82 }
theorem hd_X7_twos : yX7_twos.cls = RX7 ∧ (yX7_twos.cls ≠ "java/lang/invoke/MethodHandle" ∧ yX7_twos.cls ≠ "java/lang/invoke/VarHandle" ∧ (parseMethodDescriptor yX7_twos.desc).map (fun d => d.parameters.length) = some 3) := by decide +kernel
theorem k_X7_twos {l : Launch} (hst : l.stackTraces = false) {G : gaG} {X : String → gaH → Prop} {a0 : Nat} {a1 : Int} {a2 : Int} {a3 : Int} {h : gaH} {Q : Int → gaH → Prop} (hw : w_X7_twos a0 a1 a2 a3 h Q) : gaC l G yX7_twos (gaM yX7_twos cX7_twos 4 ((some .int))) rm_X7_twos [.ref a0, gi a1, gi a2, gi a3] h (gQi Q) X := by
  refine g_start (lv := [some (.ref a0), some (gi a1), some (gi a2), some (gi a3)]) hpl_RX7 hst (Nat.le_of_ble_eq_true rfl) (gaArgs_pad (z := 0) rfl) ww_6_131 ?_
  intro p e s m args below meth c V hT
  have h_X7_twos_J37 : ∀ (v0 : Nat) (v1 : Int) (v2 : Int) (v3 : Int) (t0 : Nat) (t1 : Int) (h : gaH) (kc ks : Nat), w_X7_twos_J37 Q v0 v1 v2 v3 t0 t1 h kc ks → gaP p l e rm_X7_twos s m args below meth c G 4 (gaZ below G (gQi Q) X args s rm_X7_twos) 37 [some (.ref v0), some (gi v1), some (gi v2), some (gi v3)] [gi t1, .ref t0] h kc ks := by
    intro v0 v1 v2 v3 t0 t1 h kc ks hw
    unfold w_X7_twos_J37 at hw
    refine g_iconst V (Int32.ofInt 2) dX7_twos_37 rfl rfl ?_
    obtain ⟨hb, hw⟩ := hw
    obtain ⟨fb, hb⟩ := hb
    refine g_callV (C := RX7) (T := TX7) (N := 8) (st := []) V (k_X7_refuse hst hw) ww_5_224 ww_5_226 wp_2_3 ww_1_5 ww_5_227 hd_X7_refuse ⟨by decide, by decide⟩ rfl (by decide) hb rfl rfl (ga_cat rfl) dX7_twos_38 (Nat.zero_le _) (Nat.zero_le _) rfl (gaX_all hT V) (ga_ki (fun r2 hp1 hw => ?_))
    obtain ⟨hx0, hw⟩ := hw
    refine gi_if_eq V dX7_twos_41 rfl rfl hx0 (fun q => ?_) (fun q => ?_)
    · have hw := ga_t q hw
      refine g_aload_n V dX7_twos_46 rfl rfl ?_
      refine g_iload_n V dX7_twos_47 rfl rfl ?_
      refine g_iload_n V dX7_twos_48 rfl rfl ?_
      refine g_iload_n V dX7_twos_49 rfl rfl ?_
      obtain ⟨hk, hj, c5, s6, ec, es, hw⟩ := hw
      refine g_callS (st := [gi v1, .ref v0]) V (k_X7_twosOf hst hw) ww_6_132 ww_6_133 ww_1_5 ww_6_134 hd_X7_twosOf ⟨by decide, by decide⟩ rfl rfl (ga_cat rfl) dX7_twos_50 hk hj rfl (gaX_all hT V) (ga_ka (fun r4 hp3 hw => ?_))
      refine ga_re ec es ?_
      obtain ⟨hb, hw⟩ := hw
      obtain ⟨fb, hb⟩ := hb
      refine g_callV (C := RX7) (T := TX7) (N := 8) (st := []) V (k_X7_comes hst hw) ww_5_232 ww_5_234 wp_2_4 ww_1_5 ww_5_235 hd_X7_comes ⟨by decide, by decide⟩ rfl (by decide) hb rfl rfl (ga_cat rfl) dX7_twos_53 (Nat.zero_le _) (Nat.zero_le _) rfl (gaX_all hT V) (ga_ki (fun r8 hp7 hw => ?_))
      exact g_iret V rfl rfl dX7_twos_56 ⟨_, rfl, hw⟩
    · have hw := ga_f q hw
      refine g_iconst V (Int32.ofInt 0) dX7_twos_44 rfl rfl ?_
      exact g_iret V rfl rfl dX7_twos_45 ⟨_, rfl, hw⟩
  have h_X7_twos_J32 : ∀ (v0 : Nat) (v1 : Int) (v2 : Int) (v3 : Int) (t0 : Nat) (h : gaH) (kc ks : Nat), w_X7_twos_J32 Q v0 v1 v2 v3 t0 h kc ks → gaP p l e rm_X7_twos s m args below meth c G 4 (gaZ below G (gQi Q) X args s rm_X7_twos) 32 [some (.ref v0), some (gi v1), some (gi v2), some (gi v3)] [.ref t0] h kc ks := by
    intro v0 v1 v2 v3 t0 h kc ks hw
    unfold w_X7_twos_J32 at hw
    refine g_iconst V (Int32.ofInt 1) dX7_twos_32 rfl rfl ?_
    refine g_goto V dX7_twos_33 rfl ?_
    exact h_X7_twos_J37 v0 v1 v2 v3 t0 1 h kc ks hw
  show gaP p l e rm_X7_twos s m args below meth c G 4 (gaZ below G (gQi Q) X args s rm_X7_twos) 0 [some (.ref a0), some (gi a1), some (gi a2), some (gi a3)] [] h 44 4928
  unfold w_X7_twos at hw
  refine g_aload_n V dX7_twos_0 rfl rfl ?_
  refine g_iload_n V dX7_twos_1 rfl rfl ?_
  refine g_callS (st := [.ref a0]) V (k_X7_isNoSheet hst hw) ww_5_214 ww_5_215 ww_1_5 ww_5_216 hd_X7_isNoSheet ⟨by decide, by decide⟩ rfl rfl (ga_cat rfl) dX7_twos_2 (Nat.zero_le _) (Nat.zero_le _) rfl (gaX_all hT V) (ga_ki (fun r2 hp1 hw => ?_))
  refine g_iconst V (Int32.ofInt 1) dX7_twos_5 rfl rfl ?_
  obtain ⟨hb, hw⟩ := hw
  obtain ⟨fb, hb⟩ := hb
  refine g_callV (C := RX7) (T := TX7) (N := 8) (st := []) V (k_X7_start hst hw) ww_5_220 ww_5_222 wp_2_2 ww_1_5 ww_5_223 hd_X7_start ⟨by decide, by decide⟩ rfl (by decide) hb rfl rfl (ga_cat rfl) dX7_twos_6 (Nat.zero_le _) (Nat.zero_le _) rfl (gaX_all hT V) (ga_ki (fun r4 hp3 hw => ?_))
  obtain ⟨hx0, hw⟩ := hw
  refine gi_if_ne V dX7_twos_9 rfl rfl hx0 (fun q => ?_) (fun q => ?_)
  · have hw := ga_f q hw
    refine g_iconst V (Int32.ofInt 0) dX7_twos_44 rfl rfl ?_
    exact g_iret V rfl rfl dX7_twos_45 ⟨_, rfl, hw⟩
  · have hw := ga_t q hw
    refine g_aload_n V dX7_twos_12 rfl rfl ?_
    refine g_iload_n V dX7_twos_13 rfl rfl ?_
    refine g_iconst V (Int32.ofInt 0) dX7_twos_14 rfl rfl ?_
    refine g_bipush V (Int32.ofInt 6) dX7_twos_15 rfl rfl ?_
    refine g_callS (st := [.ref a0]) V (k_X7_isIn hst hw) ww_5_217 ww_5_218 ww_1_5 ww_5_219 hd_X7_isIn ⟨by decide, by decide⟩ rfl rfl (ga_cat rfl) dX7_twos_17 (Nat.zero_le _) (Nat.zero_le _) rfl (gaX_all hT V) (ga_ki (fun r6 hp5 hw => ?_))
    obtain ⟨hx0, hw⟩ := hw
    refine gi_if_eq V dX7_twos_20 rfl rfl hx0 (fun q => ?_) (fun q => ?_)
    · have hw := ga_t q hw
      exact h_X7_twos_J32 a0 a1 a2 a3 a0 hp5 44 4928 hw
    · have hw := ga_f q hw
      refine g_iload_n V dX7_twos_23 rfl rfl ?_
      refine g_iconst V (Int32.ofInt 0) dX7_twos_24 rfl rfl ?_
      refine g_iconst V (Int32.ofInt 2) dX7_twos_25 rfl rfl ?_
      refine g_callS (st := [.ref a0]) V (k_X7_isIn hst hw) ww_5_217 ww_5_218 ww_1_5 ww_5_219 hd_X7_isIn ⟨by decide, by decide⟩ rfl rfl (ga_cat rfl) dX7_twos_26 (Nat.zero_le _) (Nat.zero_le _) rfl (gaX_all hT V) (ga_ki (fun r8 hp7 hw => ?_))
      obtain ⟨hx0, hw⟩ := hw
      refine gi_if_ne V dX7_twos_29 rfl rfl hx0 (fun q => ?_) (fun q => ?_)
      · have hw := ga_f q hw
        refine g_iconst V (Int32.ofInt 0) dX7_twos_36 rfl rfl ?_
        exact h_X7_twos_J37 a0 a1 a2 a3 a0 0 hp7 44 4928 hw
      · have hw := ga_t q hw
        exact h_X7_twos_J32 a0 a1 a2 a3 a0 hp7 44 4928 hw
def w_X7_undo_L152 (Q : Int → gaH → Prop) : Nat → (Nat → Int → Nat → Nat → Nat → Nat → Nat → Int → Int → gaH → Nat → Nat → Prop)
  | 0 => fun _ _ _ _ _ _ _ _ _ _ _ _ => False
  | n + 1 => fun v0 v1 v4 v5 v6 v7 v9 v10 v11 h kc ks => gAL h v4 102 (fun r1 => gR v11 ∧ gR r1 ∧ (if r1 ≤ v11 then gHas h v0 7 ∧ w_X7_comes v0 v1 v9 h (fun r3 hp2 => Q r3 hp2) else gLI h v7 102 v11 (fun r4 => gSI h v9 102 v10 (gi (r4 - 1)) (fun hp5 => gLI hp5 v7 102 v11 (fun r6 => gR r6 ∧ (if r6 = 1 then gAL hp5 v5 102 (fun r8 => w_X7_undo_L152 Q n v0 v1 v4 v5 v6 v7 v9 (v10 + 1) (v11 + r8) hp5 kc ks) else gAL hp5 v6 102 (fun r7 => w_X7_undo_L152 Q n v0 v1 v4 v5 v6 v7 v9 (v10 + 1) (v11 + r7) hp5 kc ks)))))))
def w_X7_undo_L103 (Q : Int → gaH → Prop) : Nat → (Nat → Int → Nat → Nat → Nat → Nat → Int → Int → gaH → Nat → Nat → Prop)
  | 0 => fun _ _ _ _ _ _ _ _ _ _ _ => False
  | n + 1 => fun v0 v1 v4 v5 v6 v7 v8 v9 h kc ks => gAL h v4 102 (fun r1 => gR v9 ∧ gR r1 ∧ (if r1 ≤ v9 then gNA h 102 (gi 0) v8 kc ks (fun o2 hp3 c4 s5 => ∃ z, w_X7_undo_L152 Q z v0 v1 v4 v5 v6 v7 o2 0 0 hp3 c4 s5) else gLI h v7 102 v9 (fun r6 => gR r6 ∧ (if r6 = 1 then gAL h v5 102 (fun r8 => w_X7_undo_L103 Q n v0 v1 v4 v5 v6 v7 (v8 + 1) (v9 + r8) h kc ks) else gAL h v6 102 (fun r7 => w_X7_undo_L103 Q n v0 v1 v4 v5 v6 v7 (v8 + 1) (v9 + r7) h kc ks)))))
def w_X7_undo_J39 (Q : Int → gaH → Prop) (v0 : Nat) (v1 : Int) (v2 : Int) (v3 : Int) (t0 : Nat) (t1 : Int) (h : gaH) (kc ks : Nat) : Prop := gHas h t0 7 ∧ w_X7_refuse t0 t1 3 h (fun r2 hp1 => gR r2 ∧ (if r2 = 0 then gA hp1 v0 7 0 (fun r3 => gLA hp1 r3 112 v1 (fun r4 => gCall 1 16 kc ks (fun c7 s8 => w_X7_ofCode v2 hp1 (fun r6 hp5 => gCall 1 16 c7 s8 (fun c11 s12 => w_X7_ofCode v3 hp5 (fun r10 hp9 => gCall 1 66 c11 s12 (fun c15 s16 => w_X7_steps r4 r6 r10 hp9 (fun r14 hp13 => gAL hp13 r4 102 (fun r17 => gR r17 ∧ (if r17 ≤ 0 then ∃ z, w_X7_undo_L103 Q z v0 v1 r4 r6 r10 r14 0 0 hp13 c15 s16 else gLI hp13 r14 102 0 (fun r18 => gR r18 ∧ (if r18 = 0 then gHas hp13 v0 7 ∧ w_X7_cannot v0 hp13 (fun r20 hp19 => Q r20 hp19) else ∃ z, w_X7_undo_L103 Q z v0 v1 r4 r6 r10 r14 0 0 hp13 c15 s16)))))))))))) else Q 0 hp1))
def w_X7_undo (a0 : Nat) (a1 : Int) (a2 : Int) (a3 : Int) (h : gaH) (Q : Int → gaH → Prop) : Prop := w_X7_isNoSheet a1 h (fun r2 hp1 => gHas hp1 a0 7 ∧ w_X7_start a0 r2 1 hp1 (fun r4 hp3 => gR r4 ∧ (if r4 = 0 then w_X7_isNoRule a2 a3 hp3 (fun r6 hp5 => gHas hp5 a0 7 ∧ w_X7_refuse a0 r6 2 hp5 (fun r8 hp7 => gR r8 ∧ (if r8 = 0 then gCall 4 288 8 450 (fun c11 s12 => w_X7_isApartRule a2 a3 hp7 (fun r10 hp9 => gR r10 ∧ (if r10 = 0 then w_X7_undo_J39 Q a0 a1 a2 a3 a0 1 hp9 c11 s12 else w_X7_undo_J39 Q a0 a1 a2 a3 a0 0 hp9 c11 s12))) else Q 0 hp7))) else Q 0 hp3)))
abbrev rm_X7_undo : Room := { frames := 3, cells := 8, slots := 450, locals := 67 }
theorem hd_X7_undo : yX7_undo.cls = RX7 ∧ (yX7_undo.cls ≠ "java/lang/invoke/MethodHandle" ∧ yX7_undo.cls ≠ "java/lang/invoke/VarHandle" ∧ (parseMethodDescriptor yX7_undo.desc).map (fun d => d.parameters.length) = some 3) := by decide +kernel
theorem k_X7_undo {l : Launch} (hst : l.stackTraces = false) {G : gaG} {X : String → gaH → Prop} {a0 : Nat} {a1 : Int} {a2 : Int} {a3 : Int} {h : gaH} {Q : Int → gaH → Prop} (hw : w_X7_undo a0 a1 a2 a3 h Q) : gaC l G yX7_undo (gaM yX7_undo cX7_undo 12 ((some .int))) rm_X7_undo [.ref a0, gi a1, gi a2, gi a3] h (gQi Q) X := by
  refine g_start (lv := [some (.ref a0), some (gi a1), some (gi a2), some (gi a3), none, none, none, none, none, none, none, none]) hpl_RX7 hst (Nat.le_of_ble_eq_true rfl) (gaArgs_pad (z := 8) rfl) ww_6_99 ?_
  intro p e s m args below meth c V hT
  have h_X7_undo_L152 : ∀ (n : Nat), ∀ (v0 : Nat) (v1 : Int) (v4 : Nat) (v5 : Nat) (v6 : Nat) (v7 : Nat) (v9 : Nat) (v10 : Int) (v11 : Int) (h : gaH) (kc ks : Nat), w_X7_undo_L152 Q n v0 v1 v4 v5 v6 v7 v9 v10 v11 h kc ks → gaP p l e rm_X7_undo s m args below meth c G 12 (gaZ below G (gQi Q) X args s rm_X7_undo) 152 [some (.ref v0), some (gi v1), none, none, some (.ref v4), some (.ref v5), some (.ref v6), some (.ref v7), none, some (.ref v9), some (gi v10), some (gi v11)] [] h kc ks := by
    intro n
    induction n with
    | zero =>
      intro v0 v1 v4 v5 v6 v7 v9 v10 v11 h kc ks hw
      exact hw.elim
    | succ n ih =>
      intro v0 v1 v4 v5 v6 v7 v9 v10 v11 h kc ks hw
      unfold w_X7_undo_L152 at hw
      refine g_iload V dX7_undo_152 rfl rfl ?_
      refine g_aload V dX7_undo_154 rfl rfl ?_
      obtain ⟨t9, vs, ha, ht, hw⟩ := hw
      refine gi_arraylength (t0 := 102) V (by simp [gaT]) ha ht dX7_undo_156 rfl ?_
      generalize (vs.length : Int) = r1 at hw ⊢
      obtain ⟨hx0, hx1, hw⟩ := hw
      refine gi_icmp_ge V dX7_undo_157 rfl rfl hx0 hx1 (fun q => ?_) (fun q => ?_)
      · have hw := ga_t q hw
        refine g_aload_n V dX7_undo_201 rfl rfl ?_
        refine g_iload_n V dX7_undo_202 rfl rfl ?_
        refine g_aload V dX7_undo_203 rfl rfl ?_
        obtain ⟨hb, hw⟩ := hw
        obtain ⟨fb, hb⟩ := hb
        refine g_callV (C := RX7) (T := TX7) (N := 8) (st := []) V (k_X7_comes hst hw) ww_5_232 ww_5_234 wp_2_4 ww_1_5 ww_5_235 hd_X7_comes ⟨by decide, by decide⟩ rfl (by decide) hb rfl rfl (ga_cat rfl) dX7_undo_205 (Nat.zero_le _) (Nat.zero_le _) rfl (gaX_all hT V) (ga_ki (fun r3 hp2 hw => ?_))
        exact g_iret V rfl rfl dX7_undo_208 ⟨_, rfl, hw⟩
      · have hw := ga_f q hw
        refine g_aload V dX7_undo_160 rfl rfl ?_
        refine g_iload V dX7_undo_162 rfl rfl ?_
        refine gi_iinc (lv2 := [some (.ref v0), some (gi v1), none, none, some (.ref v4), some (.ref v5), some (.ref v6), some (.ref v7), none, some (.ref v9), some (gi (v10 + 1)), some (gi v11)]) V dX7_undo_164 (by decide) rfl rfl rfl rfl ?_
        refine g_aload V dX7_undo_167 rfl rfl ?_
        refine g_iload V dX7_undo_169 rfl rfl ?_
        obtain ⟨t9, vs, r4, ha, ht, h0, h9, hv, hw⟩ := hw
        refine gi_iaload V ha ht h0 h9 hv dX7_undo_171 rfl ?_
        refine g_iconst V (Int32.ofInt 1) dX7_undo_172 rfl rfl ?_
        refine gi_isub V dX7_undo_173 rfl ?_
        obtain ⟨vs, ha, h0, h9, hi, hw⟩ := hw
        refine gi_iastore V ha h0 h9 hi dX7_undo_174 rfl ?_
        generalize gaUp h v9 _ = hp5 at hw ⊢
        refine g_iload V dX7_undo_175 rfl rfl ?_
        refine g_aload V dX7_undo_177 rfl rfl ?_
        refine g_iload V dX7_undo_179 rfl rfl ?_
        obtain ⟨t9, vs, r6, ha, ht, h0, h9, hv, hw⟩ := hw
        refine gi_iaload V ha ht h0 h9 hv dX7_undo_181 rfl ?_
        refine g_iconst V (Int32.ofInt 1) dX7_undo_182 rfl rfl ?_
        obtain ⟨hx0, hw⟩ := hw
        refine gi_icmp_ne V dX7_undo_183 rfl rfl hx0 (by decide) (fun q => ?_) (fun q => ?_)
        · have hw := ga_f q hw
          refine g_aload V dX7_undo_192 rfl rfl ?_
          obtain ⟨t9, vs, ha, ht, hw⟩ := hw
          refine gi_arraylength (t0 := 102) V (by simp [gaT]) ha ht dX7_undo_194 rfl ?_
          generalize (vs.length : Int) = r7 at hw ⊢
          refine gi_iadd V dX7_undo_195 rfl ?_
          refine g_istore (lv2 := [some (.ref v0), some (gi v1), none, none, some (.ref v4), some (.ref v5), some (.ref v6), some (.ref v7), none, some (.ref v9), some (gi (v10 + 1)), some (gi (v11 + r7))]) V dX7_undo_196 (by decide) rfl rfl rfl ?_
          refine g_goto V dX7_undo_198 rfl ?_
          exact ih v0 v1 v4 v5 v6 v7 v9 (v10 + 1) (v11 + r7) hp5 kc ks hw
        · have hw := ga_t q hw
          refine g_aload V dX7_undo_186 rfl rfl ?_
          obtain ⟨t9, vs, ha, ht, hw⟩ := hw
          refine gi_arraylength (t0 := 102) V (by simp [gaT]) ha ht dX7_undo_188 rfl ?_
          generalize (vs.length : Int) = r8 at hw ⊢
          refine g_goto V dX7_undo_189 rfl ?_
          refine gi_iadd V dX7_undo_195 rfl ?_
          refine g_istore (lv2 := [some (.ref v0), some (gi v1), none, none, some (.ref v4), some (.ref v5), some (.ref v6), some (.ref v7), none, some (.ref v9), some (gi (v10 + 1)), some (gi (v11 + r8))]) V dX7_undo_196 (by decide) rfl rfl rfl ?_
          refine g_goto V dX7_undo_198 rfl ?_
          exact ih v0 v1 v4 v5 v6 v7 v9 (v10 + 1) (v11 + r8) hp5 kc ks hw
  have h_X7_undo_L103 : ∀ (n : Nat), ∀ (v0 : Nat) (v1 : Int) (v4 : Nat) (v5 : Nat) (v6 : Nat) (v7 : Nat) (v8 : Int) (v9 : Int) (h : gaH) (kc ks : Nat), w_X7_undo_L103 Q n v0 v1 v4 v5 v6 v7 v8 v9 h kc ks → gaP p l e rm_X7_undo s m args below meth c G 12 (gaZ below G (gQi Q) X args s rm_X7_undo) 103 [some (.ref v0), some (gi v1), none, none, some (.ref v4), some (.ref v5), some (.ref v6), some (.ref v7), some (gi v8), some (gi v9), none, none] [] h kc ks := by
    intro n
    induction n with
    | zero =>
      intro v0 v1 v4 v5 v6 v7 v8 v9 h kc ks hw
      exact hw.elim
    | succ n ih =>
      intro v0 v1 v4 v5 v6 v7 v8 v9 h kc ks hw
      unfold w_X7_undo_L103 at hw
      refine g_iload V dX7_undo_103 rfl rfl ?_
      refine g_aload V dX7_undo_105 rfl rfl ?_
      obtain ⟨t9, vs, ha, ht, hw⟩ := hw
      refine gi_arraylength (t0 := 102) V (by simp [gaT]) ha ht dX7_undo_107 rfl ?_
      generalize (vs.length : Int) = r1 at hw ⊢
      obtain ⟨hx0, hx1, hw⟩ := hw
      refine gi_icmp_ge V dX7_undo_108 rfl rfl hx0 hx1 (fun q => ?_) (fun q => ?_)
      · have hw := ga_t q hw
        refine g_iload V dX7_undo_140 rfl rfl ?_
        obtain ⟨h0, h9, hk, hj, hw⟩ := hw
        refine gi_newarray (atype := .int) (t := 102) V (by decide) rfl ww_1_109 h0 h9 dX7_undo_142 rfl hk hj (fun o2 hf => ?_)
        obtain ⟨c4, s5, ec, es, hw⟩ := hw o2 hf
        refine ga_re ec es ?_
        generalize gaUp h o2 _ = hp3 at hw ⊢
        refine g_astore (lv2 := [some (.ref v0), some (gi v1), none, none, some (.ref v4), some (.ref v5), some (.ref v6), some (.ref v7), some (gi v8), some (.ref o2), none, none]) V dX7_undo_144 (by decide) rfl rfl rfl ?_
        refine g_iconst V (Int32.ofInt 0) dX7_undo_146 rfl rfl ?_
        refine g_istore (lv2 := [some (.ref v0), some (gi v1), none, none, some (.ref v4), some (.ref v5), some (.ref v6), some (.ref v7), some (gi v8), some (.ref o2), some (gi 0), none]) V dX7_undo_147 (by decide) rfl rfl rfl ?_
        refine g_iconst V (Int32.ofInt 0) dX7_undo_149 rfl rfl ?_
        refine g_istore (lv2 := [some (.ref v0), some (gi v1), none, none, some (.ref v4), some (.ref v5), some (.ref v6), some (.ref v7), some (gi v8), some (.ref o2), some (gi 0), some (gi 0)]) V dX7_undo_150 (by decide) rfl rfl rfl ?_
        refine g_less (bs := [true, true, true, true, true, true, true, true, false, true, true, true]) (lv2 := [some (.ref v0), some (gi v1), none, none, some (.ref v4), some (.ref v5), some (.ref v6), some (.ref v7), none, some (.ref o2), some (gi 0), some (gi 0)]) rfl ?_
        obtain ⟨z, hw⟩ := hw
        exact h_X7_undo_L152 z v0 v1 v4 v5 v6 v7 o2 0 0 hp3 c4 s5 hw
      · have hw := ga_f q hw
        refine gi_iinc (lv2 := [some (.ref v0), some (gi v1), none, none, some (.ref v4), some (.ref v5), some (.ref v6), some (.ref v7), some (gi (v8 + 1)), some (gi v9), none, none]) V dX7_undo_111 (by decide) rfl rfl rfl rfl ?_
        refine g_iload V dX7_undo_114 rfl rfl ?_
        refine g_aload V dX7_undo_116 rfl rfl ?_
        refine g_iload V dX7_undo_118 rfl rfl ?_
        obtain ⟨t9, vs, r6, ha, ht, h0, h9, hv, hw⟩ := hw
        refine gi_iaload V ha ht h0 h9 hv dX7_undo_120 rfl ?_
        refine g_iconst V (Int32.ofInt 1) dX7_undo_121 rfl rfl ?_
        obtain ⟨hx0, hw⟩ := hw
        refine gi_icmp_ne V dX7_undo_122 rfl rfl hx0 (by decide) (fun q => ?_) (fun q => ?_)
        · have hw := ga_f q hw
          refine g_aload V dX7_undo_131 rfl rfl ?_
          obtain ⟨t9, vs, ha, ht, hw⟩ := hw
          refine gi_arraylength (t0 := 102) V (by simp [gaT]) ha ht dX7_undo_133 rfl ?_
          generalize (vs.length : Int) = r7 at hw ⊢
          refine gi_iadd V dX7_undo_134 rfl ?_
          refine g_istore (lv2 := [some (.ref v0), some (gi v1), none, none, some (.ref v4), some (.ref v5), some (.ref v6), some (.ref v7), some (gi (v8 + 1)), some (gi (v9 + r7)), none, none]) V dX7_undo_135 (by decide) rfl rfl rfl ?_
          refine g_goto V dX7_undo_137 rfl ?_
          exact ih v0 v1 v4 v5 v6 v7 (v8 + 1) (v9 + r7) h kc ks hw
        · have hw := ga_t q hw
          refine g_aload V dX7_undo_125 rfl rfl ?_
          obtain ⟨t9, vs, ha, ht, hw⟩ := hw
          refine gi_arraylength (t0 := 102) V (by simp [gaT]) ha ht dX7_undo_127 rfl ?_
          generalize (vs.length : Int) = r8 at hw ⊢
          refine g_goto V dX7_undo_128 rfl ?_
          refine gi_iadd V dX7_undo_134 rfl ?_
          refine g_istore (lv2 := [some (.ref v0), some (gi v1), none, none, some (.ref v4), some (.ref v5), some (.ref v6), some (.ref v7), some (gi (v8 + 1)), some (gi (v9 + r8)), none, none]) V dX7_undo_135 (by decide) rfl rfl rfl ?_
          refine g_goto V dX7_undo_137 rfl ?_
          exact ih v0 v1 v4 v5 v6 v7 (v8 + 1) (v9 + r8) h kc ks hw
  have h_X7_undo_J39 : ∀ (v0 : Nat) (v1 : Int) (v2 : Int) (v3 : Int) (t0 : Nat) (t1 : Int) (h : gaH) (kc ks : Nat), w_X7_undo_J39 Q v0 v1 v2 v3 t0 t1 h kc ks → gaP p l e rm_X7_undo s m args below meth c G 12 (gaZ below G (gQi Q) X args s rm_X7_undo) 39 [some (.ref v0), some (gi v1), some (gi v2), some (gi v3), none, none, none, none, none, none, none, none] [gi t1, .ref t0] h kc ks := by
    intro v0 v1 v2 v3 t0 t1 h kc ks hw
    unfold w_X7_undo_J39 at hw
    refine g_iconst V (Int32.ofInt 3) dX7_undo_39 rfl rfl ?_
    obtain ⟨hb, hw⟩ := hw
    obtain ⟨fb, hb⟩ := hb
    refine g_callV (C := RX7) (T := TX7) (N := 8) (st := []) V (k_X7_refuse hst hw) ww_5_224 ww_5_226 wp_2_3 ww_1_5 ww_5_227 hd_X7_refuse ⟨by decide, by decide⟩ rfl (by decide) hb rfl rfl (ga_cat rfl) dX7_undo_40 (Nat.zero_le _) (Nat.zero_le _) rfl (gaX_all hT V) (ga_ki (fun r2 hp1 hw => ?_))
    obtain ⟨hx0, hw⟩ := hw
    refine gi_if_eq V dX7_undo_43 rfl rfl hx0 (fun q => ?_) (fun q => ?_)
    · have hw := ga_t q hw
      refine g_aload_n V dX7_undo_48 rfl rfl ?_
      obtain ⟨fs, r3, ha, hv, hw⟩ := hw
      refine g_get (C := RX7) (T := TX7) (N := 8) V 0 rfl hin_RX7 (by decide) (by decide) ww_5_181 rfl ha hv dX7_undo_49 rfl ?_
      refine g_iload_n V dX7_undo_52 rfl rfl ?_
      obtain ⟨vs, r4, ha, h0, h9, hv, hw⟩ := hw
      refine gi_aaload V ha (by decide) h0 h9 hv dX7_undo_53 rfl ?_
      refine g_astore (lv2 := [some (.ref v0), some (gi v1), some (gi v2), some (gi v3), some (.ref r4), none, none, none, none, none, none, none]) V dX7_undo_54 (by decide) rfl rfl rfl ?_
      refine g_iload_n V dX7_undo_56 rfl rfl ?_
      obtain ⟨hk, hj, c7, s8, ec, es, hw⟩ := hw
      refine g_callS (st := []) V (k_X7_ofCode hst hw) ww_5_229 ww_5_230 ww_1_5 ww_5_231 hd_X7_ofCode ⟨by decide, by decide⟩ rfl rfl (ga_cat rfl) dX7_undo_57 hk hj rfl (gaX_all hT V) (ga_ka (fun r6 hp5 hw => ?_))
      refine ga_re ec es ?_
      refine g_astore (lv2 := [some (.ref v0), some (gi v1), some (gi v2), some (gi v3), some (.ref r4), some (.ref r6), none, none, none, none, none, none]) V dX7_undo_60 (by decide) rfl rfl rfl ?_
      refine g_iload_n V dX7_undo_62 rfl rfl ?_
      obtain ⟨hk, hj, c11, s12, ec, es, hw⟩ := hw
      refine g_callS (st := []) V (k_X7_ofCode hst hw) ww_5_229 ww_5_230 ww_1_5 ww_5_231 hd_X7_ofCode ⟨by decide, by decide⟩ rfl rfl (ga_cat rfl) dX7_undo_63 hk hj rfl (gaX_all hT V) (ga_ka (fun r10 hp9 hw => ?_))
      refine ga_re ec es ?_
      refine g_astore (lv2 := [some (.ref v0), some (gi v1), some (gi v2), some (gi v3), some (.ref r4), some (.ref r6), some (.ref r10), none, none, none, none, none]) V dX7_undo_66 (by decide) rfl rfl rfl ?_
      refine g_aload V dX7_undo_68 rfl rfl ?_
      refine g_aload V dX7_undo_70 rfl rfl ?_
      refine g_aload V dX7_undo_72 rfl rfl ?_
      obtain ⟨hk, hj, c15, s16, ec, es, hw⟩ := hw
      refine g_callS (st := []) V (k_X7_steps hst hw) ww_6_103 ww_6_104 ww_1_5 ww_6_105 hd_X7_steps ⟨by decide, by decide⟩ rfl rfl (ga_cat rfl) dX7_undo_74 hk hj rfl (gaX_all hT V) (ga_ka (fun r14 hp13 hw => ?_))
      refine ga_re ec es ?_
      refine g_astore (lv2 := [some (.ref v0), some (gi v1), some (gi v2), some (gi v3), some (.ref r4), some (.ref r6), some (.ref r10), some (.ref r14), none, none, none, none]) V dX7_undo_77 (by decide) rfl rfl rfl ?_
      refine g_aload V dX7_undo_79 rfl rfl ?_
      obtain ⟨t9, vs, ha, ht, hw⟩ := hw
      refine gi_arraylength (t0 := 102) V (by simp [gaT]) ha ht dX7_undo_81 rfl ?_
      generalize (vs.length : Int) = r17 at hw ⊢
      obtain ⟨hx0, hw⟩ := hw
      refine gi_if_le V dX7_undo_82 rfl rfl hx0 (fun q => ?_) (fun q => ?_)
      · have hw := ga_t q hw
        refine g_iconst V (Int32.ofInt 0) dX7_undo_97 rfl rfl ?_
        refine g_istore (lv2 := [some (.ref v0), some (gi v1), some (gi v2), some (gi v3), some (.ref r4), some (.ref r6), some (.ref r10), some (.ref r14), some (gi 0), none, none, none]) V dX7_undo_98 (by decide) rfl rfl rfl ?_
        refine g_iconst V (Int32.ofInt 0) dX7_undo_100 rfl rfl ?_
        refine g_istore (lv2 := [some (.ref v0), some (gi v1), some (gi v2), some (gi v3), some (.ref r4), some (.ref r6), some (.ref r10), some (.ref r14), some (gi 0), some (gi 0), none, none]) V dX7_undo_101 (by decide) rfl rfl rfl ?_
        refine g_less (bs := [true, true, false, false, true, true, true, true, true, true, true, true]) (lv2 := [some (.ref v0), some (gi v1), none, none, some (.ref r4), some (.ref r6), some (.ref r10), some (.ref r14), some (gi 0), some (gi 0), none, none]) rfl ?_
        obtain ⟨z, hw⟩ := hw
        exact h_X7_undo_L103 z v0 v1 r4 r6 r10 r14 0 0 hp13 c15 s16 hw
      · have hw := ga_f q hw
        refine g_aload V dX7_undo_85 rfl rfl ?_
        refine g_iconst V (Int32.ofInt 0) dX7_undo_87 rfl rfl ?_
        obtain ⟨t9, vs, r18, ha, ht, h0, h9, hv, hw⟩ := hw
        refine gi_iaload V ha ht h0 h9 hv dX7_undo_88 rfl ?_
        obtain ⟨hx0, hw⟩ := hw
        refine gi_if_ne V dX7_undo_89 rfl rfl hx0 (fun q => ?_) (fun q => ?_)
        · have hw := ga_f q hw
          refine g_iconst V (Int32.ofInt 0) dX7_undo_97 rfl rfl ?_
          refine g_istore (lv2 := [some (.ref v0), some (gi v1), some (gi v2), some (gi v3), some (.ref r4), some (.ref r6), some (.ref r10), some (.ref r14), some (gi 0), none, none, none]) V dX7_undo_98 (by decide) rfl rfl rfl ?_
          refine g_iconst V (Int32.ofInt 0) dX7_undo_100 rfl rfl ?_
          refine g_istore (lv2 := [some (.ref v0), some (gi v1), some (gi v2), some (gi v3), some (.ref r4), some (.ref r6), some (.ref r10), some (.ref r14), some (gi 0), some (gi 0), none, none]) V dX7_undo_101 (by decide) rfl rfl rfl ?_
          refine g_less (bs := [true, true, false, false, true, true, true, true, true, true, true, true]) (lv2 := [some (.ref v0), some (gi v1), none, none, some (.ref r4), some (.ref r6), some (.ref r10), some (.ref r14), some (gi 0), some (gi 0), none, none]) rfl ?_
          obtain ⟨z, hw⟩ := hw
          exact h_X7_undo_L103 z v0 v1 r4 r6 r10 r14 0 0 hp13 c15 s16 hw
        · have hw := ga_t q hw
          refine g_aload_n V dX7_undo_92 rfl rfl ?_
          obtain ⟨hb, hw⟩ := hw
          obtain ⟨fb, hb⟩ := hb
          refine g_callV (C := RX7) (T := TX7) (N := 8) (st := []) V (k_X7_cannot hst hw) ww_6_4 ww_6_6 wp_2_6 ww_1_5 ww_6_7 hd_X7_cannot ⟨by decide, by decide⟩ rfl (by decide) hb rfl rfl (ga_cat rfl) dX7_undo_93 (Nat.zero_le _) (Nat.zero_le _) rfl (gaX_all hT V) (ga_ki (fun r20 hp19 hw => ?_))
          exact g_iret V rfl rfl dX7_undo_96 ⟨_, rfl, hw⟩
    · have hw := ga_f q hw
      refine g_iconst V (Int32.ofInt 0) dX7_undo_46 rfl rfl ?_
      exact g_iret V rfl rfl dX7_undo_47 ⟨_, rfl, hw⟩
  show gaP p l e rm_X7_undo s m args below meth c G 12 (gaZ below G (gQi Q) X args s rm_X7_undo) 0 [some (.ref a0), some (gi a1), some (gi a2), some (gi a3), none, none, none, none, none, none, none, none] [] h 8 450
  unfold w_X7_undo at hw
  refine g_aload_n V dX7_undo_0 rfl rfl ?_
  refine g_iload_n V dX7_undo_1 rfl rfl ?_
  refine g_callS (st := [.ref a0]) V (k_X7_isNoSheet hst hw) ww_5_214 ww_5_215 ww_1_5 ww_5_216 hd_X7_isNoSheet ⟨by decide, by decide⟩ rfl rfl (ga_cat rfl) dX7_undo_2 (Nat.zero_le _) (Nat.zero_le _) rfl (gaX_all hT V) (ga_ki (fun r2 hp1 hw => ?_))
  refine g_iconst V (Int32.ofInt 1) dX7_undo_5 rfl rfl ?_
  obtain ⟨hb, hw⟩ := hw
  obtain ⟨fb, hb⟩ := hb
  refine g_callV (C := RX7) (T := TX7) (N := 8) (st := []) V (k_X7_start hst hw) ww_5_220 ww_5_222 wp_2_2 ww_1_5 ww_5_223 hd_X7_start ⟨by decide, by decide⟩ rfl (by decide) hb rfl rfl (ga_cat rfl) dX7_undo_6 (Nat.zero_le _) (Nat.zero_le _) rfl (gaX_all hT V) (ga_ki (fun r4 hp3 hw => ?_))
  obtain ⟨hx0, hw⟩ := hw
  refine gi_if_ne V dX7_undo_9 rfl rfl hx0 (fun q => ?_) (fun q => ?_)
  · have hw := ga_f q hw
    refine g_iconst V (Int32.ofInt 0) dX7_undo_46 rfl rfl ?_
    exact g_iret V rfl rfl dX7_undo_47 ⟨_, rfl, hw⟩
  · have hw := ga_t q hw
    refine g_aload_n V dX7_undo_12 rfl rfl ?_
    refine g_iload_n V dX7_undo_13 rfl rfl ?_
    refine g_iload_n V dX7_undo_14 rfl rfl ?_
    refine g_callS (st := [.ref a0]) V (k_X7_isNoRule hst hw) ww_6_93 ww_6_94 ww_1_5 ww_6_95 hd_X7_isNoRule ⟨by decide, by decide⟩ rfl rfl (ga_cat rfl) dX7_undo_15 (Nat.zero_le _) (Nat.zero_le _) rfl (gaX_all hT V) (ga_ki (fun r6 hp5 hw => ?_))
    refine g_iconst V (Int32.ofInt 2) dX7_undo_18 rfl rfl ?_
    obtain ⟨hb, hw⟩ := hw
    obtain ⟨fb, hb⟩ := hb
    refine g_callV (C := RX7) (T := TX7) (N := 8) (st := []) V (k_X7_refuse hst hw) ww_5_224 ww_5_226 wp_2_3 ww_1_5 ww_5_227 hd_X7_refuse ⟨by decide, by decide⟩ rfl (by decide) hb rfl rfl (ga_cat rfl) dX7_undo_19 (Nat.zero_le _) (Nat.zero_le _) rfl (gaX_all hT V) (ga_ki (fun r8 hp7 hw => ?_))
    obtain ⟨hx0, hw⟩ := hw
    refine gi_if_ne V dX7_undo_22 rfl rfl hx0 (fun q => ?_) (fun q => ?_)
    · have hw := ga_f q hw
      refine g_iconst V (Int32.ofInt 0) dX7_undo_46 rfl rfl ?_
      exact g_iret V rfl rfl dX7_undo_47 ⟨_, rfl, hw⟩
    · have hw := ga_t q hw
      refine g_aload_n V dX7_undo_25 rfl rfl ?_
      refine g_iload_n V dX7_undo_26 rfl rfl ?_
      refine g_iload_n V dX7_undo_27 rfl rfl ?_
      obtain ⟨hk, hj, c11, s12, ec, es, hw⟩ := hw
      refine g_callS (st := [.ref a0]) V (k_X7_isApartRule hst hw) ww_6_100 ww_6_101 ww_1_5 ww_6_102 hd_X7_isApartRule ⟨by decide, by decide⟩ rfl rfl (ga_cat rfl) dX7_undo_28 hk hj rfl (gaX_all hT V) (ga_ki (fun r10 hp9 hw => ?_))
      refine ga_re ec es ?_
      obtain ⟨hx0, hw⟩ := hw
      refine gi_if_ne V dX7_undo_31 rfl rfl hx0 (fun q => ?_) (fun q => ?_)
      · have hw := ga_f q hw
        refine g_iconst V (Int32.ofInt 0) dX7_undo_38 rfl rfl ?_
        exact h_X7_undo_J39 a0 a1 a2 a3 a0 0 hp9 c11 s12 hw
      · have hw := ga_t q hw
        refine g_iconst V (Int32.ofInt 1) dX7_undo_34 rfl rfl ?_
        refine g_goto V dX7_undo_35 rfl ?_
        exact h_X7_undo_J39 a0 a1 a2 a3 a0 1 hp9 c11 s12 hw
def w_X7_ups (a0 : Nat) (a1 : Int) (a2 : Int) (h : gaH) (Q : Int → gaH → Prop) : Prop := w_X7_isNoGrowth a1 h (fun r2 hp1 => gHas hp1 a0 7 ∧ w_X7_start a0 r2 1 hp1 (fun r4 hp3 => gR r4 ∧ (if r4 = 0 then gHas hp3 a0 7 ∧ gCall 67 4288 67 4288 (fun c7 s8 => w_X7_word a0 a1 a2 hp3 (fun r6 hp5 => w_X7_bs r6 hp5 (fun r10 hp9 => Q r10 hp9))) else Q 0 hp3)))
abbrev rm_X7_ups : Room := { frames := 3, cells := 67, slots := 4288, locals := 71 }
theorem hd_X7_ups : yX7_ups.cls = RX7 ∧ (yX7_ups.cls ≠ "java/lang/invoke/MethodHandle" ∧ yX7_ups.cls ≠ "java/lang/invoke/VarHandle" ∧ (parseMethodDescriptor yX7_ups.desc).map (fun d => d.parameters.length) = some 2) := by decide +kernel
theorem k_X7_ups {l : Launch} (hst : l.stackTraces = false) {G : gaG} {X : String → gaH → Prop} {a0 : Nat} {a1 : Int} {a2 : Int} {h : gaH} {Q : Int → gaH → Prop} (hw : w_X7_ups a0 a1 a2 h Q) : gaC l G yX7_ups (gaM yX7_ups cX7_ups 3 ((some .int))) rm_X7_ups [.ref a0, gi a1, gi a2] h (gQi Q) X := by
  refine g_start (lv := [some (.ref a0), some (gi a1), some (gi a2)]) hpl_RX7 hst (Nat.le_of_ble_eq_true rfl) (gaArgs_pad (z := 0) rfl) ww_7_30 ?_
  intro p e s m args below meth c V hT
  show gaP p l e rm_X7_ups s m args below meth c G 3 (gaZ below G (gQi Q) X args s rm_X7_ups) 0 [some (.ref a0), some (gi a1), some (gi a2)] [] h 67 4288
  unfold w_X7_ups at hw
  refine g_aload_n V dX7_ups_0 rfl rfl ?_
  refine g_iload_n V dX7_ups_1 rfl rfl ?_
  refine g_callS (st := [.ref a0]) V (k_X7_isNoGrowth hst hw) ww_6_110 ww_6_111 ww_1_5 ww_6_112 hd_X7_isNoGrowth ⟨by decide, by decide⟩ rfl rfl (ga_cat rfl) dX7_ups_2 (Nat.zero_le _) (Nat.zero_le _) rfl (gaX_all hT V) (ga_ki (fun r2 hp1 hw => ?_))
  refine g_iconst V (Int32.ofInt 1) dX7_ups_5 rfl rfl ?_
  obtain ⟨hb, hw⟩ := hw
  obtain ⟨fb, hb⟩ := hb
  refine g_callV (C := RX7) (T := TX7) (N := 8) (st := []) V (k_X7_start hst hw) ww_5_220 ww_5_222 wp_2_2 ww_1_5 ww_5_223 hd_X7_start ⟨by decide, by decide⟩ rfl (by decide) hb rfl rfl (ga_cat rfl) dX7_ups_6 (Nat.zero_le _) (Nat.zero_le _) rfl (gaX_all hT V) (ga_ki (fun r4 hp3 hw => ?_))
  obtain ⟨hx0, hw⟩ := hw
  refine gi_if_eq V dX7_ups_9 rfl rfl hx0 (fun q => ?_) (fun q => ?_)
  · have hw := ga_t q hw
    refine g_aload_n V dX7_ups_16 rfl rfl ?_
    refine g_iload_n V dX7_ups_17 rfl rfl ?_
    refine g_iload_n V dX7_ups_18 rfl rfl ?_
    obtain ⟨hb, hw⟩ := hw
    obtain ⟨fb, hb⟩ := hb
    obtain ⟨hk, hj, c7, s8, ec, es, hw⟩ := hw
    refine g_callV (C := RX7) (T := TX7) (N := 8) (st := []) V (k_X7_word hst hw) ww_7_19 ww_7_21 wp_2_15 ww_1_5 ww_7_22 hd_X7_word ⟨by decide, by decide⟩ rfl (by decide) hb rfl rfl (ga_cat rfl) dX7_ups_19 hk hj rfl (gaX_all hT V) (ga_ka (fun r6 hp5 hw => ?_))
    refine ga_re ec es ?_
    refine g_callS (st := []) V (k_X7_bs hst hw) ww_6_46 ww_6_47 ww_1_5 ww_6_48 hd_X7_bs ⟨by decide, by decide⟩ rfl rfl (ga_cat rfl) dX7_ups_22 (Nat.zero_le _) (Nat.zero_le _) rfl (gaX_all hT V) (ga_ki (fun r10 hp9 hw => ?_))
    exact g_iret V rfl rfl dX7_ups_25 ⟨_, rfl, hw⟩
  · have hw := ga_f q hw
    refine g_iconst V (Int32.ofInt 0) dX7_ups_12 rfl rfl ?_
    refine g_goto V dX7_ups_13 rfl ?_
    exact g_iret V rfl rfl dX7_ups_25 ⟨_, rfl, hw⟩
def w_X7_write_J28 (Q : Int → gaH → Prop) (v0 : Nat) (v1 : Int) (v2 : Int) (t0 : Nat) (t1 : Int) (h : gaH) (kc ks : Nat) : Prop := gHas h t0 7 ∧ w_X7_refuse t0 t1 2 h (fun r2 hp1 => gR r2 ∧ (if r2 = 0 then gCall 1 16 kc ks (fun c5 s6 => w_X7_ofCode v2 hp1 (fun r4 hp3 => gHas hp3 v0 7 ∧ w_X7_comes v0 v1 r4 hp3 (fun r8 hp7 => Q r8 hp7))) else Q 0 hp1))
def w_X7_write (a0 : Nat) (a1 : Int) (a2 : Int) (h : gaH) (Q : Int → gaH → Prop) : Prop := w_X7_isNoSheet a1 h (fun r2 hp1 => gHas hp1 a0 7 ∧ w_X7_start a0 r2 1 hp1 (fun r4 hp3 => gR r4 ∧ (if r4 = 0 then w_X7_isIn a2 1 65535 hp3 (fun r6 hp5 => gR r6 ∧ (if r6 = 0 then w_X7_write_J28 Q a0 a1 a2 a0 1 hp5 1 16 else w_X7_write_J28 Q a0 a1 a2 a0 0 hp5 1 16)) else Q 0 hp3)))
abbrev rm_X7_write : Room := { frames := 2, cells := 1, slots := 16, locals := 44 }
theorem hd_X7_write : yX7_write.cls = RX7 ∧ (yX7_write.cls ≠ "java/lang/invoke/MethodHandle" ∧ yX7_write.cls ≠ "java/lang/invoke/VarHandle" ∧ (parseMethodDescriptor yX7_write.desc).map (fun d => d.parameters.length) = some 2) := by decide +kernel
theorem k_X7_write {l : Launch} (hst : l.stackTraces = false) {G : gaG} {X : String → gaH → Prop} {a0 : Nat} {a1 : Int} {a2 : Int} {h : gaH} {Q : Int → gaH → Prop} (hw : w_X7_write a0 a1 a2 h Q) : gaC l G yX7_write (gaM yX7_write cX7_write 3 ((some .int))) rm_X7_write [.ref a0, gi a1, gi a2] h (gQi Q) X := by
  refine g_start (lv := [some (.ref a0), some (gi a1), some (gi a2)]) hpl_RX7 hst (Nat.le_of_ble_eq_true rfl) (gaArgs_pad (z := 0) rfl) ww_5_213 ?_
  intro p e s m args below meth c V hT
  have h_X7_write_J28 : ∀ (v0 : Nat) (v1 : Int) (v2 : Int) (t0 : Nat) (t1 : Int) (h : gaH) (kc ks : Nat), w_X7_write_J28 Q v0 v1 v2 t0 t1 h kc ks → gaP p l e rm_X7_write s m args below meth c G 3 (gaZ below G (gQi Q) X args s rm_X7_write) 28 [some (.ref v0), some (gi v1), some (gi v2)] [gi t1, .ref t0] h kc ks := by
    intro v0 v1 v2 t0 t1 h kc ks hw
    unfold w_X7_write_J28 at hw
    refine g_iconst V (Int32.ofInt 2) dX7_write_28 rfl rfl ?_
    obtain ⟨hb, hw⟩ := hw
    obtain ⟨fb, hb⟩ := hb
    refine g_callV (C := RX7) (T := TX7) (N := 8) (st := []) V (k_X7_refuse hst hw) ww_5_224 ww_5_226 wp_2_3 ww_1_5 ww_5_227 hd_X7_refuse ⟨by decide, by decide⟩ rfl (by decide) hb rfl rfl (ga_cat rfl) dX7_write_29 (Nat.zero_le _) (Nat.zero_le _) rfl (gaX_all hT V) (ga_ki (fun r2 hp1 hw => ?_))
    obtain ⟨hx0, hw⟩ := hw
    refine gi_if_eq V dX7_write_32 rfl rfl hx0 (fun q => ?_) (fun q => ?_)
    · have hw := ga_t q hw
      refine g_aload_n V dX7_write_37 rfl rfl ?_
      refine g_iload_n V dX7_write_38 rfl rfl ?_
      refine g_iload_n V dX7_write_39 rfl rfl ?_
      obtain ⟨hk, hj, c5, s6, ec, es, hw⟩ := hw
      refine g_callS (st := [gi v1, .ref v0]) V (k_X7_ofCode hst hw) ww_5_229 ww_5_230 ww_1_5 ww_5_231 hd_X7_ofCode ⟨by decide, by decide⟩ rfl rfl (ga_cat rfl) dX7_write_40 hk hj rfl (gaX_all hT V) (ga_ka (fun r4 hp3 hw => ?_))
      refine ga_re ec es ?_
      obtain ⟨hb, hw⟩ := hw
      obtain ⟨fb, hb⟩ := hb
      refine g_callV (C := RX7) (T := TX7) (N := 8) (st := []) V (k_X7_comes hst hw) ww_5_232 ww_5_234 wp_2_4 ww_1_5 ww_5_235 hd_X7_comes ⟨by decide, by decide⟩ rfl (by decide) hb rfl rfl (ga_cat rfl) dX7_write_43 (Nat.zero_le _) (Nat.zero_le _) rfl (gaX_all hT V) (ga_ki (fun r8 hp7 hw => ?_))
      exact g_iret V rfl rfl dX7_write_46 ⟨_, rfl, hw⟩
    · have hw := ga_f q hw
      refine g_iconst V (Int32.ofInt 0) dX7_write_35 rfl rfl ?_
      exact g_iret V rfl rfl dX7_write_36 ⟨_, rfl, hw⟩
  show gaP p l e rm_X7_write s m args below meth c G 3 (gaZ below G (gQi Q) X args s rm_X7_write) 0 [some (.ref a0), some (gi a1), some (gi a2)] [] h 1 16
  unfold w_X7_write at hw
  refine g_aload_n V dX7_write_0 rfl rfl ?_
  refine g_iload_n V dX7_write_1 rfl rfl ?_
  refine g_callS (st := [.ref a0]) V (k_X7_isNoSheet hst hw) ww_5_214 ww_5_215 ww_1_5 ww_5_216 hd_X7_isNoSheet ⟨by decide, by decide⟩ rfl rfl (ga_cat rfl) dX7_write_2 (Nat.zero_le _) (Nat.zero_le _) rfl (gaX_all hT V) (ga_ki (fun r2 hp1 hw => ?_))
  refine g_iconst V (Int32.ofInt 1) dX7_write_5 rfl rfl ?_
  obtain ⟨hb, hw⟩ := hw
  obtain ⟨fb, hb⟩ := hb
  refine g_callV (C := RX7) (T := TX7) (N := 8) (st := []) V (k_X7_start hst hw) ww_5_220 ww_5_222 wp_2_2 ww_1_5 ww_5_223 hd_X7_start ⟨by decide, by decide⟩ rfl (by decide) hb rfl rfl (ga_cat rfl) dX7_write_6 (Nat.zero_le _) (Nat.zero_le _) rfl (gaX_all hT V) (ga_ki (fun r4 hp3 hw => ?_))
  obtain ⟨hx0, hw⟩ := hw
  refine gi_if_ne V dX7_write_9 rfl rfl hx0 (fun q => ?_) (fun q => ?_)
  · have hw := ga_f q hw
    refine g_iconst V (Int32.ofInt 0) dX7_write_35 rfl rfl ?_
    exact g_iret V rfl rfl dX7_write_36 ⟨_, rfl, hw⟩
  · have hw := ga_t q hw
    refine g_aload_n V dX7_write_12 rfl rfl ?_
    refine g_iload_n V dX7_write_13 rfl rfl ?_
    refine g_iconst V (Int32.ofInt 1) dX7_write_14 rfl rfl ?_
    refine g_ldc V (Int32.ofInt 65535) dX7_write_15 ww_5_228 rfl ?_
    refine g_callS (st := [.ref a0]) V (k_X7_isIn hst hw) ww_5_217 ww_5_218 ww_1_5 ww_5_219 hd_X7_isIn ⟨by decide, by decide⟩ rfl rfl (ga_cat rfl) dX7_write_17 (Nat.zero_le _) (Nat.zero_le _) rfl (gaX_all hT V) (ga_ki (fun r6 hp5 hw => ?_))
    obtain ⟨hx0, hw⟩ := hw
    refine gi_if_ne V dX7_write_20 rfl rfl hx0 (fun q => ?_) (fun q => ?_)
    · have hw := ga_f q hw
      refine g_iconst V (Int32.ofInt 0) dX7_write_27 rfl rfl ?_
      exact h_X7_write_J28 a0 a1 a2 a0 0 hp5 1 16 hw
    · have hw := ga_t q hw
      refine g_iconst V (Int32.ofInt 1) dX7_write_23 rfl rfl ?_
      refine g_goto V dX7_write_24 rfl ?_
      exact h_X7_write_J28 a0 a1 a2 a0 1 hp5 1 16 hw
