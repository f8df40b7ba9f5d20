def w_L_law_L88 (G : gaG)  : Nat → (Nat → Int64 → Int → gaH → Nat → Nat → Prop)
  | 0 => fun _ _ _ _ _ _ => False
  | n + 1 => fun v1 v2 v4 h kc ks => gR v4 ∧ (if 3 ≤ v4 then gHas h v1 5 ∧ gCall 18 108 kc ks (fun c3 s4 => w_X5_isSound G (fun _ _ => False) v1 h (fun r2 hp1 => gR r2 ∧ (if r2 = 0 then False else gHas hp1 v1 5 ∧ gCall 78 468 c3 s4 (fun c7 s8 => w_X5_digest G (fun _ _ => False) v1 hp1 (fun r6 hp5 => gR (gCmp r6 v2) ∧ (if (gCmp r6 v2) = 0 then True else False)))))) else gHas h v1 5 ∧ gCall 1 6 kc ks (fun c11 s12 => w_X5_mirrors (fun _ _ => False) v1 v4 h (fun r10 hp9 => gHas hp9 v1 5 ∧ gCall 1 6 c11 s12 (fun c15 s16 => w_X5_length (fun _ _ => False) v1 v4 hp9 (fun r14 hp13 => gR r10 ∧ gR r14 ∧ (if r14 < r10 then False else gHas hp13 v1 5 ∧ gCall 1 6 c15 s16 (fun c19 s20 => w_X5_folds (fun _ _ => False) v1 v4 hp13 (fun r18 hp17 => gHas hp17 v1 5 ∧ gCall 1 6 c19 s20 (fun c23 s24 => w_X5_length (fun _ _ => False) v1 v4 hp17 (fun r22 hp21 => gR r18 ∧ gR r22 ∧ (if r18 ≤ r22 then w_L_law_L88 G n v1 v2 (v4 + 1) hp21 c23 s24 else False)))))))))))
def w_L_law_L10 (G : gaG)  : Nat → (Nat → Nat → Int → gaH → Nat → Nat → Prop)
  | 0 => fun _ _ _ _ _ _ => False
  | n + 1 => fun v0 v1 v2 h kc ks => gR v2 ∧ (if 4 ≤ v2 then gHas h v1 5 ∧ gCall 78 468 kc ks (fun c3 s4 => w_X5_digest G (fun _ _ => False) v1 h (fun r2 hp1 => ∃ z, w_L_law_L88 G z v1 r2 0 hp1 c3 s4)) else w_L_cell v0 (2 * v2) h (fun r6 hp5 => w_L_cell v0 ((2 * v2) + 1) hp5 (fun r8 hp7 => gCall 316 1896 kc ks (fun c11 s12 => w_L_isGrown G (fun _ _ => False) v1 r6 r8 hp7 (fun r10 hp9 => gR r10 ∧ (if r10 = 0 then False else w_L_cell v0 ((2 * v2) + 2) hp9 (fun r14 hp13 => gCall 575 3450 c11 s12 (fun c17 s18 => w_L_isAny (fun _ _ => False) v1 r8 r14 hp13 (fun r16 hp15 => gR r16 ∧ (if r16 = 0 then False else gCall 15 90 c17 s18 (fun c21 s22 => w_L_isLine (fun _ _ => False) v1 r6 r8 hp15 (fun r20 hp19 => gR r20 ∧ (if r20 = 0 then False else w_L_law_L10 G n v0 v1 (v2 + 1) hp19 c21 s22)))))))))))))
def w_L_law (G : gaG) (a0 : Nat) (h : gaH) (kc ks : Nat) : Prop := gNO h 5 9 ([.null, .null, .null, .null, .null, gi 0, gi 0, gi 0, gi 0]) kc ks (fun o1 hp2 c3 s4 => gCall 30 1058 c3 s4 (fun c7 s8 => w_X5_init o1 hp2 (fun hp5 => ∃ z, w_L_law_L10 G z a0 o1 0 hp5 c7 s8)))
theorem hl_L_law_L88 {p : Program} {l : Launch} {e : Env} {s : State} {m : MethodId} {args : Array Value} {below : List Frame} {meth : Method} {c : Code} {G : gaG} {nm : String} {Z : State → Prop} (hst : l.stackTraces = false) (V : gaV p l s m args meth c G code RL 5 gaW ret nm) (hend : ∀ (pc : Nat) (lv : List (Option Value)) (h : gaH) (k j : Nat), decode code pc = .ok (.ireturn, 1) → gaP p l e room_1 s m args below meth c G 5 Z pc lv [gi 1] h k j) : ∀ (n : Nat), ∀ (v1 : Nat) (v2 : Int64) (v4 : Int) (h : gaH) (kc ks : Nat), w_L_law_L88 G n v1 v2 v4 h kc ks → gaP p l e room_1 s m args below meth c G 5 Z 88 [none, some (.ref v1), some (.long v2), none, some (gi v4)] [] h kc ks := by
  intro n
  induction n with
  | zero =>
    intro v1 v2 v4 h kc ks hw
    exact hw.elim
  | succ n ih =>
    intro v1 v2 v4 h kc ks hw
    unfold w_L_law_L88 at hw
    refine g_iload V dL_law_88 rfl rfl ?_
    refine g_iconst V (Int32.ofInt 3) dL_law_90 rfl rfl ?_
    obtain ⟨hx0, hw⟩ := hw
    refine gi_icmp_ge V dL_law_91 rfl rfl hx0 (by decide) (fun q => ?_) (fun q => ?_)
    · have hw := ga_t q hw
      refine g_aload_n V dL_law_132 rfl rfl ?_
      obtain ⟨hb, hw⟩ := hw
      obtain ⟨fb, hb⟩ := hb
      obtain ⟨hk, hj, c3, s4, ec, es, hw⟩ := hw
      refine g_callV (C := RX5) (T := TX5) (N := 9) (st := []) V (k_X5_isSound hst hw) ww_1_231 ww_1_232 ww_1_233 ww_1_1 ww_1_234 hd_X5_isSound ⟨by decide, by decide⟩ rfl (by decide) hb rfl rfl (ga_cat rfl) dL_law_133 hk hj rfl ga_none (ga_ki (fun r2 hp1 hw => ?_))
      refine ga_re ec es ?_
      obtain ⟨hx0, hw⟩ := hw
      refine gi_if_eq V dL_law_136 rfl rfl hx0 (fun q => ?_) (fun q => ?_)
      · have hw := ga_t q hw
        refine g_iconst V (Int32.ofInt 0) dL_law_152 rfl rfl ?_
        exact hw.elim
      · have hw := ga_f q hw
        refine g_aload_n V dL_law_139 rfl rfl ?_
        obtain ⟨hb, hw⟩ := hw
        obtain ⟨fb, hb⟩ := hb
        obtain ⟨hk, hj, c7, s8, ec, es, hw⟩ := hw
        refine g_callV (C := RX5) (T := TX5) (N := 9) (st := []) V (k_X5_digest hst hw) ww_2_95 ww_2_96 ww_2_97 ww_1_1 ww_2_98 hd_X5_digest ⟨by decide, by decide⟩ rfl (by decide) hb rfl rfl (ga_cat rfl) dL_law_140 hk hj rfl ga_none (ga_kl (fun r6 hp5 hw => ?_))
        refine ga_re ec es ?_
        refine g_lload_n V dL_law_143 rfl rfl ?_
        refine gi_lcmp V dL_law_144 rfl ?_
        obtain ⟨hx0, hw⟩ := hw
        refine gi_if_ne V dL_law_145 rfl rfl hx0 (fun q => ?_) (fun q => ?_)
        · have hw := ga_f q hw
          refine g_iconst V (Int32.ofInt 0) dL_law_152 rfl rfl ?_
          exact hw.elim
        · have hw := ga_t q hw
          refine g_iconst V (Int32.ofInt 1) dL_law_148 rfl rfl ?_
          refine g_goto V dL_law_149 rfl ?_
          exact hend _ _ _ _ _ dL_law_153
    · have hw := ga_f q hw
      refine g_aload_n V dL_law_94 rfl rfl ?_
      refine g_iload V dL_law_95 rfl rfl ?_
      obtain ⟨hb, hw⟩ := hw
      obtain ⟨fb, hb⟩ := hb
      obtain ⟨hk, hj, c11, s12, ec, es, hw⟩ := hw
      refine g_callV (C := RX5) (T := TX5) (N := 9) (st := []) V (k_X5_mirrors hst hw) ww_1_201 ww_1_202 ww_1_203 ww_1_1 ww_1_204 hd_X5_mirrors ⟨by decide, by decide⟩ rfl (by decide) hb rfl rfl (ga_cat rfl) dL_law_97 hk hj rfl ga_none (ga_ki (fun r10 hp9 hw => ?_))
      refine ga_re ec es ?_
      refine g_aload_n V dL_law_100 rfl rfl ?_
      refine g_iload V dL_law_101 rfl rfl ?_
      obtain ⟨hb, hw⟩ := hw
      obtain ⟨fb, hb⟩ := hb
      obtain ⟨hk, hj, c15, s16, ec, es, hw⟩ := hw
      refine g_callV (C := RX5) (T := TX5) (N := 9) (st := [gi r10]) V (k_X5_length hst hw) ww_1_125 ww_1_126 ww_1_127 ww_1_1 ww_1_128 hd_X5_length ⟨by decide, by decide⟩ rfl (by decide) hb rfl rfl (ga_cat rfl) dL_law_103 hk hj rfl ga_none (ga_ki (fun r14 hp13 hw => ?_))
      refine ga_re ec es ?_
      obtain ⟨hx0, hx1, hw⟩ := hw
      refine gi_icmp_gt V dL_law_106 rfl rfl hx0 hx1 (fun q => ?_) (fun q => ?_)
      · have hw := ga_t q hw
        refine g_iconst V (Int32.ofInt 0) dL_law_124 rfl rfl ?_
        exact hw.elim
      · have hw := ga_f q hw
        refine g_aload_n V dL_law_109 rfl rfl ?_
        refine g_iload V dL_law_110 rfl rfl ?_
        obtain ⟨hb, hw⟩ := hw
        obtain ⟨fb, hb⟩ := hb
        obtain ⟨hk, hj, c19, s20, ec, es, hw⟩ := hw
        refine g_callV (C := RX5) (T := TX5) (N := 9) (st := []) V (k_X5_folds hst hw) ww_1_224 ww_1_225 ww_1_226 ww_1_1 ww_1_227 hd_X5_folds ⟨by decide, by decide⟩ rfl (by decide) hb rfl rfl (ga_cat rfl) dL_law_112 hk hj rfl ga_none (ga_ki (fun r18 hp17 hw => ?_))
        refine ga_re ec es ?_
        refine g_aload_n V dL_law_115 rfl rfl ?_
        refine g_iload V dL_law_116 rfl rfl ?_
        obtain ⟨hb, hw⟩ := hw
        obtain ⟨fb, hb⟩ := hb
        obtain ⟨hk, hj, c23, s24, ec, es, hw⟩ := hw
        refine g_callV (C := RX5) (T := TX5) (N := 9) (st := [gi r18]) V (k_X5_length hst hw) ww_1_125 ww_1_126 ww_1_127 ww_1_1 ww_1_128 hd_X5_length ⟨by decide, by decide⟩ rfl (by decide) hb rfl rfl (ga_cat rfl) dL_law_118 hk hj rfl ga_none (ga_ki (fun r22 hp21 hw => ?_))
        refine ga_re ec es ?_
        obtain ⟨hx0, hx1, hw⟩ := hw
        refine gi_icmp_le V dL_law_121 rfl rfl hx0 hx1 (fun q => ?_) (fun q => ?_)
        · have hw := ga_t q hw
          refine gi_iinc (lv2 := [none, some (.ref v1), some (.long v2), none, some (gi (v4 + 1))]) V dL_law_126 (by decide) rfl rfl rfl rfl ?_
          refine g_goto V dL_law_129 rfl ?_
          exact ih v1 v2 (v4 + 1) hp21 c23 s24 hw
        · have hw := ga_f q hw
          refine g_iconst V (Int32.ofInt 0) dL_law_124 rfl rfl ?_
          exact hw.elim
theorem hl_L_law_L10 {p : Program} {l : Launch} {e : Env} {s : State} {m : MethodId} {args : Array Value} {below : List Frame} {meth : Method} {c : Code} {G : gaG} {nm : String} {Z : State → Prop} (hst : l.stackTraces = false) (V : gaV p l s m args meth c G code RL 5 gaW ret nm) (hend : ∀ (pc : Nat) (lv : List (Option Value)) (h : gaH) (k j : Nat), decode code pc = .ok (.ireturn, 1) → gaP p l e room_1 s m args below meth c G 5 Z pc lv [gi 1] h k j) : ∀ (n : Nat), ∀ (v0 : Nat) (v1 : Nat) (v2 : Int) (h : gaH) (kc ks : Nat), w_L_law_L10 G n v0 v1 v2 h kc ks → gaP p l e room_1 s m args below meth c G 5 Z 10 [some (.ref v0), some (.ref v1), some (gi v2), none, none] [] h kc ks := by
  intro n
  induction n with
  | zero =>
    intro v0 v1 v2 h kc ks hw
    exact hw.elim
  | succ n ih =>
    intro v0 v1 v2 h kc ks hw
    unfold w_L_law_L10 at hw
    refine g_iload_n V dL_law_10 rfl rfl ?_
    refine g_iconst V (Int32.ofInt 4) dL_law_11 rfl rfl ?_
    obtain ⟨hx0, hw⟩ := hw
    refine gi_icmp_ge V dL_law_12 rfl rfl hx0 (by decide) (fun q => ?_) (fun q => ?_)
    · have hw := ga_t q hw
      refine g_aload_n V dL_law_80 rfl rfl ?_
      obtain ⟨hb, hw⟩ := hw
      obtain ⟨fb, hb⟩ := hb
      obtain ⟨hk, hj, c3, s4, ec, es, hw⟩ := hw
      refine g_callV (C := RX5) (T := TX5) (N := 9) (st := []) V (k_X5_digest hst hw) ww_2_95 ww_2_96 ww_2_97 ww_1_1 ww_2_98 hd_X5_digest ⟨by decide, by decide⟩ rfl (by decide) hb rfl rfl (ga_cat rfl) dL_law_81 hk hj rfl ga_none (ga_kl (fun r2 hp1 hw => ?_))
      refine ga_re ec es ?_
      refine g_lstore_n (lv2 := [some (.ref v0), some (.ref v1), some (.long r2), none, none]) V dL_law_84 (by decide) rfl rfl rfl ?_
      refine g_iconst V (Int32.ofInt 0) dL_law_85 rfl rfl ?_
      refine g_istore (lv2 := [some (.ref v0), some (.ref v1), some (.long r2), none, some (gi 0)]) V dL_law_86 (by decide) rfl rfl rfl ?_
      refine g_less (bs := [false, true, true, true, true]) (lv2 := [none, some (.ref v1), some (.long r2), none, some (gi 0)]) rfl ?_
      obtain ⟨z, hw⟩ := hw
      exact hl_L_law_L88 hst V hend z v1 r2 0 hp1 c3 s4 hw
    · have hw := ga_f q hw
      refine g_aload_n V dL_law_15 rfl rfl ?_
      refine g_iconst V (Int32.ofInt 2) dL_law_16 rfl rfl ?_
      refine g_iload_n V dL_law_17 rfl rfl ?_
      refine gi_imul V dL_law_18 rfl ?_
      refine g_callS (st := []) V (k_L_cell hst hw) ww_2_190 ww_2_191 ww_1_0 ww_2_192 hd_L_cell ⟨by decide, by decide⟩ rfl rfl (ga_cat rfl) dL_law_19 (Nat.zero_le _) (Nat.zero_le _) rfl ga_none (ga_ki (fun r6 hp5 hw => ?_))
      refine g_istore_n (lv2 := [some (.ref v0), some (.ref v1), some (gi v2), some (gi r6), none]) V dL_law_22 (by decide) rfl rfl rfl ?_
      refine g_aload_n V dL_law_23 rfl rfl ?_
      refine g_iconst V (Int32.ofInt 2) dL_law_24 rfl rfl ?_
      refine g_iload_n V dL_law_25 rfl rfl ?_
      refine gi_imul V dL_law_26 rfl ?_
      refine g_iconst V (Int32.ofInt 1) dL_law_27 rfl rfl ?_
      refine gi_iadd V dL_law_28 rfl ?_
      refine g_callS (st := []) V (k_L_cell hst hw) ww_2_190 ww_2_191 ww_1_0 ww_2_192 hd_L_cell ⟨by decide, by decide⟩ rfl rfl (ga_cat rfl) dL_law_29 (Nat.zero_le _) (Nat.zero_le _) rfl ga_none (ga_ki (fun r8 hp7 hw => ?_))
      refine g_istore (lv2 := [some (.ref v0), some (.ref v1), some (gi v2), some (gi r6), some (gi r8)]) V dL_law_32 (by decide) rfl rfl rfl ?_
      refine g_aload_n V dL_law_34 rfl rfl ?_
      refine g_iload_n V dL_law_35 rfl rfl ?_
      refine g_iload V dL_law_36 rfl rfl ?_
      obtain ⟨hk, hj, c11, s12, ec, es, hw⟩ := hw
      refine g_callS (st := []) V (k_L_isGrown hst hw) ww_2_194 ww_2_195 ww_1_0 ww_2_196 hd_L_isGrown ⟨by decide, by decide⟩ rfl rfl (ga_cat rfl) dL_law_38 hk hj rfl ga_none (ga_ki (fun r10 hp9 hw => ?_))
      refine ga_re ec es ?_
      obtain ⟨hx0, hw⟩ := hw
      refine gi_if_eq V dL_law_41 rfl rfl hx0 (fun q => ?_) (fun q => ?_)
      · have hw := ga_t q hw
        refine g_iconst V (Int32.ofInt 0) dL_law_72 rfl rfl ?_
        exact hw.elim
      · have hw := ga_f q hw
        refine g_aload_n V dL_law_44 rfl rfl ?_
        refine g_iload V dL_law_45 rfl rfl ?_
        refine g_aload_n V dL_law_47 rfl rfl ?_
        refine g_iconst V (Int32.ofInt 2) dL_law_48 rfl rfl ?_
        refine g_iload_n V dL_law_49 rfl rfl ?_
        refine gi_imul V dL_law_50 rfl ?_
        refine g_iconst V (Int32.ofInt 2) dL_law_51 rfl rfl ?_
        refine gi_iadd V dL_law_52 rfl ?_
        refine g_callS (st := [gi r8, .ref v1]) V (k_L_cell hst hw) ww_2_190 ww_2_191 ww_1_0 ww_2_192 hd_L_cell ⟨by decide, by decide⟩ rfl rfl (ga_cat rfl) dL_law_53 (Nat.zero_le _) (Nat.zero_le _) rfl ga_none (ga_ki (fun r14 hp13 hw => ?_))
        obtain ⟨hk, hj, c17, s18, ec, es, hw⟩ := hw
        refine g_callS (st := []) V (k_L_isAny hst hw) ww_3_105 ww_3_106 ww_1_0 ww_3_107 hd_L_isAny ⟨by decide, by decide⟩ rfl rfl (ga_cat rfl) dL_law_56 hk hj rfl ga_none (ga_ki (fun r16 hp15 hw => ?_))
        refine ga_re ec es ?_
        obtain ⟨hx0, hw⟩ := hw
        refine gi_if_eq V dL_law_59 rfl rfl hx0 (fun q => ?_) (fun q => ?_)
        · have hw := ga_t q hw
          refine g_iconst V (Int32.ofInt 0) dL_law_72 rfl rfl ?_
          exact hw.elim
        · have hw := ga_f q hw
          refine g_aload_n V dL_law_62 rfl rfl ?_
          refine g_iload_n V dL_law_63 rfl rfl ?_
          refine g_iload V dL_law_64 rfl rfl ?_
          obtain ⟨hk, hj, c21, s22, ec, es, hw⟩ := hw
          refine g_callS (st := []) V (k_L_isLine hst hw) ww_3_152 ww_3_153 ww_1_0 ww_3_154 hd_L_isLine ⟨by decide, by decide⟩ rfl rfl (ga_cat rfl) dL_law_66 hk hj rfl ga_none (ga_ki (fun r20 hp19 hw => ?_))
          refine ga_re ec es ?_
          obtain ⟨hx0, hw⟩ := hw
          refine gi_if_ne V dL_law_69 rfl rfl hx0 (fun q => ?_) (fun q => ?_)
          · have hw := ga_f q hw
            refine gi_iinc (lv2 := [some (.ref v0), some (.ref v1), some (gi (v2 + 1)), some (gi r6), some (gi r8)]) V dL_law_74 (by decide) rfl rfl rfl rfl ?_
            refine g_goto V dL_law_77 rfl ?_
            refine g_less (bs := [true, true, true, false, false]) (lv2 := [some (.ref v0), some (.ref v1), some (gi (v2 + 1)), none, none]) rfl ?_
            exact ih v0 v1 (v2 + 1) hp19 c21 s22 hw
          · have hw := ga_t q hw
            refine g_iconst V (Int32.ofInt 0) dL_law_72 rfl rfl ?_
            exact hw.elim
theorem k_law {p : Program} {l : Launch} {e : Env} {s : State} {m : MethodId} {args : Array Value} {below : List Frame} {meth : Method} {c : Code} {G : gaG} {nm : String} {Z : State → Prop} (hst : l.stackTraces = false) (V : gaV p l s m args meth c G code RL 5 gaW ret nm)
    (hend : ∀ (pc : Nat) (lv : List (Option Value)) (h : gaH) (k j : Nat), decode code pc = .ok (.ireturn, 1) → gaP p l e room_1 s m args below meth c G 5 Z pc lv [gi 1] h k j) {a0 : Nat} {h : gaH} {kc ks : Nat} (hw : w_L_law G a0 h kc ks) : gaP p l e room_1 s m args below meth c G 5 Z 0 [some (.ref a0), none, none, none, none] [] h kc ks := by
  unfold w_L_law at hw
  obtain ⟨hk, hj, hw⟩ := hw
  refine g_new (ci := 5) (C := RX5) (T := TX5) (N := 9) (fs := [.null, .null, .null, .null, .null, gi 0, gi 0, gi 0, gi 0]) V tyX5 tyX5_ok rfl hin_RX5 (by decide) ww_1_14 ww_1_15 ww_1_1 hdf_RX5 dL_law_0 rfl hk hj (fun o1 hf => ?_)
  obtain ⟨c3, s4, ec, es, hw⟩ := hw o1 hf
  refine ga_re ec es ?_
  generalize gaUp h o1 _ = hp2 at hw ⊢
  refine g_dup V dL_law_3 rfl rfl ?_
  obtain ⟨hk, hj, c7, s8, ec, es, hw⟩ := hw
  refine g_callI (st := [.ref o1]) V (k_X5_init hst hw) ww_1_16 ww_1_17 ww_1_1 ww_1_18 rfl hd_X5_init ⟨by decide, by decide⟩ rfl rfl (ga_cat rfl) dL_law_4 hk hj rfl ga_none (ga_kv (fun hp5 hw => ?_))
  refine ga_re ec es ?_
  refine g_astore_n (lv2 := [some (.ref a0), some (.ref o1), none, none, none]) V dL_law_7 (by decide) rfl rfl rfl ?_
  refine g_iconst V (Int32.ofInt 0) dL_law_8 rfl rfl ?_
  refine g_istore_n (lv2 := [some (.ref a0), some (.ref o1), some (gi 0), none, none]) V dL_law_9 (by decide) rfl rfl rfl ?_
  obtain ⟨z, hw⟩ := hw
  exact hl_L_law_L10 hst V hend z a0 o1 0 hp5 c7 s8 hw
