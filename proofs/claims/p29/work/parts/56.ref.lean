/-! The reference's acts. -/
theorem sel {c : Bool} (F : Int → Prop) (k : F (b2i (!c))) : gR (b2i c) ∧ (if b2i c = 0 then F 1 else F 0) := by
  cases c
  · exact ⟨by decide, if_yes rfl k⟩
  · exact ⟨by decide, if_no (by decide) k⟩
theorem nd {P : Prop} [Decidable P] (h : (!decide P) = false) : P := by simpa using h
theorem nn {P : Prop} [Decidable P] (h : (!decide P) = true) : ¬ P := by simpa using h
section RX
variable {B : Nat → Nat} {h h0 : gaH} {st : GSt} {no : Int} {a b o : Nat} {u v : List Bool} {w g : Nat} {x y z : Int} {Q : Int → gaH → Prop}
theorem r_write {c : Int} (d : gM B h st no) (hx : gR x) (hc : gR c) (k : mRes B h Q (m_write st x c)) : w_X7_write (B 0) x c h Q := by
  unfold w_X7_write
  refine r_isNoSheet hx ⟨d.has, r_start d rfl (by decide) (fun q h1 d1 f1 => ?_) (fun q h1 d1 f1 => ?_)⟩
  · rw [m_write, if_pos (nd q)] at k
    obtain ⟨w, rfl⟩ : ∃ w : Nat, x = w := ⟨x.toNat, by have := nd q; omega⟩
    have hw := nd q
    refine ⟨by decide, if_yes rfl (r_isIn hc (by decide) (by decide) (sel (fun t => w_X7_write_J28 Q (B 0) (w : Int) c (B 0) t h1 1 16) ?_))⟩
    unfold w_X7_write_J28
    refine ⟨d1.has, r_refuse d1 rfl (by decide) (fun q => ?_) (fun q h2 d2 f2 => ?_)⟩
    · have hcc := nd q
      rw [if_pos hcc, Int.toNat_natCast] at k
      refine ⟨by decide, if_yes rfl (gCall_mk (by decide) (by decide) (r_ofCode (c := c.toNat) (by omega) (by omega) (by omega) (fun o h2 f2 => ?_)))⟩
      have d2 := d1.kp f2.2.1
      have hl : (codeW c.toNat).length ≤ 16 := codeL_len 16 _
      exact ⟨d2.has, r_comes d2 (by omega) rfl f2.2.2 (by omega) (d1.new f2.1) (fun h3 d3 f3 => k.ok d3 (f1.tr ((mF.kp f2.2.1).tr f3)) rfl)⟩
    · rw [if_neg (nn q)] at k
      exact ⟨by decide, if_no (by decide) (k.ex d2 (f1.tr f2))⟩
  · rw [m_write, if_neg (nn q)] at k
    exact ⟨by decide, if_no (by decide) (k.ex d1 f1)⟩
theorem r_append (d : gM B h st no) (hx : gR x) (hy : gR y) (k : mRes B h Q (m_append st x y)) : w_X7_append (B 0) x y h Q := by
  have bd : ¬ (okS x ∧ okS y) → w_X7_append_J20 Q (B 0) x y (B 0) 1 h 1 128 := fun q => by
    have e : m_append st x y = bad 1 st := by
      unfold m_append
      by_cases q1 : okS x
      · rw [if_pos q1, if_neg (fun q2 => q ⟨q1, q2⟩)]
      · rw [if_neg q1]
    rw [e] at k
    unfold w_X7_append_J20
    exact ⟨d.has, r_start d (bd := true) rfl (by decide) (fun q => by cases q) (fun q h1 d1 f1 => ⟨by decide, if_no (by decide) (k.ex d1 f1)⟩)⟩
  unfold w_X7_append
  refine r_isNoSheet hx ⟨b2i_R _, ?_⟩
  by_cases q1 : okS x
  · rw [decide_eq_true q1]
    refine if_yes rfl (r_isNoSheet hy ⟨b2i_R _, ?_⟩)
    by_cases q2 : okS y
    · rw [decide_eq_true q2]
      refine if_yes rfl ?_
      rw [m_append, if_pos q1, if_pos q2] at k
      unfold w_X7_append_J20
      refine ⟨d.has, r_start d (bd := false) rfl (by decide) (fun q h1 d1 f1 => ⟨by decide, if_yes rfl ?_⟩) (fun q => by cases q)⟩
      obtain ⟨w, rfl⟩ : ∃ w : Nat, x = w := ⟨x.toNat, by omega⟩
      obtain ⟨v, rfl⟩ : ∃ v : Nat, y = v := ⟨y.toNat, by omega⟩
      rw [Int.toNat_natCast, Int.toNat_natCast] at k
      refine d1.f0 (d1.sh rfl (by omega) (fun a ra na => ra.len (d1.f0 (d1.sh rfl (by omega) (fun a2 ra2 na2 => ra2.len (d1.f0 (d1.sh rfl (by omega) (fun c rc nc => ⟨d1.has, gCall_mk (by decide) (by decide) ?_⟩))))))))
      exact r_put d1 (by omega) rfl rfl rfl (Nat.le_refl _) (Nat.le_refl _) rc (d1.sl (by omega)) (k.on f1)
    · rw [decide_eq_false q2]
      exact if_no (by decide) (bd (fun z => q2 z.2))
  · rw [decide_eq_false q1]
    exact if_no (by decide) (bd (fun z => q1 z.1))
theorem r_insertSign {b : Bool} (d : gM B h st no) (hx : gR x) (hy : gR y) (hz : z = b2i b) (k : mRes B h Q (m_insertSign st x y b)) : w_X7_insertSign (B 0) x y z h Q := by
  unfold w_X7_insertSign
  refine ⟨d.has, r_isNoGap d hx hy ⟨d.has, r_start d rfl (by decide) (fun q h1 d1 f1 => ?_) (fun q h1 d1 f1 => ?_)⟩⟩
  · obtain ⟨q1, q2⟩ := nd q
    rw [m_insertSign, if_pos q1, if_pos q2] at k
    obtain ⟨w, rfl⟩ : ∃ w : Nat, x = w := ⟨x.toNat, by omega⟩
    obtain ⟨p, rfl⟩ : ∃ p : Nat, y = p := ⟨y.toNat, by omega⟩
    rw [Int.toNat_natCast, Int.toNat_natCast] at k
    rw [Int.toNat_natCast] at q2
    refine ⟨by decide, if_yes rfl (fil.new (n := 1) rfl (by decide) (by decide) (by decide) (fun o h2 f2 => r_one hz (f2.set (i := 0) rfl (by decide) (by decide) rfl (fun h3 f3 => ?_))))⟩
    have d3 := d1.kp f3.2.1
    exact ⟨d3.has, gCall_mk (by decide) (by decide) (r_put d3 (by omega) rfl rfl rfl (Nat.le_refl _) (by omega) f3.2.2 (by simp) (k.on (f1.tr (mF.kp f3.2.1))))⟩
  · have q1 := nn q
    have e : m_insertSign st x y b = bad 1 st := by
      unfold m_insertSign
      by_cases z1 : okS x
      · rw [if_pos z1, if_neg (fun z2 => q1 ⟨z1, z2⟩)]
      · rw [if_neg z1]
    rw [e] at k
    exact ⟨by decide, if_no (by decide) (k.ex d1 f1)⟩
theorem r_insertSheet (d : gM B h st no) (hx : gR x) (hy : gR y) (hz : gR z) (k : mRes B h Q (m_insertSheet st x y z)) : w_X7_insertSheet (B 0) x y z h Q := by
  have bd : ¬ ((okS x ∧ 0 ≤ y ∧ y ≤ ((st.S x.toNat).length : Int)) ∧ okS z) → w_X7_insertSheet_J22 Q (B 0) x y z (B 0) 1 h 1 128 := fun q => by
    have e : m_insertSheet st x y z = bad 1 st := by
      unfold m_insertSheet
      by_cases q1 : okS x
      · rw [if_pos q1]
        by_cases q2 : okS z
        · rw [if_pos q2, if_neg (fun q3 => q ⟨⟨q1, q3⟩, q2⟩)]
        · rw [if_neg q2]
      · rw [if_neg q1]
    rw [e] at k
    unfold w_X7_insertSheet_J22
    exact ⟨d.has, r_start d (bd := true) rfl (by decide) (fun q => by cases q) (fun q h1 d1 f1 => ⟨by decide, if_no (by decide) (k.ex d1 f1)⟩)⟩
  unfold w_X7_insertSheet
  refine ⟨d.has, r_isNoGap d hx hy ⟨b2i_R _, ?_⟩⟩
  by_cases q1 : okS x ∧ 0 ≤ y ∧ y ≤ ((st.S x.toNat).length : Int)
  · rw [decide_eq_true q1]
    refine if_yes rfl (r_isNoSheet hz ⟨b2i_R _, ?_⟩)
    by_cases q2 : okS z
    · rw [decide_eq_true q2]
      refine if_yes rfl ?_
      rw [m_insertSheet, if_pos q1.1, if_pos q2, if_pos q1.2] at k
      unfold w_X7_insertSheet_J22
      refine ⟨d.has, r_start d (bd := false) rfl (by decide) (fun q h1 d1 f1 => ⟨by decide, if_yes rfl ?_⟩) (fun q => by cases q)⟩
      obtain ⟨w, rfl⟩ : ∃ w : Nat, x = w := ⟨x.toNat, by omega⟩
      obtain ⟨v, rfl⟩ : ∃ v : Nat, z = v := ⟨z.toNat, by omega⟩
      obtain ⟨p, rfl⟩ : ∃ p : Nat, y = p := ⟨y.toNat, by omega⟩
      simp only [Int.toNat_natCast] at k q1
      refine d1.f0 (d1.sh rfl (by omega) (fun c rc nc => ⟨d1.has, gCall_mk (by decide) (by decide) ?_⟩))
      exact r_put d1 (by omega) rfl rfl rfl (Nat.le_refl _) (by omega) rc (d1.sl (by omega)) (k.on f1)
    · rw [decide_eq_false q2]
      exact if_no (by decide) (bd (fun z => q2 z.2))
  · rw [decide_eq_false q1]
    exact if_no (by decide) (bd (fun z => q1 z.1))
theorem r_replace {o : Int} (d : gM B h st no) (hx : gR x) (hy : gR y) (hz : gR z) (ho : gR o) (k : mRes B h Q (m_replace st x y z o)) : w_X7_replace (B 0) x y z o h Q := by
  have bd : ¬ ((okS x ∧ okF y z (st.S x.toNat).length) ∧ okS o) → w_X7_replace_J24 Q (B 0) x y z o (B 0) 1 h 1 128 := fun q => by
    have e : m_replace st x y z o = bad 1 st := by
      unfold m_replace
      by_cases q1 : okS x
      · rw [if_pos q1]
        by_cases q2 : okS o
        · rw [if_pos q2, if_neg (fun q3 => q ⟨⟨q1, q3⟩, q2⟩)]
        · rw [if_neg q2]
      · rw [if_neg q1]
    rw [e] at k
    unfold w_X7_replace_J24
    exact ⟨d.has, r_start d (bd := true) rfl (by decide) (fun q => by cases q) (fun q h1 d1 f1 => ⟨by decide, if_no (by decide) (k.ex d1 f1)⟩)⟩
  unfold w_X7_replace
  refine ⟨d.has, r_isNoPart d hx hy hz ⟨b2i_R _, ?_⟩⟩
  by_cases q1 : okS x ∧ okF y z (st.S x.toNat).length
  · rw [decide_eq_true q1]
    refine if_yes rfl (r_isNoSheet ho ⟨b2i_R _, ?_⟩)
    by_cases q2 : okS o
    · rw [decide_eq_true q2]
      refine if_yes rfl ?_
      rw [m_replace, if_pos q1.1, if_pos q2, if_pos q1.2] at k
      unfold w_X7_replace_J24
      refine ⟨d.has, r_start d (bd := false) rfl (by decide) (fun q h1 d1 f1 => ⟨by decide, if_yes rfl ?_⟩) (fun q => by cases q)⟩
      obtain ⟨w, rfl⟩ : ∃ w : Nat, x = w := ⟨x.toNat, by omega⟩
      obtain ⟨v, rfl⟩ : ∃ v : Nat, o = v := ⟨o.toNat, by omega⟩
      simp only [Int.toNat_natCast] at k q1
      refine d1.f0 (d1.sh rfl (by omega) (fun c rc nc => ⟨d1.has, gCall_mk (by decide) (by decide) ?_⟩))
      exact r_put d1 (by omega) rfl (show y = (y.toNat : Int) by omega) (show z = (z.toNat : Int) by omega) (by omega) (by omega) rc (d1.sl (by omega)) (k.on f1)
    · rw [decide_eq_false q2]
      exact if_no (by decide) (bd (fun z => q2 z.2))
  · rw [decide_eq_false q1]
    exact if_no (by decide) (bd (fun z => q1 z.1))
theorem r_setSign {b : Bool} (d : gM B h st no) (hx : gR x) (hy : gR y) (hz : z = b2i b) (k : mRes B h Q (m_setSign st x y b)) : w_X7_setSign (B 0) x y z h Q := by
  unfold w_X7_setSign
  refine ⟨d.has, r_isNoPlace d hx hy ⟨d.has, r_start d rfl (by decide) (fun q h1 d1 f1 => ?_) (fun q h1 d1 f1 => ?_)⟩⟩
  · obtain ⟨q1, q2⟩ := nd q
    rw [m_setSign, if_pos q1, if_pos q2] at k
    obtain ⟨w, rfl⟩ : ∃ w : Nat, x = w := ⟨x.toNat, by omega⟩
    obtain ⟨p, rfl⟩ : ∃ p : Nat, y = p := ⟨y.toNat, by omega⟩
    simp only [Int.toNat_natCast] at k q2
    have hl := d1.sl (show w < 3 by omega)
    refine ⟨by decide, if_yes rfl (d1.f0 (d1.sh rfl (by omega) (fun a ra na => ra.at rfl (by omega) (by omega) (d1.f0 (d1.sh rfl (by omega) (fun c rc nc => ?_))))))⟩
    refine fil.new (n := 1) rfl (by decide) (by decide) (by decide) (fun o h2 f2 => r_one hz (f2.set (i := 0) rfl (by decide) (by decide) rfl (fun h3 f3 => gCall_mk (by decide) (by decide) ?_)))
    refine r_spliced (rc.on f3.2.1) f3.2.2 (f := p) (t := p + 1) rfl (by omega) (by omega) (by omega) hl (by simp) (fun o2 h4 f4 => ?_)
    have d4 := d1.kp (f3.2.1.tr f4.2.1)
    have hT : ((st.S w).take p ++ [b] ++ (st.S w).drop (p + 1)) = (st.S w).set p b := by
      rw [List.set_eq_take_append_cons_drop, if_pos (by omega)]; simp
    have f42 := f4.2.2
    rw [show (List.replicate 1 false).set 0 b = [b] from rfl, hT] at f42
    refine ⟨d4.has, r_comes d4 (by omega) rfl f42 (by simp; exact hl) (d4.kp mK.rf |> fun _ => (d1.kp f3.2.1).new f4.1) (fun h5 d5 f5 => r_one hz ⟨b2i_R _, b2i_R _, ?_⟩)⟩
    have kk := fun r hr => k.ok (r := r) d5 (f1.tr ((mF.kp (f3.2.1.tr f4.2.1)).tr f5)) hr
    unfold w_X7_setSign_J69
    by_cases q3 : (st.S w).getD p false = b
    · refine if_yes (congrArg b2i q3) (r_one (c := false) rfl (kk _ ?_))
      show _ = if _ then _ else _
      rw [if_pos q3]; rfl
    · refine if_no (fun z => q3 ((b2i_eq _ _).mp z)) (r_one (c := true) rfl (kk _ ?_))
      show _ = if _ then _ else _
      rw [if_neg q3]; rfl
  · have q1 := nn q
    have e : m_setSign st x y b = bad 1 st := by
      unfold m_setSign
      by_cases z1 : okS x
      · rw [if_pos z1, if_neg (fun z2 => q1 ⟨z1, z2⟩)]
      · rw [if_neg z1]
    rw [e] at k
    exact ⟨by decide, if_no (by decide) (k.ex d1 f1)⟩
theorem r_removeSign (d : gM B h st no) (hx : gR x) (hy : gR y) (k : mRes B h Q (m_removeSign st x y)) : w_X7_removeSign (B 0) x y h Q := by
  unfold w_X7_removeSign
  refine ⟨d.has, r_isNoPlace d hx hy ⟨d.has, r_start d rfl (by decide) (fun q h1 d1 f1 => ?_) (fun q h1 d1 f1 => ?_)⟩⟩
  · obtain ⟨q1, q2⟩ := nd q
    rw [m_removeSign, if_pos q1, if_pos q2] at k
    obtain ⟨w, rfl⟩ : ∃ w : Nat, x = w := ⟨x.toNat, by omega⟩
    obtain ⟨p, rfl⟩ : ∃ p : Nat, y = p := ⟨y.toNat, by omega⟩
    simp only [Int.toNat_natCast] at k q2
    have hl := d1.sl (show w < 3 by omega)
    refine ⟨by decide, if_yes rfl (d1.f0 (d1.sh rfl (by omega) (fun a ra na => ra.at rfl (by omega) (by omega) (d1.f0 (d1.sh rfl (by omega) (fun c rc nc => ?_))))))⟩
    refine fil.new (n := 0) rfl (by decide) (by decide) (by decide) (fun o h2 f2 => gCall_mk (by decide) (by decide) ?_)
    refine r_spliced (rc.on f2.2.1) f2.2.2 (f := p) (t := p + 1) rfl (by omega) (by omega) (by omega) hl (by decide) (fun o2 h4 f4 => ?_)
    have d4 := d1.kp (f2.2.1.tr f4.2.1)
    have f42 := f4.2.2
    rw [show List.replicate 0 false = ([] : List Bool) from rfl, List.append_nil] at f42
    refine ⟨d4.has, r_comes d4 (by omega) rfl f42 (by simp; omega) ((d1.kp f2.2.1).new f4.1) (fun h5 d5 f5 => k.ok d5 (f1.tr ((mF.kp (f2.2.1.tr f4.2.1)).tr f5)) ?_)⟩
    rw [Nat.add_sub_cancel_left, take_one (u := st.S w) (i := p) (by omega), List.take_succ_cons, List.take_zero]
    cases (st.S w).getD p false <;> rfl
  · have q1 := nn q
    have e : m_removeSign st x y = bad 1 st := by
      unfold m_removeSign
      by_cases z1 : okS x
      · rw [if_pos z1, if_neg (fun z2 => q1 ⟨z1, z2⟩)]
      · rw [if_neg z1]
    rw [e] at k
    exact ⟨by decide, if_no (by decide) (k.ex d1 f1)⟩
theorem ones_cut (u : List Bool) {f t : Nat} (hft : f ≤ t) (ht : t ≤ u.length) : ones u = ones (u.take f ++ u.drop t) + ones ((u.drop f).take (t - f)) := by
  have e : u = u.take f ++ ((u.drop f).take (t - f) ++ u.drop t) := by
    have e1 : u.drop f = (u.drop f).take (t - f) ++ u.drop t := by
      have := (List.take_append_drop (t - f) (u.drop f)).symm
      rw [List.drop_drop, show f + (t - f) = t by omega] at this
      exact this
    rw [← e1, List.take_append_drop]
  conv => lhs; rw [e]
  rw [ones_app, ones_app, ones_app]; omega
theorem r_remove (d : gM B h st no) (hx : gR x) (hy : gR y) (hz : gR z) (k : mRes B h Q (m_remove st x y z)) : w_X7_remove (B 0) x y z h Q := by
  unfold w_X7_remove
  refine ⟨d.has, r_isNoPart d hx hy hz ⟨d.has, r_start d rfl (by decide) (fun q h1 d1 f1 => ?_) (fun q h1 d1 f1 => ?_)⟩⟩
  · obtain ⟨q1, q2⟩ := nd q
    rw [m_remove, if_pos q1, if_pos q2] at k
    obtain ⟨w, rfl⟩ : ∃ w : Nat, x = w := ⟨x.toNat, by omega⟩
    obtain ⟨p, rfl⟩ : ∃ p : Nat, y = p := ⟨y.toNat, by omega⟩
    obtain ⟨t, rfl⟩ : ∃ p : Nat, z = p := ⟨z.toNat, by omega⟩
    simp only [Int.toNat_natCast] at k q2
    have hl := d1.sl (show w < 3 by omega)
    refine ⟨by decide, if_yes rfl (d1.f0 (d1.sh rfl (by omega) (fun a ra na => r_bs ra (by omega) (d1.f0 (d1.sh rfl (by omega) (fun c rc nc => ?_))))))⟩
    refine fil.new (n := 0) rfl (by decide) (by decide) (by decide) (fun o h2 f2 => gCall_mk (by decide) (by decide) ?_)
    refine r_spliced (rc.on f2.2.1) f2.2.2 (f := p) (t := t) rfl rfl (by omega) (by omega) hl (by decide) (fun o2 h4 f4 => ?_)
    have d4 := d1.kp (f2.2.1.tr f4.2.1)
    have f42 := f4.2.2
    rw [show List.replicate 0 false = ([] : List Bool) from rfl, List.append_nil] at f42
    refine ⟨d4.has, r_comes d4 (by omega) rfl f42 (by simp; omega) ((d1.kp f2.2.1).new f4.1) (fun h5 d5 f5 => d5.f0 (d5.sh rfl (by omega) (fun c2 rc2 nc2 => ?_)))⟩
    have e9 : (GSt.sheet st w ((st.S w).take p ++ (st.S w).drop t)).S w = (st.S w).take p ++ (st.S w).drop t := pu_self _ _ _
    rw [e9] at rc2
    refine r_bs rc2 (by simp; omega) (k.ok d5 (f1.tr ((mF.kp (f2.2.1.tr f4.2.1)).tr f5)) ?_)
    rw [ones_cut (st.S w) (f := p) (t := t) (by omega) (by omega)]
    push_cast; omega
  · have q1 := nn q
    have e : m_remove st x y z = bad 1 st := by
      unfold m_remove
      by_cases z1 : okS x
      · rw [if_pos z1, if_neg (fun z2 => q1 ⟨z1, z2⟩)]
      · rw [if_neg z1]
    rw [e] at k
    exact ⟨by decide, if_no (by decide) (k.ex d1 f1)⟩
end RX
