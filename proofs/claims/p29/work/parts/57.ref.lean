/-! The reference's acts, the others. -/
theorem mR.fr {B : Nat → Nat} {h h' : gaH} {a : Nat} {u : List Bool} (r : mR h a u) (f : mF B h h') (na : ∀ i, i < 38 → a ≠ B i) : mR h' a u := f _ _ (fun i hi => na i (by omega)) r
theorem img_not (u : List Bool) : img [true] [false] u = u.map (fun b => !b) := by
  induction u with
  | nil => rfl
  | cons b t ih => simp only [img, List.map_cons, ih]; cases b <;> rfl
theorem byL_le {ts : List Nat} (hok : gOk ts) : (byL ts).length ≤ 64 := by
  obtain ⟨n1, n2, n3, n4⟩ := nums_ok hok
  by_cases q : ts = []
  · rw [q]; decide
  · have h2 : 2 ≤ (nums ts).2.2.1 := by
      rw [nums_grw _ ts rfl]
      have := (grw_len _ ts rfl hok.1).1
      have := List.length_pos_iff.mpr q
      show 2 ≤ (grw ts).2.length
      omega
    rw [byL_len q h2]; exact n3
section RY
variable {B : Nat → Nat} {h h0 : gaH} {st : GSt} {no : Int} {a b o : Nat} {u v : List Bool} {w g : Nat} {x y z : Int} {Q : Int → gaH → Prop}
theorem r_turn (d : gM B h st no) (hx : gR x) (k : mRes B h Q (m_turn st x)) : w_X7_turn (B 0) x h Q := by
  unfold w_X7_turn
  refine r_isNoSheet hx ⟨d.has, r_start d rfl (by decide) (fun q h1 d1 f1 => ?_) (fun q h1 d1 f1 => ?_)⟩
  · have q1 := nd q
    rw [m_turn, if_pos q1] at k
    obtain ⟨w, rfl⟩ : ∃ w : Nat, x = w := ⟨x.toNat, by omega⟩
    rw [Int.toNat_natCast] at k
    have hl := d1.sl (show w < 3 by omega)
    refine ⟨by decide, if_yes rfl (d1.f0 (d1.sh rfl (by omega) (fun a ra na => gCall_mk (by decide) (by decide) (r_turned ra hl (fun o h2 f2 => ?_)))))⟩
    have d2 := d1.kp f2.2.1
    exact ⟨d2.has, r_becomes d2 (by omega) rfl f2.2.2 (by simpa using hl) (d1.new f2.1) (fun h3 d3 f3 => k.ok d3 (f1.tr ((mF.kp f2.2.1).tr f3)) rfl)⟩
  · rw [m_turn, if_neg (nn q)] at k
    exact ⟨by decide, if_no (by decide) (k.ex d1 f1)⟩
theorem r_exchange (d : gM B h st no) (hx : gR x) (k : mRes B h Q (m_exchange st x)) : w_X7_exchange (B 0) x h Q := by
  unfold w_X7_exchange
  refine r_isNoSheet hx ⟨d.has, r_start d rfl (by decide) (fun q h1 d1 f1 => ?_) (fun q h1 d1 f1 => ?_)⟩
  · have q1 := nd q
    rw [m_exchange, if_pos q1] at k
    obtain ⟨w, rfl⟩ : ∃ w : Nat, x = w := ⟨x.toNat, by omega⟩
    rw [Int.toNat_natCast] at k
    have hl := d1.sl (show w < 3 by omega)
    refine ⟨by decide, if_yes rfl (d1.f0 (d1.sh rfl (by omega) (fun a ra na => ?_)))⟩
    refine fil.new (n := 1) rfl (by decide) (by decide) (by decide) (fun p h2 f2 => f2.set (i := 0) rfl (by decide) (by decide) (b := true) rfl (fun h3 f3 => ?_))
    refine fil.new (n := 1) rfl (by decide) (by decide) (by decide) (fun q h4 f4 => f4.set (i := 0) rfl (by decide) (by decide) (b := false) rfl (fun h5 f5 => gCall_mk (by decide) (by decide) ?_))
    have kk := f3.2.1.tr f5.2.1
    have e := img_not (st.S w)
    refine r_image (x := [true]) (y := [false]) (ra.on kk) (f3.2.2.on f5.2.1) f5.2.2 (by omega) (by decide) (by decide) (by rw [e]; simp; omega) (fun o h6 f6 => ?_)
    have d6 := d1.kp (kk.tr f6.2.1)
    have f62 := f6.2.2
    rw [e] at f62
    refine ⟨d6.has, r_comes d6 (by omega) rfl f62 (by simpa using hl) ((d1.kp kk).new f6.1) (fun h7 d7 f7 => d7.f0 (d7.sh rfl (by omega) (fun c rc nc => ?_)))⟩
    have e9 : (GSt.sheet st w ((st.S w).map (fun b => !b))).S w = (st.S w).map (fun b => !b) := pu_self _ _ _
    rw [e9] at rc
    exact r_bs rc (by simp; omega) (k.ok d7 (f1.tr ((mF.kp (kk.tr f6.2.1)).tr f7)) rfl)
  · rw [m_exchange, if_neg (nn q)] at k
    exact ⟨by decide, if_no (by decide) (k.ex d1 f1)⟩
theorem r_copy (d : gM B h st no) (hx : gR x) (hy : gR y) (k : mRes B h Q (m_copy st x y)) : w_X7_copy (B 0) x y h Q := by
  have bd : ¬ (okS x ∧ okS y) → w_X7_copy_J20 Q (B 0) x y (B 0) 1 h := fun q => by
    have e : m_copy st x y = bad 1 st := by
      unfold m_copy
      by_cases q1 : okS x
      · rw [if_pos q1, if_neg (fun q2 => q ⟨q1, q2⟩)]
      · rw [if_neg q1]
    rw [e] at k
    unfold w_X7_copy_J20
    exact ⟨d.has, r_start d (bd := true) rfl (by decide) (fun q => by cases q) (fun q h1 d1 f1 => ⟨by decide, if_no (by decide) (k.ex d1 f1)⟩)⟩
  unfold w_X7_copy
  refine r_isNoSheet hx ⟨b2i_R _, ?_⟩
  by_cases q1 : okS x
  · rw [decide_eq_true q1]
    refine if_yes rfl (r_isNoSheet hy ⟨b2i_R _, ?_⟩)
    by_cases q2 : okS y
    · rw [decide_eq_true q2]
      refine if_yes rfl ?_
      rw [m_copy, if_pos q1, if_pos q2] at k
      unfold w_X7_copy_J20
      refine ⟨d.has, r_start d (bd := false) rfl (by decide) (fun q h1 d1 f1 => ⟨by decide, if_yes rfl ?_⟩) (fun q => by cases q)⟩
      obtain ⟨w, rfl⟩ : ∃ w : Nat, x = w := ⟨x.toNat, by omega⟩
      obtain ⟨v, rfl⟩ : ∃ v : Nat, y = v := ⟨y.toNat, by omega⟩
      rw [Int.toNat_natCast, Int.toNat_natCast] at k
      refine d1.f0 (d1.sh rfl (by omega) (fun a ra na => ⟨d1.has, ?_⟩))
      exact r_becomes d1 (by omega) rfl ra (d1.sl (by omega)) na (fun h3 d3 f3 => k.ok d3 (f1.tr f3) rfl)
    · rw [decide_eq_false q2]
      exact if_no (by decide) (bd (fun z => q2 z.2))
  · rw [decide_eq_false q1]
    exact if_no (by decide) (bd (fun z => q1 z.1))
theorem r_apply (d : gM B h st no) (hx : gR x) (hy : gR y) (hz : gR z) (k : mRes B h Q (m_apply st x y z)) : w_X7_apply (B 0) x y z h Q := by
  unfold w_X7_apply
  refine r_isNoSheet hx ⟨d.has, r_start d rfl (by decide) (fun q h1 d1 f1 => ?_) (fun q h1 d1 f1 => ?_)⟩
  · have q1 := nd q
    rw [m_apply, if_pos q1] at k
    refine ⟨by decide, if_yes rfl (r_isNoRule hy hz ⟨d1.has, r_refuse d1 rfl (by decide) (fun q => ?_) (fun q h2 d2 f2 => ?_)⟩)⟩
    · have q2 := nd q
      rw [if_pos q2] at k
      obtain ⟨w, rfl⟩ : ∃ w : Nat, x = w := ⟨x.toNat, by omega⟩
      obtain ⟨c, rfl⟩ : ∃ w : Nat, y = w := ⟨y.toNat, by omega⟩
      obtain ⟨e, rfl⟩ : ∃ w : Nat, z = w := ⟨z.toNat, by omega⟩
      simp only [Int.toNat_natCast] at k
      have hl := d1.sl (show w < 3 by omega)
      have l1 := (code_ok c (by omega) (by omega)).2
      have l2 := (code_ok e (by omega) (by omega)).2
      have l3 := img_le (codeW c) (codeW e) (m := 4) l1 l2 (st.S w)
      refine ⟨by decide, if_yes rfl (d1.f0 (d1.sh rfl (by omega) (fun a ra na => gCall_mk (by decide) (by decide) (r_ofCode (c := c) rfl (by omega) (by omega) (fun p h2 f2 => gCall_mk (by decide) (by decide) (r_ofCode (c := e) rfl (by omega) (by omega) (fun q h3 f3 => gCall_mk (by decide) (by decide) ?_)))))))⟩
      have kk := f2.2.1.tr f3.2.1
      refine r_image (ra.on kk) (f2.2.2.on f3.2.1) f3.2.2 (by omega) (by omega) (by omega) (by omega) (fun o h4 f4 => f4.2.2.len ⟨by omega, ?_⟩)
      have k4 := kk.tr f4.2.1
      have d4 := d1.kp k4
      by_cases q3 : (img (codeW c) (codeW e) (st.S w)).length ≤ 64
      · rw [if_pos q3] at k
        exact if_yes (by omega) ⟨d4.has, r_comes d4 (by omega) rfl f4.2.2 q3 ((d1.kp kk).new f4.1) (fun h5 d5 f5 => k.ok d5 (f1.tr ((mF.kp k4).tr f5)) rfl)⟩
      · rw [if_neg q3] at k
        exact if_no (by omega) ⟨d4.has, r_cannot d4 (fun h5 d5 f5 => k.ok d5 (f1.tr ((mF.kp k4).tr f5)) rfl)⟩
    · rw [if_neg (nn q)] at k
      exact ⟨by decide, if_no (by decide) (k.ex d2 (f1.tr f2))⟩
  · rw [m_apply, if_neg (nn q)] at k
    exact ⟨by decide, if_no (by decide) (k.ex d1 f1)⟩
theorem r_lay (d : gM B h st no) (hx : gR x) (hy : gR y) (hz : gR z) (k : mRes B h Q (m_lay st x y z)) : w_X7_lay (B 0) x y z h Q := by
  have bd : ¬ (okG x ∧ okS y) → w_X7_lay_J20 Q (B 0) x y z (B 0) 1 h 391 22856 := fun q => by
    have e : m_lay st x y z = bad 1 st := by
      unfold m_lay
      by_cases q1 : okG x
      · rw [if_pos q1, if_neg (fun q2 => q ⟨q1, q2⟩)]
      · rw [if_neg q1]
    rw [e] at k
    unfold w_X7_lay_J20
    exact ⟨d.has, r_start d (bd := true) rfl (by decide) (fun q => by cases q) (fun q h1 d1 f1 => ⟨by decide, if_no (by decide) (k.ex d1 f1)⟩)⟩
  unfold w_X7_lay
  refine r_isNoGrowth hx ⟨b2i_R _, ?_⟩
  by_cases q1 : okG x
  · rw [decide_eq_true q1]
    refine if_yes rfl (r_isNoSheet hy ⟨b2i_R _, ?_⟩)
    by_cases q2 : okS y
    · rw [decide_eq_true q2]
      refine if_yes rfl ?_
      rw [m_lay, if_pos q1, if_pos q2] at k
      unfold w_X7_lay_J20
      refine ⟨d.has, r_start d (bd := false) rfl (by decide) (fun q h1 d1 f1 => ⟨by decide, if_yes rfl (r_isIn hz (by decide) (by decide) (sel (fun t => w_X7_lay_J42 Q (B 0) x y z (B 0) t h1 391 22856) ?_))⟩) (fun q => by cases q)⟩
      unfold w_X7_lay_J42
      refine ⟨d1.has, r_refuse d1 rfl (by decide) (fun q => ?_) (fun q h2 d2 f2 => ?_)⟩
      · have q3 := nd q
        rw [if_pos q3] at k
        obtain ⟨g, rfl⟩ : ∃ w : Nat, x = w := ⟨x.toNat, by omega⟩
        obtain ⟨w, rfl⟩ : ∃ w : Nat, y = w := ⟨y.toNat, by omega⟩
        simp only [Int.toNat_natCast] at k
        have fin : ∀ h2 o kc ks, mK h1 h2 → h1 o = none → mR h2 o (layW (st.T g) z) → (layW (st.T g) z).length ≤ 64 → w_X7_lay_J84 Q (B 0) (w : Int) o h2 kc ks := by
          intro h2 o kc ks k2 no r2 hl
          have d2 := d1.kp k2
          unfold w_X7_lay_J84
          exact ⟨d2.has, r_comes d2 (by omega) rfl r2 hl (d1.new no) (fun h5 d5 f5 => k.ok d5 (f1.tr ((mF.kp k2).tr f5)) rfl)⟩
        have hok := d1.ok (show g < 2 by omega)
        refine ⟨by decide, if_yes rfl ⟨hz, ?_⟩⟩
        by_cases c0 : z = 0
        · refine if_yes c0 ⟨d1.has, gCall_mk (by decide) (by decide) (r_byCopies d1 (show g < 2 by omega) (m := (st.T g).length) (bk := 0) rfl rfl rfl (fun h2 o k2 no r2 => ?_))⟩
          rw [List.take_length] at r2
          have e : layW (st.T g) z = (grw (st.T g)).2 := by rw [layW, if_neg (by omega)]
          exact fin h2 o _ _ k2 no (by rw [e]; exact r2) (by rw [e]; exact hok.2)
        refine if_no c0 ⟨hz, ?_⟩
        by_cases c1 : z = 1
        · refine if_yes c1 ⟨d1.has, gCall_mk (by decide) (by decide) (r_byRules d1 (show g < 2 by omega) rfl (fun h2 o k2 no r2 => ?_))⟩
          have e : layW (st.T g) z = (grw (st.T g)).2 := by rw [layW, if_neg (by omega)]
          exact fin h2 o _ _ k2 no (by rw [e]; exact r2) (by rw [e]; exact hok.2)
        · refine if_no c1 ⟨d1.has, gCall_mk (by decide) (by decide) (r_byLine d1 (show g < 2 by omega) rfl (fun h2 o k2 no r2 => ?_))⟩
          have e : layW (st.T g) z = byL (st.T g) := by rw [layW, if_pos (by omega)]
          exact fin h2 o _ _ k2 no (by rw [e]; exact r2) (by rw [e]; exact byL_le hok)
      · rw [if_neg (nn q)] at k
        exact ⟨by decide, if_no (by decide) (k.ex d2 (f1.tr f2))⟩
    · rw [decide_eq_false q2]
      exact if_no (by decide) (bd (fun z => q2 z.2))
  · rw [decide_eq_false q1]
    exact if_no (by decide) (bd (fun z => q1 z.1))
end RY
