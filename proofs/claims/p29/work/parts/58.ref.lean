/-! The reference's acts: cutTo, rotate, line, twos, and the growths'. -/
section RZ
variable {B : Nat → Nat} {h h0 : gaH} {st : GSt} {no : Int} {a b o : Nat} {u v : List Bool} {w g : Nat} {x y z : Int} {Q : Int → gaH → Prop}
def cutW (u : List Bool) (n : Nat) : List Bool := u.take n ++ List.replicate (n - u.length) false
theorem cutW_len (u : List Bool) (n : Nat) : (cutW u n).length = n := by simp [cutW]; omega
theorem cutW_at {u : List Bool} {n i : Nat} (h1 : i < n) (h2 : i < u.length) : (cutW u n).getD i false = u.getD i false := by
  unfold cutW
  rw [List.getD_eq_getElem?_getD, List.getElem?_append_left (by simp; omega), List.getElem?_take_of_lt h1, ← List.getD_eq_getElem?_getD]
theorem cutW_end {u : List Bool} {n i : Nat} (hi : i ≤ n) (h : n ≤ i ∨ u.length ≤ i) : pf (cutW u n) i = cutW u n := by
  rcases h with q | q
  · obtain rfl : i = n := by omega
    have := pf_end (cutW u i)
    rw [cutW_len] at this; exact this
  · unfold pf
    rw [cutW_len]
    unfold cutW
    rw [List.take_of_length_le (show u.length ≤ n by omega), List.take_append, List.take_of_length_le q, List.append_assoc, List.take_replicate, List.replicate_append_replicate]
    congr 2; omega
theorem r_cutTo_L {h0 : gaH} (d0 : gM B h0 st 0) (hw : w < 3) (ru : mR h0 a (st.S w)) (na : ∀ i, i < 38 → a ≠ B i) {n : Nat} (hn : n ≤ 64) (k : mRes B h0 Q (done (st.sheet w (cutW (st.S w) n)) ((st.S w).length : Int))) {kc ks : Nat} : ∀ (z i : Nat) (h : gaH), fil h0 h o (pf (cutW (st.S w) n) i) → i ≤ n → n - i < z → w_X7_cutTo_L52 Q z (B 0) (w : Int) (n : Int) a o (i : Int) h kc ks
  | 0, _, _, _, _, h9 => absurd h9 (Nat.not_lt_zero _)
  | z + 1, i, h, fl, hi, h9 => by
    have hl := d0.sl hw
    have hT := cutW_len (st.S w) n
    have d := d0.kp fl.2.1
    have fin : (n ≤ i ∨ (st.S w).length ≤ i) → w_X7_cutTo_J80 Q (B 0) (w : Int) a o h kc ks := fun q => by
      rw [cutW_end hi q] at fl
      unfold w_X7_cutTo_J80
      refine ⟨d.has, r_comes d hw rfl fl.2.2 (by omega) (d0.new fl.1) (fun h2 d2 f2 => ?_)⟩
      have ff := (mF.kp fl.2.1).tr f2
      exact (ru.fr ff na).len (k.ok d2 ff rfl)
    unfold w_X7_cutTo_L52
    refine ⟨by omega, by omega, ?_⟩
    by_cases q : n ≤ i
    · exact if_yes (by omega) (fin (Or.inl q))
    · refine if_no (by omega) ((ru.on fl.2.1).len ⟨by omega, by omega, ?_⟩)
      by_cases q2 : (st.S w).length ≤ i
      · exact if_yes (by omega) (fin (Or.inr q2))
      · refine if_no (by omega) ((ru.on fl.2.1).at rfl (by omega) (by omega) (fl.set rfl (by rw [pf_len (by omega)]; omega) (by rw [pf_len (by omega)]; omega) rfl (fun h3 f3 => ?_)))
        rw [← cutW_at (n := n) (by omega) (by omega), pf_set (by omega)] at f3
        rw [show (i : Int) + 1 = ((i + 1 : Nat) : Int) by omega]
        exact r_cutTo_L d0 hw ru na hn k z (i + 1) h3 f3 (by omega) (by omega)
theorem r_cutTo (d : gM B h st no) (hx : gR x) (hy : gR y) (k : mRes B h Q (m_cutTo st x y)) : w_X7_cutTo (B 0) x y h Q := by
  unfold w_X7_cutTo
  refine r_isNoSheet hx ⟨d.has, r_start d rfl (by decide) (fun q h1 d1 f1 => ?_) (fun q h1 d1 f1 => ?_)⟩
  · have q1 := nd q
    rw [m_cutTo, if_pos q1] at k
    refine ⟨by decide, if_yes rfl (r_isIn hy (by decide) (by decide) (sel (fun t => w_X7_cutTo_J28 Q (B 0) x y (B 0) t h1 1 64) ?_))⟩
    unfold w_X7_cutTo_J28
    refine ⟨d1.has, r_refuse d1 rfl (by decide) (fun q => ?_) (fun q h2 d2 f2 => ?_)⟩
    · have q2 := nd q
      rw [if_pos q2] at k
      obtain ⟨w, rfl⟩ : ∃ w : Nat, x = w := ⟨x.toNat, by omega⟩
      obtain ⟨n, rfl⟩ : ∃ w : Nat, y = w := ⟨y.toNat, by omega⟩
      simp only [Int.toNat_natCast] at k
      refine ⟨by decide, if_yes rfl (d1.f0 (d1.sh rfl (by omega) (fun a ra na => fil.new (n := n) rfl (by omega) (by decide) (by omega) (fun o h2 f2 => ⟨66, ?_⟩))))⟩
      exact r_cutTo_L d1 (by omega) ra na (by omega) (k.on f1) 66 0 h2 (by rw [pf_0, cutW_len]; exact f2) (Nat.zero_le _) (by omega)
    · rw [if_neg (nn q)] at k
      exact ⟨by decide, if_no (by decide) (k.ex d2 (f1.tr f2))⟩
  · rw [m_cutTo, if_neg (nn q)] at k
    exact ⟨by decide, if_no (by decide) (k.ex d1 f1)⟩
theorem rot_at {u : List Bool} {n i : Nat} (hn : n ≤ u.length) (hi : i < u.length) : (u.drop n ++ u.take n).getD i false = u.getD ((i + n) % u.length) false := by
  rw [List.getD_eq_getElem?_getD, List.getD_eq_getElem?_getD]
  by_cases q : i + n < u.length
  · rw [Nat.mod_eq_of_lt q, List.getElem?_append_left (by simp; omega), List.getElem?_drop, Nat.add_comm]
  · have e : (i + n) % u.length = i + n - u.length := by
      rw [Nat.mod_eq_sub_mod (by omega), Nat.mod_eq_of_lt (by omega)]
    rw [e, List.getElem?_append_right (by simp; omega)]
    simp only [List.length_drop]
    rw [List.getElem?_take_of_lt (by omega)]
    congr 2; omega
theorem r_rotate_L {h0 : gaH} (d0 : gM B h0 st 0) (hw : w < 3) (ru : mR h0 a (st.S w)) {n : Nat} (hn : n ≤ (st.S w).length) (k : mRes B h0 Q (settled st w ((st.S w).drop n ++ (st.S w).take n))) {kc ks : Nat} : ∀ (z i : Nat) (h : gaH), fil h0 h o (pf ((st.S w).drop n ++ (st.S w).take n) i) → i ≤ (st.S w).length → (st.S w).length - i < z → w_X7_rotate_L58 Q z (B 0) (w : Int) (n : Int) a o (i : Int) h kc ks
  | 0, _, _, _, _, h9 => absurd h9 (Nat.not_lt_zero _)
  | z + 1, i, h, fl, hi, h9 => by
    have hl := d0.sl hw
    have hT : ((st.S w).drop n ++ (st.S w).take n).length = (st.S w).length := by simp; omega
    have d := d0.kp fl.2.1
    unfold w_X7_rotate_L58
    refine fl.2.2.len ?_
    rw [pf_len (by omega), hT]
    refine ⟨by omega, by omega, ?_⟩
    by_cases q : (st.S w).length ≤ i
    · obtain rfl : i = ((st.S w).drop n ++ (st.S w).take n).length := by omega
      rw [pf_end] at fl
      exact if_yes (by omega) ⟨d.has, r_becomes d hw rfl fl.2.2 (by omega) (d0.new fl.1) (fun h2 d2 f2 => k.ok d2 ((mF.kp fl.2.1).tr f2) rfl)⟩
    · refine if_no (by omega) ((ru.on fl.2.1).len ⟨by omega, by omega, ?_⟩)
      have e : gRem ((i : Int) + (n : Int)) ((st.S w).length : Int) = (((i + n) % (st.S w).length : Nat) : Int) := by
        have := gRem_nat (a := i + n) (b := (st.S w).length) (by omega) (by omega)
        rw [← this]; congr 1
      rw [e]
      refine (ru.on fl.2.1).at rfl (Nat.mod_lt _ (by omega)) (by omega) (fl.set rfl (by rw [pf_len (by omega)]; omega) (by rw [pf_len (by omega)]; omega) rfl (fun h3 f3 => ?_))
      rw [← rot_at hn (by omega), pf_set (by omega)] at f3
      rw [show (i : Int) + 1 = ((i + 1 : Nat) : Int) by omega]
      exact r_rotate_L d0 hw ru hn k z (i + 1) h3 f3 (by omega) (by omega)
theorem r_rotate (d : gM B h st no) (hx : gR x) (hy : gR y) (k : mRes B h Q (m_rotate st x y)) : w_X7_rotate (B 0) x y h Q := by
  unfold w_X7_rotate
  refine r_isNoSheet hx ⟨d.has, r_start d rfl (by decide) (fun q h1 d1 f1 => ?_) (fun q h1 d1 f1 => ?_)⟩
  · have q1 := nd q
    rw [m_rotate, if_pos q1] at k
    obtain ⟨w, rfl⟩ : ∃ w : Nat, x = w := ⟨x.toNat, by omega⟩
    rw [Int.toNat_natCast] at k
    have hl := d1.sl (show w < 3 by omega)
    refine ⟨by decide, if_yes rfl (d1.f0 (d1.sh rfl (by omega) (fun a ra na => ra.len (r_isIn hy (by decide) (by omega) (sel (fun t => w_X7_rotate_J33 Q (B 0) (w : Int) y (B 0) t h1 1 64) ?_)))))⟩
    unfold w_X7_rotate_J33
    refine ⟨d1.has, r_refuse d1 rfl (by decide) (fun q => ?_) (fun q h2 d2 f2 => ?_)⟩
    · have q2 := nd q
      rw [if_pos q2] at k
      obtain ⟨n, rfl⟩ : ∃ w : Nat, y = w := ⟨y.toNat, by omega⟩
      simp only [Int.toNat_natCast] at k
      refine ⟨by decide, if_yes rfl (d1.f0 (d1.sh rfl (by omega) (fun a ra na => ra.len (fil.new (n := (st.S w).length) rfl (by omega) (by decide) (by omega) (fun o h2 f2 => ⟨66, ?_⟩)))))⟩
      have hT : ((st.S w).drop n ++ (st.S w).take n).length = (st.S w).length := by simp; omega
      exact r_rotate_L d1 (by omega) ra (by omega) (k.on f1) 66 0 h2 (by rw [pf_0, hT]; exact f2) (Nat.zero_le _) (by omega)
    · rw [if_neg (nn q)] at k
      exact ⟨by decide, if_no (by decide) (k.ex d2 (f1.tr f2))⟩
  · rw [m_rotate, if_neg (nn q)] at k
    exact ⟨by decide, if_no (by decide) (k.ex d1 f1)⟩
theorem lineW_len (n p s : Nat) : (lineW n p s).length = n := by simp [lineW]
theorem lineW_at {n p s i : Nat} (hi : i < n) : (lineW n p s).getD i false = lineB n p s i := by
  unfold lineW
  rw [List.getD_eq_getElem?_getD]; simp [hi]
theorem r_line_L {h0 : gaH} (d0 : gM B h0 st 0) (hw : w < 3) {n p s : Nat} (hn : 1 ≤ n ∧ n ≤ 64) (hp : p ≤ n) (hs : s < n) (k : mRes B h0 Q (settled st w (lineW n p s))) {kc ks : Nat} : ∀ (z i : Nat) (h : gaH), fil h0 h o (pf (lineW n p s) i) → i ≤ n → n - i < z → w_X7_line_L66 Q z (B 0) (w : Int) (n : Int) (p : Int) (s : Int) o (i : Int) h kc ks
  | 0, _, _, _, _, h9 => absurd h9 (Nat.not_lt_zero _)
  | z + 1, i, h, fl, hi, h9 => by
    have hT := lineW_len n p s
    have d := d0.kp fl.2.1
    unfold w_X7_line_L66
    refine ⟨by omega, by omega, ?_⟩
    by_cases q : n ≤ i
    · obtain rfl : i = (lineW n p s).length := by omega
      rw [pf_end] at fl
      exact if_yes (by omega) ⟨d.has, r_becomes d hw rfl fl.2.2 (by omega) (d0.new fl.1) (fun h2 d2 f2 => k.ok d2 ((mF.kp fl.2.1).tr f2) rfl)⟩
    · refine if_no (by omega) (r_lineSign (n := n) (p := p) (s := s) (i := i) (by omega) (by omega) (by omega) (by omega) (by omega) rfl rfl rfl rfl (fl.set rfl (by rw [pf_len (by omega)]; omega) (by rw [pf_len (by omega)]; omega) rfl (fun h3 f3 => ?_)))
      rw [← lineW_at (show i < n by omega), pf_set (by omega)] at f3
      rw [show (i : Int) + 1 = ((i + 1 : Nat) : Int) by omega]
      exact r_line_L d0 hw hn hp hs k z (i + 1) h3 f3 (by omega) (by omega)
theorem r_line {n p s : Int} (d : gM B h st no) (hx : gR x) (hn : gR n) (hp : gR p) (hs : gR s) (k : mRes B h Q (m_line st x n p s)) : w_X7_line (B 0) x n p s h Q := by
  unfold w_X7_line
  refine r_isNoSheet hx ⟨d.has, r_start d rfl (by decide) (fun q h1 d1 f1 => ?_) (fun q h1 d1 f1 => ?_)⟩
  · have q1 := nd q
    rw [m_line, if_pos q1] at k
    have bd : ¬ ((1 ≤ n ∧ n ≤ 64) ∧ (0 ≤ p ∧ p ≤ n) ∧ 0 ≤ s ∧ s < n) → w_X7_line_J49 Q (B 0) x n p s (B 0) 1 h1 1 64 := fun q => by
      have e : (if 1 ≤ n ∧ n ≤ 64 then if 0 ≤ p ∧ p ≤ n then if 0 ≤ s ∧ s < n then settled st x.toNat (lineW n.toNat p.toNat s.toNat) else bad 2 st else bad 2 st else bad 2 st) = bad 2 st := by
        by_cases z1 : 1 ≤ n ∧ n ≤ 64
        · rw [if_pos z1]
          by_cases z2 : 0 ≤ p ∧ p ≤ n
          · rw [if_pos z2, if_neg (fun z3 => q ⟨z1, z2, z3⟩)]
          · rw [if_neg z2]
        · rw [if_neg z1]
      rw [e] at k
      unfold w_X7_line_J49
      exact ⟨d1.has, r_refuse d1 (bd := true) rfl (by decide) (fun q => by cases q) (fun q h2 d2 f2 => ⟨by decide, if_no (by decide) (k.ex d2 (f1.tr f2))⟩)⟩
    refine ⟨by decide, if_yes rfl (r_isIn hn (by decide) (by decide) ⟨b2i_R _, ?_⟩)⟩
    by_cases z1 : 1 ≤ n ∧ n ≤ 64
    · rw [decide_eq_true z1]
      refine if_no (by decide) (r_isIn hp (by decide) hn ⟨b2i_R _, ?_⟩)
      by_cases z2 : 0 ≤ p ∧ p ≤ n
      · rw [decide_eq_true z2]
        refine if_no (by decide) (r_isIn hs (by decide) (by omega) ⟨b2i_R _, ?_⟩)
        by_cases z3 : 0 ≤ s ∧ s < n
        · rw [decide_eq_true (show 0 ≤ s ∧ s ≤ n - 1 by omega)]
          refine if_no (by decide) ?_
          rw [if_pos z1, if_pos z2, if_pos z3] at k
          obtain ⟨w, rfl⟩ : ∃ w : Nat, x = w := ⟨x.toNat, by omega⟩
          obtain ⟨n, rfl⟩ : ∃ w : Nat, n = w := ⟨n.toNat, by omega⟩
          obtain ⟨p, rfl⟩ : ∃ w : Nat, p = w := ⟨p.toNat, by omega⟩
          obtain ⟨s, rfl⟩ : ∃ w : Nat, s = w := ⟨s.toNat, by omega⟩
          simp only [Int.toNat_natCast] at k
          unfold w_X7_line_J49
          refine ⟨d1.has, r_refuse d1 (bd := false) rfl (by decide) (fun q => ⟨by decide, if_yes rfl (fil.new (n := n) rfl (by omega) (by decide) (by omega) (fun o h2 f2 => ⟨66, ?_⟩))⟩) (fun q => by cases q)⟩
          exact r_line_L d1 (by omega) (by omega) (by omega) (by omega) (k.on f1) 66 0 h2 (by rw [pf_0, lineW_len]; exact f2) (Nat.zero_le _) (by omega)
        · rw [decide_eq_false (show ¬ (0 ≤ s ∧ s ≤ n - 1) by omega)]
          exact if_yes rfl (bd (fun z => z3 z.2.2))
      · rw [decide_eq_false z2]
        exact if_yes rfl (bd (fun z => z2 z.2.1))
    · rw [decide_eq_false z1]
      exact if_yes rfl (bd (fun z => z1 z.1))
  · rw [m_line, if_neg (nn q)] at k
    exact ⟨by decide, if_no (by decide) (k.ex d1 f1)⟩
theorem r_twos (d : gM B h st no) (hx : gR x) (hy : gR y) (hz : gR z) (k : mRes B h Q (m_twos st x y z)) : w_X7_twos (B 0) x y z h Q := by
  unfold w_X7_twos
  refine r_isNoSheet hx ⟨d.has, r_start d rfl (by decide) (fun q h1 d1 f1 => ?_) (fun q h1 d1 f1 => ?_)⟩
  · have q1 := nd q
    rw [m_twos, if_pos q1] at k
    have bd : ¬ ((0 ≤ y ∧ y ≤ 6) ∧ 0 ≤ z ∧ z ≤ 2) → w_X7_twos_J37 Q (B 0) x y z (B 0) 1 h1 44 4928 := fun q => by
      have e : (if 0 ≤ y ∧ y ≤ 6 then if 0 ≤ z ∧ z ≤ 2 then done (st.sheet x.toNat (twL y.toNat)) ((twL y.toNat).length : Int) else bad 2 st else bad 2 st) = bad 2 st := by
        by_cases z1 : 0 ≤ y ∧ y ≤ 6
        · rw [if_pos z1, if_neg (fun z2 => q ⟨z1, z2⟩)]
        · rw [if_neg z1]
      rw [e] at k
      unfold w_X7_twos_J37
      exact ⟨d1.has, r_refuse d1 (bd := true) rfl (by decide) (fun q => by cases q) (fun q h2 d2 f2 => ⟨by decide, if_no (by decide) (k.ex d2 (f1.tr f2))⟩)⟩
    refine ⟨by decide, if_yes rfl (r_isIn hy (by decide) (by decide) ⟨b2i_R _, ?_⟩)⟩
    by_cases z1 : 0 ≤ y ∧ y ≤ 6
    · rw [decide_eq_true z1]
      refine if_no (by decide) (r_isIn hz (by decide) (by decide) ⟨b2i_R _, ?_⟩)
      by_cases z2 : 0 ≤ z ∧ z ≤ 2
      · rw [decide_eq_true z2]
        refine if_no (by decide) ?_
        rw [if_pos z1, if_pos z2] at k
        obtain ⟨w, rfl⟩ : ∃ w : Nat, x = w := ⟨x.toNat, by omega⟩
        obtain ⟨s, rfl⟩ : ∃ w : Nat, y = w := ⟨y.toNat, by omega⟩
        simp only [Int.toNat_natCast] at k
        unfold w_X7_twos_J37
        refine ⟨d1.has, r_refuse d1 (bd := false) rfl (by decide) (fun q => ⟨by decide, if_yes rfl (gCall_mk (by decide) (by decide) (r_twosOf rfl (show s ≤ 6 by omega) hz z2 (fun h2 o k2 n2 r2 => ?_)))⟩) (fun q => by cases q)⟩
        have d2 := d1.kp k2
        have hl : (twL s).length ≤ 64 := by
          rw [twL_len s (by omega)]
          have : 2 ^ s ≤ 2 ^ 6 := Nat.pow_le_pow_right (by decide) (by omega)
          omega
        exact ⟨d2.has, r_comes d2 (by omega) rfl r2 hl (d1.new n2) (fun h5 d5 f5 => k.ok d5 (f1.tr ((mF.kp k2).tr f5)) rfl)⟩
      · rw [decide_eq_false z2]
        exact if_yes rfl (bd (fun z => z2 z.2))
    · rw [decide_eq_false z1]
      exact if_yes rfl (bd (fun z => z1 z.1))
  · rw [m_twos, if_neg (nn q)] at k
    exact ⟨by decide, if_no (by decide) (k.ex d1 f1)⟩
theorem r_knock (d : gM B h st no) (k : mRes B h Q (m_knock st)) : w_X7_knock (B 0) h Q := by
  unfold w_X7_knock
  exact d.setNo (fun h1 d1 f1 => d1.cn (i := 3) rfl (by decide) (d1.inc (i := 3) rfl (by decide) rfl (fun h2 d2 f2 => d2.cn (i := 3) rfl (by decide) (k.ok d2 (f1.tr f2) (show pu st.C 3 (st.C 3 + 1) 3 = st.C 3 + 1 from pu_self _ _ _)))))
end RZ
