/-! What is asked of the reference: the exact ones. -/
section RQ
variable {B : Nat → Nat} {h h0 : gaH} {st : GSt} {no : Int} {a b o : Nat} {u v : List Bool} {w g : Nat} {x y z : Int} {Q : Int → gaH → Prop}
theorem r_length (d : gM B h st no) (hx : gR x) (k : mRes B h Q (m_length st x)) : w_X7_length (B 0) x h Q := by
  unfold w_X7_length
  refine r_isNoSheet hx ⟨d.has, r_start d rfl (by decide) (fun q h1 d1 f1 => ?_) (fun q h1 d1 f1 => ?_)⟩
  · have q1 := nd q
    rw [m_length, if_pos q1] at k
    obtain ⟨w, rfl⟩ : ∃ w : Nat, x = w := ⟨x.toNat, by omega⟩
    exact ⟨by decide, if_yes rfl (d1.f0 (d1.sh rfl (by omega) (fun a ra na => ra.len (k.ok d1 f1 (by rw [Int.toNat_natCast])))))⟩
  · rw [m_length, if_neg (nn q)] at k
    exact ⟨by decide, if_no (by decide) (k.ex d1 f1)⟩
theorem r_isB (d : gM B h st no) (hx : gR x) (hy : gR y) (k : mRes B h Q (m_isB st x y)) : w_X7_isB (B 0) x y h Q := by
  unfold w_X7_isB
  refine ⟨d.has, r_isNoPlace d hx hy ⟨d.has, r_start d rfl (by decide) (fun q h1 d1 f1 => ?_) (fun q h1 d1 f1 => ?_)⟩⟩
  · obtain ⟨q1, q2⟩ := nd q
    rw [m_isB, if_pos q1, if_pos q2] at k
    obtain ⟨w, rfl⟩ : ∃ w : Nat, x = w := ⟨x.toNat, by omega⟩
    obtain ⟨p, rfl⟩ : ∃ p : Nat, y = p := ⟨y.toNat, by omega⟩
    simp only [Int.toNat_natCast] at k q2
    have hl := d1.sl (show w < 3 by omega)
    refine ⟨by decide, if_yes rfl (d1.f0 (d1.sh rfl (by omega) (fun a ra na => ra.at rfl (by omega) (by omega) ⟨b2i_R _, ?_⟩)))⟩
    have kk := fun r hr => k.ok (r := r) d1 f1 hr
    generalize (st.S w).getD p false = t at kk ⊢
    cases t
    · exact if_no (by decide) (kk _ rfl)
    · exact if_yes rfl (kk _ rfl)
  · have q1 := nn q
    have e : m_isB st x y = bad 1 st := by
      unfold m_isB
      by_cases z1 : okS x
      · rw [if_pos z1, if_neg (fun z2 => q1 ⟨z1, z2⟩)]
      · rw [if_neg z1]
    rw [e] at k
    exact ⟨by decide, if_no (by decide) (k.ex d1 f1)⟩
theorem r_count {b : Bool} (d : gM B h st no) (hx : gR x) (hy : y = b2i b) (k : mRes B h Q (m_count st x b)) : w_X7_count (B 0) x y h Q := by
  subst hy
  unfold w_X7_count
  refine r_isNoSheet hx ⟨d.has, r_start d rfl (by decide) (fun q h1 d1 f1 => ?_) (fun q h1 d1 f1 => ?_)⟩
  · have q1 := nd q
    rw [m_count, if_pos q1] at k
    obtain ⟨w, rfl⟩ : ∃ w : Nat, x = w := ⟨x.toNat, by omega⟩
    rw [Int.toNat_natCast] at k
    have hl := d1.sl (show w < 3 by omega)
    refine ⟨by decide, if_yes rfl (d1.f0 (d1.sh rfl (by omega) (fun a ra na => r_bs ra (by omega) ⟨b2i_R _, ?_⟩)))⟩
    cases b
    · exact if_yes rfl (d1.f0 (d1.sh rfl (by omega) (fun c rc nc => rc.len (k.ok d1 f1 rfl))))
    · exact if_no (by decide) (k.ok d1 f1 rfl)
  · rw [m_count, if_neg (nn q)] at k
    exact ⟨by decide, if_no (by decide) (k.ex d1 f1)⟩
theorem r_size {b : Bool} (d : gM B h st no) (hx : gR x) (hy : y = b2i b) (k : mRes B h Q (m_size st x b)) : w_X7_size (B 0) x y h Q := by
  unfold w_X7_size
  refine r_isNoGrowth hx ⟨d.has, r_start d rfl (by decide) (fun q h1 d1 f1 => ?_) (fun q h1 d1 f1 => ?_)⟩
  · have q1 := nd q
    rw [m_size, if_pos q1] at k
    obtain ⟨g, rfl⟩ : ∃ w : Nat, x = w := ⟨x.toNat, by omega⟩
    rw [Int.toNat_natCast] at k
    exact ⟨by decide, if_yes rfl ⟨d1.has, gCall_mk (by decide) (by decide) (r_word d1 (show g < 2 by omega) rfl hy (fun h2 o k2 n2 r2 => r2.len (k.ok (d1.kp k2) (f1.tr (mF.kp k2)) rfl)))⟩⟩
  · rw [m_size, if_neg (nn q)] at k
    exact ⟨by decide, if_no (by decide) (k.ex d1 f1)⟩
theorem gWd_le {ts : List Nat} (hok : gOk ts) (b : Bool) : (gWd ts b).length ≤ 64 := by
  unfold gWd
  split
  · exact hok.elder
  · exact hok.2
theorem r_ups {b : Bool} (d : gM B h st no) (hx : gR x) (hy : y = b2i b) (k : mRes B h Q (m_ups st x b)) : w_X7_ups (B 0) x y h Q := by
  unfold w_X7_ups
  refine r_isNoGrowth hx ⟨d.has, r_start d rfl (by decide) (fun q h1 d1 f1 => ?_) (fun q h1 d1 f1 => ?_)⟩
  · have q1 := nd q
    rw [m_ups, if_pos q1] at k
    obtain ⟨g, rfl⟩ : ∃ w : Nat, x = w := ⟨x.toNat, by omega⟩
    rw [Int.toNat_natCast] at k
    have hl := gWd_le (d1.ok (show g < 2 by omega)) b
    exact ⟨by decide, if_yes rfl ⟨d1.has, gCall_mk (by decide) (by decide) (r_word d1 (show g < 2 by omega) rfl hy (fun h2 o k2 n2 r2 => r_bs r2 (by omega) (k.ok (d1.kp k2) (f1.tr (mF.kp k2)) rfl)))⟩⟩
  · rw [m_ups, if_neg (nn q)] at k
    exact ⟨by decide, if_no (by decide) (k.ex d1 f1)⟩
theorem r_cross (d : gM B h st no) (hx : gR x) (k : mRes B h Q (m_cross st x)) : w_X7_cross (B 0) x h Q := by
  unfold w_X7_cross
  refine r_isNoGrowth hx ⟨d.has, r_start d rfl (by decide) (fun q h1 d1 f1 => ?_) (fun q h1 d1 f1 => ?_)⟩
  · have q1 := nd q
    rw [m_cross, if_pos q1] at k
    obtain ⟨g, rfl⟩ : ∃ w : Nat, x = w := ⟨x.toNat, by omega⟩
    rw [Int.toNat_natCast] at k
    have hok := d1.ok (show g < 2 by omega)
    have l1 := hok.2
    have l2 := hok.elder
    refine ⟨by decide, if_yes rfl ⟨d1.has, gCall_mk (by decide) (by decide) (r_word (b := false) d1 (show g < 2 by omega) rfl rfl (fun h2 o k2 n2 r2 => ⟨(d1.kp k2).has, gCall_mk (by decide) (by decide) (r_word (b := true) (d1.kp k2) (show g < 2 by omega) rfl rfl (fun h3 o3 k3 n3 r3 => ?_))⟩))⟩⟩
    exact r_crossOf (u := (grw (st.T g)).2) (v := (grw (st.T g)).1) (r2.on k3) r3 (by omega) (by omega) (k.ok (d1.kp (k2.tr k3)) (f1.tr (mF.kp (k2.tr k3))) rfl)
  · rw [m_cross, if_neg (nn q)] at k
    exact ⟨by decide, if_no (by decide) (k.ex d1 f1)⟩
theorem r_alike (d : gM B h st no) (hx : gR x) (k : mRes B h Q (m_alike st x)) : w_X7_alike (B 0) x h Q := by
  unfold w_X7_alike
  refine r_isNoGrowth hx ⟨d.has, r_start d rfl (by decide) (fun q h1 d1 f1 => ?_) (fun q h1 d1 f1 => ?_)⟩
  · have q1 := nd q
    rw [m_alike, if_pos q1] at k
    obtain ⟨g, rfl⟩ : ∃ w : Nat, x = w := ⟨x.toNat, by omega⟩
    rw [Int.toNat_natCast] at k
    have hok := d1.ok (show g < 2 by omega)
    refine ⟨by decide, if_yes rfl ⟨d1.has, gCall_mk (by decide) (by decide) (r_word (b := false) d1 (show g < 2 by omega) rfl rfl (fun h2 o k2 n2 r2 => ⟨(d1.kp k2).has, gCall_mk (by decide) (by decide) (r_word (b := true) (d1.kp k2) (show g < 2 by omega) rfl rfl (fun h3 o3 k3 n3 r3 => gCall_mk (by decide) (by decide) ?_))⟩))⟩⟩
    exact r_alikeOf (u := (grw (st.T g)).2) (v := (grw (st.T g)).1) (r2.on k3) r3 hok.2 hok.elder (grw_alike _) (fun h4 k4 => k.ok (d1.kp (k2.tr (k3.tr k4))) (f1.tr (mF.kp (k2.tr (k3.tr k4)))) rfl)
  · rw [m_alike, if_neg (nn q)] at k
    exact ⟨by decide, if_no (by decide) (k.ex d1 f1)⟩
theorem r_told (d : gM B h st no) (hx : 0 ≤ x ∧ x ≤ 3) (k : Q (st.C x.toNat) h) : w_X7_told (B 0) x h Q := by
  unfold w_X7_told
  refine ⟨by omega, ?_⟩
  by_cases c0 : x = 0
  · subst c0; exact if_yes rfl (d.cn (i := 0) rfl (by decide) k)
  refine if_no c0 ⟨by omega, ?_⟩
  by_cases c1 : x = 1
  · subst c1; exact if_yes rfl (d.cn (i := 1) rfl (by decide) k)
  refine if_no c1 ⟨by omega, ?_⟩
  by_cases c2 : x = 2
  · subst c2; exact if_yes rfl (d.cn (i := 2) rfl (by decide) k)
  refine if_no c2 ?_
  obtain rfl : x = 3 := by omega
  exact d.cn (i := 3) rfl (by decide) k
theorem r_house (d : gM B h st no) (hx : gR x) (k : mRes B h Q (m_house st x)) : w_X7_house (B 0) x h Q := by
  unfold w_X7_house
  refine r_isIn hx (by decide) (by decide) (sel (fun t => w_X7_house_J15 Q (B 0) x (B 0) t h) ?_)
  unfold w_X7_house_J15
  refine ⟨d.has, r_start d rfl (by decide) (fun q h1 d1 f1 => ?_) (fun q h1 d1 f1 => ?_)⟩
  · have q1 := nd q
    rw [m_house, if_pos q1] at k
    exact ⟨by decide, if_yes rfl ⟨d1.has, r_told d1 q1 (k.ok d1 f1 rfl)⟩⟩
  · rw [m_house, if_neg (nn q)] at k
    exact ⟨by decide, if_no (by decide) (k.ex d1 f1)⟩
theorem r_order_L (rp : mR h a u) (rq : mR h b v) (hu : u.length ≤ 64) (hv : v.length ≤ 64) : ∀ (n i : Nat), i ≤ u.length → i ≤ v.length → u.length - i < n → Q (cmpL (u.drop i) (v.drop i)) h → w_X7_order_L47 Q n a b (i : Int) h
  | 0, i, _, _, h1, _ => absurd h1 (Nat.not_lt_zero _)
  | n + 1, i, hi, hj, h1, k => by
    have fin : (u.length ≤ i ∨ v.length ≤ i) → w_X7_order_J98 Q a b h := fun q => by
      unfold w_X7_order_J98
      refine rp.len (rq.len ⟨by omega, by omega, ?_⟩)
      by_cases q1 : v.length ≤ u.length
      · refine if_yes (by omega) (rp.len (rq.len ⟨by omega, by omega, ?_⟩))
        by_cases q2 : u.length ≤ v.length
        · refine if_yes (by omega) ?_
          rw [List.drop_of_length_le (show u.length ≤ i by omega), List.drop_of_length_le (show v.length ≤ i by omega)] at k
          exact k
        · refine if_no (by omega) ?_
          rw [List.drop_of_length_le (show v.length ≤ i by omega), take_one (u := u) (i := i) (by omega)] at k
          exact k
      · refine if_no (by omega) ?_
        rw [List.drop_of_length_le (show u.length ≤ i by omega), take_one (u := v) (i := i) (by omega)] at k
        exact k
    unfold w_X7_order_L47
    refine rp.len ⟨by omega, by omega, ?_⟩
    by_cases q : u.length ≤ i
    · exact if_yes (by omega) (fin (Or.inl q))
    refine if_no (by omega) (rq.len ⟨by omega, by omega, ?_⟩)
    by_cases q2 : v.length ≤ i
    · exact if_yes (by omega) (fin (Or.inr q2))
    refine if_no (by omega) (rp.at rfl (by omega) (by omega) (rq.at rfl (by omega) (by omega) ⟨b2i_R _, b2i_R _, ?_⟩))
    rw [take_one (u := u) (i := i) (by omega), take_one (u := v) (i := i) (by omega)] at k
    unfold cmpL at k
    by_cases z : u.getD i false = v.getD i false
    · rw [if_pos z] at k
      refine if_yes (congrArg b2i z) ?_
      rw [show (i : Int) + 1 = ((i + 1 : Nat) : Int) by omega]
      exact r_order_L rp rq hu hv n (i + 1) (by omega) (by omega) (by omega) k
    · rw [if_neg z] at k
      refine if_no (fun q9 => z ((b2i_eq _ _).mp q9)) (rp.at rfl (by omega) (by omega) (rq.at rfl (by omega) (by omega) ⟨b2i_R _, b2i_R _, ?_⟩))
      generalize u.getD i false = y1 at k z ⊢
      generalize v.getD i false = y2 at k z ⊢
      cases y1 <;> cases y2
      · exact absurd rfl z
      · exact if_no (by decide) k
      · exact if_yes (by decide) k
      · exact absurd rfl z
theorem r_order (d : gM B h st no) (hx : gR x) (hy : gR y) (k : mRes B h Q (m_order st x y)) : w_X7_order (B 0) x y h Q := by
  have bd : ¬ (okS x ∧ okS y) → w_X7_order_J20 Q (B 0) x y (B 0) 1 h := fun q => by
    have e : m_order st x y = bad 1 st := by
      unfold m_order
      by_cases q1 : okS x
      · rw [if_pos q1, if_neg (fun q2 => q ⟨q1, q2⟩)]
      · rw [if_neg q1]
    rw [e] at k
    unfold w_X7_order_J20
    exact ⟨d.has, r_start d (bd := true) rfl (by decide) (fun q => by cases q) (fun q h1 d1 f1 => ⟨by decide, if_no (by decide) (k.ex d1 f1)⟩)⟩
  unfold w_X7_order
  refine r_isNoSheet hx ⟨b2i_R _, ?_⟩
  by_cases q1 : okS x
  · rw [decide_eq_true q1]
    refine if_yes rfl (r_isNoSheet hy ⟨b2i_R _, ?_⟩)
    by_cases q2 : okS y
    · rw [decide_eq_true q2]
      refine if_yes rfl ?_
      rw [m_order, if_pos q1, if_pos q2] at k
      unfold w_X7_order_J20
      refine ⟨d.has, r_start d (bd := false) rfl (by decide) (fun q h1 d1 f1 => ⟨by decide, if_yes rfl ?_⟩) (fun q => by cases q)⟩
      obtain ⟨w, rfl⟩ : ∃ w : Nat, x = w := ⟨x.toNat, by omega⟩
      obtain ⟨v, rfl⟩ : ∃ v : Nat, y = v := ⟨y.toNat, by omega⟩
      rw [Int.toNat_natCast, Int.toNat_natCast] at k
      have l1 := d1.sl (show w < 3 by omega)
      have l2 := d1.sl (show v < 3 by omega)
      exact d1.f0 (d1.sh rfl (by omega) (fun a ra na => d1.f0 (d1.sh rfl (by omega) (fun c rc nc => ⟨66, r_order_L ra rc l1 l2 66 0 (Nat.zero_le _) (Nat.zero_le _) (by omega) (k.ok d1 f1 rfl)⟩))))
    · rw [decide_eq_false q2]
      exact if_no (by decide) (bd (fun z => q2 z.2))
  · rw [decide_eq_false q1]
    exact if_no (by decide) (bd (fun z => q1 z.1))
end RQ
