/-! What is asked of the reference: the others, as far as they go through. -/
section RW3
variable {B : Nat → Nat} {h h0 : gaH} {st : GSt} {no : Int} {a b o : Nat} {u v : List Bool} {w g : Nat} {x y z : Int} {Q : Int → gaH → Prop}
theorem r_times (d : gM B h st no) (hx : gR x) (k : ∀ c, mSafe B h Q st c) : w_X7_times (B 0) x h Q := by
  unfold w_X7_times
  refine r_isNoSheet hx ⟨d.has, r_start d rfl (by decide) (fun q h1 d1 f1 => ?_) (fun q h1 d1 f1 => ?_)⟩
  · obtain ⟨w, rfl⟩ : ∃ w : Nat, x = w := ⟨x.toNat, by have := nd q; omega⟩
    have hw : w < 3 := by have := nd q; omega
    exact ⟨by decide, if_yes rfl (d1.f0 (d1.sh rfl hw (fun a ra na => r_timesOf ra (d1.sl hw) (fun r => k 0 h1 r d1 f1))))⟩
  · exact ⟨by decide, if_no (by decide) (k 1 h1 _ d1 f1)⟩
theorem r_overlaps (d : gM B h st no) (hx : gR x) (k : ∀ c, mSafe B h Q st c) : w_X7_overlaps (B 0) x h Q := by
  unfold w_X7_overlaps
  refine r_isNoSheet hx ⟨d.has, r_start d rfl (by decide) (fun q h1 d1 f1 => ?_) (fun q h1 d1 f1 => ?_)⟩
  · obtain ⟨w, rfl⟩ : ∃ w : Nat, x = w := ⟨x.toNat, by have := nd q; omega⟩
    have hw : w < 3 := by have := nd q; omega
    exact ⟨by decide, if_yes rfl (d1.f0 (d1.sh rfl hw (fun a ra na => r_overlapsOf ra (d1.sl hw) (fun r => k 0 h1 r d1 f1))))⟩
  · exact ⟨by decide, if_no (by decide) (k 1 h1 _ d1 f1)⟩
theorem r_folds (d : gM B h st no) (hx : gR x) (k : ∀ c, mSafe B h Q st c) : w_X7_folds (B 0) x h Q := by
  unfold w_X7_folds
  refine r_isNoSheet hx ⟨d.has, r_start d rfl (by decide) (fun q h1 d1 f1 => ?_) (fun q h1 d1 f1 => ?_)⟩
  · obtain ⟨w, rfl⟩ : ∃ w : Nat, x = w := ⟨x.toNat, by have := nd q; omega⟩
    have hw : w < 3 := by have := nd q; omega
    exact ⟨by decide, if_yes rfl (d1.f0 (d1.sh rfl hw (fun a ra na => r_foldsOf ra (d1.sl hw) (fun r => k 0 h1 r d1 f1))))⟩
  · exact ⟨by decide, if_no (by decide) (k 1 h1 _ d1 f1)⟩
theorem r_least (d : gM B h st no) (hx : gR x) (k : ∀ c, mSafe B h Q st c) : w_X7_least (B 0) x h Q := by
  unfold w_X7_least
  refine r_isNoSheet hx ⟨d.has, r_start d rfl (by decide) (fun q h1 d1 f1 => ?_) (fun q h1 d1 f1 => ?_)⟩
  · obtain ⟨w, rfl⟩ : ∃ w : Nat, x = w := ⟨x.toNat, by have := nd q; omega⟩
    have hw : w < 3 := by have := nd q; omega
    exact ⟨by decide, if_yes rfl (d1.f0 (d1.sh rfl hw (fun a ra na => r_leastOf ra (d1.sl hw) (fun r => k 0 h1 r d1 f1))))⟩
  · exact ⟨by decide, if_no (by decide) (k 1 h1 _ d1 f1)⟩
theorem r_isMirrored (d : gM B h st no) (hx : gR x) (k : ∀ c, mSafe B h Q st c) : w_X7_isMirrored_ (B 0) x h Q := by
  unfold w_X7_isMirrored_
  refine r_isNoSheet hx ⟨d.has, r_start d rfl (by decide) (fun q h1 d1 f1 => ?_) (fun q h1 d1 f1 => ?_)⟩
  · obtain ⟨w, rfl⟩ : ∃ w : Nat, x = w := ⟨x.toNat, by have := nd q; omega⟩
    have hw : w < 3 := by have := nd q; omega
    have hl := d1.sl hw
    exact ⟨by decide, if_yes rfl (d1.f0 (d1.sh rfl hw (fun a ra na => d1.f0 (d1.sh rfl hw (fun c rc nc => rc.len (r_isMir (f := 0) (t := (st.S w).length) ra hl rfl rfl (Nat.zero_le _) (Nat.le_refl _) (fun t => bb (k 0 h1 _ d1 f1) (k 0 h1 _ d1 f1))))))))⟩
  · exact ⟨by decide, if_no (by decide) (k 1 h1 _ d1 f1)⟩
theorem r_parts {l : Nat} {c : Bool} (r : mR h a u) (hx : x = (l : Int)) (hy : y = b2i c) (hul : u.length ≤ 64) (hl : l ≤ u.length) (k : ∀ n : Nat, n ≤ 65 → (u.length = 0 → n ≤ 1) → Q (n : Int) h) : w_X7_parts a x y h Q := by
  subst hx; subst hy
  have j : w_X7_parts_J14 Q a (l : Int) h := by
    unfold w_X7_parts_J14
    refine r.len ?_
    rw [show (u.length : Int) - (l : Int) + 1 = ((u.length - l + 1 : Nat) : Int) by omega]
    exact k _ (by omega) (by omega)
  unfold w_X7_parts
  refine ⟨b2i_R _, ite_both (fun _ => j) (fun _ => r.len ⟨by omega, ite_both (fun _ => j) (fun q => r.len (k _ (by omega) (by omega)))⟩)⟩
theorem r_kinds_L74 {K56 : Int → Int → Nat → Int → Int → gaH → Prop} {l : Nat} {c y5 : Int} (r : mR h a u) (hul : u.length ≤ 64) (hl : l ≤ u.length) {s : Nat} (hs : s ≤ 65) (hs0 : u.length = 0 → s ≤ 0) (k : ∀ y : Int, K56 (l : Int) c a y ((s : Int) + 1) h) : ∀ (n i : Nat) (t : Bool), i ≤ s → s - i < n → w_X7_kinds_L74 Q K56 n (l : Int) c a y5 (s : Int) (b2i t) (i : Int) h
  | 0, _, _, _, h9 => absurd h9 (Nat.not_lt_zero _)
  | n + 1, i, t, h1, h9 => by
    unfold w_X7_kinds_L74
    refine ⟨by omega, by omega, ?_⟩
    by_cases q : s ≤ i
    · exact if_yes (by omega) (r_one rfl (k _))
    · refine if_no (by omega) (r_areLike r hul rfl rfl rfl (by omega) (by omega) (by omega) (by omega) (fun t2 => ?_))
      rw [show (i : Int) + 1 = ((i + 1 : Nat) : Int) by omega]
      have e1 : gAnd (b2i t) 1 = b2i (t && true) := gAnd_bit t true
      have e0 : gAnd (b2i t) 0 = b2i (t && false) := gAnd_bit t false
      rw [e1, e0]
      exact bb (r_kinds_L74 r hul hl hs hs0 k n (i + 1) _ (by omega) (by omega)) (r_kinds_L74 r hul hl hs hs0 k n (i + 1) _ (by omega) (by omega))
theorem r_kinds_L56 {l : Nat} {c : Bool} (r : mR h a u) (hul : u.length ≤ 64) (hl : l ≤ u.length) (k : ∀ r : Int, Q r h) : ∀ (n s : Nat) (y5 : Int), s ≤ 65 → 66 - s < n → w_X7_kinds_L56 Q n (l : Int) (b2i c) a y5 (s : Int) h
  | 0, _, _, _, h9 => absurd h9 (Nat.not_lt_zero _)
  | n + 1, s, y5, h1, h9 => by
    unfold w_X7_kinds_L56
    refine r_parts r rfl rfl hul hl (fun m hm h0 => ⟨by omega, by omega, ?_⟩)
    by_cases q : m ≤ s
    · exact if_yes (by omega) (k _)
    · refine if_no (by omega) ⟨67, r_kinds_L74 r hul hl (by omega) (fun q0 => by have := h0 q0; omega) (fun y => ?_) 67 0 true (Nat.zero_le _) (by omega)⟩
      rw [show (s : Int) + 1 = ((s + 1 : Nat) : Int) by omega]
      exact r_kinds_L56 r hul hl k n (s + 1) y (by omega) (by omega)
theorem r_spread_L77 {K59 : Int → Int → Nat → Int → Int → Int → gaH → Prop} {l : Nat} {c : Int} (r : mR h a u) (hul : u.length ≤ 64) (hl : l ≤ u.length) {s m f : Nat} (hs : s ≤ 65) (hm : m ≤ 64) (hf : f ≤ 64) (k : ∀ m' f' : Nat, m' ≤ 64 → f' ≤ 64 → K59 (l : Int) c a (m' : Int) (f' : Int) ((s : Int) + 1) h) : ∀ (n i t : Nat), i ≤ l → l - i < n → t ≤ i → w_X7_spread_L77 Q K59 n (l : Int) c a (m : Int) (f : Int) (s : Int) (t : Int) (i : Int) h
  | 0, _, _, _, h9, _ => absurd h9 (Nat.not_lt_zero _)
  | n + 1, i, t, h1, h9, ht => by
    unfold w_X7_spread_L77
    refine ⟨by omega, by omega, ?_⟩
    by_cases q : l ≤ i
    · refine if_yes (by omega) ⟨by omega, by omega, by omega, by omega, ?_⟩
      rw [show max (m : Int) (t : Int) = ((max m t : Nat) : Int) by omega, show min (f : Int) (t : Int) = ((min f t : Nat) : Int) by omega]
      exact k _ _ (by omega) (by omega)
    · have e1 : gRem ((s : Int) + (i : Int)) (u.length : Int) = (((s + i) % u.length : Nat) : Int) := by
        have := gRem_nat (a := s + i) (b := u.length) (by omega) (by omega)
        rw [← this]; congr 1
      refine if_no (by omega) (r.len ⟨by omega, by omega, ?_⟩)
      rw [e1]
      refine r.at rfl (Nat.mod_lt _ (by omega)) (by omega) ?_
      rw [show (i : Int) + 1 = ((i + 1 : Nat) : Int) by omega]
      generalize u.getD ((s + i) % u.length) false = t2
      cases t2
      · rw [show (t : Int) + b2i false = (t : Int) by simp [b2i]]
        exact r_spread_L77 r hul hl hs hm hf k n (i + 1) t (by omega) (by omega) (by omega)
      · rw [show (t : Int) + b2i true = ((t + 1 : Nat) : Int) by simp [b2i]]
        exact r_spread_L77 r hul hl hs hm hf k n (i + 1) (t + 1) (by omega) (by omega) (by omega)
theorem r_spread_L59 {l : Nat} {c : Bool} (r : mR h a u) (hul : u.length ≤ 64) (hl : l ≤ u.length) (k : ∀ r : Int, Q r h) : ∀ (n s m f : Nat), s ≤ 65 → 66 - s < n → m ≤ 64 → f ≤ 64 → w_X7_spread_L59 Q n (l : Int) (b2i c) a (m : Int) (f : Int) (s : Int) h
  | 0, _, _, _, _, h9, _, _ => absurd h9 (Nat.not_lt_zero _)
  | n + 1, s, m, f, h1, h9, hm, hf => by
    unfold w_X7_spread_L59
    refine r_parts r rfl rfl hul hl (fun p hp h0 => ⟨by omega, by omega, ?_⟩)
    by_cases q : p ≤ s
    · exact if_yes (by omega) (k _)
    · refine if_no (by omega) ⟨66, r_spread_L77 r hul hl h1 hm hf (fun m' f' hm' hf' => ?_) 66 0 0 (Nat.zero_le _) (by omega) (Nat.le_refl _)⟩
      rw [show (s : Int) + 1 = ((s + 1 : Nat) : Int) by omega]
      exact r_spread_L59 r hul hl k n (s + 1) m' f' (by omega) (by omega) hm' hf'

theorem r_kinds {b : Bool} (d : gM B h st no) (hx : gR x) (hy : gR y) (hz : z = b2i b) (k : ∀ c, mSafe B h Q st c) : w_X7_kinds (B 0) x y z h Q := by
  subst hz
  unfold w_X7_kinds
  refine r_isNoSheet hx ⟨d.has, r_start d rfl (by decide) (fun q h1 d1 f1 => ?_) (fun q h1 d1 f1 => ?_)⟩
  · obtain ⟨w, rfl⟩ : ∃ w : Nat, x = w := ⟨x.toNat, by have := nd q; omega⟩
    have hw : w < 3 := by have := nd q; omega
    have hl := d1.sl hw
    refine ⟨by decide, if_yes rfl (d1.f0 (d1.sh rfl hw (fun a ra na => ra.len (r_isIn hy (by decide) (by omega) (sel (fun t => w_X7_kinds_J33 Q (B 0) (w : Int) y (b2i b) (B 0) t h1) ?_)))))⟩
    unfold w_X7_kinds_J33
    refine ⟨d1.has, r_refuse d1 rfl (by decide) (fun q => ?_) (fun q h2 d2 f2 => ?_)⟩
    · have q2 := nd q
      obtain ⟨l, rfl⟩ : ∃ w : Nat, y = w := ⟨y.toNat, by omega⟩
      exact ⟨by decide, if_yes rfl (d1.f0 (d1.sh rfl hw (fun a ra na => ⟨67, r_kinds_L56 ra hl (by omega) (fun r => k 0 h1 r d1 f1) 67 0 0 (Nat.zero_le _) (by decide)⟩)))⟩
    · exact ⟨by decide, if_no (by decide) (k 2 h2 _ d2 (f1.tr f2))⟩
  · exact ⟨by decide, if_no (by decide) (k 1 h1 _ d1 f1)⟩
theorem r_spread {b : Bool} (d : gM B h st no) (hx : gR x) (hy : gR y) (hz : z = b2i b) (k : ∀ c, mSafe B h Q st c) : w_X7_spread (B 0) x y z h Q := by
  subst hz
  unfold w_X7_spread
  refine r_isNoSheet hx ⟨d.has, r_start d rfl (by decide) (fun q h1 d1 f1 => ?_) (fun q h1 d1 f1 => ?_)⟩
  · obtain ⟨w, rfl⟩ : ∃ w : Nat, x = w := ⟨x.toNat, by have := nd q; omega⟩
    have hw : w < 3 := by have := nd q; omega
    have hl := d1.sl hw
    refine ⟨by decide, if_yes rfl (d1.f0 (d1.sh rfl hw (fun a ra na => ra.len (r_isIn hy (by decide) (by omega) (sel (fun t => w_X7_spread_J33 Q (B 0) (w : Int) y (b2i b) (B 0) t h1) ?_)))))⟩
    unfold w_X7_spread_J33
    refine ⟨d1.has, r_refuse d1 rfl (by decide) (fun q => ?_) (fun q h2 d2 f2 => ?_)⟩
    · have q2 := nd q
      obtain ⟨l, rfl⟩ : ∃ w : Nat, y = w := ⟨y.toNat, by omega⟩
      exact ⟨by decide, if_yes rfl (d1.f0 (d1.sh rfl hw (fun a ra na => ⟨67, r_spread_L59 ra hl (by omega) (fun r => k 0 h1 r d1 f1) 67 0 0 l (Nat.zero_le _) (by decide) (Nat.zero_le _) (by omega)⟩)))⟩
    · exact ⟨by decide, if_no (by decide) (k 2 h2 _ d2 (f1.tr f2))⟩
  · exact ⟨by decide, if_no (by decide) (k 1 h1 _ d1 f1)⟩
theorem r_mirrors_L69 {K26 : Nat → Int → Int → gaH → Prop} {K36 : Nat → Int → Int → Int → gaH → Prop} (r : mR h a u) (hul : u.length ≤ 64) {s l : Nat} {m : Int} (hs : s ≤ 65) (hl : l ≤ 65) (h0 : 0 < u.length) (k : ∀ m' : Int, K36 a m' (l : Int) ((s : Int) + 1) h) : ∀ (n i : Nat) (t : Bool), i ≤ s → s - i < n → w_X7_mirrors_L69 Q K26 K36 n a m (l : Int) (s : Int) (b2i t) (i : Int) h
  | 0, _, _, _, h9 => absurd h9 (Nat.not_lt_zero _)
  | n + 1, i, t, h1, h9 => by
    have j : w_X7_mirrors_J107 Q K26 K36 a m (l : Int) (s : Int) (b2i t) h := by
      unfold w_X7_mirrors_J107
      exact r_one rfl (k _)
    unfold w_X7_mirrors_L69
    refine ⟨by omega, by omega, ?_⟩
    by_cases q : s ≤ i
    · exact if_yes (by omega) j
    · refine if_no (by omega) ⟨b2i_R _, ite_both (fun _ => j) (fun _ => r_areLike r hul rfl rfl rfl (by omega) (by omega) (by omega) (by omega) (fun t2 => ?_))⟩
      rw [show (i : Int) + 1 = ((i + 1 : Nat) : Int) by omega]
      exact bb (r_mirrors_L69 r hul hs hl h0 k n (i + 1) false (by omega) (by omega)) (r_mirrors_L69 r hul hs hl h0 k n (i + 1) true (by omega) (by omega))
theorem r_mirrors_L36 {K26 : Nat → Int → Int → gaH → Prop} (r : mR h a u) (hul : u.length ≤ 64) {l : Nat} (hl1 : 1 ≤ l) (hl : l ≤ 64) (k : ∀ m' : Int, K26 a m' ((l : Int) + 1) h) : ∀ (n s : Nat) (m : Int), s ≤ 65 → 66 - s < n → w_X7_mirrors_L36 Q K26 n a m (l : Int) (s : Int) h
  | 0, _, _, _, h9 => absurd h9 (Nat.not_lt_zero _)
  | n + 1, s, m, h1, h9 => by
    unfold w_X7_mirrors_L36
    refine r.len ⟨by omega, by omega, ?_⟩
    by_cases q : u.length < s + l
    · exact if_yes (by omega) (k _)
    · have e : (s : Int) + 1 = ((s + 1 : Nat) : Int) := by omega
      refine if_no (by omega) (r_isMir (f := s) (t := s + l) r hul rfl (by omega) (by omega) (by omega) (fun t => bb ⟨67, r_mirrors_L69 r hul h1 (by omega) (by omega) (fun m' => ?_) 67 0 true (Nat.zero_le _) (by omega)⟩ ?_))
      · rw [e]; exact r_mirrors_L36 r hul hl1 hl k n (s + 1) m' (by omega) (by omega)
      · rw [e]; exact r_mirrors_L36 r hul hl1 hl k n (s + 1) m (by omega) (by omega)
theorem r_mirrors_L26 (r : mR h a u) (hul : u.length ≤ 64) (k : ∀ r : Int, Q r h) : ∀ (n l : Nat) (m : Int), 1 ≤ l → l ≤ 65 → 66 - l < n → w_X7_mirrors_L26 Q n a m (l : Int) h
  | 0, _, _, _, _, h9 => absurd h9 (Nat.not_lt_zero _)
  | n + 1, l, m, h0, h1, h9 => by
    unfold w_X7_mirrors_L26
    refine r.len ⟨by omega, by omega, ?_⟩
    by_cases q : u.length < l
    · exact if_yes (by omega) (k _)
    · refine if_no (by omega) ⟨67, r_mirrors_L36 r hul h0 (by omega) (fun m' => ?_) 67 0 m (Nat.zero_le _) (by decide)⟩
      rw [show (l : Int) + 1 = ((l + 1 : Nat) : Int) by omega]
      exact r_mirrors_L26 r hul k n (l + 1) m' (by omega) (by omega) (by omega)
theorem r_mirrors (d : gM B h st no) (hx : gR x) (k : ∀ c, mSafe B h Q st c) : w_X7_mirrors (B 0) x h Q := by
  unfold w_X7_mirrors
  refine r_isNoSheet hx ⟨d.has, r_start d rfl (by decide) (fun q h1 d1 f1 => ?_) (fun q h1 d1 f1 => ?_)⟩
  · obtain ⟨w, rfl⟩ : ∃ w : Nat, x = w := ⟨x.toNat, by have := nd q; omega⟩
    have hw : w < 3 := by have := nd q; omega
    exact ⟨by decide, if_yes rfl (d1.f0 (d1.sh rfl hw (fun a ra na => ⟨67, r_mirrors_L26 ra (d1.sl hw) (fun r => k 0 h1 r d1 f1) 67 1 0 (by decide) (by decide) (by decide)⟩)))⟩
  · exact ⟨by decide, if_no (by decide) (k 1 h1 _ d1 f1)⟩
theorem r_find_L34 (d : gM B h st 0) (hw : w < 3) {v : Nat} (hv : v < 3) (k : ∀ r : Int, Q r h) : ∀ (n i : Nat), i ≤ 65 → 66 - i < n → w_X7_find_L34 Q n (B 0) (w : Int) (v : Int) (i : Int) h
  | 0, _, _, h9 => absurd h9 (Nat.not_lt_zero _)
  | n + 1, i, h1, h9 => by
    have l1 := d.sl hw
    have l2 := d.sl hv
    unfold w_X7_find_L34
    refine d.f0 (d.sh rfl hw (fun a ra _ => ra.len ⟨by omega, by omega, ?_⟩))
    by_cases q : (st.S w).length < i
    · exact if_yes (by omega) (k _)
    · refine if_no (by omega) (d.f0 (d.sh rfl hw (fun a ra _ => d.f0 (d.sh rfl hv (fun c rc _ => r_standsAt ra rc rfl (by omega) (by omega) (by omega) (bb (k _) ?_))))))
      rw [show (i : Int) + 1 = ((i + 1 : Nat) : Int) by omega]
      exact r_find_L34 d hw hv k n (i + 1) (by omega) (by omega)
theorem r_findLast_L34 (d : gM B h st 0) (hw : w < 3) {v : Nat} (hv : v < 3) (k : ∀ r : Int, Q r h) : ∀ (n i : Nat), i ≤ 65 → i < n → w_X7_findLast_L34 Q n (B 0) (w : Int) (v : Int) ((i : Int) - 1) h
  | 0, _, _, h9 => absurd h9 (Nat.not_lt_zero _)
  | n + 1, i, h1, h9 => by
    have l1 := d.sl hw
    have l2 := d.sl hv
    unfold w_X7_findLast_L34
    refine ⟨by omega, ?_⟩
    by_cases q : i = 0
    · exact if_yes (by omega) (k _)
    · refine if_no (by omega) (d.f0 (d.sh rfl hw (fun a ra _ => d.f0 (d.sh rfl hv (fun c rc _ => r_standsAt (p := i - 1) ra rc (by omega) (by omega) (by omega) (by omega) (bb (k _) ?_))))))
      rw [show (i : Int) - 1 + -1 = ((i - 1 : Nat) : Int) - 1 by omega]
      exact r_findLast_L34 d hw hv k n (i - 1) (by omega) (by omega)
theorem r_find (d : gM B h st no) (hx : gR x) (hy : gR y) (hz : gR z) (k : ∀ c, mSafe B h Q st c) : w_X7_find (B 0) x y z h Q := by
  have bd : w_X7_find_J22 Q (B 0) x y z (B 0) 1 h := by
    unfold w_X7_find_J22
    exact ⟨d.has, r_start d (bd := true) rfl (by decide) (fun q => by cases q) (fun q h1 d1 f1 => ⟨by decide, if_no (by decide) (k 1 h1 _ d1 f1)⟩)⟩
  unfold w_X7_find
  refine ⟨d.has, r_isNoGap d hx hz ⟨b2i_R _, ?_⟩⟩
  by_cases q1 : okS x ∧ 0 ≤ z ∧ z ≤ ((st.S x.toNat).length : Int)
  · rw [decide_eq_true q1]
    refine if_yes rfl (r_isNoSheet hy ⟨b2i_R _, ?_⟩)
    by_cases q2 : okS y
    · rw [decide_eq_true q2]
      refine if_yes rfl ?_
      unfold w_X7_find_J22
      refine ⟨d.has, r_start d (bd := false) rfl (by decide) (fun q h1 d1 f1 => ⟨by decide, if_yes rfl ?_⟩) (fun q => by cases q)⟩
      obtain ⟨w, rfl⟩ : ∃ w : Nat, x = w := ⟨x.toNat, by omega⟩
      obtain ⟨v, rfl⟩ : ∃ v : Nat, y = v := ⟨y.toNat, by omega⟩
      obtain ⟨p, rfl⟩ : ∃ v : Nat, z = v := ⟨z.toNat, by omega⟩
      rw [Int.toNat_natCast] at q1
      have hl := d1.sl (show w < 3 by omega)
      exact ⟨67, r_find_L34 d1 (by omega) (by omega) (fun r => k 0 h1 r d1 f1) 67 p (by omega) (by omega)⟩
    · rw [decide_eq_false q2]
      exact if_no (by decide) bd
  · rw [decide_eq_false q1]
    exact if_no (by decide) bd
theorem r_findLast (d : gM B h st no) (hx : gR x) (hy : gR y) (hz : gR z) (k : ∀ c, mSafe B h Q st c) : w_X7_findLast (B 0) x y z h Q := by
  have bd : w_X7_findLast_J22 Q (B 0) x y z (B 0) 1 h := by
    unfold w_X7_findLast_J22
    exact ⟨d.has, r_start d (bd := true) rfl (by decide) (fun q => by cases q) (fun q h1 d1 f1 => ⟨by decide, if_no (by decide) (k 1 h1 _ d1 f1)⟩)⟩
  unfold w_X7_findLast
  refine ⟨d.has, r_isNoGap d hx hz ⟨b2i_R _, ?_⟩⟩
  by_cases q1 : okS x ∧ 0 ≤ z ∧ z ≤ ((st.S x.toNat).length : Int)
  · rw [decide_eq_true q1]
    refine if_yes rfl (r_isNoSheet hy ⟨b2i_R _, ?_⟩)
    by_cases q2 : okS y
    · rw [decide_eq_true q2]
      refine if_yes rfl ?_
      unfold w_X7_findLast_J22
      refine ⟨d.has, r_start d (bd := false) rfl (by decide) (fun q h1 d1 f1 => ⟨by decide, if_yes rfl ?_⟩) (fun q => by cases q)⟩
      obtain ⟨w, rfl⟩ : ∃ w : Nat, x = w := ⟨x.toNat, by omega⟩
      obtain ⟨v, rfl⟩ : ∃ v : Nat, y = v := ⟨y.toNat, by omega⟩
      obtain ⟨p, rfl⟩ : ∃ v : Nat, z = v := ⟨z.toNat, by omega⟩
      rw [Int.toNat_natCast] at q1
      have hl := d1.sl (show w < 3 by omega)
      exact ⟨67, by rw [show ((p : Nat) : Int) = ((p + 1 : Nat) : Int) - 1 by omega]; exact r_findLast_L34 d1 (by omega) (by omega) (fun r => k 0 h1 r d1 f1) 67 (p + 1) (by omega) (by omega)⟩
    · rw [decide_eq_false q2]
      exact if_no (by decide) bd
  · rw [decide_eq_false q1]
    exact if_no (by decide) bd
end RW3
/-! The reference: isSound. -/
section RI
variable {B : Nat → Nat} {h h0 : gaH} {st : GSt} {no : Int} {a b o : Nat} {u v : List Bool} {w g : Nat} {x y z : Int} {Q : Int → gaH → Prop}
theorem r_isWhole_L54 : ∀ (n i : Nat) (h : gaH) (kc ks : Nat), gM B h st no → i ≤ 2 → 2 - i < n → 461 * (2 - i) ≤ kc → 27590 * (2 - i) ≤ ks → (∀ h', mK h h' → Q (b2i (((i ≥ 1 ∨ soundB (st.T 0) = true) && (i ≥ 2 ∨ soundB (st.T 1) = true)))) h') → w_X7_isWhole_L54 Q n (B 0) (i : Int) h kc ks
  | 0, _, _, _, _, _, _, h1, _, _, _ => absurd h1 (Nat.not_lt_zero _)
  | n + 1, i, h, kc, ks, d, hi, h1, hc, hs, k => by
    unfold w_X7_isWhole_L54
    refine ⟨by omega, ?_⟩
    by_cases q : 2 ≤ i
    · obtain rfl : i = 2 := by omega
      exact if_yes (by omega) (k h mK.rf)
    · have hg : i < 2 := by omega
      have ho := d.ok hg
      have hl := ho.len
      have l1 := ho.2
      have l2 := ho.elder
      have l3 := byL_le ho
      have r1 := crossG_R ho
      have r2 := unlike_R l1 l2
      refine if_no (by omega) ⟨d.has, gCall_mk (by omega) (by omega) (r_word (b := false) d hg rfl rfl (fun h2 oy k2 n2 ry => ⟨(d.kp k2).has, gCall_mk (by omega) (by omega) (r_word (b := true) (d.kp k2) hg rfl rfl (fun h3 oe k3 n3 re => ?_))⟩))⟩
      have ry3 : mR h3 oy (grw (st.T i)).2 := ry.on k3
      have re3 : mR h3 oe (grw (st.T i)).1 := re
      have d3 := d.kp (k2.tr k3)
      refine ⟨d3.has, gCall_mk (by omega) (by omega) (r_byRules d3 hg rfl (fun h4 o4 k4 n4 r4 => r_areSame (ry3.on k4) r4 (by omega) (by omega) ⟨b2i_R _, ?_⟩))⟩
      rw [decide_eq_true rfl]
      have d4 := d3.kp k4
      refine if_no (by decide) ⟨d4.has, gCall_mk (by omega) (by omega) (r_byLine d4 hg rfl (fun h5 o5 k5 n5 r5 => r_areSame (ry3.on (k4.tr k5)) r5 (by omega) (by omega) ⟨b2i_R _, ?_⟩))⟩
      have k25 := k2.tr (k3.tr (k4.tr k5))
      have d5 := d.kp k25
      have ry5 := ry3.on (k4.tr k5)
      have re5 := re3.on (k4.tr k5)
      have bad : soundB (st.T i) = false → ∀ h', mK h h' → Q 0 h' := fun e h' kk => by
        have := k h' kk
        rcases (show i = 0 ∨ i = 1 by omega) with rfl | rfl
        · simpa [e, b2i] using this
        · simpa [e, b2i] using this
      by_cases q1 : byL (st.T i) = (grw (st.T i)).2
      · rw [decide_eq_true q1.symm]
        refine if_no (by decide) (r_crossOf ry5 re5 (by omega) (by omega) (d5.f2 (d5.ct rfl hg ?_)))
        have er : gRem ((st.T i).length : Int) 2 = (((st.T i).length % 2 : Nat) : Int) := gRem_nat (b := 2) (by omega) (by decide)
        rw [er]
        have ec : ((grw (st.T i)).2.length : Int) * (ones (grw (st.T i)).1 : Int) - ((grw (st.T i)).1.length : Int) * (ones (grw (st.T i)).2 : Int) = crossG (st.T i) := rfl
        rw [ec]
        have ed : 1 - (((st.T i).length % 2 : Nat) : Int) * 2 = (if (st.T i).length % 2 = 0 then 1 else -1) := by
          rcases Nat.mod_two_eq_zero_or_one (st.T i).length with e | e <;> rw [e] <;> rfl
        rw [ed]
        refine ⟨by omega, by split <;> decide, ?_⟩
        by_cases q2 : crossG (st.T i) = (if (st.T i).length % 2 = 0 then 1 else -1)
        · refine if_yes q2 (gCall_mk (by omega) (by omega) (r_alikeOf ry5 re5 l1 l2 (grw_alike _) (fun h6 k6 => (ry5.on k6).len ((re5.on k6).len ⟨by omega, by omega, ?_⟩))))
          by_cases q3 : unlike (grw (st.T i)).2 (grw (st.T i)).1 = ((grw (st.T i)).2.length : Int) + ((grw (st.T i)).1.length : Int) - 2
          · refine if_yes q3 ?_
            have e : soundB (st.T i) = true := by rw [soundB, decide_eq_true q1, decide_eq_true q2, decide_eq_true q3]; rfl
            rw [show (i : Int) + 1 = ((i + 1 : Nat) : Int) by omega]
            refine r_isWhole_L54 n (i + 1) h6 _ _ (d5.kp k6) (by omega) (by omega) (by omega) (by omega) (fun h7 k7 => ?_)
            have kk := k h7 (k25.tr (k6.tr k7))
            rcases (show i = 0 ∨ i = 1 by omega) with rfl | rfl
            · simpa [e] using kk
            · simpa [e] using kk
          · exact if_no q3 (bad (by rw [soundB, decide_eq_true q1, decide_eq_true q2, decide_eq_false q3]; rfl) _ (k25.tr k6))
        · exact if_no q2 (bad (by rw [soundB, decide_eq_true q1, decide_eq_false q2]; rfl) _ k25)
      · rw [decide_eq_false (fun z => q1 z.symm)]
        exact if_yes rfl (bad (by rw [soundB, decide_eq_false q1]; rfl) _ k25)
theorem r_isWhole_L10 : ∀ (n i : Nat) (h : gaH) (kc ks : Nat), gM B h st no → i ≤ 3 → 3 - i < n → 2 * (3 - i) + 922 ≤ kc → 128 * (3 - i) + 55180 ≤ ks → (∀ h', mK h h' → Q (b2i (soundB (st.T 0) && soundB (st.T 1))) h') → w_X7_isWhole_L10 Q n (B 0) (B 1) 3 (i : Int) h kc ks
  | 0, _, _, _, _, _, _, h1, _, _, _ => absurd h1 (Nat.not_lt_zero _)
  | n + 1, i, h, kc, ks, d, hi, h1, hc, hs, k => by
    unfold w_X7_isWhole_L10
    refine ⟨by omega, by decide, ?_⟩
    by_cases q : 3 ≤ i
    · refine if_yes (by omega) ⟨3, r_isWhole_L54 3 0 h kc ks d (by decide) (by decide) (by omega) (by omega) (fun h' k' => ?_)⟩
      have kk := k h' k'
      simpa using kk
    · have hw : i < 3 := by omega
      have hl := d.sl hw
      refine if_no (by omega) (d.sh rfl hw (fun a ra na => ra.len ⟨by omega, if_no (by omega) (gCall_mk (by omega) (by omega) (r_turned ra hl (fun o h2 f2 => gCall_mk (by omega) (by omega) (r_turned f2.2.2 (by simpa using hl) (fun o3 h3 f3 => r_areSame f3.2.2 (ra.on (f2.2.1.tr f3.2.1)) (by simp; omega) (by omega) ⟨b2i_R _, ?_⟩)))))⟩))
      rw [decide_eq_true (List.reverse_reverse _)]
      refine if_no (by decide) ?_
      rw [show (i : Int) + 1 = ((i + 1 : Nat) : Int) by omega]
      have kk := f2.2.1.tr f3.2.1
      exact r_isWhole_L10 n (i + 1) h3 _ _ (d.kp kk) (by omega) (by omega) (by omega) (by omega) (fun h' k' => k h' (kk.tr k'))
theorem r_isWhole (d : gM B h st no) (k : ∀ h', mK h h' → Q (b2i (soundB (st.T 0) && soundB (st.T 1))) h') : w_X7_isWhole (B 0) h Q := by
  unfold w_X7_isWhole
  obtain ⟨s, a1, a2, -⟩ := id d
  exact d.f0 (gAL_mk a2 (x := 3) rfl ⟨4, r_isWhole_L10 4 0 h _ _ d (by decide) (by decide) (by decide) (by decide) k⟩)
theorem r_isSound (d : gM B h st no) (k : mRes B h Q (m_isSound st)) : w_X7_isSound (B 0) h Q := by
  unfold w_X7_isSound
  exact d.setNo (fun h1 d1 f1 => ⟨d1.has, gCall_mk (by decide) (by decide) (r_isWhole d1 (fun h2 k2 => ⟨b2i_nar _, k.ok (d1.kp k2) (f1.tr (mF.kp k2)) rfl⟩))⟩)
end RI
/-! The reference: digest and texts, as far as they go through. -/
section RDg
variable {B : Nat → Nat} {h h0 : gaH} {st : GSt} {no : Int} {a b o : Nat} {u v : List Bool} {w g : Nat} {x y z : Int} {G : gaG}
theorem r_added_L {Q : Int64 → gaH → Prop} {p q : Nat} (hg : g < 2) (d : gM B h st no) (ry : mR h p (grw (st.T g)).2) (re : mR h q (grw (st.T g)).1) (k : ∀ r h', mK h h' → Q r h') : ∀ (n i : Nat) (t : Int64), i ≤ (st.T g).length → (st.T g).length - i < n → w_X7_added_L32 Q n (B 0) (g : Int) p q t (i : Int) h 2 256
  | 0, _, _, _, h9 => absurd h9 (Nat.not_lt_zero _)
  | n + 1, i, t, hi, h9 => by
    have ho := d.ok hg
    have hl := ho.len
    have l1 := ho.2
    have l2 := ho.elder
    unfold w_X7_added_L32 w_X7_add
    refine d.f2 (d.ct rfl hg ⟨by omega, by omega, ?_⟩)
    by_cases q1 : (st.T g).length ≤ i
    · refine if_yes (by omega) (ry.len ?_)
      refine re.len (r_bs ry (by omega) (r_bs re (by omega) (r_crossOf ry re (by omega) (by omega) (gCall_mk (by decide) (by decide) (r_alikeOf ry re l1 l2 (grw_alike _) (fun h2 k2 => k _ h2 k2))))))
    · refine if_no (by omega) (d.f1 (d.tr rfl hg (d.tn hg rfl (by omega) ?_)))
      show w_X7_added_L32 Q n (B 0) (g : Int) p q _ ((i : Int) + 1) h 2 256
      rw [show (i : Int) + 1 = ((i + 1 : Nat) : Int) by omega]
      exact r_added_L hg d ry re k n (i + 1) _ (by omega) (by omega)
theorem r_added {Q : Int64 → gaH → Prop} {t : Int64} (hg : g < 2) (hx : x = (g : Int)) (d : gM B h st no) (k : ∀ r h', mK h h' → Q r h') : w_X7_added (B 0) t x h Q := by
  subst hx
  have hl := (d.ok hg).len
  unfold w_X7_added w_X7_add
  refine ⟨d.has, gCall_mk (by decide) (by decide) (r_word (b := false) d hg rfl rfl (fun h2 oy k2 n2 ry => ⟨(d.kp k2).has, gCall_mk (by decide) (by decide) (r_word (b := true) (d.kp k2) hg rfl rfl (fun h3 oe k3 n3 re => ?_))⟩))⟩
  have d3 := d.kp (k2.tr k3)
  refine d3.f2 (d3.ct rfl hg ⟨66, ?_⟩)
  exact r_added_L hg d3 (ry.on k3) re (fun r h' k' => k r h' (k2.tr (k3.tr k'))) 66 0 _ (Nat.zero_le _) (by omega)
theorem r_digest_L172 {Q : Int64 → gaH → Prop} : ∀ (n i : Nat) (h : gaH) (t : Int64) (kc ks : Nat), gM B h st no → i ≤ 4 → 4 - i < n → 928 ≤ kc → 55564 ≤ ks → (∀ r h', mK h h' → Q r h') → w_X7_digest_L172 Q n (B 0) t (i : Int) h kc ks
  | 0, _, _, _, _, _, _, _, h9, _, _, _ => absurd h9 (Nat.not_lt_zero _)
  | n + 1, i, h, t, kc, ks, d, hi, h9, hc, hs, k => by
    unfold w_X7_digest_L172 w_X7_add
    refine ⟨by omega, ?_⟩
    by_cases q : 4 ≤ i
    · exact if_yes (by omega) ⟨d.has, gCall_mk hc hs (r_isWhole d (fun h2 k2 => r_one rfl (k _ h2 k2)))⟩
    · refine if_no (by omega) ⟨d.has, r_told d (by omega) ?_⟩
      show w_X7_digest_L172 Q n (B 0) _ ((i : Int) + 1) h kc ks
      rw [show (i : Int) + 1 = ((i + 1 : Nat) : Int) by omega]
      exact r_digest_L172 n (i + 1) h _ kc ks d (by omega) (by omega) hc hs k
theorem r_digest_L55 {Q : Int64 → gaH → Prop} {K21 : Nat → Int64 → Nat → Int → Int → gaH → Nat → Nat → Prop} {c v3 : Nat} {v4 v5 : Int} {kc ks : Nat} (r : mR h a u) (hl : u.length ≤ 64) (k : ∀ t : Int64, K21 c t v3 v4 (v5 + 1) h kc ks) : ∀ (n i : Nat) (t : Int64), i ≤ u.length → u.length - i < n → w_X7_digest_L55 Q K21 n c t v3 v4 v5 a a (u.length : Int) (i : Int) h kc ks
  | 0, _, _, _, h9 => absurd h9 (Nat.not_lt_zero _)
  | n + 1, i, t, hi, h9 => by
    unfold w_X7_digest_L55 w_X7_add
    refine ⟨by omega, by omega, ?_⟩
    by_cases q : u.length ≤ i
    · refine if_yes (by omega) (r_bs r (by omega) (r.len (r_isMir (f := 0) (t := u.length) r hl rfl rfl (Nat.zero_le _) (Nat.le_refl _) (fun t2 => r_one rfl (r_timesOf r hl (fun r1 => r_overlapsOf r hl (fun r2 => r_foldsOf r hl (fun r3 => r_leastOf r hl (fun r4 => k _)))))))))
    · refine if_no (by omega) (r.at rfl (by omega) (by omega) ?_)
      show w_X7_digest_L55 Q K21 n c _ v3 v4 v5 a a (u.length : Int) ((i : Int) + 1) h kc ks
      rw [show (i : Int) + 1 = ((i + 1 : Nat) : Int) by omega]
      exact r_digest_L55 r hl k n (i + 1) _ (by omega) (by omega)
theorem r_digest_L21 {Q : Int64 → gaH → Prop} (d : gM B h st no) (k : ∀ r h', mK h h' → Q r h') : ∀ (n i : Nat) (t : Int64), i ≤ 3 → 3 - i < n → w_X7_digest_L21 Q n (B 0) t (B 1) 3 (i : Int) h 1200 73228
  | 0, _, _, _, h9 => absurd h9 (Nat.not_lt_zero _)
  | n + 1, i, t, hi, h9 => by
    unfold w_X7_digest_L21 w_X7_add
    refine ⟨by omega, by decide, ?_⟩
    by_cases q : 3 ≤ i
    · refine if_yes (by omega) ⟨d.has, gCall_mk (by decide) (by decide) (r_added (g := 0) (by decide) rfl d (fun r2 h2 k2 => ⟨(d.kp k2).has, gCall_mk (by decide) (by decide) (r_added (g := 1) (by decide) rfl (d.kp k2) (fun r3 h3 k3 => ⟨5, ?_⟩))⟩))⟩
      exact r_digest_L172 5 0 h3 _ _ _ (d.kp (k2.tr k3)) (by decide) (by decide) (by decide) (by decide) (fun r h' k' => k r h' (k2.tr (k3.tr k')))
    · have hl := d.sl (show i < 3 by omega)
      refine if_no (by omega) (d.sh rfl (show i < 3 by omega) (fun a ra na => ra.len (ra.len ⟨66, ?_⟩)))
      refine r_digest_L55 ra hl (fun t2 => ?_) 66 0 _ (Nat.zero_le _) (by omega)
      rw [show (i : Int) + 1 = ((i + 1 : Nat) : Int) by omega]
      exact r_digest_L21 d k n (i + 1) _ (by omega) (by omega)
theorem r_digest {Q : Int64 → gaH → Prop} (d : gM B h st no) (k : ∀ r h', gM B h' st 0 → mF B h h' → Q r h') : w_X7_digest (B 0) h Q := by
  unfold w_X7_digest
  refine d.setNo (fun h1 d1 f1 => d1.f0 ?_)
  obtain ⟨s, a1, a2, -⟩ := id d1
  exact gAL_mk a2 (x := 3) rfl ⟨4, r_digest_L21 d1 (fun r h' k' => k r h' (d1.kp k') (f1.tr (mF.kp k'))) 4 0 _ (by decide) (by decide)⟩
end RDg
/-! The reference: texts, as far as they go through. -/
section RTx
variable {B : Nat → Nat} {h h0 : gaH} {st : GSt} {no : Int} {a b o : Nat} {u v : List Bool} {w g : Nat} {x y z : Int} {G : gaG} {Q : Nat → gaH → Prop}
theorem r_textOf_L (r : mR h0 a u) (hl : u.length ≤ 64) (k : ∀ h' o, mK h0 h' → Q o h') : ∀ (n i : Nat) (h : gaH) (kc ks : Nat), sbd h0 h b i → i ≤ u.length → u.length - i < n → 2 * (u.length - i) + 5 ≤ kc → 134 * (u.length - i) + 272 ≤ ks → w_X7_textOf_L16 G Q n b a (u.length : Int) (i : Int) h kc ks
  | 0, _, _, _, _, _, _, h1, _, _ => absurd h1 (Nat.not_lt_zero _)
  | n + 1, i, h, kc, ks, sb, hi, h1, hc, hs => by
    have kp : mK h0 h := by obtain ⟨_, _, _, _, _, _, _, _, _, _, q⟩ := sb; exact q
    unfold w_X7_textOf_L16
    refine ⟨by omega, by omega, ?_⟩
    by_cases q : u.length ≤ i
    · exact if_yes (by omega) ⟨sb.has, gCall_mk (by omega) (by omega) (sb_toString sb (by omega) (fun h' o k' _ => k h' o k'))⟩
    · have go : ∀ c : Int, 0 ≤ c → c ≤ 127 → w_X7_textOf_J42 G Q (w_X7_textOf_L16 G Q n) b a (u.length : Int) (i : Int) b c h kc ks := fun c c1 c2 => by
        unfold w_X7_textOf_J42
        refine ⟨sb.has, gCall_mk (by omega) (by omega) (sb_char sb (by omega) c1 c2 (fun h' s' => ?_))⟩
        rw [show (i : Int) + 1 = ((i + 1 : Nat) : Int) by omega]
        exact r_textOf_L r hl k n (i + 1) h' _ _ s' (by omega) (by omega) (by omega) (by omega)
      exact if_no (by omega) ((r.on kp).at rfl (by omega) (by omega) ⟨b2i_R _, ite_both (fun _ => go 98 (by decide) (by decide)) (fun _ => go 97 (by decide) (by decide))⟩)
theorem r_textOf (r : mR h a u) (hl : u.length ≤ 64) (k : ∀ h' o, mK h h' → Q o h') : w_X7_textOf G a h Q := by
  unfold w_X7_textOf
  refine gNO_mk (by decide) (by decide) (fun o ho => gCall_mk (by decide) (by decide) (sb_init ho (fun h' sb => ?_)))
  have kp : mK h h' := by obtain ⟨_, _, _, _, _, _, _, _, _, _, q⟩ := sb; exact q
  exact (r.on kp).len ⟨66, r_textOf_L r hl k 66 0 h' _ _ sb (Nat.zero_le _) (by omega) (by omega) (by omega)⟩
theorem r_text (d : gM B h st no) (hx : gR x) (k : ∀ (c : Nat) h' r, gM B h' st (c : Int) → mF B h h' → Q r h') : w_X7_text G (B 0) x h Q := by
  unfold w_X7_text
  refine r_isNoSheet hx ⟨d.has, r_start d rfl (by decide) (fun q h1 d1 f1 => ?_) (fun q h1 d1 f1 => ?_)⟩
  · obtain ⟨w, rfl⟩ : ∃ w : Nat, x = w := ⟨x.toNat, by have := nd q; omega⟩
    have hw : w < 3 := by have := nd q; omega
    exact ⟨by decide, if_yes rfl (d1.f0 (d1.sh rfl hw (fun a ra na => gCall_mk (by decide) (by decide) (r_textOf ra (d1.sl hw) (fun h2 o k2 => k 0 h2 o (d1.kp k2) (f1.tr (mF.kp k2)))))))⟩
  · exact ⟨by decide, if_no (by decide) (k 1 h1 _ d1 f1)⟩
theorem r_grown {c : Bool} (d : gM B h st no) (hx : gR x) (hy : y = b2i c) (k : ∀ (c : Nat) h' r, gM B h' st (c : Int) → mF B h h' → Q r h') : w_X7_grown G (B 0) x y h Q := by
  unfold w_X7_grown
  refine r_isNoGrowth hx ⟨d.has, r_start d rfl (by decide) (fun q h1 d1 f1 => ?_) (fun q h1 d1 f1 => ?_)⟩
  · obtain ⟨g, rfl⟩ : ∃ w : Nat, x = w := ⟨x.toNat, by have := nd q; omega⟩
    have hg : g < 2 := by have := nd q; omega
    have hl := gWd_le (d1.ok hg) c
    exact ⟨by decide, if_yes rfl ⟨d1.has, gCall_mk (by decide) (by decide) (r_word d1 hg rfl hy (fun h2 o k2 n2 r2 => gCall_mk (by decide) (by decide) (r_textOf r2 hl (fun h3 o3 k3 => k 0 h3 o3 (d1.kp (k2.tr k3)) (f1.tr (mF.kp (k2.tr k3)))))))⟩⟩
  · exact ⟨by decide, if_no (by decide) (k 1 h1 _ d1 f1)⟩
theorem r_turns_L (hg : g < 2) (d0 : gM B h0 st no) (m3 : h0 (G.2.2.2 1) = some (1101, gaOnes)) (k : ∀ h' o, mK h0 h' → Q o h') : ∀ (n i : Nat) (h : gaH) (kc ks : Nat), sbd h0 h b i → i ≤ (st.T g).length → (st.T g).length - i < n → 2 * ((st.T g).length - i) + 5 ≤ kc → 134 * ((st.T g).length - i) + 272 ≤ ks → w_X7_turns_L25 G Q n (B 0) (g : Int) b (i : Int) h kc ks
  | 0, _, _, _, _, _, _, h1, _, _ => absurd h1 (Nat.not_lt_zero _)
  | n + 1, i, h, kc, ks, sb, hi, h1, hc, hs => by
    have kp : mK h0 h := by obtain ⟨_, _, _, _, _, _, _, _, _, _, q⟩ := sb; exact q
    have d := d0.kp kp
    have l1 := (d.ok hg).len
    unfold w_X7_turns_L25
    refine d.f2 (d.ct rfl hg ⟨by omega, by omega, ?_⟩)
    by_cases q : (st.T g).length ≤ i
    · exact if_yes (by omega) ⟨sb.has, gCall_mk (by omega) (by omega) (sb_toString sb (by omega) (fun h' o k' _ => k h' o k'))⟩
    · refine if_no (by omega) (d.f1 (d.tr rfl hg (d.tn hg rfl (by omega) ⟨sb.has, gCall_mk (by omega) (by omega) (sb_turn sb (by omega) m3 ((d.ok hg).tn (by omega)) (fun h' s' => ?_))⟩)))
      rw [show (i : Int) + 1 = ((i + 1 : Nat) : Int) by omega]
      exact r_turns_L hg d0 m3 k n (i + 1) h' _ _ s' (by omega) (by omega) (by omega) (by omega)
theorem r_turns (d : gM B h st no) (hx : gR x) (m3 : h (G.2.2.2 1) = some (1101, gaOnes)) (hm : ∀ i, i < 6 → G.2.2.2 1 ≠ B i) (k : ∀ (c : Nat) h' r, gM B h' st (c : Int) → mF B h h' → Q r h') : w_X7_turns G (B 0) x h Q := by
  unfold w_X7_turns
  refine r_isNoGrowth hx ⟨d.has, r_start d rfl (by decide) (fun q h1 d1 f1 => ?_) (fun q h1 d1 f1 => ?_)⟩
  · obtain ⟨g, rfl⟩ : ∃ w : Nat, x = w := ⟨x.toNat, by have := nd q; omega⟩
    have hg : g < 2 := by have := nd q; omega
    have l1 := (d1.ok hg).len
    refine ⟨by decide, if_yes rfl (gNO_mk (by decide) (by decide) (fun o ho => gCall_mk (by decide) (by decide) (sb_init ho (fun h' sb => ⟨66, ?_⟩))))⟩
    exact r_turns_L hg d1 (f1 _ _ hm m3) (fun h2 o k2 => k 0 h2 o (d1.kp k2) (f1.tr (mF.kp k2))) 66 0 h' _ _ sb (Nat.zero_le _) (by omega) (by omega) (by omega)
  · exact ⟨by decide, if_no (by decide) (k 1 h1 _ d1 f1)⟩
end RTx
