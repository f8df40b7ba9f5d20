/-! What is asked of the reference: the others, as far as they go through. -/
section RW3
variable {B : Nat → Nat} {h h0 : gaH} {st : GSt} {no : Int} {a b o : Nat} {u v : List Bool} {w g : Nat} {x y z : Int} {Q : Int → gaH → Prop}
theorem r_times (d : gM B h st no) (hx : gR x) (k : ∀ c, mSafe B h Q st c) : w_X7_times (B 0) x h Q := by
  unfold w_X7_times
  refine r_isNoSheet hx ⟨d.has, r_start d rfl (by decide) (fun q h1 d1 f1 => ?_) (fun q h1 d1 f1 => ?_)⟩
  · obtain ⟨w, rfl⟩ : ∃ w : Nat, x = w := ⟨x.toNat, by have := nd q; omega⟩
    have hw : w < 3 := by have := nd q; omega
    exact ⟨by decide, if_yes rfl (d1.f0 (d1.sh rfl hw (fun a ra na => r_timesOf ra (d1.sl hw) (fun r => k 0 h1 r d1 f1))))⟩
  · exact ⟨by decide, if_no (by decide) (k 1 h1 _ d1 f1)⟩
theorem r_overlaps (d : gM B h st no) (hx : gR x) (k : ∀ c, mSafe B h Q st c) : w_X7_overlaps (B 0) x h Q := by
  unfold w_X7_overlaps
  refine r_isNoSheet hx ⟨d.has, r_start d rfl (by decide) (fun q h1 d1 f1 => ?_) (fun q h1 d1 f1 => ?_)⟩
  · obtain ⟨w, rfl⟩ : ∃ w : Nat, x = w := ⟨x.toNat, by have := nd q; omega⟩
    have hw : w < 3 := by have := nd q; omega
    exact ⟨by decide, if_yes rfl (d1.f0 (d1.sh rfl hw (fun a ra na => r_overlapsOf ra (d1.sl hw) (fun r => k 0 h1 r d1 f1))))⟩
  · exact ⟨by decide, if_no (by decide) (k 1 h1 _ d1 f1)⟩
theorem r_folds (d : gM B h st no) (hx : gR x) (k : ∀ c, mSafe B h Q st c) : w_X7_folds (B 0) x h Q := by
  unfold w_X7_folds
  refine r_isNoSheet hx ⟨d.has, r_start d rfl (by decide) (fun q h1 d1 f1 => ?_) (fun q h1 d1 f1 => ?_)⟩
  · obtain ⟨w, rfl⟩ : ∃ w : Nat, x = w := ⟨x.toNat, by have := nd q; omega⟩
    have hw : w < 3 := by have := nd q; omega
    exact ⟨by decide, if_yes rfl (d1.f0 (d1.sh rfl hw (fun a ra na => r_foldsOf ra (d1.sl hw) (fun r => k 0 h1 r d1 f1))))⟩
  · exact ⟨by decide, if_no (by decide) (k 1 h1 _ d1 f1)⟩
theorem r_least (d : gM B h st no) (hx : gR x) (k : ∀ c, mSafe B h Q st c) : w_X7_least (B 0) x h Q := by
  unfold w_X7_least
  refine r_isNoSheet hx ⟨d.has, r_start d rfl (by decide) (fun q h1 d1 f1 => ?_) (fun q h1 d1 f1 => ?_)⟩
  · obtain ⟨w, rfl⟩ : ∃ w : Nat, x = w := ⟨x.toNat, by have := nd q; omega⟩
    have hw : w < 3 := by have := nd q; omega
    exact ⟨by decide, if_yes rfl (d1.f0 (d1.sh rfl hw (fun a ra na => r_leastOf ra (d1.sl hw) (fun r => k 0 h1 r d1 f1))))⟩
  · exact ⟨by decide, if_no (by decide) (k 1 h1 _ d1 f1)⟩
theorem r_isMirrored (d : gM B h st no) (hx : gR x) (k : ∀ c, mSafe B h Q st c) : w_X7_isMirrored_ (B 0) x h Q := by
  unfold w_X7_isMirrored_
  refine r_isNoSheet hx ⟨d.has, r_start d rfl (by decide) (fun q h1 d1 f1 => ?_) (fun q h1 d1 f1 => ?_)⟩
  · obtain ⟨w, rfl⟩ : ∃ w : Nat, x = w := ⟨x.toNat, by have := nd q; omega⟩
    have hw : w < 3 := by have := nd q; omega
    have hl := d1.sl hw
    exact ⟨by decide, if_yes rfl (d1.f0 (d1.sh rfl hw (fun a ra na => d1.f0 (d1.sh rfl hw (fun c rc nc => rc.len (r_isMir (f := 0) (t := (st.S w).length) ra hl rfl rfl (Nat.zero_le _) (Nat.le_refl _) (fun t => bb (k 0 h1 _ d1 f1) (k 0 h1 _ d1 f1))))))))⟩
  · exact ⟨by decide, if_no (by decide) (k 1 h1 _ d1 f1)⟩
theorem r_parts {l : Nat} {c : Bool} (r : mR h a u) (hx : x = (l : Int)) (hy : y = b2i c) (hul : u.length ≤ 64) (hl : l ≤ u.length) (k : ∀ n : Nat, n ≤ 65 → (u.length = 0 → n ≤ 1) → Q (n : Int) h) : w_X7_parts a x y h Q := by
  subst hx; subst hy
  have j : w_X7_parts_J14 Q a (l : Int) h := by
    unfold w_X7_parts_J14
    refine r.len ?_
    rw [show (u.length : Int) - (l : Int) + 1 = ((u.length - l + 1 : Nat) : Int) by omega]
    exact k _ (by omega) (by omega)
  unfold w_X7_parts
  refine ⟨b2i_R _, ite_both (fun _ => j) (fun _ => r.len ⟨by omega, ite_both (fun _ => j) (fun q => r.len (k _ (by omega) (by omega)))⟩)⟩
theorem r_kinds_L74 {K56 : Int → Int → Nat → Int → Int → gaH → Prop} {l : Nat} {c y5 : Int} (r : mR h a u) (hul : u.length ≤ 64) (hl : l ≤ u.length) {s : Nat} (hs : s ≤ 65) (hs0 : u.length = 0 → s ≤ 0) (k : ∀ y : Int, K56 (l : Int) c a y ((s : Int) + 1) h) : ∀ (n i : Nat) (t : Bool), i ≤ s → s - i < n → w_X7_kinds_L74 Q K56 n (l : Int) c a y5 (s : Int) (b2i t) (i : Int) h
  | 0, _, _, _, h9 => absurd h9 (Nat.not_lt_zero _)
  | n + 1, i, t, h1, h9 => by
    unfold w_X7_kinds_L74
    refine ⟨by omega, by omega, ?_⟩
    by_cases q : s ≤ i
    · exact if_yes (by omega) (r_one rfl (k _))
    · refine if_no (by omega) (r_areLike r hul rfl rfl rfl (by omega) (by omega) (by omega) (by omega) (fun t2 => ?_))
      rw [show (i : Int) + 1 = ((i + 1 : Nat) : Int) by omega]
      have e1 : gAnd (b2i t) 1 = b2i (t && true) := gAnd_bit t true
      have e0 : gAnd (b2i t) 0 = b2i (t && false) := gAnd_bit t false
      rw [e1, e0]
      exact bb (r_kinds_L74 r hul hl hs hs0 k n (i + 1) _ (by omega) (by omega)) (r_kinds_L74 r hul hl hs hs0 k n (i + 1) _ (by omega) (by omega))
theorem r_kinds_L56 {l : Nat} {c : Bool} (r : mR h a u) (hul : u.length ≤ 64) (hl : l ≤ u.length) (k : ∀ r : Int, Q r h) : ∀ (n s : Nat) (y5 : Int), s ≤ 65 → 66 - s < n → w_X7_kinds_L56 Q n (l : Int) (b2i c) a y5 (s : Int) h
  | 0, _, _, _, h9 => absurd h9 (Nat.not_lt_zero _)
  | n + 1, s, y5, h1, h9 => by
    unfold w_X7_kinds_L56
    refine r_parts r rfl rfl hul hl (fun m hm h0 => ⟨by omega, by omega, ?_⟩)
    by_cases q : m ≤ s
    · exact if_yes (by omega) (k _)
    · refine if_no (by omega) ⟨67, r_kinds_L74 r hul hl (by omega) (fun q0 => by have := h0 q0; omega) (fun y => ?_) 67 0 true (Nat.zero_le _) (by omega)⟩
      rw [show (s : Int) + 1 = ((s + 1 : Nat) : Int) by omega]
      exact r_kinds_L56 r hul hl k n (s + 1) y (by omega) (by omega)
theorem r_spread_L77 {K59 : Int → Int → Nat → Int → Int → Int → gaH → Prop} {l : Nat} {c : Int} (r : mR h a u) (hul : u.length ≤ 64) (hl : l ≤ u.length) {s m f : Nat} (hs : s ≤ 65) (hm : m ≤ 64) (hf : f ≤ 64) (k : ∀ m' f' : Nat, m' ≤ 64 → f' ≤ 64 → K59 (l : Int) c a (m' : Int) (f' : Int) ((s : Int) + 1) h) : ∀ (n i t : Nat), i ≤ l → l - i < n → t ≤ i → w_X7_spread_L77 Q K59 n (l : Int) c a (m : Int) (f : Int) (s : Int) (t : Int) (i : Int) h
  | 0, _, _, _, h9, _ => absurd h9 (Nat.not_lt_zero _)
  | n + 1, i, t, h1, h9, ht => by
    unfold w_X7_spread_L77
    refine ⟨by omega, by omega, ?_⟩
    by_cases q : l ≤ i
    · refine if_yes (by omega) ⟨by omega, by omega, by omega, by omega, ?_⟩
      rw [show max (m : Int) (t : Int) = ((max m t : Nat) : Int) by omega, show min (f : Int) (t : Int) = ((min f t : Nat) : Int) by omega]
      exact k _ _ (by omega) (by omega)
    · have e1 : gRem ((s : Int) + (i : Int)) (u.length : Int) = (((s + i) % u.length : Nat) : Int) := by
        have := gRem_nat (a := s + i) (b := u.length) (by omega) (by omega)
        rw [← this]; congr 1
      refine if_no (by omega) (r.len ⟨by omega, by omega, ?_⟩)
      rw [e1]
      refine r.at rfl (Nat.mod_lt _ (by omega)) (by omega) ?_
      rw [show (i : Int) + 1 = ((i + 1 : Nat) : Int) by omega]
      generalize u.getD ((s + i) % u.length) false = t2
      cases t2
      · rw [show (t : Int) + b2i false = (t : Int) by simp [b2i]]
        exact r_spread_L77 r hul hl hs hm hf k n (i + 1) t (by omega) (by omega) (by omega)
      · rw [show (t : Int) + b2i true = ((t + 1 : Nat) : Int) by simp [b2i]]
        exact r_spread_L77 r hul hl hs hm hf k n (i + 1) (t + 1) (by omega) (by omega) (by omega)
theorem r_spread_L59 {l : Nat} {c : Bool} (r : mR h a u) (hul : u.length ≤ 64) (hl : l ≤ u.length) (k : ∀ r : Int, Q r h) : ∀ (n s m f : Nat), s ≤ 65 → 66 - s < n → m ≤ 64 → f ≤ 64 → w_X7_spread_L59 Q n (l : Int) (b2i c) a (m : Int) (f : Int) (s : Int) h
  | 0, _, _, _, _, h9, _, _ => absurd h9 (Nat.not_lt_zero _)
  | n + 1, s, m, f, h1, h9, hm, hf => by
    unfold w_X7_spread_L59
    refine r_parts r rfl rfl hul hl (fun p hp h0 => ⟨by omega, by omega, ?_⟩)
    by_cases q : p ≤ s
    · exact if_yes (by omega) (k _)
    · refine if_no (by omega) ⟨66, r_spread_L77 r hul hl h1 hm hf (fun m' f' hm' hf' => ?_) 66 0 0 (Nat.zero_le _) (by omega) (Nat.le_refl _)⟩
      rw [show (s : Int) + 1 = ((s + 1 : Nat) : Int) by omega]
      exact r_spread_L59 r hul hl k n (s + 1) m' f' (by omega) (by omega) hm' hf'

theorem r_kinds {b : Bool} (d : gM B h st no) (hx : gR x) (hy : gR y) (hz : z = b2i b) (k : ∀ c, mSafe B h Q st c) : w_X7_kinds (B 0) x y z h Q := by
  subst hz
  unfold w_X7_kinds
  refine r_isNoSheet hx ⟨d.has, r_start d rfl (by decide) (fun q h1 d1 f1 => ?_) (fun q h1 d1 f1 => ?_)⟩
  · obtain ⟨w, rfl⟩ : ∃ w : Nat, x = w := ⟨x.toNat, by have := nd q; omega⟩
    have hw : w < 3 := by have := nd q; omega
    have hl := d1.sl hw
    refine ⟨by decide, if_yes rfl (d1.f0 (d1.sh rfl hw (fun a ra na => ra.len (r_isIn hy (by decide) (by omega) (sel (fun t => w_X7_kinds_J33 Q (B 0) (w : Int) y (b2i b) (B 0) t h1) ?_)))))⟩
    unfold w_X7_kinds_J33
    refine ⟨d1.has, r_refuse d1 rfl (by decide) (fun q => ?_) (fun q h2 d2 f2 => ?_)⟩
    · have q2 := nd q
      obtain ⟨l, rfl⟩ : ∃ w : Nat, y = w := ⟨y.toNat, by omega⟩
      exact ⟨by decide, if_yes rfl (d1.f0 (d1.sh rfl hw (fun a ra na => ⟨67, r_kinds_L56 ra hl (by omega) (fun r => k 0 h1 r d1 f1) 67 0 0 (Nat.zero_le _) (by decide)⟩)))⟩
    · exact ⟨by decide, if_no (by decide) (k 2 h2 _ d2 (f1.tr f2))⟩
  · exact ⟨by decide, if_no (by decide) (k 1 h1 _ d1 f1)⟩
theorem r_spread {b : Bool} (d : gM B h st no) (hx : gR x) (hy : gR y) (hz : z = b2i b) (k : ∀ c, mSafe B h Q st c) : w_X7_spread (B 0) x y z h Q := by
  subst hz
  unfold w_X7_spread
  refine r_isNoSheet hx ⟨d.has, r_start d rfl (by decide) (fun q h1 d1 f1 => ?_) (fun q h1 d1 f1 => ?_)⟩
  · obtain ⟨w, rfl⟩ : ∃ w : Nat, x = w := ⟨x.toNat, by have := nd q; omega⟩
    have hw : w < 3 := by have := nd q; omega
    have hl := d1.sl hw
    refine ⟨by decide, if_yes rfl (d1.f0 (d1.sh rfl hw (fun a ra na => ra.len (r_isIn hy (by decide) (by omega) (sel (fun t => w_X7_spread_J33 Q (B 0) (w : Int) y (b2i b) (B 0) t h1) ?_)))))⟩
    unfold w_X7_spread_J33
    refine ⟨d1.has, r_refuse d1 rfl (by decide) (fun q => ?_) (fun q h2 d2 f2 => ?_)⟩
    · have q2 := nd q
      obtain ⟨l, rfl⟩ : ∃ w : Nat, y = w := ⟨y.toNat, by omega⟩
      exact ⟨by decide, if_yes rfl (d1.f0 (d1.sh rfl hw (fun a ra na => ⟨67, r_spread_L59 ra hl (by omega) (fun r => k 0 h1 r d1 f1) 67 0 0 l (Nat.zero_le _) (by decide) (Nat.zero_le _) (by omega)⟩)))⟩
    · exact ⟨by decide, if_no (by decide) (k 2 h2 _ d2 (f1.tr f2))⟩
  · exact ⟨by decide, if_no (by decide) (k 1 h1 _ d1 f1)⟩
theorem r_mirrors_L69 {K26 : Nat → Int → Int → gaH → Prop} {K36 : Nat → Int → Int → Int → gaH → Prop} (r : mR h a u) (hul : u.length ≤ 64) {s l : Nat} {m : Int} (hs : s ≤ 65) (hl : l ≤ 65) (h0 : 0 < u.length) (k : ∀ m' : Int, K36 a m' (l : Int) ((s : Int) + 1) h) : ∀ (n i : Nat) (t : Bool), i ≤ s → s - i < n → w_X7_mirrors_L69 Q K26 K36 n a m (l : Int) (s : Int) (b2i t) (i : Int) h
  | 0, _, _, _, h9 => absurd h9 (Nat.not_lt_zero _)
  | n + 1, i, t, h1, h9 => by
    have j : w_X7_mirrors_J107 Q K26 K36 a m (l : Int) (s : Int) (b2i t) h := by
      unfold w_X7_mirrors_J107
      exact r_one rfl (k _)
    unfold w_X7_mirrors_L69
    refine ⟨by omega, by omega, ?_⟩
    by_cases q : s ≤ i
    · exact if_yes (by omega) j
    · refine if_no (by omega) ⟨b2i_R _, ite_both (fun _ => j) (fun _ => r_areLike r hul rfl rfl rfl (by omega) (by omega) (by omega) (by omega) (fun t2 => ?_))⟩
      rw [show (i : Int) + 1 = ((i + 1 : Nat) : Int) by omega]
      exact bb (r_mirrors_L69 r hul hs hl h0 k n (i + 1) false (by omega) (by omega)) (r_mirrors_L69 r hul hs hl h0 k n (i + 1) true (by omega) (by omega))
theorem r_mirrors_L36 {K26 : Nat → Int → Int → gaH → Prop} (r : mR h a u) (hul : u.length ≤ 64) {l : Nat} (hl1 : 1 ≤ l) (hl : l ≤ 64) (k : ∀ m' : Int, K26 a m' ((l : Int) + 1) h) : ∀ (n s : Nat) (m : Int), s ≤ 65 → 66 - s < n → w_X7_mirrors_L36 Q K26 n a m (l : Int) (s : Int) h
  | 0, _, _, _, h9 => absurd h9 (Nat.not_lt_zero _)
  | n + 1, s, m, h1, h9 => by
    unfold w_X7_mirrors_L36
    refine r.len ⟨by omega, by omega, ?_⟩
    by_cases q : u.length < s + l
    · exact if_yes (by omega) (k _)
    · have e : (s : Int) + 1 = ((s + 1 : Nat) : Int) := by omega
      refine if_no (by omega) (r_isMir (f := s) (t := s + l) r hul rfl (by omega) (by omega) (by omega) (fun t => bb ⟨67, r_mirrors_L69 r hul h1 (by omega) (by omega) (fun m' => ?_) 67 0 true (Nat.zero_le _) (by omega)⟩ ?_))
      · rw [e]; exact r_mirrors_L36 r hul hl1 hl k n (s + 1) m' (by omega) (by omega)
      · rw [e]; exact r_mirrors_L36 r hul hl1 hl k n (s + 1) m (by omega) (by omega)
theorem r_mirrors_L26 (r : mR h a u) (hul : u.length ≤ 64) (k : ∀ r : Int, Q r h) : ∀ (n l : Nat) (m : Int), 1 ≤ l → l ≤ 65 → 66 - l < n → w_X7_mirrors_L26 Q n a m (l : Int) h
  | 0, _, _, _, _, h9 => absurd h9 (Nat.not_lt_zero _)
  | n + 1, l, m, h0, h1, h9 => by
    unfold w_X7_mirrors_L26
    refine r.len ⟨by omega, by omega, ?_⟩
    by_cases q : u.length < l
    · exact if_yes (by omega) (k _)
    · refine if_no (by omega) ⟨67, r_mirrors_L36 r hul h0 (by omega) (fun m' => ?_) 67 0 m (Nat.zero_le _) (by decide)⟩
      rw [show (l : Int) + 1 = ((l + 1 : Nat) : Int) by omega]
      exact r_mirrors_L26 r hul k n (l + 1) m' (by omega) (by omega) (by omega)
theorem r_mirrors (d : gM B h st no) (hx : gR x) (k : ∀ c, mSafe B h Q st c) : w_X7_mirrors (B 0) x h Q := by
  unfold w_X7_mirrors
  refine r_isNoSheet hx ⟨d.has, r_start d rfl (by decide) (fun q h1 d1 f1 => ?_) (fun q h1 d1 f1 => ?_)⟩
  · obtain ⟨w, rfl⟩ : ∃ w : Nat, x = w := ⟨x.toNat, by have := nd q; omega⟩
    have hw : w < 3 := by have := nd q; omega
    exact ⟨by decide, if_yes rfl (d1.f0 (d1.sh rfl hw (fun a ra na => ⟨67, r_mirrors_L26 ra (d1.sl hw) (fun r => k 0 h1 r d1 f1) 67 1 0 (by decide) (by decide) (by decide)⟩)))⟩
  · exact ⟨by decide, if_no (by decide) (k 1 h1 _ d1 f1)⟩
theorem r_find_L34 (d : gM B h st 0) (hw : w < 3) {v : Nat} (hv : v < 3) (k : ∀ r : Int, Q r h) : ∀ (n i : Nat), i ≤ 65 → 66 - i < n → w_X7_find_L34 Q n (B 0) (w : Int) (v : Int) (i : Int) h
  | 0, _, _, h9 => absurd h9 (Nat.not_lt_zero _)
  | n + 1, i, h1, h9 => by
    have l1 := d.sl hw
    have l2 := d.sl hv
    unfold w_X7_find_L34
    refine d.f0 (d.sh rfl hw (fun a ra _ => ra.len ⟨by omega, by omega, ?_⟩))
    by_cases q : (st.S w).length < i
    · exact if_yes (by omega) (k _)
    · refine if_no (by omega) (d.f0 (d.sh rfl hw (fun a ra _ => d.f0 (d.sh rfl hv (fun c rc _ => r_standsAt ra rc rfl (by omega) (by omega) (by omega) (bb (k _) ?_))))))
      rw [show (i : Int) + 1 = ((i + 1 : Nat) : Int) by omega]
      exact r_find_L34 d hw hv k n (i + 1) (by omega) (by omega)
theorem r_findLast_L34 (d : gM B h st 0) (hw : w < 3) {v : Nat} (hv : v < 3) (k : ∀ r : Int, Q r h) : ∀ (n i : Nat), i ≤ 65 → i < n → w_X7_findLast_L34 Q n (B 0) (w : Int) (v : Int) ((i : Int) - 1) h
  | 0, _, _, h9 => absurd h9 (Nat.not_lt_zero _)
  | n + 1, i, h1, h9 => by
    have l1 := d.sl hw
    have l2 := d.sl hv
    unfold w_X7_findLast_L34
    refine ⟨by omega, ?_⟩
    by_cases q : i = 0
    · exact if_yes (by omega) (k _)
    · refine if_no (by omega) (d.f0 (d.sh rfl hw (fun a ra _ => d.f0 (d.sh rfl hv (fun c rc _ => r_standsAt (p := i - 1) ra rc (by omega) (by omega) (by omega) (by omega) (bb (k _) ?_))))))
      rw [show (i : Int) - 1 + -1 = ((i - 1 : Nat) : Int) - 1 by omega]
      exact r_findLast_L34 d hw hv k n (i - 1) (by omega) (by omega)
theorem r_find (d : gM B h st no) (hx : gR x) (hy : gR y) (hz : gR z) (k : ∀ c, mSafe B h Q st c) : w_X7_find (B 0) x y z h Q := by
  have bd : w_X7_find_J22 Q (B 0) x y z (B 0) 1 h := by
    unfold w_X7_find_J22
    exact ⟨d.has, r_start d (bd := true) rfl (by decide) (fun q => by cases q) (fun q h1 d1 f1 => ⟨by decide, if_no (by decide) (k 1 h1 _ d1 f1)⟩)⟩
  unfold w_X7_find
  refine ⟨d.has, r_isNoGap d hx hz ⟨b2i_R _, ?_⟩⟩
  by_cases q1 : okS x ∧ 0 ≤ z ∧ z ≤ ((st.S x.toNat).length : Int)
  · rw [decide_eq_true q1]
    refine if_yes rfl (r_isNoSheet hy ⟨b2i_R _, ?_⟩)
    by_cases q2 : okS y
    · rw [decide_eq_true q2]
      refine if_yes rfl ?_
      unfold w_X7_find_J22
      refine ⟨d.has, r_start d (bd := false) rfl (by decide) (fun q h1 d1 f1 => ⟨by decide, if_yes rfl ?_⟩) (fun q => by cases q)⟩
      obtain ⟨w, rfl⟩ : ∃ w : Nat, x = w := ⟨x.toNat, by omega⟩
      obtain ⟨v, rfl⟩ : ∃ v : Nat, y = v := ⟨y.toNat, by omega⟩
      obtain ⟨p, rfl⟩ : ∃ v : Nat, z = v := ⟨z.toNat, by omega⟩
      rw [Int.toNat_natCast] at q1
      have hl := d1.sl (show w < 3 by omega)
      exact ⟨67, r_find_L34 d1 (by omega) (by omega) (fun r => k 0 h1 r d1 f1) 67 p (by omega) (by omega)⟩
    · rw [decide_eq_false q2]
      exact if_no (by decide) bd
  · rw [decide_eq_false q1]
    exact if_no (by decide) bd
theorem r_findLast (d : gM B h st no) (hx : gR x) (hy : gR y) (hz : gR z) (k : ∀ c, mSafe B h Q st c) : w_X7_findLast (B 0) x y z h Q := by
  have bd : w_X7_findLast_J22 Q (B 0) x y z (B 0) 1 h := by
    unfold w_X7_findLast_J22
    exact ⟨d.has, r_start d (bd := true) rfl (by decide) (fun q => by cases q) (fun q h1 d1 f1 => ⟨by decide, if_no (by decide) (k 1 h1 _ d1 f1)⟩)⟩
  unfold w_X7_findLast
  refine ⟨d.has, r_isNoGap d hx hz ⟨b2i_R _, ?_⟩⟩
  by_cases q1 : okS x ∧ 0 ≤ z ∧ z ≤ ((st.S x.toNat).length : Int)
  · rw [decide_eq_true q1]
    refine if_yes rfl (r_isNoSheet hy ⟨b2i_R _, ?_⟩)
    by_cases q2 : okS y
    · rw [decide_eq_true q2]
      refine if_yes rfl ?_
      unfold w_X7_findLast_J22
      refine ⟨d.has, r_start d (bd := false) rfl (by decide) (fun q h1 d1 f1 => ⟨by decide, if_yes rfl ?_⟩) (fun q => by cases q)⟩
      obtain ⟨w, rfl⟩ : ∃ w : Nat, x = w := ⟨x.toNat, by omega⟩
      obtain ⟨v, rfl⟩ : ∃ v : Nat, y = v := ⟨y.toNat, by omega⟩
      obtain ⟨p, rfl⟩ : ∃ v : Nat, z = v := ⟨z.toNat, by omega⟩
      rw [Int.toNat_natCast] at q1
      have hl := d1.sl (show w < 3 by omega)
      exact ⟨67, by rw [show ((p : Nat) : Int) = ((p + 1 : Nat) : Int) - 1 by omega]; exact r_findLast_L34 d1 (by omega) (by omega) (fun r => k 0 h1 r d1 f1) 67 (p + 1) (by omega) (by omega)⟩
    · rw [decide_eq_false q2]
      exact if_no (by decide) bd
  · rw [decide_eq_false q1]
    exact if_no (by decide) bd
end RW3
