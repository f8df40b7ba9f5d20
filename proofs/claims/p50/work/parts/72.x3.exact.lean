/-! The readings to the last: the garden, the reference, the law's wrappers. -/
section EX
variable {A B : Nat → Nat} {G : gaG} {h : gaH} {U : Nat → List Bool} {st : GSt} {no : Int} {X : String → gaH → Prop} {Q : Int → gaH → Prop} {w v g : Nat} {x y z : Int} {O : Nat} {z0 : Int64} {sv : Value}
def m_times_x (st : GSt) (x : Int) : Nat × (Int → Prop) × GSt := if okS x then says st (isT (st.S x.toNat)) else bad 1 st
theorem c_times_x (d : gD A G h U st) (hx : gR x) (k : gRes A G h [eI] X Q (m_times_x st x)) : w_X5_times X (A 22) x h Q := by
  unfold w_X5_times
  (first | refine And.intro (show gR _ from by first | assumption | omega | decide | exact b2i_R _ | exact gR_of (by omega) (by omega)) ?_ | refine And.intro (show gHas _ _ _ from by first | exact gW.has (gD.w (by assumption)) (by omega) | exact gD.has (by assumption) | exact gRu.has (gD.ru (by assumption)) | exact gGr.has (gD.gr (by assumption) _ (by omega))) ?_ | refine gCall_mk (by decide) (by decide) ?_ | refine if_yes (by first | assumption | omega | decide | exact b2i_R _ | exact gR_of (by omega) (by omega)) ?_ | refine if_no (by first | assumption | omega | decide | exact b2i_R _ | exact gR_of (by omega) (by omega)) ?_); (first | refine And.intro (show gR _ from by first | assumption | omega | decide | exact b2i_R _ | exact gR_of (by omega) (by omega)) ?_ | refine And.intro (show gHas _ _ _ from by first | exact gW.has (gD.w (by assumption)) (by omega) | exact gD.has (by assumption) | exact gRu.has (gD.ru (by assumption)) | exact gGr.has (gD.gr (by assumption) _ (by omega))) ?_ | refine gCall_mk (by decide) (by decide) ?_ | refine if_yes (by first | assumption | omega | decide | exact b2i_R _ | exact gR_of (by omega) (by omega)) ?_ | refine if_no (by first | assumption | omega | decide | exact b2i_R _ | exact gR_of (by omega) (by omega)) ?_)
  refine c_wordOf d hx (fun q => by rw [m_times_x, if_neg q] at k; exact k.ex d gFr.rf) (fun w hw e => ?_)
  subst e
  rw [m_times_x, if_pos (show okS (w : Int) by omega), Int.toNat_natCast, ← d.s w hw] at k
  exact x_timesOf d.w (by omega) (fun r hr => k.ok d gFr.rf hr)
theorem m_times_x_u {x : Int} : ∀ p q, (m_times_x st x).2.1 p → (m_times_x st x).2.1 q → p = q := by
  unfold m_times_x
  repeat' split
  all_goals (intro p q h1 h2; first | exact Eq.trans h1 (Eq.symm h2) | exact isT_u _ _ h1 h2 | exact h1.elim)
theorem l_times_x_le {x : Int} : (m_times_x st x).1 ≤ 1 := by
  unfold m_times_x
  repeat' split
  all_goals simp
theorem m_times_x_st {x : Int} : (m_times_x st x).2.2 = st := by
  unfold m_times_x
  repeat' split
  all_goals rfl
def m_overlaps_x (st : GSt) (x : Int) : Nat × (Int → Prop) × GSt := if okS x then says st (fun r => r = ((sm (fun p => sm (ovF (st.S x.toNat) p) 66) 66 : Nat) : Int)) else bad 1 st
theorem c_overlaps_x (d : gD A G h U st) (hx : gR x) (k : gRes A G h [eI] X Q (m_overlaps_x st x)) : w_X5_overlaps X (A 22) x h Q := by
  unfold w_X5_overlaps
  (first | refine And.intro (show gR _ from by first | assumption | omega | decide | exact b2i_R _ | exact gR_of (by omega) (by omega)) ?_ | refine And.intro (show gHas _ _ _ from by first | exact gW.has (gD.w (by assumption)) (by omega) | exact gD.has (by assumption) | exact gRu.has (gD.ru (by assumption)) | exact gGr.has (gD.gr (by assumption) _ (by omega))) ?_ | refine gCall_mk (by decide) (by decide) ?_ | refine if_yes (by first | assumption | omega | decide | exact b2i_R _ | exact gR_of (by omega) (by omega)) ?_ | refine if_no (by first | assumption | omega | decide | exact b2i_R _ | exact gR_of (by omega) (by omega)) ?_); (first | refine And.intro (show gR _ from by first | assumption | omega | decide | exact b2i_R _ | exact gR_of (by omega) (by omega)) ?_ | refine And.intro (show gHas _ _ _ from by first | exact gW.has (gD.w (by assumption)) (by omega) | exact gD.has (by assumption) | exact gRu.has (gD.ru (by assumption)) | exact gGr.has (gD.gr (by assumption) _ (by omega))) ?_ | refine gCall_mk (by decide) (by decide) ?_ | refine if_yes (by first | assumption | omega | decide | exact b2i_R _ | exact gR_of (by omega) (by omega)) ?_ | refine if_no (by first | assumption | omega | decide | exact b2i_R _ | exact gR_of (by omega) (by omega)) ?_)
  refine c_wordOf d hx (fun q => by rw [m_overlaps_x, if_neg q] at k; exact k.ex d gFr.rf) (fun w hw e => ?_)
  subst e
  rw [m_overlaps_x, if_pos (show okS (w : Int) by omega), Int.toNat_natCast, ← d.s w hw] at k
  exact x_overlapsOf d.w (by omega) (k.ok d gFr.rf rfl)
theorem m_overlaps_x_u {x : Int} : ∀ p q, (m_overlaps_x st x).2.1 p → (m_overlaps_x st x).2.1 q → p = q := by
  unfold m_overlaps_x
  repeat' split
  all_goals (intro p q h1 h2; first | exact Eq.trans h1 (Eq.symm h2) | exact isT_u _ _ h1 h2 | exact h1.elim)
theorem l_overlaps_x_le {x : Int} : (m_overlaps_x st x).1 ≤ 1 := by
  unfold m_overlaps_x
  repeat' split
  all_goals simp
theorem m_overlaps_x_st {x : Int} : (m_overlaps_x st x).2.2 = st := by
  unfold m_overlaps_x
  repeat' split
  all_goals rfl
def m_mirrors_x (st : GSt) (x : Int) : Nat × (Int → Prop) × GSt := if okS x then says st (fun r => r = ((sm (fun a => sm (mrF (st.S x.toNat) a) 66) (st.S x.toNat).length : Nat) : Int)) else bad 1 st
theorem c_mirrors_x (d : gD A G h U st) (hx : gR x) (k : gRes A G h [eI] X Q (m_mirrors_x st x)) : w_X5_mirrors X (A 22) x h Q := by
  unfold w_X5_mirrors
  (first | refine And.intro (show gR _ from by first | assumption | omega | decide | exact b2i_R _ | exact gR_of (by omega) (by omega)) ?_ | refine And.intro (show gHas _ _ _ from by first | exact gW.has (gD.w (by assumption)) (by omega) | exact gD.has (by assumption) | exact gRu.has (gD.ru (by assumption)) | exact gGr.has (gD.gr (by assumption) _ (by omega))) ?_ | refine gCall_mk (by decide) (by decide) ?_ | refine if_yes (by first | assumption | omega | decide | exact b2i_R _ | exact gR_of (by omega) (by omega)) ?_ | refine if_no (by first | assumption | omega | decide | exact b2i_R _ | exact gR_of (by omega) (by omega)) ?_); (first | refine And.intro (show gR _ from by first | assumption | omega | decide | exact b2i_R _ | exact gR_of (by omega) (by omega)) ?_ | refine And.intro (show gHas _ _ _ from by first | exact gW.has (gD.w (by assumption)) (by omega) | exact gD.has (by assumption) | exact gRu.has (gD.ru (by assumption)) | exact gGr.has (gD.gr (by assumption) _ (by omega))) ?_ | refine gCall_mk (by decide) (by decide) ?_ | refine if_yes (by first | assumption | omega | decide | exact b2i_R _ | exact gR_of (by omega) (by omega)) ?_ | refine if_no (by first | assumption | omega | decide | exact b2i_R _ | exact gR_of (by omega) (by omega)) ?_)
  refine c_wordOf d hx (fun q => by rw [m_mirrors_x, if_neg q] at k; exact k.ex d gFr.rf) (fun w hw e => ?_)
  subst e
  rw [m_mirrors_x, if_pos (show okS (w : Int) by omega), Int.toNat_natCast, ← d.s w hw] at k
  exact x_mirrorsOf d.w (by omega) (k.ok d gFr.rf rfl)
theorem m_mirrors_x_u {x : Int} : ∀ p q, (m_mirrors_x st x).2.1 p → (m_mirrors_x st x).2.1 q → p = q := by
  unfold m_mirrors_x
  repeat' split
  all_goals (intro p q h1 h2; first | exact Eq.trans h1 (Eq.symm h2) | exact isT_u _ _ h1 h2 | exact h1.elim)
theorem l_mirrors_x_le {x : Int} : (m_mirrors_x st x).1 ≤ 1 := by
  unfold m_mirrors_x
  repeat' split
  all_goals simp
theorem m_mirrors_x_st {x : Int} : (m_mirrors_x st x).2.2 = st := by
  unfold m_mirrors_x
  repeat' split
  all_goals rfl
def m_folds_x (st : GSt) (x : Int) : Nat × (Int → Prop) × GSt := if okS x then says st (fun r => r = ((sm (flF (st.S x.toNat)) (st.S x.toNat).length : Nat) : Int)) else bad 1 st
theorem c_folds_x (d : gD A G h U st) (hx : gR x) (k : gRes A G h [eI] X Q (m_folds_x st x)) : w_X5_folds X (A 22) x h Q := by
  unfold w_X5_folds
  (first | refine And.intro (show gR _ from by first | assumption | omega | decide | exact b2i_R _ | exact gR_of (by omega) (by omega)) ?_ | refine And.intro (show gHas _ _ _ from by first | exact gW.has (gD.w (by assumption)) (by omega) | exact gD.has (by assumption) | exact gRu.has (gD.ru (by assumption)) | exact gGr.has (gD.gr (by assumption) _ (by omega))) ?_ | refine gCall_mk (by decide) (by decide) ?_ | refine if_yes (by first | assumption | omega | decide | exact b2i_R _ | exact gR_of (by omega) (by omega)) ?_ | refine if_no (by first | assumption | omega | decide | exact b2i_R _ | exact gR_of (by omega) (by omega)) ?_); (first | refine And.intro (show gR _ from by first | assumption | omega | decide | exact b2i_R _ | exact gR_of (by omega) (by omega)) ?_ | refine And.intro (show gHas _ _ _ from by first | exact gW.has (gD.w (by assumption)) (by omega) | exact gD.has (by assumption) | exact gRu.has (gD.ru (by assumption)) | exact gGr.has (gD.gr (by assumption) _ (by omega))) ?_ | refine gCall_mk (by decide) (by decide) ?_ | refine if_yes (by first | assumption | omega | decide | exact b2i_R _ | exact gR_of (by omega) (by omega)) ?_ | refine if_no (by first | assumption | omega | decide | exact b2i_R _ | exact gR_of (by omega) (by omega)) ?_)
  refine c_wordOf d hx (fun q => by rw [m_folds_x, if_neg q] at k; exact k.ex d gFr.rf) (fun w hw e => ?_)
  subst e
  rw [m_folds_x, if_pos (show okS (w : Int) by omega), Int.toNat_natCast, ← d.s w hw] at k
  exact x_foldsOf d.w (by omega) (k.ok d gFr.rf rfl)
theorem m_folds_x_u {x : Int} : ∀ p q, (m_folds_x st x).2.1 p → (m_folds_x st x).2.1 q → p = q := by
  unfold m_folds_x
  repeat' split
  all_goals (intro p q h1 h2; first | exact Eq.trans h1 (Eq.symm h2) | exact isT_u _ _ h1 h2 | exact h1.elim)
theorem l_folds_x_le {x : Int} : (m_folds_x st x).1 ≤ 1 := by
  unfold m_folds_x
  repeat' split
  all_goals simp
theorem m_folds_x_st {x : Int} : (m_folds_x st x).2.2 = st := by
  unfold m_folds_x
  repeat' split
  all_goals rfl
def m_least_x (st : GSt) (x : Int) : Nat × (Int → Prop) × GSt := if okS x then says st (fun r => r = ((lst (st.S x.toNat) (st.S x.toNat).length : Nat) : Int)) else bad 1 st
theorem c_least_x (d : gD A G h U st) (hx : gR x) (k : gRes A G h [eI] X Q (m_least_x st x)) : w_X5_least X (A 22) x h Q := by
  unfold w_X5_least
  (first | refine And.intro (show gR _ from by first | assumption | omega | decide | exact b2i_R _ | exact gR_of (by omega) (by omega)) ?_ | refine And.intro (show gHas _ _ _ from by first | exact gW.has (gD.w (by assumption)) (by omega) | exact gD.has (by assumption) | exact gRu.has (gD.ru (by assumption)) | exact gGr.has (gD.gr (by assumption) _ (by omega))) ?_ | refine gCall_mk (by decide) (by decide) ?_ | refine if_yes (by first | assumption | omega | decide | exact b2i_R _ | exact gR_of (by omega) (by omega)) ?_ | refine if_no (by first | assumption | omega | decide | exact b2i_R _ | exact gR_of (by omega) (by omega)) ?_); (first | refine And.intro (show gR _ from by first | assumption | omega | decide | exact b2i_R _ | exact gR_of (by omega) (by omega)) ?_ | refine And.intro (show gHas _ _ _ from by first | exact gW.has (gD.w (by assumption)) (by omega) | exact gD.has (by assumption) | exact gRu.has (gD.ru (by assumption)) | exact gGr.has (gD.gr (by assumption) _ (by omega))) ?_ | refine gCall_mk (by decide) (by decide) ?_ | refine if_yes (by first | assumption | omega | decide | exact b2i_R _ | exact gR_of (by omega) (by omega)) ?_ | refine if_no (by first | assumption | omega | decide | exact b2i_R _ | exact gR_of (by omega) (by omega)) ?_)
  refine c_wordOf d hx (fun q => by rw [m_least_x, if_neg q] at k; exact k.ex d gFr.rf) (fun w hw e => ?_)
  subst e
  rw [m_least_x, if_pos (show okS (w : Int) by omega), Int.toNat_natCast, ← d.s w hw] at k
  exact x_leastOf d.w (by omega) (k.ok d gFr.rf rfl)
theorem m_least_x_u {x : Int} : ∀ p q, (m_least_x st x).2.1 p → (m_least_x st x).2.1 q → p = q := by
  unfold m_least_x
  repeat' split
  all_goals (intro p q h1 h2; first | exact Eq.trans h1 (Eq.symm h2) | exact isT_u _ _ h1 h2 | exact h1.elim)
theorem l_least_x_le {x : Int} : (m_least_x st x).1 ≤ 1 := by
  unfold m_least_x
  repeat' split
  all_goals simp
theorem m_least_x_st {x : Int} : (m_least_x st x).2.2 = st := by
  unfold m_least_x
  repeat' split
  all_goals rfl
def m_isMirrored_x (st : GSt) (x : Int) : Nat × (Int → Prop) × GSt := if okS x then says st (fun r => r = b2i (mir (st.S x.toNat) 0 (st.S x.toNat).length)) else bad 1 st
theorem c_isMirrored_x (d : gD A G h U st) (hx : gR x) (k : gRes A G h [eI] X Q (m_isMirrored_x st x)) : w_X5_isMirrored X (A 22) x h Q := by
  unfold w_X5_isMirrored
  (first | refine And.intro (show gR _ from by first | assumption | omega | decide | exact b2i_R _ | exact gR_of (by omega) (by omega)) ?_ | refine And.intro (show gHas _ _ _ from by first | exact gW.has (gD.w (by assumption)) (by omega) | exact gD.has (by assumption) | exact gRu.has (gD.ru (by assumption)) | exact gGr.has (gD.gr (by assumption) _ (by omega))) ?_ | refine gCall_mk (by decide) (by decide) ?_ | refine if_yes (by first | assumption | omega | decide | exact b2i_R _ | exact gR_of (by omega) (by omega)) ?_ | refine if_no (by first | assumption | omega | decide | exact b2i_R _ | exact gR_of (by omega) (by omega)) ?_); (first | refine And.intro (show gR _ from by first | assumption | omega | decide | exact b2i_R _ | exact gR_of (by omega) (by omega)) ?_ | refine And.intro (show gHas _ _ _ from by first | exact gW.has (gD.w (by assumption)) (by omega) | exact gD.has (by assumption) | exact gRu.has (gD.ru (by assumption)) | exact gGr.has (gD.gr (by assumption) _ (by omega))) ?_ | refine gCall_mk (by decide) (by decide) ?_ | refine if_yes (by first | assumption | omega | decide | exact b2i_R _ | exact gR_of (by omega) (by omega)) ?_ | refine if_no (by first | assumption | omega | decide | exact b2i_R _ | exact gR_of (by omega) (by omega)) ?_)
  refine c_wordOf d hx (fun q => by rw [m_isMirrored_x, if_neg q] at k; exact k.ex d gFr.rf) (fun w hw e => ?_)
  subst e
  rw [m_isMirrored_x, if_pos (show okS (w : Int) by omega), Int.toNat_natCast, ← d.s w hw] at k
  exact d.w.many (by omega) (x_isMir (a := 0) (l := (U w).length) d.w (by omega) rfl rfl (by omega) ⟨b2i_nar _, k.ok d gFr.rf rfl⟩)
theorem m_isMirrored_x_u {x : Int} : ∀ p q, (m_isMirrored_x st x).2.1 p → (m_isMirrored_x st x).2.1 q → p = q := by
  unfold m_isMirrored_x
  repeat' split
  all_goals (intro p q h1 h2; first | exact Eq.trans h1 (Eq.symm h2) | exact isT_u _ _ h1 h2 | exact h1.elim)
theorem l_isMirrored_x_le {x : Int} : (m_isMirrored_x st x).1 ≤ 1 := by
  unfold m_isMirrored_x
  repeat' split
  all_goals simp
theorem m_isMirrored_x_st {x : Int} : (m_isMirrored_x st x).2.2 = st := by
  unfold m_isMirrored_x
  repeat' split
  all_goals rfl
def m_spread_x (st : GSt) (x y : Int) (b : Bool) : Nat × (Int → Prop) × GSt := if okS x then if 0 ≤ y ∧ y ≤ ((st.S x.toNat).length : Int) then says st (fun r => r = sprV (st.S x.toNat) y.toNat (begins (st.S x.toNat).length y.toNat b)) else bad 2 st else bad 1 st
theorem c_spread_x (d : gD A G h U st) {b : Bool} (hx : gR x) (hy : gR y) (hz : z = b2i b) (k : gRes A G h [eI, eA] X Q (m_spread_x st x y b)) : w_X5_spread X (A 22) x y z h Q := by
  unfold w_X5_spread
  (first | refine And.intro (show gR _ from by first | assumption | omega | decide | exact b2i_R _ | exact gR_of (by omega) (by omega)) ?_ | refine And.intro (show gHas _ _ _ from by first | exact gW.has (gD.w (by assumption)) (by omega) | exact gD.has (by assumption) | exact gRu.has (gD.ru (by assumption)) | exact gGr.has (gD.gr (by assumption) _ (by omega))) ?_ | refine gCall_mk (by decide) (by decide) ?_ | refine if_yes (by first | assumption | omega | decide | exact b2i_R _ | exact gR_of (by omega) (by omega)) ?_ | refine if_no (by first | assumption | omega | decide | exact b2i_R _ | exact gR_of (by omega) (by omega)) ?_); (first | refine And.intro (show gR _ from by first | assumption | omega | decide | exact b2i_R _ | exact gR_of (by omega) (by omega)) ?_ | refine And.intro (show gHas _ _ _ from by first | exact gW.has (gD.w (by assumption)) (by omega) | exact gD.has (by assumption) | exact gRu.has (gD.ru (by assumption)) | exact gGr.has (gD.gr (by assumption) _ (by omega))) ?_ | refine gCall_mk (by decide) (by decide) ?_ | refine if_yes (by first | assumption | omega | decide | exact b2i_R _ | exact gR_of (by omega) (by omega)) ?_ | refine if_no (by first | assumption | omega | decide | exact b2i_R _ | exact gR_of (by omega) (by omega)) ?_)
  refine c_wordOf d hx (fun q => by rw [m_spread_x, if_neg q] at k; exact k.ex d gFr.rf) (fun w hw e => ?_)
  subst e
  rw [m_spread_x, if_pos (show okS (w : Int) by omega), Int.toNat_natCast, ← d.s w hw] at k
  have l1 := d.w.le (show w < 11 by omega)
  have bd : ¬ (0 ≤ y ∧ y ≤ ((U w).length : Int)) → w_X5_spread_J24 X Q y z (A w) h 1 6 := fun q => by
    rw [if_neg q] at k
    unfold w_X5_spread_J24 w_X5_spread_J25
    (first | refine And.intro (show gR _ from by first | assumption | omega | decide | exact b2i_R _ | exact gR_of (by omega) (by omega)) ?_ | refine And.intro (show gHas _ _ _ from by first | exact gW.has (gD.w (by assumption)) (by omega) | exact gD.has (by assumption) | exact gRu.has (gD.ru (by assumption)) | exact gGr.has (gD.gr (by assumption) _ (by omega))) ?_ | refine gCall_mk (by decide) (by decide) ?_ | refine if_yes (by first | assumption | omega | decide | exact b2i_R _ | exact gR_of (by omega) (by omega)) ?_ | refine if_no (by first | assumption | omega | decide | exact b2i_R _ | exact gR_of (by omega) (by omega)) ?_)
    exact c_nA0 (k.ex d gFr.rf)
  (first | refine And.intro (show gR _ from by first | assumption | omega | decide | exact b2i_R _ | exact gR_of (by omega) (by omega)) ?_ | refine And.intro (show gHas _ _ _ from by first | exact gW.has (gD.w (by assumption)) (by omega) | exact gD.has (by assumption) | exact gRu.has (gD.ru (by assumption)) | exact gGr.has (gD.gr (by assumption) _ (by omega))) ?_ | refine gCall_mk (by decide) (by decide) ?_ | refine if_yes (by first | assumption | omega | decide | exact b2i_R _ | exact gR_of (by omega) (by omega)) ?_ | refine if_no (by first | assumption | omega | decide | exact b2i_R _ | exact gR_of (by omega) (by omega)) ?_)
  by_cases q1 : y < 0
  · exact if_yes q1 (bd (by omega))
  (first | refine And.intro (show gR _ from by first | assumption | omega | decide | exact b2i_R _ | exact gR_of (by omega) (by omega)) ?_ | refine And.intro (show gHas _ _ _ from by first | exact gW.has (gD.w (by assumption)) (by omega) | exact gD.has (by assumption) | exact gRu.has (gD.ru (by assumption)) | exact gGr.has (gD.gr (by assumption) _ (by omega))) ?_ | refine gCall_mk (by decide) (by decide) ?_ | refine if_yes (by first | assumption | omega | decide | exact b2i_R _ | exact gR_of (by omega) (by omega)) ?_ | refine if_no (by first | assumption | omega | decide | exact b2i_R _ | exact gR_of (by omega) (by omega)) ?_)
  refine d.w.many (by omega) ?_
  (first | refine And.intro (show gR _ from by first | assumption | omega | decide | exact b2i_R _ | exact gR_of (by omega) (by omega)) ?_ | refine And.intro (show gHas _ _ _ from by first | exact gW.has (gD.w (by assumption)) (by omega) | exact gD.has (by assumption) | exact gRu.has (gD.ru (by assumption)) | exact gGr.has (gD.gr (by assumption) _ (by omega))) ?_ | refine gCall_mk (by decide) (by decide) ?_ | refine if_yes (by first | assumption | omega | decide | exact b2i_R _ | exact gR_of (by omega) (by omega)) ?_ | refine if_no (by first | assumption | omega | decide | exact b2i_R _ | exact gR_of (by omega) (by omega)) ?_); (first | refine And.intro (show gR _ from by first | assumption | omega | decide | exact b2i_R _ | exact gR_of (by omega) (by omega)) ?_ | refine And.intro (show gHas _ _ _ from by first | exact gW.has (gD.w (by assumption)) (by omega) | exact gD.has (by assumption) | exact gRu.has (gD.ru (by assumption)) | exact gGr.has (gD.gr (by assumption) _ (by omega))) ?_ | refine gCall_mk (by decide) (by decide) ?_ | refine if_yes (by first | assumption | omega | decide | exact b2i_R _ | exact gR_of (by omega) (by omega)) ?_ | refine if_no (by first | assumption | omega | decide | exact b2i_R _ | exact gR_of (by omega) (by omega)) ?_)
  by_cases q2 : ((U w).length : Int) < y
  · exact if_yes q2 (bd (by omega))
  (first | refine And.intro (show gR _ from by first | assumption | omega | decide | exact b2i_R _ | exact gR_of (by omega) (by omega)) ?_ | refine And.intro (show gHas _ _ _ from by first | exact gW.has (gD.w (by assumption)) (by omega) | exact gD.has (by assumption) | exact gRu.has (gD.ru (by assumption)) | exact gGr.has (gD.gr (by assumption) _ (by omega))) ?_ | refine gCall_mk (by decide) (by decide) ?_ | refine if_yes (by first | assumption | omega | decide | exact b2i_R _ | exact gR_of (by omega) (by omega)) ?_ | refine if_no (by first | assumption | omega | decide | exact b2i_R _ | exact gR_of (by omega) (by omega)) ?_)
  rw [if_pos ⟨by omega, by omega⟩] at k
  unfold w_X5_spread_J25
  (first | refine And.intro (show gR _ from by first | assumption | omega | decide | exact b2i_R _ | exact gR_of (by omega) (by omega)) ?_ | refine And.intro (show gHas _ _ _ from by first | exact gW.has (gD.w (by assumption)) (by omega) | exact gD.has (by assumption) | exact gRu.has (gD.ru (by assumption)) | exact gGr.has (gD.gr (by assumption) _ (by omega))) ?_ | refine gCall_mk (by decide) (by decide) ?_ | refine if_yes (by first | assumption | omega | decide | exact b2i_R _ | exact gR_of (by omega) (by omega)) ?_ | refine if_no (by first | assumption | omega | decide | exact b2i_R _ | exact gR_of (by omega) (by omega)) ?_)
  refine c_nA1 ?_
  exact x_spreadOf d.w (by omega) (show y = (y.toNat : Int) by omega) hz (by omega) (k.ok d gFr.rf rfl)
theorem m_spread_x_u {x y : Int} {b : Bool} : ∀ p q, (m_spread_x st x y b).2.1 p → (m_spread_x st x y b).2.1 q → p = q := by
  unfold m_spread_x
  repeat' split
  all_goals (intro p q h1 h2; first | exact Eq.trans h1 (Eq.symm h2) | exact isT_u _ _ h1 h2 | exact h1.elim)
theorem l_spread_x_le {x y : Int} {b : Bool} : (m_spread_x st x y b).1 ≤ 2 := by
  unfold m_spread_x
  repeat' split
  all_goals simp
theorem m_spread_x_st {x y : Int} {b : Bool} : (m_spread_x st x y b).2.2 = st := by
  unfold m_spread_x
  repeat' split
  all_goals rfl
def m_kinds_x (st : GSt) (x y : Int) (b : Bool) : Nat × (Int → Prop) × GSt := if okS x then if 0 ≤ y ∧ y ≤ ((st.S x.toNat).length : Int) then says st (fun r => r = ((sm (kdF (st.S x.toNat) y.toNat) (begins (st.S x.toNat).length y.toNat b) : Nat) : Int)) else bad 2 st else bad 1 st
theorem c_kinds_x (d : gD A G h U st) {b : Bool} (hx : gR x) (hy : gR y) (hz : z = b2i b) (k : gRes A G h [eI, eA] X Q (m_kinds_x st x y b)) : w_X5_kinds X (A 22) x y z h Q := by
  unfold w_X5_kinds
  (first | refine And.intro (show gR _ from by first | assumption | omega | decide | exact b2i_R _ | exact gR_of (by omega) (by omega)) ?_ | refine And.intro (show gHas _ _ _ from by first | exact gW.has (gD.w (by assumption)) (by omega) | exact gD.has (by assumption) | exact gRu.has (gD.ru (by assumption)) | exact gGr.has (gD.gr (by assumption) _ (by omega))) ?_ | refine gCall_mk (by decide) (by decide) ?_ | refine if_yes (by first | assumption | omega | decide | exact b2i_R _ | exact gR_of (by omega) (by omega)) ?_ | refine if_no (by first | assumption | omega | decide | exact b2i_R _ | exact gR_of (by omega) (by omega)) ?_); (first | refine And.intro (show gR _ from by first | assumption | omega | decide | exact b2i_R _ | exact gR_of (by omega) (by omega)) ?_ | refine And.intro (show gHas _ _ _ from by first | exact gW.has (gD.w (by assumption)) (by omega) | exact gD.has (by assumption) | exact gRu.has (gD.ru (by assumption)) | exact gGr.has (gD.gr (by assumption) _ (by omega))) ?_ | refine gCall_mk (by decide) (by decide) ?_ | refine if_yes (by first | assumption | omega | decide | exact b2i_R _ | exact gR_of (by omega) (by omega)) ?_ | refine if_no (by first | assumption | omega | decide | exact b2i_R _ | exact gR_of (by omega) (by omega)) ?_)
  refine c_wordOf d hx (fun q => by rw [m_kinds_x, if_neg q] at k; exact k.ex d gFr.rf) (fun w hw e => ?_)
  subst e
  rw [m_kinds_x, if_pos (show okS (w : Int) by omega), Int.toNat_natCast, ← d.s w hw] at k
  have l1 := d.w.le (show w < 11 by omega)
  have bd : ¬ (0 ≤ y ∧ y ≤ ((U w).length : Int)) → w_X5_kinds_J24 X Q y z (A w) h 1 6 := fun q => by
    rw [if_neg q] at k
    unfold w_X5_kinds_J24 w_X5_kinds_J25
    (first | refine And.intro (show gR _ from by first | assumption | omega | decide | exact b2i_R _ | exact gR_of (by omega) (by omega)) ?_ | refine And.intro (show gHas _ _ _ from by first | exact gW.has (gD.w (by assumption)) (by omega) | exact gD.has (by assumption) | exact gRu.has (gD.ru (by assumption)) | exact gGr.has (gD.gr (by assumption) _ (by omega))) ?_ | refine gCall_mk (by decide) (by decide) ?_ | refine if_yes (by first | assumption | omega | decide | exact b2i_R _ | exact gR_of (by omega) (by omega)) ?_ | refine if_no (by first | assumption | omega | decide | exact b2i_R _ | exact gR_of (by omega) (by omega)) ?_)
    exact c_nA0 (k.ex d gFr.rf)
  (first | refine And.intro (show gR _ from by first | assumption | omega | decide | exact b2i_R _ | exact gR_of (by omega) (by omega)) ?_ | refine And.intro (show gHas _ _ _ from by first | exact gW.has (gD.w (by assumption)) (by omega) | exact gD.has (by assumption) | exact gRu.has (gD.ru (by assumption)) | exact gGr.has (gD.gr (by assumption) _ (by omega))) ?_ | refine gCall_mk (by decide) (by decide) ?_ | refine if_yes (by first | assumption | omega | decide | exact b2i_R _ | exact gR_of (by omega) (by omega)) ?_ | refine if_no (by first | assumption | omega | decide | exact b2i_R _ | exact gR_of (by omega) (by omega)) ?_)
  by_cases q1 : y < 0
  · exact if_yes q1 (bd (by omega))
  (first | refine And.intro (show gR _ from by first | assumption | omega | decide | exact b2i_R _ | exact gR_of (by omega) (by omega)) ?_ | refine And.intro (show gHas _ _ _ from by first | exact gW.has (gD.w (by assumption)) (by omega) | exact gD.has (by assumption) | exact gRu.has (gD.ru (by assumption)) | exact gGr.has (gD.gr (by assumption) _ (by omega))) ?_ | refine gCall_mk (by decide) (by decide) ?_ | refine if_yes (by first | assumption | omega | decide | exact b2i_R _ | exact gR_of (by omega) (by omega)) ?_ | refine if_no (by first | assumption | omega | decide | exact b2i_R _ | exact gR_of (by omega) (by omega)) ?_)
  refine d.w.many (by omega) ?_
  (first | refine And.intro (show gR _ from by first | assumption | omega | decide | exact b2i_R _ | exact gR_of (by omega) (by omega)) ?_ | refine And.intro (show gHas _ _ _ from by first | exact gW.has (gD.w (by assumption)) (by omega) | exact gD.has (by assumption) | exact gRu.has (gD.ru (by assumption)) | exact gGr.has (gD.gr (by assumption) _ (by omega))) ?_ | refine gCall_mk (by decide) (by decide) ?_ | refine if_yes (by first | assumption | omega | decide | exact b2i_R _ | exact gR_of (by omega) (by omega)) ?_ | refine if_no (by first | assumption | omega | decide | exact b2i_R _ | exact gR_of (by omega) (by omega)) ?_); (first | refine And.intro (show gR _ from by first | assumption | omega | decide | exact b2i_R _ | exact gR_of (by omega) (by omega)) ?_ | refine And.intro (show gHas _ _ _ from by first | exact gW.has (gD.w (by assumption)) (by omega) | exact gD.has (by assumption) | exact gRu.has (gD.ru (by assumption)) | exact gGr.has (gD.gr (by assumption) _ (by omega))) ?_ | refine gCall_mk (by decide) (by decide) ?_ | refine if_yes (by first | assumption | omega | decide | exact b2i_R _ | exact gR_of (by omega) (by omega)) ?_ | refine if_no (by first | assumption | omega | decide | exact b2i_R _ | exact gR_of (by omega) (by omega)) ?_)
  by_cases q2 : ((U w).length : Int) < y
  · exact if_yes q2 (bd (by omega))
  (first | refine And.intro (show gR _ from by first | assumption | omega | decide | exact b2i_R _ | exact gR_of (by omega) (by omega)) ?_ | refine And.intro (show gHas _ _ _ from by first | exact gW.has (gD.w (by assumption)) (by omega) | exact gD.has (by assumption) | exact gRu.has (gD.ru (by assumption)) | exact gGr.has (gD.gr (by assumption) _ (by omega))) ?_ | refine gCall_mk (by decide) (by decide) ?_ | refine if_yes (by first | assumption | omega | decide | exact b2i_R _ | exact gR_of (by omega) (by omega)) ?_ | refine if_no (by first | assumption | omega | decide | exact b2i_R _ | exact gR_of (by omega) (by omega)) ?_)
  rw [if_pos ⟨by omega, by omega⟩] at k
  unfold w_X5_kinds_J25
  (first | refine And.intro (show gR _ from by first | assumption | omega | decide | exact b2i_R _ | exact gR_of (by omega) (by omega)) ?_ | refine And.intro (show gHas _ _ _ from by first | exact gW.has (gD.w (by assumption)) (by omega) | exact gD.has (by assumption) | exact gRu.has (gD.ru (by assumption)) | exact gGr.has (gD.gr (by assumption) _ (by omega))) ?_ | refine gCall_mk (by decide) (by decide) ?_ | refine if_yes (by first | assumption | omega | decide | exact b2i_R _ | exact gR_of (by omega) (by omega)) ?_ | refine if_no (by first | assumption | omega | decide | exact b2i_R _ | exact gR_of (by omega) (by omega)) ?_)
  refine c_nA1 ?_
  exact x_kindsOf d.w (by omega) (show y = (y.toNat : Int) by omega) hz (by omega) (k.ok d gFr.rf rfl)
theorem m_kinds_x_u {x y : Int} {b : Bool} : ∀ p q, (m_kinds_x st x y b).2.1 p → (m_kinds_x st x y b).2.1 q → p = q := by
  unfold m_kinds_x
  repeat' split
  all_goals (intro p q h1 h2; first | exact Eq.trans h1 (Eq.symm h2) | exact isT_u _ _ h1 h2 | exact h1.elim)
theorem l_kinds_x_le {x y : Int} {b : Bool} : (m_kinds_x st x y b).1 ≤ 2 := by
  unfold m_kinds_x
  repeat' split
  all_goals simp
theorem m_kinds_x_st {x y : Int} {b : Bool} : (m_kinds_x st x y b).2.2 = st := by
  unfold m_kinds_x
  repeat' split
  all_goals rfl
theorem x_find_L (d : gD A G h U st) (hw : w < 3) (hv : v < 3) {kc ks : Nat} : ∀ (z i e : Nat), i + e = (U w).length + 1 → e < z → Q (fndU (U w) (U v) e i) h → w_X5_find_L38 X Q z (A w) (A v) (i : Int) h kc ks
  | 0, _, _, _, h1, _ => absurd h1 (Nat.not_lt_zero _)
  | z + 1, i, e, hi, h1, k => by
    have l1 := d.w.le (show w < 11 by omega)
    unfold w_X5_find_L38
    refine d.w.many (by omega) ?_
    (first | refine And.intro (show gR _ from by first | assumption | omega | decide | exact b2i_R _ | exact gR_of (by omega) (by omega)) ?_ | refine And.intro (show gHas _ _ _ from by first | exact gW.has (gD.w (by assumption)) (by omega) | exact gD.has (by assumption) | exact gRu.has (gD.ru (by assumption)) | exact gGr.has (gD.gr (by assumption) _ (by omega))) ?_ | refine gCall_mk (by decide) (by decide) ?_ | refine if_yes (by first | assumption | omega | decide | exact b2i_R _ | exact gR_of (by omega) (by omega)) ?_ | refine if_no (by first | assumption | omega | decide | exact b2i_R _ | exact gR_of (by omega) (by omega)) ?_); (first | refine And.intro (show gR _ from by first | assumption | omega | decide | exact b2i_R _ | exact gR_of (by omega) (by omega)) ?_ | refine And.intro (show gHas _ _ _ from by first | exact gW.has (gD.w (by assumption)) (by omega) | exact gD.has (by assumption) | exact gRu.has (gD.ru (by assumption)) | exact gGr.has (gD.gr (by assumption) _ (by omega))) ?_ | refine gCall_mk (by decide) (by decide) ?_ | refine if_yes (by first | assumption | omega | decide | exact b2i_R _ | exact gR_of (by omega) (by omega)) ?_ | refine if_no (by first | assumption | omega | decide | exact b2i_R _ | exact gR_of (by omega) (by omega)) ?_)
    cases e with
    | zero => exact if_yes (by omega) k
    | succ e =>
      refine if_no (by omega) (s_standsAt d.w (by omega) (by omega) rfl (show i ≤ 1000 by omega) ?_)
      (first | refine And.intro (show gR _ from by first | assumption | omega | decide | exact b2i_R _ | exact gR_of (by omega) (by omega)) ?_ | refine And.intro (show gHas _ _ _ from by first | exact gW.has (gD.w (by assumption)) (by omega) | exact gD.has (by assumption) | exact gRu.has (gD.ru (by assumption)) | exact gGr.has (gD.gr (by assumption) _ (by omega))) ?_ | refine gCall_mk (by decide) (by decide) ?_ | refine if_yes (by first | assumption | omega | decide | exact b2i_R _ | exact gR_of (by omega) (by omega)) ?_ | refine if_no (by first | assumption | omega | decide | exact b2i_R _ | exact gR_of (by omega) (by omega)) ?_)
      unfold fndU at k
      generalize stands (U w) (U v) i = b at k
      cases b
      · refine if_yes rfl ?_
        rw [show (i : Int) + 1 = ((i + 1 : Nat) : Int) by omega]
        exact x_find_L d hw hv z (i + 1) e (by omega) (by omega) k
      · exact if_no (by decide) k
def m_find_x (st : GSt) (x o y : Int) : Nat × (Int → Prop) × GSt := if okS x then if okS o then if 0 ≤ y ∧ y ≤ ((st.S x.toNat).length : Int) then done st (fndU (st.S x.toNat) (st.S o.toNat) ((st.S x.toNat).length + 1 - y.toNat) y.toNat) else bad 1 st else bad 1 st else bad 1 st
theorem c_find_x (d : gD A G h U st) {o : Int} (hx : gR x) (ho : gR o) (hy : gR y) (k : gRes A G h [eI] X Q (m_find_x st x o y)) : w_X5_find X (A 22) x o y h Q := by
  unfold w_X5_find
  (first | refine And.intro (show gR _ from by first | assumption | omega | decide | exact b2i_R _ | exact gR_of (by omega) (by omega)) ?_ | refine And.intro (show gHas _ _ _ from by first | exact gW.has (gD.w (by assumption)) (by omega) | exact gD.has (by assumption) | exact gRu.has (gD.ru (by assumption)) | exact gGr.has (gD.gr (by assumption) _ (by omega))) ?_ | refine gCall_mk (by decide) (by decide) ?_ | refine if_yes (by first | assumption | omega | decide | exact b2i_R _ | exact gR_of (by omega) (by omega)) ?_ | refine if_no (by first | assumption | omega | decide | exact b2i_R _ | exact gR_of (by omega) (by omega)) ?_); (first | refine And.intro (show gR _ from by first | assumption | omega | decide | exact b2i_R _ | exact gR_of (by omega) (by omega)) ?_ | refine And.intro (show gHas _ _ _ from by first | exact gW.has (gD.w (by assumption)) (by omega) | exact gD.has (by assumption) | exact gRu.has (gD.ru (by assumption)) | exact gGr.has (gD.gr (by assumption) _ (by omega))) ?_ | refine gCall_mk (by decide) (by decide) ?_ | refine if_yes (by first | assumption | omega | decide | exact b2i_R _ | exact gR_of (by omega) (by omega)) ?_ | refine if_no (by first | assumption | omega | decide | exact b2i_R _ | exact gR_of (by omega) (by omega)) ?_)
  refine c_wordOf d hx (fun q => by rw [m_find_x, if_neg q] at k; exact k.ex d gFr.rf) (fun w hw e => ?_)
  subst e
  rw [m_find_x, if_pos (show okS (w : Int) by omega), Int.toNat_natCast, ← d.s w hw] at k
  have l1 := d.w.le (show w < 11 by omega)
  (first | refine And.intro (show gR _ from by first | assumption | omega | decide | exact b2i_R _ | exact gR_of (by omega) (by omega)) ?_ | refine And.intro (show gHas _ _ _ from by first | exact gW.has (gD.w (by assumption)) (by omega) | exact gD.has (by assumption) | exact gRu.has (gD.ru (by assumption)) | exact gGr.has (gD.gr (by assumption) _ (by omega))) ?_ | refine gCall_mk (by decide) (by decide) ?_ | refine if_yes (by first | assumption | omega | decide | exact b2i_R _ | exact gR_of (by omega) (by omega)) ?_ | refine if_no (by first | assumption | omega | decide | exact b2i_R _ | exact gR_of (by omega) (by omega)) ?_); (first | refine And.intro (show gR _ from by first | assumption | omega | decide | exact b2i_R _ | exact gR_of (by omega) (by omega)) ?_ | refine And.intro (show gHas _ _ _ from by first | exact gW.has (gD.w (by assumption)) (by omega) | exact gD.has (by assumption) | exact gRu.has (gD.ru (by assumption)) | exact gGr.has (gD.gr (by assumption) _ (by omega))) ?_ | refine gCall_mk (by decide) (by decide) ?_ | refine if_yes (by first | assumption | omega | decide | exact b2i_R _ | exact gR_of (by omega) (by omega)) ?_ | refine if_no (by first | assumption | omega | decide | exact b2i_R _ | exact gR_of (by omega) (by omega)) ?_)
  refine c_wordOf d ho (fun q => by rw [if_neg q] at k; exact k.ex d gFr.rf) (fun v hv e => ?_)
  subst e
  rw [if_pos (show okS (v : Int) by omega), Int.toNat_natCast, ← d.s v hv] at k
  have bd : ¬ (0 ≤ y ∧ y ≤ ((U w).length : Int)) → w_X5_find_J31 X Q y (A w) (A v) h 1 6 := fun q => by
    rw [if_neg q] at k
    unfold w_X5_find_J31 w_X5_find_J32
    (first | refine And.intro (show gR _ from by first | assumption | omega | decide | exact b2i_R _ | exact gR_of (by omega) (by omega)) ?_ | refine And.intro (show gHas _ _ _ from by first | exact gW.has (gD.w (by assumption)) (by omega) | exact gD.has (by assumption) | exact gRu.has (gD.ru (by assumption)) | exact gGr.has (gD.gr (by assumption) _ (by omega))) ?_ | refine gCall_mk (by decide) (by decide) ?_ | refine if_yes (by first | assumption | omega | decide | exact b2i_R _ | exact gR_of (by omega) (by omega)) ?_ | refine if_no (by first | assumption | omega | decide | exact b2i_R _ | exact gR_of (by omega) (by omega)) ?_)
    exact c_nI0 (k.ex d gFr.rf)
  (first | refine And.intro (show gR _ from by first | assumption | omega | decide | exact b2i_R _ | exact gR_of (by omega) (by omega)) ?_ | refine And.intro (show gHas _ _ _ from by first | exact gW.has (gD.w (by assumption)) (by omega) | exact gD.has (by assumption) | exact gRu.has (gD.ru (by assumption)) | exact gGr.has (gD.gr (by assumption) _ (by omega))) ?_ | refine gCall_mk (by decide) (by decide) ?_ | refine if_yes (by first | assumption | omega | decide | exact b2i_R _ | exact gR_of (by omega) (by omega)) ?_ | refine if_no (by first | assumption | omega | decide | exact b2i_R _ | exact gR_of (by omega) (by omega)) ?_)
  by_cases q1 : y < 0
  · exact if_yes q1 (bd (by omega))
  (first | refine And.intro (show gR _ from by first | assumption | omega | decide | exact b2i_R _ | exact gR_of (by omega) (by omega)) ?_ | refine And.intro (show gHas _ _ _ from by first | exact gW.has (gD.w (by assumption)) (by omega) | exact gD.has (by assumption) | exact gRu.has (gD.ru (by assumption)) | exact gGr.has (gD.gr (by assumption) _ (by omega))) ?_ | refine gCall_mk (by decide) (by decide) ?_ | refine if_yes (by first | assumption | omega | decide | exact b2i_R _ | exact gR_of (by omega) (by omega)) ?_ | refine if_no (by first | assumption | omega | decide | exact b2i_R _ | exact gR_of (by omega) (by omega)) ?_)
  refine d.w.many (by omega) ?_
  (first | refine And.intro (show gR _ from by first | assumption | omega | decide | exact b2i_R _ | exact gR_of (by omega) (by omega)) ?_ | refine And.intro (show gHas _ _ _ from by first | exact gW.has (gD.w (by assumption)) (by omega) | exact gD.has (by assumption) | exact gRu.has (gD.ru (by assumption)) | exact gGr.has (gD.gr (by assumption) _ (by omega))) ?_ | refine gCall_mk (by decide) (by decide) ?_ | refine if_yes (by first | assumption | omega | decide | exact b2i_R _ | exact gR_of (by omega) (by omega)) ?_ | refine if_no (by first | assumption | omega | decide | exact b2i_R _ | exact gR_of (by omega) (by omega)) ?_); (first | refine And.intro (show gR _ from by first | assumption | omega | decide | exact b2i_R _ | exact gR_of (by omega) (by omega)) ?_ | refine And.intro (show gHas _ _ _ from by first | exact gW.has (gD.w (by assumption)) (by omega) | exact gD.has (by assumption) | exact gRu.has (gD.ru (by assumption)) | exact gGr.has (gD.gr (by assumption) _ (by omega))) ?_ | refine gCall_mk (by decide) (by decide) ?_ | refine if_yes (by first | assumption | omega | decide | exact b2i_R _ | exact gR_of (by omega) (by omega)) ?_ | refine if_no (by first | assumption | omega | decide | exact b2i_R _ | exact gR_of (by omega) (by omega)) ?_)
  by_cases q2 : ((U w).length : Int) < y
  · exact if_yes q2 (bd (by omega))
  (first | refine And.intro (show gR _ from by first | assumption | omega | decide | exact b2i_R _ | exact gR_of (by omega) (by omega)) ?_ | refine And.intro (show gHas _ _ _ from by first | exact gW.has (gD.w (by assumption)) (by omega) | exact gD.has (by assumption) | exact gRu.has (gD.ru (by assumption)) | exact gGr.has (gD.gr (by assumption) _ (by omega))) ?_ | refine gCall_mk (by decide) (by decide) ?_ | refine if_yes (by first | assumption | omega | decide | exact b2i_R _ | exact gR_of (by omega) (by omega)) ?_ | refine if_no (by first | assumption | omega | decide | exact b2i_R _ | exact gR_of (by omega) (by omega)) ?_)
  rw [if_pos ⟨by omega, by omega⟩] at k
  obtain ⟨y, rfl⟩ : ∃ m : Nat, y = m := ⟨y.toNat, by omega⟩
  unfold w_X5_find_J32
  (first | refine And.intro (show gR _ from by first | assumption | omega | decide | exact b2i_R _ | exact gR_of (by omega) (by omega)) ?_ | refine And.intro (show gHas _ _ _ from by first | exact gW.has (gD.w (by assumption)) (by omega) | exact gD.has (by assumption) | exact gRu.has (gD.ru (by assumption)) | exact gGr.has (gD.gr (by assumption) _ (by omega))) ?_ | refine gCall_mk (by decide) (by decide) ?_ | refine if_yes (by first | assumption | omega | decide | exact b2i_R _ | exact gR_of (by omega) (by omega)) ?_ | refine if_no (by first | assumption | omega | decide | exact b2i_R _ | exact gR_of (by omega) (by omega)) ?_)
  refine c_nI1 ?_
  rw [Int.toNat_natCast] at k
  exact ⟨67, x_find_L d hw hv 67 y ((U w).length + 1 - y) (by omega) (by omega) (k.ok d gFr.rf rfl)⟩
theorem m_find_x_u {x y z : Int} : ∀ p q, (m_find_x st x y z).2.1 p → (m_find_x st x y z).2.1 q → p = q := by
  unfold m_find_x
  repeat' split
  all_goals (intro p q h1 h2; first | exact Eq.trans h1 (Eq.symm h2) | exact isT_u _ _ h1 h2 | exact h1.elim)
theorem l_find_x_le {x y z : Int} : (m_find_x st x y z).1 ≤ 1 := by
  unfold m_find_x
  repeat' split
  all_goals simp
theorem m_find_x_st {x y z : Int} : (m_find_x st x y z).2.2 = st := by
  unfold m_find_x
  repeat' split
  all_goals rfl
def m_findLast_x (st : GSt) (x o y : Int) : Nat × (Int → Prop) × GSt := if okS x then if okS o then if 0 ≤ y ∧ y ≤ ((st.S x.toNat).length : Int) then done st (fndD (st.S x.toNat) (st.S o.toNat) (y.toNat + 1)) else bad 1 st else bad 1 st else bad 1 st
theorem m_findLast_x_u {x y z : Int} : ∀ p q, (m_findLast_x st x y z).2.1 p → (m_findLast_x st x y z).2.1 q → p = q := by
  unfold m_findLast_x
  repeat' split
  all_goals (intro p q h1 h2; first | exact Eq.trans h1 (Eq.symm h2) | exact isT_u _ _ h1 h2 | exact h1.elim)
theorem l_findLast_x_le {x y z : Int} : (m_findLast_x st x y z).1 ≤ 1 := by
  unfold m_findLast_x
  repeat' split
  all_goals simp
theorem m_findLast_x_st {x y z : Int} : (m_findLast_x st x y z).2.2 = st := by
  unfold m_findLast_x
  repeat' split
  all_goals rfl
end EX
