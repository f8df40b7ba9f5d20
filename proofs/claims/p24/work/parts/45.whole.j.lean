/-! The garden as a whole: isSound, digest. -/
section CW
variable {A : Nat → Nat} {G : gaG} {h : gaH} {U : Nat → List Bool} {st : GSt} {X : String → gaH → Prop} {Q : Int → gaH → Prop} {w v g : Nat} {x y z : Int}
theorem gRes.mk {E : List String} {P : Int → Prop} {st' : GSt} (k : ∀ h' U' r, gD A G h' U' st' → gFr A h h' → P r → Q r h') : gRes A G h E X Q (0, P, st') := fun h' U' d f => ⟨fun _ r hr => k h' U' r d f hr, fun q => absurd rfl q⟩
theorem cc_count (d : gD A G h U st) (hw : w < 3) {b : Bool} (hx : x = (w : Int)) (hy : y = b2i b) (k : Q (if b = true then (ones (U w) : Int) else ((U w).length : Int) - (ones (U w) : Int)) h) : w_X5_count X (A 22) x y h Q := by
  subst hy; subst hx
  unfold w_X5_count
  (first | refine And.intro (show gR _ from by first | assumption | omega | decide | exact b2i_R _ | exact gR_of (by omega) (by omega)) ?_ | refine And.intro (show gHas _ _ _ from by first | exact gW.has (gD.w (by assumption)) (by omega) | exact gD.has (by assumption) | exact gRu.has (gD.ru (by assumption)) | exact gGr.has (gD.gr (by assumption) _ (by omega))) ?_ | refine gCall_mk (by decide) (by decide) ?_ | refine if_yes (by first | assumption | omega | decide | exact b2i_R _ | exact gR_of (by omega) (by omega)) ?_ | refine if_no (by first | assumption | omega | decide | exact b2i_R _ | exact gR_of (by omega) (by omega)) ?_); (first | refine And.intro (show gR _ from by first | assumption | omega | decide | exact b2i_R _ | exact gR_of (by omega) (by omega)) ?_ | refine And.intro (show gHas _ _ _ from by first | exact gW.has (gD.w (by assumption)) (by omega) | exact gD.has (by assumption) | exact gRu.has (gD.ru (by assumption)) | exact gGr.has (gD.gr (by assumption) _ (by omega))) ?_ | refine gCall_mk (by decide) (by decide) ?_ | refine if_yes (by first | assumption | omega | decide | exact b2i_R _ | exact gR_of (by omega) (by omega)) ?_ | refine if_no (by first | assumption | omega | decide | exact b2i_R _ | exact gR_of (by omega) (by omega)) ?_)
  refine c_wordOf d (by omega) (fun q => absurd (show okS (w : Int) by omega) q) (fun v hv e => ?_)
  obtain rfl : w = v := by omega
  refine s_upsOf d.w (show w < 11 by omega) ?_
  (first | refine And.intro (show gR _ from by first | assumption | omega | decide | exact b2i_R _ | exact gR_of (by omega) (by omega)) ?_ | refine And.intro (show gHas _ _ _ from by first | exact gW.has (gD.w (by assumption)) (by omega) | exact gD.has (by assumption) | exact gRu.has (gD.ru (by assumption)) | exact gGr.has (gD.gr (by assumption) _ (by omega))) ?_ | refine gCall_mk (by decide) (by decide) ?_ | refine if_yes (by first | assumption | omega | decide | exact b2i_R _ | exact gR_of (by omega) (by omega)) ?_ | refine if_no (by first | assumption | omega | decide | exact b2i_R _ | exact gR_of (by omega) (by omega)) ?_)
  cases b
  · exact if_yes rfl (d.w.many (by omega) k)
  · exact if_no (by decide) k
theorem cc_cross (d : gD A G h U st) (hg : g < 2) (hx : x = (g : Int)) (k : Q (crossG (st.T g)) h) : w_X5_cross X (A 22) x h Q := by
  subst hx
  unfold w_X5_cross
  (first | refine And.intro (show gR _ from by first | assumption | omega | decide | exact b2i_R _ | exact gR_of (by omega) (by omega)) ?_ | refine And.intro (show gHas _ _ _ from by first | exact gW.has (gD.w (by assumption)) (by omega) | exact gD.has (by assumption) | exact gRu.has (gD.ru (by assumption)) | exact gGr.has (gD.gr (by assumption) _ (by omega))) ?_ | refine gCall_mk (by decide) (by decide) ?_ | refine if_yes (by first | assumption | omega | decide | exact b2i_R _ | exact gR_of (by omega) (by omega)) ?_ | refine if_no (by first | assumption | omega | decide | exact b2i_R _ | exact gR_of (by omega) (by omega)) ?_); (first | refine And.intro (show gR _ from by first | assumption | omega | decide | exact b2i_R _ | exact gR_of (by omega) (by omega)) ?_ | refine And.intro (show gHas _ _ _ from by first | exact gW.has (gD.w (by assumption)) (by omega) | exact gD.has (by assumption) | exact gRu.has (gD.ru (by assumption)) | exact gGr.has (gD.gr (by assumption) _ (by omega))) ?_ | refine gCall_mk (by decide) (by decide) ?_ | refine if_yes (by first | assumption | omega | decide | exact b2i_R _ | exact gR_of (by omega) (by omega)) ?_ | refine if_no (by first | assumption | omega | decide | exact b2i_R _ | exact gR_of (by omega) (by omega)) ?_)
  refine c_growthOf d (by omega) (fun q => absurd (show okG (g : Int) by omega) q) (fun v hv e => ?_)
  obtain rfl : g = v := by omega
  obtain ⟨u1, u2⟩ := d.gw g hg
  have hr := d.gr g hg
  refine hr.yo (d.w.many (by omega) (hr.el (s_upsOf d.w (by omega) (hr.el (d.w.many (by omega) (hr.yo (s_upsOf d.w (by omega) ?_)))))))
  rw [u1, u2]; exact k
theorem cc_alike (d : gD A G h U st) (hg : g < 2) (hx : x = (g : Int)) (k : Q (unlike (grw (st.T g)).2 (grw (st.T g)).1) h) : w_X5_alike X (A 22) x h Q := by
  subst hx
  unfold w_X5_alike
  (first | refine And.intro (show gR _ from by first | assumption | omega | decide | exact b2i_R _ | exact gR_of (by omega) (by omega)) ?_ | refine And.intro (show gHas _ _ _ from by first | exact gW.has (gD.w (by assumption)) (by omega) | exact gD.has (by assumption) | exact gRu.has (gD.ru (by assumption)) | exact gGr.has (gD.gr (by assumption) _ (by omega))) ?_ | refine gCall_mk (by decide) (by decide) ?_ | refine if_yes (by first | assumption | omega | decide | exact b2i_R _ | exact gR_of (by omega) (by omega)) ?_ | refine if_no (by first | assumption | omega | decide | exact b2i_R _ | exact gR_of (by omega) (by omega)) ?_); (first | refine And.intro (show gR _ from by first | assumption | omega | decide | exact b2i_R _ | exact gR_of (by omega) (by omega)) ?_ | refine And.intro (show gHas _ _ _ from by first | exact gW.has (gD.w (by assumption)) (by omega) | exact gD.has (by assumption) | exact gRu.has (gD.ru (by assumption)) | exact gGr.has (gD.gr (by assumption) _ (by omega))) ?_ | refine gCall_mk (by decide) (by decide) ?_ | refine if_yes (by first | assumption | omega | decide | exact b2i_R _ | exact gR_of (by omega) (by omega)) ?_ | refine if_no (by first | assumption | omega | decide | exact b2i_R _ | exact gR_of (by omega) (by omega)) ?_)
  refine c_growthOf d (by omega) (fun q => absurd (show okG (g : Int) by omega) q) (fun v hv e => ?_)
  obtain rfl : g = v := by omega
  obtain ⟨u1, u2⟩ := d.gw g hg
  have hr := d.gr g hg
  refine hr.yo (hr.el (s_unlike d.w (by omega) (by omega) ?_))
  rw [u1, u2]; exact k
theorem s_sheetSound (d : gD A G h U st) (hw : w < 3) (hx : x = (w : Int)) (k : ∀ h' U', gD A G h' U' st → gFr A h h' → Q 1 h') : w_X5_isSheetSound X (A 22) x h Q := by
  subst hx
  have l1 := d.w.le (show w < 11 by omega)
  have l2 := ones_le (U w)
  unfold w_X5_isSheetSound
  (first | refine And.intro (show gR _ from by first | assumption | omega | decide | exact b2i_R _ | exact gR_of (by omega) (by omega)) ?_ | refine And.intro (show gHas _ _ _ from by first | exact gW.has (gD.w (by assumption)) (by omega) | exact gD.has (by assumption) | exact gRu.has (gD.ru (by assumption)) | exact gGr.has (gD.gr (by assumption) _ (by omega))) ?_ | refine gCall_mk (by decide) (by decide) ?_ | refine if_yes (by first | assumption | omega | decide | exact b2i_R _ | exact gR_of (by omega) (by omega)) ?_ | refine if_no (by first | assumption | omega | decide | exact b2i_R _ | exact gR_of (by omega) (by omega)) ?_); (first | refine And.intro (show gR _ from by first | assumption | omega | decide | exact b2i_R _ | exact gR_of (by omega) (by omega)) ?_ | refine And.intro (show gHas _ _ _ from by first | exact gW.has (gD.w (by assumption)) (by omega) | exact gD.has (by assumption) | exact gRu.has (gD.ru (by assumption)) | exact gGr.has (gD.gr (by assumption) _ (by omega))) ?_ | refine gCall_mk (by decide) (by decide) ?_ | refine if_yes (by first | assumption | omega | decide | exact b2i_R _ | exact gR_of (by omega) (by omega)) ?_ | refine if_no (by first | assumption | omega | decide | exact b2i_R _ | exact gR_of (by omega) (by omega)) ?_)
  refine c_wordOf d (by omega) (fun q => absurd (show okS (w : Int) by omega) q) (fun v hv e => ?_)
  obtain rfl : w = v := by omega
  refine d.f3 ?_
  (first | refine And.intro (show gR _ from by first | assumption | omega | decide | exact b2i_R _ | exact gR_of (by omega) (by omega)) ?_ | refine And.intro (show gHas _ _ _ from by first | exact gW.has (gD.w (by assumption)) (by omega) | exact gD.has (by assumption) | exact gRu.has (gD.ru (by assumption)) | exact gGr.has (gD.gr (by assumption) _ (by omega))) ?_ | refine gCall_mk (by decide) (by decide) ?_ | refine if_yes (by first | assumption | omega | decide | exact b2i_R _ | exact gR_of (by omega) (by omega)) ?_ | refine if_no (by first | assumption | omega | decide | exact b2i_R _ | exact gR_of (by omega) (by omega)) ?_)
  refine v_takeTurned d.w (show 3 < 11 by decide) (show w < 11 by omega) (by omega) (fun h1 V1 w1 s1 e1 o1 => ?_)
  have d1 := d.b w1 s1 (fun v hv => o1 _ (by omega)) (fun v h5 _ => o1 _ (by omega))
  refine d1.f4 (d1.f3 ?_)
  (first | refine And.intro (show gR _ from by first | assumption | omega | decide | exact b2i_R _ | exact gR_of (by omega) (by omega)) ?_ | refine And.intro (show gHas _ _ _ from by first | exact gW.has (gD.w (by assumption)) (by omega) | exact gD.has (by assumption) | exact gRu.has (gD.ru (by assumption)) | exact gGr.has (gD.gr (by assumption) _ (by omega))) ?_ | refine gCall_mk (by decide) (by decide) ?_ | refine if_yes (by first | assumption | omega | decide | exact b2i_R _ | exact gR_of (by omega) (by omega)) ?_ | refine if_no (by first | assumption | omega | decide | exact b2i_R _ | exact gR_of (by omega) (by omega)) ?_)
  refine v_takeTurned d1.w (show 4 < 11 by decide) (show 3 < 11 by decide) (by omega) (fun h2 V2 w2 s2 e2 o2 => ?_)
  have d2 := d1.b w2 s2 (fun v hv => o2 _ (by omega)) (fun v h5 _ => o2 _ (by omega))
  have a2 : V2 w = U w := (o2 w (by omega)).trans (o1 w (by omega))
  refine d2.w.many (show w < 11 by omega) ?_
  rw [a2]
  (first | refine And.intro (show gR _ from by first | assumption | omega | decide | exact b2i_R _ | exact gR_of (by omega) (by omega)) ?_ | refine And.intro (show gHas _ _ _ from by first | exact gW.has (gD.w (by assumption)) (by omega) | exact gD.has (by assumption) | exact gRu.has (gD.ru (by assumption)) | exact gGr.has (gD.gr (by assumption) _ (by omega))) ?_ | refine gCall_mk (by decide) (by decide) ?_ | refine if_yes (by first | assumption | omega | decide | exact b2i_R _ | exact gR_of (by omega) (by omega)) ?_ | refine if_no (by first | assumption | omega | decide | exact b2i_R _ | exact gR_of (by omega) (by omega)) ?_); (first | refine And.intro (show gR _ from by first | assumption | omega | decide | exact b2i_R _ | exact gR_of (by omega) (by omega)) ?_ | refine And.intro (show gHas _ _ _ from by first | exact gW.has (gD.w (by assumption)) (by omega) | exact gD.has (by assumption) | exact gRu.has (gD.ru (by assumption)) | exact gGr.has (gD.gr (by assumption) _ (by omega))) ?_ | refine gCall_mk (by decide) (by decide) ?_ | refine if_yes (by first | assumption | omega | decide | exact b2i_R _ | exact gR_of (by omega) (by omega)) ?_ | refine if_no (by first | assumption | omega | decide | exact b2i_R _ | exact gR_of (by omega) (by omega)) ?_); (first | refine And.intro (show gR _ from by first | assumption | omega | decide | exact b2i_R _ | exact gR_of (by omega) (by omega)) ?_ | refine And.intro (show gHas _ _ _ from by first | exact gW.has (gD.w (by assumption)) (by omega) | exact gD.has (by assumption) | exact gRu.has (gD.ru (by assumption)) | exact gGr.has (gD.gr (by assumption) _ (by omega))) ?_ | refine gCall_mk (by decide) (by decide) ?_ | refine if_yes (by first | assumption | omega | decide | exact b2i_R _ | exact gR_of (by omega) (by omega)) ?_ | refine if_no (by first | assumption | omega | decide | exact b2i_R _ | exact gR_of (by omega) (by omega)) ?_); (first | refine And.intro (show gR _ from by first | assumption | omega | decide | exact b2i_R _ | exact gR_of (by omega) (by omega)) ?_ | refine And.intro (show gHas _ _ _ from by first | exact gW.has (gD.w (by assumption)) (by omega) | exact gD.has (by assumption) | exact gRu.has (gD.ru (by assumption)) | exact gGr.has (gD.gr (by assumption) _ (by omega))) ?_ | refine gCall_mk (by decide) (by decide) ?_ | refine if_yes (by first | assumption | omega | decide | exact b2i_R _ | exact gR_of (by omega) (by omega)) ?_ | refine if_no (by first | assumption | omega | decide | exact b2i_R _ | exact gR_of (by omega) (by omega)) ?_)
  refine cc_count d2 hw (b := false) rfl rfl ?_
  (first | refine And.intro (show gR _ from by first | assumption | omega | decide | exact b2i_R _ | exact gR_of (by omega) (by omega)) ?_ | refine And.intro (show gHas _ _ _ from by first | exact gW.has (gD.w (by assumption)) (by omega) | exact gD.has (by assumption) | exact gRu.has (gD.ru (by assumption)) | exact gGr.has (gD.gr (by assumption) _ (by omega))) ?_ | refine gCall_mk (by decide) (by decide) ?_ | refine if_yes (by first | assumption | omega | decide | exact b2i_R _ | exact gR_of (by omega) (by omega)) ?_ | refine if_no (by first | assumption | omega | decide | exact b2i_R _ | exact gR_of (by omega) (by omega)) ?_); (first | refine And.intro (show gR _ from by first | assumption | omega | decide | exact b2i_R _ | exact gR_of (by omega) (by omega)) ?_ | refine And.intro (show gHas _ _ _ from by first | exact gW.has (gD.w (by assumption)) (by omega) | exact gD.has (by assumption) | exact gRu.has (gD.ru (by assumption)) | exact gGr.has (gD.gr (by assumption) _ (by omega))) ?_ | refine gCall_mk (by decide) (by decide) ?_ | refine if_yes (by first | assumption | omega | decide | exact b2i_R _ | exact gR_of (by omega) (by omega)) ?_ | refine if_no (by first | assumption | omega | decide | exact b2i_R _ | exact gR_of (by omega) (by omega)) ?_)
  refine cc_count d2 hw (b := true) rfl rfl (d2.w.many (show w < 11 by omega) ?_)
  rw [a2, if_neg (by decide), if_pos rfl]
  (first | refine And.intro (show gR _ from by first | assumption | omega | decide | exact b2i_R _ | exact gR_of (by omega) (by omega)) ?_ | refine And.intro (show gHas _ _ _ from by first | exact gW.has (gD.w (by assumption)) (by omega) | exact gD.has (by assumption) | exact gRu.has (gD.ru (by assumption)) | exact gGr.has (gD.gr (by assumption) _ (by omega))) ?_ | refine gCall_mk (by decide) (by decide) ?_ | refine if_yes (by first | assumption | omega | decide | exact b2i_R _ | exact gR_of (by omega) (by omega)) ?_ | refine if_no (by first | assumption | omega | decide | exact b2i_R _ | exact gR_of (by omega) (by omega)) ?_); (first | refine And.intro (show gR _ from by first | assumption | omega | decide | exact b2i_R _ | exact gR_of (by omega) (by omega)) ?_ | refine And.intro (show gHas _ _ _ from by first | exact gW.has (gD.w (by assumption)) (by omega) | exact gD.has (by assumption) | exact gRu.has (gD.ru (by assumption)) | exact gGr.has (gD.gr (by assumption) _ (by omega))) ?_ | refine gCall_mk (by decide) (by decide) ?_ | refine if_yes (by first | assumption | omega | decide | exact b2i_R _ | exact gR_of (by omega) (by omega)) ?_ | refine if_no (by first | assumption | omega | decide | exact b2i_R _ | exact gR_of (by omega) (by omega)) ?_)
  refine if_yes (by omega) (d2.f4 (s_orderOf d2.w (show w < 11 by omega) (by decide) ?_))
  rw [a2, e2, e1, List.reverse_reverse, (cmpL_eq _ _).mpr rfl]
  (first | refine And.intro (show gR _ from by first | assumption | omega | decide | exact b2i_R _ | exact gR_of (by omega) (by omega)) ?_ | refine And.intro (show gHas _ _ _ from by first | exact gW.has (gD.w (by assumption)) (by omega) | exact gD.has (by assumption) | exact gRu.has (gD.ru (by assumption)) | exact gGr.has (gD.gr (by assumption) _ (by omega))) ?_ | refine gCall_mk (by decide) (by decide) ?_ | refine if_yes (by first | assumption | omega | decide | exact b2i_R _ | exact gR_of (by omega) (by omega)) ?_ | refine if_no (by first | assumption | omega | decide | exact b2i_R _ | exact gR_of (by omega) (by omega)) ?_); (first | refine And.intro (show gR _ from by first | assumption | omega | decide | exact b2i_R _ | exact gR_of (by omega) (by omega)) ?_ | refine And.intro (show gHas _ _ _ from by first | exact gW.has (gD.w (by assumption)) (by omega) | exact gD.has (by assumption) | exact gRu.has (gD.ru (by assumption)) | exact gGr.has (gD.gr (by assumption) _ (by omega))) ?_ | refine gCall_mk (by decide) (by decide) ?_ | refine if_yes (by first | assumption | omega | decide | exact b2i_R _ | exact gR_of (by omega) (by omega)) ?_ | refine if_no (by first | assumption | omega | decide | exact b2i_R _ | exact gR_of (by omega) (by omega)) ?_)
  exact k h2 V2 d2 ((gFr.sm s1).tr (gFr.sm s2))
def soundB (ts : List Nat) : Bool := decide (byL ts = (grw ts).2) && (decide (crossG ts = if ts.length % 2 = 0 then 1 else -1) && decide (unlike (grw ts).2 (grw ts).1 = ((grw ts).2.length : Int) + ((grw ts).1.length : Int) - 2))
theorem crossG_R {ts : List Nat} (hok : gOk ts) : -10000 ≤ crossG ts ∧ crossG ts ≤ 10000 := by
  have h1 := hok.2
  have h2 := hok.elder
  have h3 := ones_le (grw ts).1
  have h4 := ones_le (grw ts).2
  have a1 : (grw ts).2.length * ones (grw ts).1 ≤ 64 * 64 := Nat.mul_le_mul h1 (by omega)
  have a2 : (grw ts).1.length * ones (grw ts).2 ≤ 64 * 64 := Nat.mul_le_mul h2 (by omega)
  unfold crossG
  have e1 : ((grw ts).2.length : Int) * (ones (grw ts).1 : Int) = (((grw ts).2.length * ones (grw ts).1 : Nat) : Int) := by push_cast; rfl
  have e2 : ((grw ts).1.length : Int) * (ones (grw ts).2 : Int) = (((grw ts).1.length * ones (grw ts).2 : Nat) : Int) := by push_cast; rfl
  rw [e1, e2]
  omega
theorem unlike_R {u v : List Bool} (h1 : u.length ≤ 64) (h2 : v.length ≤ 64) : -1 ≤ unlike u v ∧ unlike u v ≤ 1000 := unl_R u v _ 0 (by simp; omega)
theorem s_growthSound (d : gD A G h U st) (hg : g < 2) (hx : x = (g : Int)) (k : ∀ h' U', gD A G h' U' st → gFr A h h' → Q (b2i (soundB (st.T g))) h') : w_X5_isGrowthSound G X (A 22) x h Q := by
  subst hx
  have ho := d.ok g hg
  have hl := ho.len
  have l1 := ho.2
  have l2 := ho.elder
  have r1 := crossG_R ho
  have r2 := unlike_R l1 l2
  unfold w_X5_isGrowthSound
  (first | refine And.intro (show gR _ from by first | assumption | omega | decide | exact b2i_R _ | exact gR_of (by omega) (by omega)) ?_ | refine And.intro (show gHas _ _ _ from by first | exact gW.has (gD.w (by assumption)) (by omega) | exact gD.has (by assumption) | exact gRu.has (gD.ru (by assumption)) | exact gGr.has (gD.gr (by assumption) _ (by omega))) ?_ | refine gCall_mk (by decide) (by decide) ?_ | refine if_yes (by first | assumption | omega | decide | exact b2i_R _ | exact gR_of (by omega) (by omega)) ?_ | refine if_no (by first | assumption | omega | decide | exact b2i_R _ | exact gR_of (by omega) (by omega)) ?_); (first | refine And.intro (show gR _ from by first | assumption | omega | decide | exact b2i_R _ | exact gR_of (by omega) (by omega)) ?_ | refine And.intro (show gHas _ _ _ from by first | exact gW.has (gD.w (by assumption)) (by omega) | exact gD.has (by assumption) | exact gRu.has (gD.ru (by assumption)) | exact gGr.has (gD.gr (by assumption) _ (by omega))) ?_ | refine gCall_mk (by decide) (by decide) ?_ | refine if_yes (by first | assumption | omega | decide | exact b2i_R _ | exact gR_of (by omega) (by omega)) ?_ | refine if_no (by first | assumption | omega | decide | exact b2i_R _ | exact gR_of (by omega) (by omega)) ?_)
  refine c_growthOf d (by omega) (fun q => absurd (show okG (g : Int) by omega) q) (fun v hv e => ?_)
  obtain rfl : g = v := by omega
  refine (d.gr g hg).ct ?_
  have e0 : gRem ((st.T g).length : Int) 2 = (((st.T g).length % 2 : Nat) : Int) := gRem_nat (b := 2) (by omega) (by decide)
  rw [e0]
  (first | refine And.intro (show gR _ from by first | assumption | omega | decide | exact b2i_R _ | exact gR_of (by omega) (by omega)) ?_ | refine And.intro (show gHas _ _ _ from by first | exact gW.has (gD.w (by assumption)) (by omega) | exact gD.has (by assumption) | exact gRu.has (gD.ru (by assumption)) | exact gGr.has (gD.gr (by assumption) _ (by omega))) ?_ | refine gCall_mk (by decide) (by decide) ?_ | refine if_yes (by first | assumption | omega | decide | exact b2i_R _ | exact gR_of (by omega) (by omega)) ?_ | refine if_no (by first | assumption | omega | decide | exact b2i_R _ | exact gR_of (by omega) (by omega)) ?_)
  have main : ∀ t0 : Int, t0 = (if (st.T g).length % 2 = 0 then 1 else -1) → w_X5_isGrowthSound_J20 G X Q (A 22) (g : Int) (A (26 + g)) t0 h 2 12 := by
    intro t0 ht
    have hr := d.gr g hg
    unfold w_X5_isGrowthSound_J20
    refine hr.yo (d.w.many (by omega) (hr.el (d.w.many (by omega) (d.f4 (d.f3 (d.f2 ?_))))))
    (first | refine And.intro (show gR _ from by first | assumption | omega | decide | exact b2i_R _ | exact gR_of (by omega) (by omega)) ?_ | refine And.intro (show gHas _ _ _ from by first | exact gW.has (gD.w (by assumption)) (by omega) | exact gD.has (by assumption) | exact gRu.has (gD.ru (by assumption)) | exact gGr.has (gD.gr (by assumption) _ (by omega))) ?_ | refine gCall_mk (by decide) (by decide) ?_ | refine if_yes (by first | assumption | omega | decide | exact b2i_R _ | exact gR_of (by omega) (by omega)) ?_ | refine if_no (by first | assumption | omega | decide | exact b2i_R _ | exact gR_of (by omega) (by omega)) ?_)
    obtain ⟨u1, u2⟩ := d.gw g hg
    rw [u1, u2]
    refine s_layByRules hg d.w hr d.ru ho d.ne d.mc (show 4 ≠ 3 by omega) (by omega) (by omega) (fun h1 V1 w1 o1 e1 s1 => ?_)
    have d1 := d.b w1 s1 (fun v hv => o1 _ (by omega) (by omega) (by omega) (by omega)) (fun v h5 _ => o1 _ (by omega) (by omega) (by omega) (by omega))
    have hr1 := d1.gr g hg
    obtain ⟨v1, v2⟩ := d1.gw g hg
    refine hr1.yo (d1.f4 (s_orderOf d1.w (by omega) (by omega) ?_))
    rw [e1, v2, (cmpL_eq _ _).mpr rfl]
    (first | refine And.intro (show gR _ from by first | assumption | omega | decide | exact b2i_R _ | exact gR_of (by omega) (by omega)) ?_ | refine And.intro (show gHas _ _ _ from by first | exact gW.has (gD.w (by assumption)) (by omega) | exact gD.has (by assumption) | exact gRu.has (gD.ru (by assumption)) | exact gGr.has (gD.gr (by assumption) _ (by omega))) ?_ | refine gCall_mk (by decide) (by decide) ?_ | refine if_yes (by first | assumption | omega | decide | exact b2i_R _ | exact gR_of (by omega) (by omega)) ?_ | refine if_no (by first | assumption | omega | decide | exact b2i_R _ | exact gR_of (by omega) (by omega)) ?_); (first | refine And.intro (show gR _ from by first | assumption | omega | decide | exact b2i_R _ | exact gR_of (by omega) (by omega)) ?_ | refine And.intro (show gHas _ _ _ from by first | exact gW.has (gD.w (by assumption)) (by omega) | exact gD.has (by assumption) | exact gRu.has (gD.ru (by assumption)) | exact gGr.has (gD.gr (by assumption) _ (by omega))) ?_ | refine gCall_mk (by decide) (by decide) ?_ | refine if_yes (by first | assumption | omega | decide | exact b2i_R _ | exact gR_of (by omega) (by omega)) ?_ | refine if_no (by first | assumption | omega | decide | exact b2i_R _ | exact gR_of (by omega) (by omega)) ?_)
    unfold w_X5_isGrowthSound_J75
    refine d1.f4 ?_
    (first | refine And.intro (show gR _ from by first | assumption | omega | decide | exact b2i_R _ | exact gR_of (by omega) (by omega)) ?_ | refine And.intro (show gHas _ _ _ from by first | exact gW.has (gD.w (by assumption)) (by omega) | exact gD.has (by assumption) | exact gRu.has (gD.ru (by assumption)) | exact gGr.has (gD.gr (by assumption) _ (by omega))) ?_ | refine gCall_mk (by decide) (by decide) ?_ | refine if_yes (by first | assumption | omega | decide | exact b2i_R _ | exact gR_of (by omega) (by omega)) ?_ | refine if_no (by first | assumption | omega | decide | exact b2i_R _ | exact gR_of (by omega) (by omega)) ?_)
    refine s_layByLine hg (show 4 < 11 by decide) ho d1.w hr1 (fun h2 w2 s2 => ?_)
    have d2 := d1.b w2 s2 (fun v hv => pu_ne _ _ (by omega)) (fun v h5 _ => pu_ne _ _ (by omega))
    have f2 := (gFr.sm s1).tr (gFr.sm s2)
    have hr2 := d2.gr g hg
    obtain ⟨z1, z2⟩ := d2.gw g hg
    refine hr2.yo (d2.f4 (s_orderOf d2.w (by omega) (by omega) ?_))
    rw [z2, pu_self]
    have c1 := cmpL_R (grw (st.T g)).2 (byL (st.T g))
    have c2 := cmpL_eq (grw (st.T g)).2 (byL (st.T g))
    have kk := k h2 _ d2 f2
    (first | refine And.intro (show gR _ from by first | assumption | omega | decide | exact b2i_R _ | exact gR_of (by omega) (by omega)) ?_ | refine And.intro (show gHas _ _ _ from by first | exact gW.has (gD.w (by assumption)) (by omega) | exact gD.has (by assumption) | exact gRu.has (gD.ru (by assumption)) | exact gGr.has (gD.gr (by assumption) _ (by omega))) ?_ | refine gCall_mk (by decide) (by decide) ?_ | refine if_yes (by first | assumption | omega | decide | exact b2i_R _ | exact gR_of (by omega) (by omega)) ?_ | refine if_no (by first | assumption | omega | decide | exact b2i_R _ | exact gR_of (by omega) (by omega)) ?_)
    by_cases q1 : byL (st.T g) = (grw (st.T g)).2
    · refine if_yes (c2.mpr q1.symm) ?_
      unfold w_X5_isGrowthSound_J104
      (first | refine And.intro (show gR _ from by first | assumption | omega | decide | exact b2i_R _ | exact gR_of (by omega) (by omega)) ?_ | refine And.intro (show gHas _ _ _ from by first | exact gW.has (gD.w (by assumption)) (by omega) | exact gD.has (by assumption) | exact gRu.has (gD.ru (by assumption)) | exact gGr.has (gD.gr (by assumption) _ (by omega))) ?_ | refine gCall_mk (by decide) (by decide) ?_ | refine if_yes (by first | assumption | omega | decide | exact b2i_R _ | exact gR_of (by omega) (by omega)) ?_ | refine if_no (by first | assumption | omega | decide | exact b2i_R _ | exact gR_of (by omega) (by omega)) ?_); (first | refine And.intro (show gR _ from by first | assumption | omega | decide | exact b2i_R _ | exact gR_of (by omega) (by omega)) ?_ | refine And.intro (show gHas _ _ _ from by first | exact gW.has (gD.w (by assumption)) (by omega) | exact gD.has (by assumption) | exact gRu.has (gD.ru (by assumption)) | exact gGr.has (gD.gr (by assumption) _ (by omega))) ?_ | refine gCall_mk (by decide) (by decide) ?_ | refine if_yes (by first | assumption | omega | decide | exact b2i_R _ | exact gR_of (by omega) (by omega)) ?_ | refine if_no (by first | assumption | omega | decide | exact b2i_R _ | exact gR_of (by omega) (by omega)) ?_); (first | refine And.intro (show gR _ from by first | assumption | omega | decide | exact b2i_R _ | exact gR_of (by omega) (by omega)) ?_ | refine And.intro (show gHas _ _ _ from by first | exact gW.has (gD.w (by assumption)) (by omega) | exact gD.has (by assumption) | exact gRu.has (gD.ru (by assumption)) | exact gGr.has (gD.gr (by assumption) _ (by omega))) ?_ | refine gCall_mk (by decide) (by decide) ?_ | refine if_yes (by first | assumption | omega | decide | exact b2i_R _ | exact gR_of (by omega) (by omega)) ?_ | refine if_no (by first | assumption | omega | decide | exact b2i_R _ | exact gR_of (by omega) (by omega)) ?_); (first | refine And.intro (show gR _ from by first | assumption | omega | decide | exact b2i_R _ | exact gR_of (by omega) (by omega)) ?_ | refine And.intro (show gHas _ _ _ from by first | exact gW.has (gD.w (by assumption)) (by omega) | exact gD.has (by assumption) | exact gRu.has (gD.ru (by assumption)) | exact gGr.has (gD.gr (by assumption) _ (by omega))) ?_ | refine gCall_mk (by decide) (by decide) ?_ | refine if_yes (by first | assumption | omega | decide | exact b2i_R _ | exact gR_of (by omega) (by omega)) ?_ | refine if_no (by first | assumption | omega | decide | exact b2i_R _ | exact gR_of (by omega) (by omega)) ?_)
      refine cc_cross d2 hg rfl ?_
      (first | refine And.intro (show gR _ from by first | assumption | omega | decide | exact b2i_R _ | exact gR_of (by omega) (by omega)) ?_ | refine And.intro (show gHas _ _ _ from by first | exact gW.has (gD.w (by assumption)) (by omega) | exact gD.has (by assumption) | exact gRu.has (gD.ru (by assumption)) | exact gGr.has (gD.gr (by assumption) _ (by omega))) ?_ | refine gCall_mk (by decide) (by decide) ?_ | refine if_yes (by first | assumption | omega | decide | exact b2i_R _ | exact gR_of (by omega) (by omega)) ?_ | refine if_no (by first | assumption | omega | decide | exact b2i_R _ | exact gR_of (by omega) (by omega)) ?_)
      refine And.intro (by rw [ht]; split <;> decide) ?_
      by_cases q2 : crossG (st.T g) = (if (st.T g).length % 2 = 0 then 1 else -1)
      · refine if_yes (by rw [ht]; exact q2) ?_
        (first | refine And.intro (show gR _ from by first | assumption | omega | decide | exact b2i_R _ | exact gR_of (by omega) (by omega)) ?_ | refine And.intro (show gHas _ _ _ from by first | exact gW.has (gD.w (by assumption)) (by omega) | exact gD.has (by assumption) | exact gRu.has (gD.ru (by assumption)) | exact gGr.has (gD.gr (by assumption) _ (by omega))) ?_ | refine gCall_mk (by decide) (by decide) ?_ | refine if_yes (by first | assumption | omega | decide | exact b2i_R _ | exact gR_of (by omega) (by omega)) ?_ | refine if_no (by first | assumption | omega | decide | exact b2i_R _ | exact gR_of (by omega) (by omega)) ?_); (first | refine And.intro (show gR _ from by first | assumption | omega | decide | exact b2i_R _ | exact gR_of (by omega) (by omega)) ?_ | refine And.intro (show gHas _ _ _ from by first | exact gW.has (gD.w (by assumption)) (by omega) | exact gD.has (by assumption) | exact gRu.has (gD.ru (by assumption)) | exact gGr.has (gD.gr (by assumption) _ (by omega))) ?_ | refine gCall_mk (by decide) (by decide) ?_ | refine if_yes (by first | assumption | omega | decide | exact b2i_R _ | exact gR_of (by omega) (by omega)) ?_ | refine if_no (by first | assumption | omega | decide | exact b2i_R _ | exact gR_of (by omega) (by omega)) ?_)
        refine cc_alike d2 hg rfl ?_
        (first | refine And.intro (show gR _ from by first | assumption | omega | decide | exact b2i_R _ | exact gR_of (by omega) (by omega)) ?_ | refine And.intro (show gHas _ _ _ from by first | exact gW.has (gD.w (by assumption)) (by omega) | exact gD.has (by assumption) | exact gRu.has (gD.ru (by assumption)) | exact gGr.has (gD.gr (by assumption) _ (by omega))) ?_ | refine gCall_mk (by decide) (by decide) ?_ | refine if_yes (by first | assumption | omega | decide | exact b2i_R _ | exact gR_of (by omega) (by omega)) ?_ | refine if_no (by first | assumption | omega | decide | exact b2i_R _ | exact gR_of (by omega) (by omega)) ?_); (first | refine And.intro (show gR _ from by first | assumption | omega | decide | exact b2i_R _ | exact gR_of (by omega) (by omega)) ?_ | refine And.intro (show gHas _ _ _ from by first | exact gW.has (gD.w (by assumption)) (by omega) | exact gD.has (by assumption) | exact gRu.has (gD.ru (by assumption)) | exact gGr.has (gD.gr (by assumption) _ (by omega))) ?_ | refine gCall_mk (by decide) (by decide) ?_ | refine if_yes (by first | assumption | omega | decide | exact b2i_R _ | exact gR_of (by omega) (by omega)) ?_ | refine if_no (by first | assumption | omega | decide | exact b2i_R _ | exact gR_of (by omega) (by omega)) ?_)
        by_cases q3 : unlike (grw (st.T g)).2 (grw (st.T g)).1 = ((grw (st.T g)).2.length : Int) + ((grw (st.T g)).1.length : Int) - 2
        · refine if_yes q3 ?_
          rw [soundB, decide_eq_true q1, decide_eq_true q2, decide_eq_true q3] at kk
          exact kk
        · refine if_no q3 ?_
          rw [soundB, decide_eq_true q1, decide_eq_true q2, decide_eq_false q3] at kk
          exact kk
      · refine if_no (by rw [ht]; exact q2) ?_
        rw [soundB, decide_eq_true q1, decide_eq_false q2] at kk
        exact kk
    · refine if_no (fun q => q1 (c2.mp q).symm) ?_
      unfold w_X5_isGrowthSound_J104
      rw [soundB, decide_eq_false q1] at kk
      (repeat (first | refine And.intro (show gR _ from by first | assumption | omega | decide | exact b2i_R _ | exact gR_of (by omega) (by omega)) ?_ | refine And.intro (show gHas _ _ _ from by first | exact gW.has (gD.w (by assumption)) (by omega) | exact gD.has (by assumption) | exact gRu.has (gD.ru (by assumption)) | exact gGr.has (gD.gr (by assumption) _ (by omega))) ?_ | refine gCall_mk (by decide) (by decide) ?_ | refine if_yes (by first | assumption | omega | decide | exact b2i_R _ | exact gR_of (by omega) (by omega)) ?_ | refine if_no (by first | assumption | omega | decide | exact b2i_R _ | exact gR_of (by omega) (by omega)) ?_))
      exact kk
  by_cases q : (st.T g).length % 2 = 0
  · exact if_yes (by omega) (main 1 (by rw [if_pos q]))
  · exact if_no (by omega) (main (-1) (by rw [if_neg q]))
theorem s_isSound_L25 {b0 : Bool} : ∀ (n i : Nat) (h : gaH) (U : Nat → List Bool) (kc ks : Nat), gD A G h U st → i ≤ 2 → 2 - i < n → 3 * (2 - i) ≤ kc → 18 * (2 - i) ≤ ks → (∀ h' U', gD A G h' U' st → gFr A h h' → Q (b2i (((i ≥ 1 ∨ soundB (st.T 0) = true) && (i ≥ 2 ∨ soundB (st.T 1) = true)))) h') → w_X5_isSound_L25 G X Q n (A 22) (i : Int) h kc ks
  | 0, _, _, _, _, _, _, _, h1, _, _, _ => absurd h1 (Nat.not_lt_zero _)
  | n + 1, i, h, U, kc, ks, d, hi, h1, hc, hs, k => by
    unfold w_X5_isSound_L25
    (first | refine And.intro (show gR _ from by first | assumption | omega | decide | exact b2i_R _ | exact gR_of (by omega) (by omega)) ?_ | refine And.intro (show gHas _ _ _ from by first | exact gW.has (gD.w (by assumption)) (by omega) | exact gD.has (by assumption) | exact gRu.has (gD.ru (by assumption)) | exact gGr.has (gD.gr (by assumption) _ (by omega))) ?_ | refine gCall_mk (by decide) (by decide) ?_ | refine if_yes (by first | assumption | omega | decide | exact b2i_R _ | exact gR_of (by omega) (by omega)) ?_ | refine if_no (by first | assumption | omega | decide | exact b2i_R _ | exact gR_of (by omega) (by omega)) ?_)
    by_cases q : 2 ≤ i
    · obtain rfl : i = 2 := by omega
      exact if_yes (by omega) (k h U d gFr.rf)
    · refine if_no (by omega) ?_
      (first | refine And.intro (show gR _ from by first | assumption | omega | decide | exact b2i_R _ | exact gR_of (by omega) (by omega)) ?_ | refine And.intro (show gHas _ _ _ from by first | exact gW.has (gD.w (by assumption)) (by omega) | exact gD.has (by assumption) | exact gRu.has (gD.ru (by assumption)) | exact gGr.has (gD.gr (by assumption) _ (by omega))) ?_ | refine gCall_mk (by decide) (by decide) ?_ | refine if_yes (by first | assumption | omega | decide | exact b2i_R _ | exact gR_of (by omega) (by omega)) ?_ | refine if_no (by first | assumption | omega | decide | exact b2i_R _ | exact gR_of (by omega) (by omega)) ?_)
      refine gCall_mk (by omega) (by omega) (s_growthSound d (show i < 2 by omega) rfl (fun h1 U1 d1 f1 => ?_))
      (first | refine And.intro (show gR _ from by first | assumption | omega | decide | exact b2i_R _ | exact gR_of (by omega) (by omega)) ?_ | refine And.intro (show gHas _ _ _ from by first | exact gW.has (gD.w (by assumption)) (by omega) | exact gD.has (by assumption) | exact gRu.has (gD.ru (by assumption)) | exact gGr.has (gD.gr (by assumption) _ (by omega))) ?_ | refine gCall_mk (by decide) (by decide) ?_ | refine if_yes (by first | assumption | omega | decide | exact b2i_R _ | exact gR_of (by omega) (by omega)) ?_ | refine if_no (by first | assumption | omega | decide | exact b2i_R _ | exact gR_of (by omega) (by omega)) ?_)
      by_cases e : soundB (st.T i) = true
      · rw [e]
        (first | refine And.intro (show gR _ from by first | assumption | omega | decide | exact b2i_R _ | exact gR_of (by omega) (by omega)) ?_ | refine And.intro (show gHas _ _ _ from by first | exact gW.has (gD.w (by assumption)) (by omega) | exact gD.has (by assumption) | exact gRu.has (gD.ru (by assumption)) | exact gGr.has (gD.gr (by assumption) _ (by omega))) ?_ | refine gCall_mk (by decide) (by decide) ?_ | refine if_yes (by first | assumption | omega | decide | exact b2i_R _ | exact gR_of (by omega) (by omega)) ?_ | refine if_no (by first | assumption | omega | decide | exact b2i_R _ | exact gR_of (by omega) (by omega)) ?_)
        rw [show (i : Int) + 1 = ((i + 1 : Nat) : Int) by omega]
        refine s_isSound_L25 (b0 := b0) n (i + 1) h1 U1 _ _ d1 (by omega) (by omega) (by omega) (by omega) (fun h2 U2 d2 f2 => ?_)
        have kk := k h2 U2 d2 (f1.tr f2)
        rcases (show i = 0 ∨ i = 1 by omega) with rfl | rfl
        · simpa [e] using kk
        · simpa [e] using kk
      · rw [Bool.not_eq_true] at e
        rw [e]
        (first | refine And.intro (show gR _ from by first | assumption | omega | decide | exact b2i_R _ | exact gR_of (by omega) (by omega)) ?_ | refine And.intro (show gHas _ _ _ from by first | exact gW.has (gD.w (by assumption)) (by omega) | exact gD.has (by assumption) | exact gRu.has (gD.ru (by assumption)) | exact gGr.has (gD.gr (by assumption) _ (by omega))) ?_ | refine gCall_mk (by decide) (by decide) ?_ | refine if_yes (by first | assumption | omega | decide | exact b2i_R _ | exact gR_of (by omega) (by omega)) ?_ | refine if_no (by first | assumption | omega | decide | exact b2i_R _ | exact gR_of (by omega) (by omega)) ?_)
        have kk := k h1 U1 d1 f1
        rcases (show i = 0 ∨ i = 1 by omega) with rfl | rfl
        · simpa [e, b2i] using kk
        · simpa [e, b2i] using kk
theorem s_isSound_L2 : ∀ (n i : Nat) (h : gaH) (U : Nat → List Bool) (kc ks : Nat), gD A G h U st → i ≤ 3 → 3 - i < n → 3 * (3 - i) + 6 ≤ kc → 18 * (3 - i) + 36 ≤ ks → (∀ h' U', gD A G h' U' st → gFr A h h' → Q (b2i (soundB (st.T 0) && soundB (st.T 1))) h') → w_X5_isSound_L2 G X Q n (A 22) (i : Int) h kc ks
  | 0, _, _, _, _, _, _, _, h1, _, _, _ => absurd h1 (Nat.not_lt_zero _)
  | n + 1, i, h, U, kc, ks, d, hi, h1, hc, hs, k => by
    unfold w_X5_isSound_L2
    (first | refine And.intro (show gR _ from by first | assumption | omega | decide | exact b2i_R _ | exact gR_of (by omega) (by omega)) ?_ | refine And.intro (show gHas _ _ _ from by first | exact gW.has (gD.w (by assumption)) (by omega) | exact gD.has (by assumption) | exact gRu.has (gD.ru (by assumption)) | exact gGr.has (gD.gr (by assumption) _ (by omega))) ?_ | refine gCall_mk (by decide) (by decide) ?_ | refine if_yes (by first | assumption | omega | decide | exact b2i_R _ | exact gR_of (by omega) (by omega)) ?_ | refine if_no (by first | assumption | omega | decide | exact b2i_R _ | exact gR_of (by omega) (by omega)) ?_)
    by_cases q : 3 ≤ i
    · refine if_yes (by omega) ⟨3, s_isSound_L25 (b0 := true) 3 0 h U kc ks d (by decide) (by decide) (by omega) (by omega) (fun h' U' d' f' => ?_)⟩
      have kk := k h' U' d' f'
      simpa using kk
    · refine if_no (by omega) ?_
      (first | refine And.intro (show gR _ from by first | assumption | omega | decide | exact b2i_R _ | exact gR_of (by omega) (by omega)) ?_ | refine And.intro (show gHas _ _ _ from by first | exact gW.has (gD.w (by assumption)) (by omega) | exact gD.has (by assumption) | exact gRu.has (gD.ru (by assumption)) | exact gGr.has (gD.gr (by assumption) _ (by omega))) ?_ | refine gCall_mk (by decide) (by decide) ?_ | refine if_yes (by first | assumption | omega | decide | exact b2i_R _ | exact gR_of (by omega) (by omega)) ?_ | refine if_no (by first | assumption | omega | decide | exact b2i_R _ | exact gR_of (by omega) (by omega)) ?_)
      refine gCall_mk (by omega) (by omega) (s_sheetSound d (show i < 3 by omega) rfl (fun h1 U1 d1 f1 => ?_))
      (first | refine And.intro (show gR _ from by first | assumption | omega | decide | exact b2i_R _ | exact gR_of (by omega) (by omega)) ?_ | refine And.intro (show gHas _ _ _ from by first | exact gW.has (gD.w (by assumption)) (by omega) | exact gD.has (by assumption) | exact gRu.has (gD.ru (by assumption)) | exact gGr.has (gD.gr (by assumption) _ (by omega))) ?_ | refine gCall_mk (by decide) (by decide) ?_ | refine if_yes (by first | assumption | omega | decide | exact b2i_R _ | exact gR_of (by omega) (by omega)) ?_ | refine if_no (by first | assumption | omega | decide | exact b2i_R _ | exact gR_of (by omega) (by omega)) ?_); (first | refine And.intro (show gR _ from by first | assumption | omega | decide | exact b2i_R _ | exact gR_of (by omega) (by omega)) ?_ | refine And.intro (show gHas _ _ _ from by first | exact gW.has (gD.w (by assumption)) (by omega) | exact gD.has (by assumption) | exact gRu.has (gD.ru (by assumption)) | exact gGr.has (gD.gr (by assumption) _ (by omega))) ?_ | refine gCall_mk (by decide) (by decide) ?_ | refine if_yes (by first | assumption | omega | decide | exact b2i_R _ | exact gR_of (by omega) (by omega)) ?_ | refine if_no (by first | assumption | omega | decide | exact b2i_R _ | exact gR_of (by omega) (by omega)) ?_)
      rw [show (i : Int) + 1 = ((i + 1 : Nat) : Int) by omega]
      exact s_isSound_L2 n (i + 1) h1 U1 _ _ d1 (by omega) (by omega) (by omega) (by omega) (fun h2 U2 d2 f2 => k h2 U2 d2 (f1.tr f2))
def m_isSound (st : GSt) : Nat × (Int → Prop) × GSt := done st (b2i (soundB (st.T 0) && soundB (st.T 1)))
theorem c_isSound {E : List String} (d : gD A G h U st) (k : gRes A G h E X Q (m_isSound st)) : w_X5_isSound G X (A 22) h Q :=
  ⟨4, s_isSound_L2 4 0 h U 18 108 d (by decide) (by decide) (by decide) (by decide) (fun h' U' d' f' => k.ok d' f' rfl)⟩
end CW
/-! The garden's digest, as far as it goes through. -/
section CD
variable {A : Nat → Nat} {G : gaG} {h : gaH} {U : Nat → List Bool} {st : GSt} {X : String → gaH → Prop} {w v g : Nat} {x y z : Int}
theorem gRes.to {E : List String} {Q : Int → gaH → Prop} {o : Nat × (Int → Prop) × GSt} {P : Int → Prop} {st' : GSt} (e : o = (0, P, st')) (k : ∀ h' U' r, gD A G h' U' st' → gFr A h h' → P r → Q r h') : gRes A G h E X Q o := by subst e; exact gRes.mk k
theorem s_digestSheet_L {Q : Int64 → gaH → Prop} (hw : w < 3) : ∀ (n i : Nat) (h : gaH) (U : Nat → List Bool) (kc ks : Nat) (t : Int64), gD A G h U st → i ≤ (U w).length → (U w).length - i < n → 6 ≤ kc → 36 ≤ ks → (∀ h' U' r, gD A G h' U' st → gFr A h h' → Q r h') → w_X5_digestSheet_L22 X Q n (A 22) (w : Int) (A w) t (i : Int) h kc ks
  | 0, _, _, _, _, _, _, _, _, h1, _, _, _ => absurd h1 (Nat.not_lt_zero _)
  | n + 1, i, h, U, kc, ks, t, d, hi, h1, hc, hs, k => by
    have l1 := d.w.le (show w < 11 by omega)
    have hS : okS (w : Int) := by omega
    unfold w_X5_digestSheet_L22
    refine d.w.many (by omega) ?_
    (first | refine And.intro (show gR _ from by first | assumption | omega | decide | exact b2i_R _ | exact gR_of (by omega) (by omega)) ?_ | refine And.intro (show gHas _ _ _ from by first | exact gW.has (gD.w (by assumption)) (by omega) | exact gD.has (by assumption) | exact gRu.has (gD.ru (by assumption)) | exact gGr.has (gD.gr (by assumption) _ (by omega))) ?_ | refine gCall_mk (by decide) (by decide) ?_ | refine if_yes (by first | assumption | omega | decide | exact b2i_R _ | exact gR_of (by omega) (by omega)) ?_ | refine if_no (by first | assumption | omega | decide | exact b2i_R _ | exact gR_of (by omega) (by omega)) ?_); (first | refine And.intro (show gR _ from by first | assumption | omega | decide | exact b2i_R _ | exact gR_of (by omega) (by omega)) ?_ | refine And.intro (show gHas _ _ _ from by first | exact gW.has (gD.w (by assumption)) (by omega) | exact gD.has (by assumption) | exact gRu.has (gD.ru (by assumption)) | exact gGr.has (gD.gr (by assumption) _ (by omega))) ?_ | refine gCall_mk (by decide) (by decide) ?_ | refine if_yes (by first | assumption | omega | decide | exact b2i_R _ | exact gR_of (by omega) (by omega)) ?_ | refine if_no (by first | assumption | omega | decide | exact b2i_R _ | exact gR_of (by omega) (by omega)) ?_)
    by_cases q : (U w).length ≤ i
    · refine if_yes (by omega) ?_
      (first | refine And.intro (show gR _ from by first | assumption | omega | decide | exact b2i_R _ | exact gR_of (by omega) (by omega)) ?_ | refine And.intro (show gHas _ _ _ from by first | exact gW.has (gD.w (by assumption)) (by omega) | exact gD.has (by assumption) | exact gRu.has (gD.ru (by assumption)) | exact gGr.has (gD.gr (by assumption) _ (by omega))) ?_ | refine gCall_mk (by decide) (by decide) ?_ | refine if_yes (by first | assumption | omega | decide | exact b2i_R _ | exact gR_of (by omega) (by omega)) ?_ | refine if_no (by first | assumption | omega | decide | exact b2i_R _ | exact gR_of (by omega) (by omega)) ?_)
      refine gCall_mk (by omega) (by omega) (c_count d (b := true) (by omega) rfl (gRes.to (if_pos hS) (fun h1 U1 r1 d1 f1 p1 => ?_)))
      show gHas _ _ _ ∧ _
      (first | refine And.intro (show gR _ from by first | assumption | omega | decide | exact b2i_R _ | exact gR_of (by omega) (by omega)) ?_ | refine And.intro (show gHas _ _ _ from by first | exact gW.has (gD.w (by assumption)) (by omega) | exact gD.has (by assumption) | exact gRu.has (gD.ru (by assumption)) | exact gGr.has (gD.gr (by assumption) _ (by omega))) ?_ | refine gCall_mk (by decide) (by decide) ?_ | refine if_yes (by first | assumption | omega | decide | exact b2i_R _ | exact gR_of (by omega) (by omega)) ?_ | refine if_no (by first | assumption | omega | decide | exact b2i_R _ | exact gR_of (by omega) (by omega)) ?_)
      refine gCall_mk (by omega) (by omega) (c_isMirrored d1 (by omega) (gRes.to (if_pos hS) (fun h2 U2 r2 d2 f2 p2 => ?_)))
      have one : ∀ {K : Int → gaH → Prop}, (∀ r, K r h2) → w_X5_oneIf r2 h2 K := fun k => by
        unfold w_X5_oneIf
        refine ⟨by rcases p2 with rfl | rfl <;> decide, ite_both (fun _ => k _) (fun _ => k _)⟩
      refine one (fun r3 => ?_)
      show gHas _ _ _ ∧ _
      (first | refine And.intro (show gR _ from by first | assumption | omega | decide | exact b2i_R _ | exact gR_of (by omega) (by omega)) ?_ | refine And.intro (show gHas _ _ _ from by first | exact gW.has (gD.w (by assumption)) (by omega) | exact gD.has (by assumption) | exact gRu.has (gD.ru (by assumption)) | exact gGr.has (gD.gr (by assumption) _ (by omega))) ?_ | refine gCall_mk (by decide) (by decide) ?_ | refine if_yes (by first | assumption | omega | decide | exact b2i_R _ | exact gR_of (by omega) (by omega)) ?_ | refine if_no (by first | assumption | omega | decide | exact b2i_R _ | exact gR_of (by omega) (by omega)) ?_)
      refine gCall_mk (by omega) (by omega) (c_times d2 (by omega) (gRes.to (if_pos hS) (fun h3 U3 r4 d3 f3 p3 => ?_)))
      show gHas _ _ _ ∧ _
      (first | refine And.intro (show gR _ from by first | assumption | omega | decide | exact b2i_R _ | exact gR_of (by omega) (by omega)) ?_ | refine And.intro (show gHas _ _ _ from by first | exact gW.has (gD.w (by assumption)) (by omega) | exact gD.has (by assumption) | exact gRu.has (gD.ru (by assumption)) | exact gGr.has (gD.gr (by assumption) _ (by omega))) ?_ | refine gCall_mk (by decide) (by decide) ?_ | refine if_yes (by first | assumption | omega | decide | exact b2i_R _ | exact gR_of (by omega) (by omega)) ?_ | refine if_no (by first | assumption | omega | decide | exact b2i_R _ | exact gR_of (by omega) (by omega)) ?_)
      refine gCall_mk (by omega) (by omega) (c_overlaps d3 (by omega) (gRes.to (if_pos hS) (fun h4 U4 r5 d4 f4 p4 => ?_)))
      show gHas _ _ _ ∧ _
      (first | refine And.intro (show gR _ from by first | assumption | omega | decide | exact b2i_R _ | exact gR_of (by omega) (by omega)) ?_ | refine And.intro (show gHas _ _ _ from by first | exact gW.has (gD.w (by assumption)) (by omega) | exact gD.has (by assumption) | exact gRu.has (gD.ru (by assumption)) | exact gGr.has (gD.gr (by assumption) _ (by omega))) ?_ | refine gCall_mk (by decide) (by decide) ?_ | refine if_yes (by first | assumption | omega | decide | exact b2i_R _ | exact gR_of (by omega) (by omega)) ?_ | refine if_no (by first | assumption | omega | decide | exact b2i_R _ | exact gR_of (by omega) (by omega)) ?_)
      refine gCall_mk (by omega) (by omega) (c_folds d4 (by omega) (gRes.to (if_pos hS) (fun h5 U5 r6 d5 f5 p5 => ?_)))
      show gHas _ _ _ ∧ _
      (first | refine And.intro (show gR _ from by first | assumption | omega | decide | exact b2i_R _ | exact gR_of (by omega) (by omega)) ?_ | refine And.intro (show gHas _ _ _ from by first | exact gW.has (gD.w (by assumption)) (by omega) | exact gD.has (by assumption) | exact gRu.has (gD.ru (by assumption)) | exact gGr.has (gD.gr (by assumption) _ (by omega))) ?_ | refine gCall_mk (by decide) (by decide) ?_ | refine if_yes (by first | assumption | omega | decide | exact b2i_R _ | exact gR_of (by omega) (by omega)) ?_ | refine if_no (by first | assumption | omega | decide | exact b2i_R _ | exact gR_of (by omega) (by omega)) ?_)
      refine gCall_mk (by omega) (by omega) (c_least d5 (by omega) (gRes.to (if_pos hS) (fun h6 U6 r7 d6 f6 p6 => ?_)))
      exact k h6 U6 _ d6 (f1.tr (f2.tr (f3.tr (f4.tr (f5.tr f6)))))
    · refine if_no (by omega) ?_
      (first | refine And.intro (show gR _ from by first | assumption | omega | decide | exact b2i_R _ | exact gR_of (by omega) (by omega)) ?_ | refine And.intro (show gHas _ _ _ from by first | exact gW.has (gD.w (by assumption)) (by omega) | exact gD.has (by assumption) | exact gRu.has (gD.ru (by assumption)) | exact gGr.has (gD.gr (by assumption) _ (by omega))) ?_ | refine gCall_mk (by decide) (by decide) ?_ | refine if_yes (by first | assumption | omega | decide | exact b2i_R _ | exact gR_of (by omega) (by omega)) ?_ | refine if_no (by first | assumption | omega | decide | exact b2i_R _ | exact gR_of (by omega) (by omega)) ?_)
      refine s_isUp d.w (show w < 11 by omega) rfl (by omega) ?_
      (first | refine And.intro (show gR _ from by first | assumption | omega | decide | exact b2i_R _ | exact gR_of (by omega) (by omega)) ?_ | refine And.intro (show gHas _ _ _ from by first | exact gW.has (gD.w (by assumption)) (by omega) | exact gD.has (by assumption) | exact gRu.has (gD.ru (by assumption)) | exact gGr.has (gD.gr (by assumption) _ (by omega))) ?_ | refine gCall_mk (by decide) (by decide) ?_ | refine if_yes (by first | assumption | omega | decide | exact b2i_R _ | exact gR_of (by omega) (by omega)) ?_ | refine if_no (by first | assumption | omega | decide | exact b2i_R _ | exact gR_of (by omega) (by omega)) ?_)
      have go : ∀ t2 : Int64, w_X5_digestSheet_J51 X Q (w_X5_digestSheet_L22 X Q n) (A 22) (w : Int) (A w) (i : Int) t t2 h kc ks := fun t2 => by
        unfold w_X5_digestSheet_J51 w_X5_digestWith
        rw [show (i : Int) + 1 = ((i + 1 : Nat) : Int) by omega]
        exact s_digestSheet_L hw n (i + 1) h U kc ks _ d (by omega) (by omega) hc hs k
      exact ite_both (fun _ => go _) (fun _ => go _)
theorem s_digestSheet {Q : Int64 → gaH → Prop} {t : Int64} (d : gD A G h U st) (hw : w < 3) (k : ∀ h' U' r, gD A G h' U' st → gFr A h h' → Q r h') : w_X5_digestSheet X (A 22) t (w : Int) h Q := by
  have l1 := d.w.le (show w < 11 by omega)
  unfold w_X5_digestSheet
  (first | refine And.intro (show gR _ from by first | assumption | omega | decide | exact b2i_R _ | exact gR_of (by omega) (by omega)) ?_ | refine And.intro (show gHas _ _ _ from by first | exact gW.has (gD.w (by assumption)) (by omega) | exact gD.has (by assumption) | exact gRu.has (gD.ru (by assumption)) | exact gGr.has (gD.gr (by assumption) _ (by omega))) ?_ | refine gCall_mk (by decide) (by decide) ?_ | refine if_yes (by first | assumption | omega | decide | exact b2i_R _ | exact gR_of (by omega) (by omega)) ?_ | refine if_no (by first | assumption | omega | decide | exact b2i_R _ | exact gR_of (by omega) (by omega)) ?_); (first | refine And.intro (show gR _ from by first | assumption | omega | decide | exact b2i_R _ | exact gR_of (by omega) (by omega)) ?_ | refine And.intro (show gHas _ _ _ from by first | exact gW.has (gD.w (by assumption)) (by omega) | exact gD.has (by assumption) | exact gRu.has (gD.ru (by assumption)) | exact gGr.has (gD.gr (by assumption) _ (by omega))) ?_ | refine gCall_mk (by decide) (by decide) ?_ | refine if_yes (by first | assumption | omega | decide | exact b2i_R _ | exact gR_of (by omega) (by omega)) ?_ | refine if_no (by first | assumption | omega | decide | exact b2i_R _ | exact gR_of (by omega) (by omega)) ?_)
  refine c_wordOf d (by omega) (fun q => absurd (show okS (w : Int) by omega) q) (fun v hv e => ?_)
  obtain rfl : w = v := by omega
  refine d.w.many (by omega) ⟨66, s_digestSheet_L hw 66 0 h U _ _ _ d (Nat.zero_le _) (by omega) (by decide) (by decide) k⟩
theorem s_digestGrowth_L {Q : Int64 → gaH → Prop} (hg : g < 2) : ∀ (n i : Nat) (h : gaH) (U : Nat → List Bool) (kc ks : Nat) (t : Int64), gD A G h U st → i ≤ (st.T g).length → (st.T g).length - i < n → 6 ≤ kc → 36 ≤ ks → (∀ h' U' r, gD A G h' U' st → gFr A h h' → Q r h') → w_X5_digestGrowth_L22 X Q n (A 22) (g : Int) (A (26 + g)) t (i : Int) h kc ks
  | 0, _, _, _, _, _, _, _, _, h1, _, _, _ => absurd h1 (Nat.not_lt_zero _)
  | n + 1, i, h, U, kc, ks, t, d, hi, h1, hc, hs, k => by
    have l1 := (d.ok g hg).len
    have hS : okG (g : Int) := by omega
    unfold w_X5_digestGrowth_L22
    refine (d.gr g hg).ct ?_
    (first | refine And.intro (show gR _ from by first | assumption | omega | decide | exact b2i_R _ | exact gR_of (by omega) (by omega)) ?_ | refine And.intro (show gHas _ _ _ from by first | exact gW.has (gD.w (by assumption)) (by omega) | exact gD.has (by assumption) | exact gRu.has (gD.ru (by assumption)) | exact gGr.has (gD.gr (by assumption) _ (by omega))) ?_ | refine gCall_mk (by decide) (by decide) ?_ | refine if_yes (by first | assumption | omega | decide | exact b2i_R _ | exact gR_of (by omega) (by omega)) ?_ | refine if_no (by first | assumption | omega | decide | exact b2i_R _ | exact gR_of (by omega) (by omega)) ?_); (first | refine And.intro (show gR _ from by first | assumption | omega | decide | exact b2i_R _ | exact gR_of (by omega) (by omega)) ?_ | refine And.intro (show gHas _ _ _ from by first | exact gW.has (gD.w (by assumption)) (by omega) | exact gD.has (by assumption) | exact gRu.has (gD.ru (by assumption)) | exact gGr.has (gD.gr (by assumption) _ (by omega))) ?_ | refine gCall_mk (by decide) (by decide) ?_ | refine if_yes (by first | assumption | omega | decide | exact b2i_R _ | exact gR_of (by omega) (by omega)) ?_ | refine if_no (by first | assumption | omega | decide | exact b2i_R _ | exact gR_of (by omega) (by omega)) ?_)
    by_cases q : (st.T g).length ≤ i
    · refine if_yes (by omega) ?_
      (first | refine And.intro (show gR _ from by first | assumption | omega | decide | exact b2i_R _ | exact gR_of (by omega) (by omega)) ?_ | refine And.intro (show gHas _ _ _ from by first | exact gW.has (gD.w (by assumption)) (by omega) | exact gD.has (by assumption) | exact gRu.has (gD.ru (by assumption)) | exact gGr.has (gD.gr (by assumption) _ (by omega))) ?_ | refine gCall_mk (by decide) (by decide) ?_ | refine if_yes (by first | assumption | omega | decide | exact b2i_R _ | exact gR_of (by omega) (by omega)) ?_ | refine if_no (by first | assumption | omega | decide | exact b2i_R _ | exact gR_of (by omega) (by omega)) ?_)
      refine gCall_mk (by omega) (by omega) (c_size d (b := false) (by omega) rfl (gRes.to (if_pos hS) (fun h1 U1 r1 d1 f1 p1 => ?_)))
      show gHas _ _ _ ∧ _
      (first | refine And.intro (show gR _ from by first | assumption | omega | decide | exact b2i_R _ | exact gR_of (by omega) (by omega)) ?_ | refine And.intro (show gHas _ _ _ from by first | exact gW.has (gD.w (by assumption)) (by omega) | exact gD.has (by assumption) | exact gRu.has (gD.ru (by assumption)) | exact gGr.has (gD.gr (by assumption) _ (by omega))) ?_ | refine gCall_mk (by decide) (by decide) ?_ | refine if_yes (by first | assumption | omega | decide | exact b2i_R _ | exact gR_of (by omega) (by omega)) ?_ | refine if_no (by first | assumption | omega | decide | exact b2i_R _ | exact gR_of (by omega) (by omega)) ?_)
      refine gCall_mk (by omega) (by omega) (c_size d1 (b := true) (by omega) rfl (gRes.to (if_pos hS) (fun h2 U2 r2 d2 f2 p2 => ?_)))
      show gHas _ _ _ ∧ _
      (first | refine And.intro (show gR _ from by first | assumption | omega | decide | exact b2i_R _ | exact gR_of (by omega) (by omega)) ?_ | refine And.intro (show gHas _ _ _ from by first | exact gW.has (gD.w (by assumption)) (by omega) | exact gD.has (by assumption) | exact gRu.has (gD.ru (by assumption)) | exact gGr.has (gD.gr (by assumption) _ (by omega))) ?_ | refine gCall_mk (by decide) (by decide) ?_ | refine if_yes (by first | assumption | omega | decide | exact b2i_R _ | exact gR_of (by omega) (by omega)) ?_ | refine if_no (by first | assumption | omega | decide | exact b2i_R _ | exact gR_of (by omega) (by omega)) ?_)
      refine gCall_mk (by omega) (by omega) (c_ups d2 (b := false) (by omega) rfl (gRes.to (if_pos hS) (fun h3 U3 r4 d3 f3 p3 => ?_)))
      show gHas _ _ _ ∧ _
      (first | refine And.intro (show gR _ from by first | assumption | omega | decide | exact b2i_R _ | exact gR_of (by omega) (by omega)) ?_ | refine And.intro (show gHas _ _ _ from by first | exact gW.has (gD.w (by assumption)) (by omega) | exact gD.has (by assumption) | exact gRu.has (gD.ru (by assumption)) | exact gGr.has (gD.gr (by assumption) _ (by omega))) ?_ | refine gCall_mk (by decide) (by decide) ?_ | refine if_yes (by first | assumption | omega | decide | exact b2i_R _ | exact gR_of (by omega) (by omega)) ?_ | refine if_no (by first | assumption | omega | decide | exact b2i_R _ | exact gR_of (by omega) (by omega)) ?_)
      refine gCall_mk (by omega) (by omega) (c_ups d3 (b := true) (by omega) rfl (gRes.to (if_pos hS) (fun h4 U4 r5 d4 f4 p4 => ?_)))
      show gHas _ _ _ ∧ _
      (first | refine And.intro (show gR _ from by first | assumption | omega | decide | exact b2i_R _ | exact gR_of (by omega) (by omega)) ?_ | refine And.intro (show gHas _ _ _ from by first | exact gW.has (gD.w (by assumption)) (by omega) | exact gD.has (by assumption) | exact gRu.has (gD.ru (by assumption)) | exact gGr.has (gD.gr (by assumption) _ (by omega))) ?_ | refine gCall_mk (by decide) (by decide) ?_ | refine if_yes (by first | assumption | omega | decide | exact b2i_R _ | exact gR_of (by omega) (by omega)) ?_ | refine if_no (by first | assumption | omega | decide | exact b2i_R _ | exact gR_of (by omega) (by omega)) ?_)
      refine gCall_mk (by omega) (by omega) (c_cross d4 (by omega) (gRes.to (if_pos hS) (fun h5 U5 r6 d5 f5 p5 => ?_)))
      show gHas _ _ _ ∧ _
      (first | refine And.intro (show gR _ from by first | assumption | omega | decide | exact b2i_R _ | exact gR_of (by omega) (by omega)) ?_ | refine And.intro (show gHas _ _ _ from by first | exact gW.has (gD.w (by assumption)) (by omega) | exact gD.has (by assumption) | exact gRu.has (gD.ru (by assumption)) | exact gGr.has (gD.gr (by assumption) _ (by omega))) ?_ | refine gCall_mk (by decide) (by decide) ?_ | refine if_yes (by first | assumption | omega | decide | exact b2i_R _ | exact gR_of (by omega) (by omega)) ?_ | refine if_no (by first | assumption | omega | decide | exact b2i_R _ | exact gR_of (by omega) (by omega)) ?_)
      refine gCall_mk (by omega) (by omega) (c_alike d5 (by omega) (gRes.to (if_pos hS) (fun h6 U6 r7 d6 f6 p6 => ?_)))
      exact k h6 U6 _ d6 (f1.tr (f2.tr (f3.tr (f4.tr (f5.tr f6)))))
    · refine if_no (by omega) ?_
      (first | refine And.intro (show gR _ from by first | assumption | omega | decide | exact b2i_R _ | exact gR_of (by omega) (by omega)) ?_ | refine And.intro (show gHas _ _ _ from by first | exact gW.has (gD.w (by assumption)) (by omega) | exact gD.has (by assumption) | exact gRu.has (gD.ru (by assumption)) | exact gGr.has (gD.gr (by assumption) _ (by omega))) ?_ | refine gCall_mk (by decide) (by decide) ?_ | refine if_yes (by first | assumption | omega | decide | exact b2i_R _ | exact gR_of (by omega) (by omega)) ?_ | refine if_no (by first | assumption | omega | decide | exact b2i_R _ | exact gR_of (by omega) (by omega)) ?_)
      refine s_turnAt (d.gr g hg) rfl (by omega) ?_
      show w_X5_digestGrowth_L22 X Q n (A 22) (g : Int) (A (26 + g)) _ ((i : Int) + 1) h kc ks
      rw [show (i : Int) + 1 = ((i + 1 : Nat) : Int) by omega]
      exact s_digestGrowth_L hg n (i + 1) h U kc ks _ d (by omega) (by omega) hc hs k
theorem s_digestGrowth {Q : Int64 → gaH → Prop} {t : Int64} (d : gD A G h U st) (hg : g < 2) (k : ∀ h' U' r, gD A G h' U' st → gFr A h h' → Q r h') : w_X5_digestGrowth X (A 22) t (g : Int) h Q := by
  have l1 := (d.ok g hg).len
  unfold w_X5_digestGrowth
  (first | refine And.intro (show gR _ from by first | assumption | omega | decide | exact b2i_R _ | exact gR_of (by omega) (by omega)) ?_ | refine And.intro (show gHas _ _ _ from by first | exact gW.has (gD.w (by assumption)) (by omega) | exact gD.has (by assumption) | exact gRu.has (gD.ru (by assumption)) | exact gGr.has (gD.gr (by assumption) _ (by omega))) ?_ | refine gCall_mk (by decide) (by decide) ?_ | refine if_yes (by first | assumption | omega | decide | exact b2i_R _ | exact gR_of (by omega) (by omega)) ?_ | refine if_no (by first | assumption | omega | decide | exact b2i_R _ | exact gR_of (by omega) (by omega)) ?_); (first | refine And.intro (show gR _ from by first | assumption | omega | decide | exact b2i_R _ | exact gR_of (by omega) (by omega)) ?_ | refine And.intro (show gHas _ _ _ from by first | exact gW.has (gD.w (by assumption)) (by omega) | exact gD.has (by assumption) | exact gRu.has (gD.ru (by assumption)) | exact gGr.has (gD.gr (by assumption) _ (by omega))) ?_ | refine gCall_mk (by decide) (by decide) ?_ | refine if_yes (by first | assumption | omega | decide | exact b2i_R _ | exact gR_of (by omega) (by omega)) ?_ | refine if_no (by first | assumption | omega | decide | exact b2i_R _ | exact gR_of (by omega) (by omega)) ?_)
  refine c_growthOf d (by omega) (fun q => absurd (show okG (g : Int) by omega) q) (fun v hv e => ?_)
  obtain rfl : g = v := by omega
  exact (d.gr g hg).ct ⟨66, s_digestGrowth_L hg 66 0 h U _ _ _ d (Nat.zero_le _) (by omega) (by decide) (by decide) k⟩
theorem s_digest_L46 {Q : Int64 → gaH → Prop} : ∀ (n i : Nat) (h : gaH) (U : Nat → List Bool) (kc ks : Nat) (t : Int64), gD A G h U st → i ≤ 4 → 4 - i < n → (4 - i) + 18 ≤ kc → 6 * (4 - i) + 108 ≤ ks → (∀ h' U' r, gD A G h' U' st → gFr A h h' → Q r h') → w_X5_digest_L46 G X Q n (A 22) t (i : Int) h kc ks
  | 0, _, _, _, _, _, _, _, _, h1, _, _, _ => absurd h1 (Nat.not_lt_zero _)
  | n + 1, i, h, U, kc, ks, t, d, hi, h1, hc, hs, k => by
    unfold w_X5_digest_L46
    (first | refine And.intro (show gR _ from by first | assumption | omega | decide | exact b2i_R _ | exact gR_of (by omega) (by omega)) ?_ | refine And.intro (show gHas _ _ _ from by first | exact gW.has (gD.w (by assumption)) (by omega) | exact gD.has (by assumption) | exact gRu.has (gD.ru (by assumption)) | exact gGr.has (gD.gr (by assumption) _ (by omega))) ?_ | refine gCall_mk (by decide) (by decide) ?_ | refine if_yes (by first | assumption | omega | decide | exact b2i_R _ | exact gR_of (by omega) (by omega)) ?_ | refine if_no (by first | assumption | omega | decide | exact b2i_R _ | exact gR_of (by omega) (by omega)) ?_)
    by_cases q : 4 ≤ i
    · refine if_yes (by omega) ?_
      (first | refine And.intro (show gR _ from by first | assumption | omega | decide | exact b2i_R _ | exact gR_of (by omega) (by omega)) ?_ | refine And.intro (show gHas _ _ _ from by first | exact gW.has (gD.w (by assumption)) (by omega) | exact gD.has (by assumption) | exact gRu.has (gD.ru (by assumption)) | exact gGr.has (gD.gr (by assumption) _ (by omega))) ?_ | refine gCall_mk (by decide) (by decide) ?_ | refine if_yes (by first | assumption | omega | decide | exact b2i_R _ | exact gR_of (by omega) (by omega)) ?_ | refine if_no (by first | assumption | omega | decide | exact b2i_R _ | exact gR_of (by omega) (by omega)) ?_)
      refine gCall_mk (by omega) (by omega) (c_isSound (E := []) d (gRes.to rfl (fun h1 U1 r1 d1 f1 p1 => ?_)))
      unfold w_X5_oneIf
      rw [p1]
      exact ⟨b2i_R _, ite_both (fun _ => k h1 U1 _ d1 f1) (fun _ => k h1 U1 _ d1 f1)⟩
    · refine if_no (by omega) ?_
      (first | refine And.intro (show gR _ from by first | assumption | omega | decide | exact b2i_R _ | exact gR_of (by omega) (by omega)) ?_ | refine And.intro (show gHas _ _ _ from by first | exact gW.has (gD.w (by assumption)) (by omega) | exact gD.has (by assumption) | exact gRu.has (gD.ru (by assumption)) | exact gGr.has (gD.gr (by assumption) _ (by omega))) ?_ | refine gCall_mk (by decide) (by decide) ?_ | refine if_yes (by first | assumption | omega | decide | exact b2i_R _ | exact gR_of (by omega) (by omega)) ?_ | refine if_no (by first | assumption | omega | decide | exact b2i_R _ | exact gR_of (by omega) (by omega)) ?_)
      refine gCall_mk (by omega) (by omega) (c_house d (by omega) (gRes.to (if_pos ⟨by omega, by omega⟩) (fun h1 U1 r1 d1 f1 p1 => ?_)))
      show w_X5_digest_L46 G X Q n (A 22) _ ((i : Int) + 1) h1 _ _
      rw [show (i : Int) + 1 = ((i + 1 : Nat) : Int) by omega]
      exact s_digest_L46 n (i + 1) h1 U1 _ _ _ d1 (by omega) (by omega) (by omega) (by omega) (fun h' U' r d' f' => k h' U' r d' (f1.tr f'))
theorem s_digest_L26 {Q : Int64 → gaH → Prop} : ∀ (n i : Nat) (h : gaH) (U : Nat → List Bool) (kc ks : Nat) (t : Int64), gD A G h U st → i ≤ 2 → 2 - i < n → 7 * (2 - i) + 22 ≤ kc → 42 * (2 - i) + 132 ≤ ks → (∀ h' U' r, gD A G h' U' st → gFr A h h' → Q r h') → w_X5_digest_L26 G X Q n (A 22) t (i : Int) h kc ks
  | 0, _, _, _, _, _, _, _, _, h1, _, _, _ => absurd h1 (Nat.not_lt_zero _)
  | n + 1, i, h, U, kc, ks, t, d, hi, h1, hc, hs, k => by
    unfold w_X5_digest_L26
    (first | refine And.intro (show gR _ from by first | assumption | omega | decide | exact b2i_R _ | exact gR_of (by omega) (by omega)) ?_ | refine And.intro (show gHas _ _ _ from by first | exact gW.has (gD.w (by assumption)) (by omega) | exact gD.has (by assumption) | exact gRu.has (gD.ru (by assumption)) | exact gGr.has (gD.gr (by assumption) _ (by omega))) ?_ | refine gCall_mk (by decide) (by decide) ?_ | refine if_yes (by first | assumption | omega | decide | exact b2i_R _ | exact gR_of (by omega) (by omega)) ?_ | refine if_no (by first | assumption | omega | decide | exact b2i_R _ | exact gR_of (by omega) (by omega)) ?_)
    by_cases q : 2 ≤ i
    · exact if_yes (by omega) ⟨5, s_digest_L46 5 0 h U kc ks _ d (by omega) (by omega) (by omega) (by omega) k⟩
    · refine if_no (by omega) ?_
      (first | refine And.intro (show gR _ from by first | assumption | omega | decide | exact b2i_R _ | exact gR_of (by omega) (by omega)) ?_ | refine And.intro (show gHas _ _ _ from by first | exact gW.has (gD.w (by assumption)) (by omega) | exact gD.has (by assumption) | exact gRu.has (gD.ru (by assumption)) | exact gGr.has (gD.gr (by assumption) _ (by omega))) ?_ | refine gCall_mk (by decide) (by decide) ?_ | refine if_yes (by first | assumption | omega | decide | exact b2i_R _ | exact gR_of (by omega) (by omega)) ?_ | refine if_no (by first | assumption | omega | decide | exact b2i_R _ | exact gR_of (by omega) (by omega)) ?_)
      refine gCall_mk (by omega) (by omega) (s_digestGrowth d (show i < 2 by omega) (fun h1 U1 r1 d1 f1 => ?_))
      show w_X5_digest_L26 G X Q n (A 22) _ ((i : Int) + 1) h1 _ _
      rw [show (i : Int) + 1 = ((i + 1 : Nat) : Int) by omega]
      exact s_digest_L26 n (i + 1) h1 U1 _ _ _ d1 (by omega) (by omega) (by omega) (by omega) (fun h' U' r d' f' => k h' U' r d' (f1.tr f'))
theorem s_digest_L6 {Q : Int64 → gaH → Prop} : ∀ (n i : Nat) (h : gaH) (U : Nat → List Bool) (kc ks : Nat) (t : Int64), gD A G h U st → i ≤ 3 → 3 - i < n → 7 * (3 - i) + 36 ≤ kc → 42 * (3 - i) + 216 ≤ ks → (∀ h' U' r, gD A G h' U' st → gFr A h h' → Q r h') → w_X5_digest_L6 G X Q n (A 22) t (i : Int) h kc ks
  | 0, _, _, _, _, _, _, _, _, h1, _, _, _ => absurd h1 (Nat.not_lt_zero _)
  | n + 1, i, h, U, kc, ks, t, d, hi, h1, hc, hs, k => by
    unfold w_X5_digest_L6
    (first | refine And.intro (show gR _ from by first | assumption | omega | decide | exact b2i_R _ | exact gR_of (by omega) (by omega)) ?_ | refine And.intro (show gHas _ _ _ from by first | exact gW.has (gD.w (by assumption)) (by omega) | exact gD.has (by assumption) | exact gRu.has (gD.ru (by assumption)) | exact gGr.has (gD.gr (by assumption) _ (by omega))) ?_ | refine gCall_mk (by decide) (by decide) ?_ | refine if_yes (by first | assumption | omega | decide | exact b2i_R _ | exact gR_of (by omega) (by omega)) ?_ | refine if_no (by first | assumption | omega | decide | exact b2i_R _ | exact gR_of (by omega) (by omega)) ?_)
    by_cases q : 3 ≤ i
    · exact if_yes (by omega) ⟨3, s_digest_L26 3 0 h U kc ks _ d (by omega) (by omega) (by omega) (by omega) k⟩
    · refine if_no (by omega) ?_
      (first | refine And.intro (show gR _ from by first | assumption | omega | decide | exact b2i_R _ | exact gR_of (by omega) (by omega)) ?_ | refine And.intro (show gHas _ _ _ from by first | exact gW.has (gD.w (by assumption)) (by omega) | exact gD.has (by assumption) | exact gRu.has (gD.ru (by assumption)) | exact gGr.has (gD.gr (by assumption) _ (by omega))) ?_ | refine gCall_mk (by decide) (by decide) ?_ | refine if_yes (by first | assumption | omega | decide | exact b2i_R _ | exact gR_of (by omega) (by omega)) ?_ | refine if_no (by first | assumption | omega | decide | exact b2i_R _ | exact gR_of (by omega) (by omega)) ?_)
      refine gCall_mk (by omega) (by omega) (s_digestSheet d (show i < 3 by omega) (fun h1 U1 r1 d1 f1 => ?_))
      show w_X5_digest_L6 G X Q n (A 22) _ ((i : Int) + 1) h1 _ _
      rw [show (i : Int) + 1 = ((i + 1 : Nat) : Int) by omega]
      exact s_digest_L6 n (i + 1) h1 U1 _ _ _ d1 (by omega) (by omega) (by omega) (by omega) (fun h' U' r d' f' => k h' U' r d' (f1.tr f'))
theorem s_digest {Q : Int64 → gaH → Prop} (d : gD A G h U st) (k : ∀ h' U' r, gD A G h' U' st → gFr A h h' → Q r h') : w_X5_digest G X (A 22) h Q :=
  ⟨4, s_digest_L6 4 0 h U 78 468 _ d (by decide) (by decide) (by decide) (by decide) k⟩
end CD
/-! Texts, as far as they go through: what a StringBuilder holds is told by its length. -/
def sbd (h0 h : gaH) (b : Nat) (n : Nat) : Prop := ∃ v bs, h b = some (1, [.ref v, gi 0, gi 0, gi (n : Int)]) ∧ h v = some (101, bs) ∧ (∀ x ∈ bs, fits (gaTy 101) x = true) ∧ (bs.length = 16 ∨ bs.length = 34 ∨ bs.length = 70) ∧ n ≤ bs.length ∧ b ≠ v ∧ h0 b = none ∧ h0 v = none ∧ ∀ a e, h0 a = some e → h a = some e
theorem gNA_mk {h : gaH} {t : Nat} {v : Value} {x : Int} {c s : Nat} {K : Nat → gaH → Nat → Nat → Prop} {n : Nat} (hx : x = (n : Int)) (h1 : n ≤ 100000) (h2 : 1 ≤ c) (h3 : n ≤ s) (k : ∀ a, h a = none → K a (gaUp h a (t, List.replicate n v)) (c - 1) (s - n)) : gNA h t v x c s K := by
  subst hx
  exact ⟨by omega, by omega, h2, by omega, fun a ha => ⟨_, _, rfl, rfl, by rw [Int.toNat_natCast]; exact k a ha⟩⟩
theorem gNO_mk {h : gaH} {ci n : Nat} {fs : List Value} {c s : Nat} {K : Nat → gaH → Nat → Nat → Prop} (h2 : 1 ≤ c) (h3 : n ≤ s) (k : ∀ a, h a = none → K a (gaUp h a (ci, fs)) (c - 1) (s - n)) : gNO h ci n fs c s K := ⟨h2, h3, fun a ha => ⟨_, _, rfl, rfl, k a ha⟩⟩
theorem up_keep {h : gaH} {a b : Nat} {e f : gaE} (hb : h b = none) (ha : h a = some e) : gaUp h b f a = some e := by
  rw [gaUp_ne _ _ (fun q => by rw [q, hb] at ha; cases ha)]; exact ha
theorem new_ne {h : gaH} {a b : Nat} {e : gaE} (ha : h a = some e) (hb : h b = none) : a ≠ b := fun q => by rw [q, hb] at ha; cases ha
theorem fits0 {n : Nat} : ∀ x ∈ List.replicate n (gi 0), fits (gaTy 101) x = true := fun x hx => by rw [List.eq_of_mem_replicate hx]; decide +kernel
section SB
variable {G : gaG} {h0 h : gaH} {b n : Nat}
theorem sb_init {Q : gaH → Prop} {b : Nat} (hb : h0 b = none) (k : ∀ h', sbd h0 h' b 0 → Q h') : w_J4_init_da8c8 G b (gaUp h0 b (1, [.null, gi 0, gi 0, gi 0])) Q := by
  unfold w_J4_init_da8c8
  refine gCall_mk (by decide) (by decide) ?_
  unfold w_J5_init_d00df
  refine gNA_mk (n := 16) rfl (by decide) (by decide) (by decide) (fun v hv => ?_)
  have hvb : v ≠ b := fun q => by rw [q, gaUp_self] at hv; cases hv
  rw [gaUp_ne _ _ hvb] at hv
  refine gPF_mk (fs := [.null, gi 0, gi 0, gi 0]) (by rw [gaUp_ne _ _ (Ne.symm hvb), gaUp_self]) (by simp) (gPF_mk (gaUp_self _ _ _) (by simp) (k _ ⟨v, List.replicate 16 (gi 0), ?_, ?_, fits0, by simp, by decide, Ne.symm hvb, hb, hv, fun a e ha => ?_⟩))
  · rw [gaUp_self]; rfl
  · rw [gaUp_ne _ _ hvb, gaUp_ne _ _ hvb, gaUp_self]
  · rw [gaUp_ne _ _ (new_ne ha hb), gaUp_ne _ _ (new_ne ha hb), gaUp_ne _ _ (new_ne ha hv), gaUp_ne _ _ (new_ne ha hb)]; exact ha
theorem gShr0 {n : Nat} (hn : n < 2147483648) : gShr (n : Int) 0 = (n : Int) := by have := gShr_nat (n := n) (d := 0) hn (by decide); simpa using this
theorem gShl0 {n : Nat} (hn : n < 2147483648) : gShl (n : Int) 0 = (n : Int) := by have := gShl_nat (n := n) (d := 0) (by omega) (by decide); simpa using this
theorem sb_ensure {Q : gaH → Prop} (sb : sbd h0 h b n) {m : Nat} {x : Int} (hx : x = (m : Int)) (hm : m ≤ 65) (hmn : n ≤ m) (hnm : m ≤ n + 1) (k : ∀ h', sbd h0 h' b n → (∀ v bs, h' b = some (1, [.ref v, gi 0, gi 0, gi (n : Int)]) → h' v = some (101, bs) → m ≤ bs.length) → Q h') : w_J5_ensureCapacityInternal_d00df b x h Q := by
  subst hx
  obtain ⟨v, bs, a1, a2, a3, a4, a5, a6, a7, a8, a9⟩ := id sb
  unfold w_J5_ensureCapacityInternal_d00df
  refine gA_mk a1 rfl (gAL_mk a2 rfl (gI_mk a1 rfl (x := 0) ?_))
  rw [gShr0 (by omega)]
  (first | refine And.intro (show gR _ from by first | assumption | omega | decide | exact b2i_R _ | exact gR_of (by omega) (by omega)) ?_ | refine And.intro (show gHas _ _ _ from by first | exact gW.has (gD.w (by assumption)) (by omega) | exact gD.has (by assumption) | exact gRu.has (gD.ru (by assumption)) | exact gGr.has (gD.gr (by assumption) _ (by omega))) ?_ | refine gCall_mk (by decide) (by decide) ?_ | refine if_yes (by first | assumption | omega | decide | exact b2i_R _ | exact gR_of (by omega) (by omega)) ?_ | refine if_no (by first | assumption | omega | decide | exact b2i_R _ | exact gR_of (by omega) (by omega)) ?_)
  by_cases q : m ≤ bs.length
  · exact if_yes (by omega) (k h sb (fun v2 bs2 e1 e2 => by
      rw [a1] at e1; cases e1; rw [a2] at e2; cases e2; exact q))
  · refine if_no (by omega) (gA_mk a1 rfl ⟨⟨_, a1⟩, ?_⟩)
    have hl : bs.length = 16 ∨ bs.length = 34 := by omega
    have nn : n = bs.length := by omega
    unfold w_J5_newCapacity_0f7a4
    refine gA_mk a1 rfl (gAL_mk a2 rfl (gI_mk a1 rfl (x := 0) (gI_mk a1 rfl (x := 0) ?_)))
    rw [gShl0 (by omega), show gShl 2 0 = 2 by decide +kernel]
    unfold w_J8_newLength_cabcc
    (first | refine And.intro (show gR _ from by first | assumption | omega | decide | exact b2i_R _ | exact gR_of (by omega) (by omega)) ?_ | refine And.intro (show gHas _ _ _ from by first | exact gW.has (gD.w (by assumption)) (by omega) | exact gD.has (by assumption) | exact gRu.has (gD.ru (by assumption)) | exact gGr.has (gD.gr (by assumption) _ (by omega))) ?_ | refine gCall_mk (by decide) (by decide) ?_ | refine if_yes (by first | assumption | omega | decide | exact b2i_R _ | exact gR_of (by omega) (by omega)) ?_ | refine if_no (by first | assumption | omega | decide | exact b2i_R _ | exact gR_of (by omega) (by omega)) ?_); (first | refine And.intro (show gR _ from by first | assumption | omega | decide | exact b2i_R _ | exact gR_of (by omega) (by omega)) ?_ | refine And.intro (show gHas _ _ _ from by first | exact gW.has (gD.w (by assumption)) (by omega) | exact gD.has (by assumption) | exact gRu.has (gD.ru (by assumption)) | exact gGr.has (gD.gr (by assumption) _ (by omega))) ?_ | refine gCall_mk (by decide) (by decide) ?_ | refine if_yes (by first | assumption | omega | decide | exact b2i_R _ | exact gR_of (by omega) (by omega)) ?_ | refine if_no (by first | assumption | omega | decide | exact b2i_R _ | exact gR_of (by omega) (by omega)) ?_); (first | refine And.intro (show gR _ from by first | assumption | omega | decide | exact b2i_R _ | exact gR_of (by omega) (by omega)) ?_ | refine And.intro (show gHas _ _ _ from by first | exact gW.has (gD.w (by assumption)) (by omega) | exact gD.has (by assumption) | exact gRu.has (gD.ru (by assumption)) | exact gGr.has (gD.gr (by assumption) _ (by omega))) ?_ | refine gCall_mk (by decide) (by decide) ?_ | refine if_yes (by first | assumption | omega | decide | exact b2i_R _ | exact gR_of (by omega) (by omega)) ?_ | refine if_no (by first | assumption | omega | decide | exact b2i_R _ | exact gR_of (by omega) (by omega)) ?_); (first | refine And.intro (show gR _ from by first | assumption | omega | decide | exact b2i_R _ | exact gR_of (by omega) (by omega)) ?_ | refine And.intro (show gHas _ _ _ from by first | exact gW.has (gD.w (by assumption)) (by omega) | exact gD.has (by assumption) | exact gRu.has (gD.ru (by assumption)) | exact gGr.has (gD.gr (by assumption) _ (by omega))) ?_ | refine gCall_mk (by decide) (by decide) ?_ | refine if_yes (by first | assumption | omega | decide | exact b2i_R _ | exact gR_of (by omega) (by omega)) ?_ | refine if_no (by first | assumption | omega | decide | exact b2i_R _ | exact gR_of (by omega) (by omega)) ?_); (first | refine And.intro (show gR _ from by first | assumption | omega | decide | exact b2i_R _ | exact gR_of (by omega) (by omega)) ?_ | refine And.intro (show gHas _ _ _ from by first | exact gW.has (gD.w (by assumption)) (by omega) | exact gD.has (by assumption) | exact gRu.has (gD.ru (by assumption)) | exact gGr.has (gD.gr (by assumption) _ (by omega))) ?_ | refine gCall_mk (by decide) (by decide) ?_ | refine if_yes (by first | assumption | omega | decide | exact b2i_R _ | exact gR_of (by omega) (by omega)) ?_ | refine if_no (by first | assumption | omega | decide | exact b2i_R _ | exact gR_of (by omega) (by omega)) ?_); (first | refine And.intro (show gR _ from by first | assumption | omega | decide | exact b2i_R _ | exact gR_of (by omega) (by omega)) ?_ | refine And.intro (show gHas _ _ _ from by first | exact gW.has (gD.w (by assumption)) (by omega) | exact gD.has (by assumption) | exact gRu.has (gD.ru (by assumption)) | exact gGr.has (gD.gr (by assumption) _ (by omega))) ?_ | refine gCall_mk (by decide) (by decide) ?_ | refine if_yes (by first | assumption | omega | decide | exact b2i_R _ | exact gR_of (by omega) (by omega)) ?_ | refine if_no (by first | assumption | omega | decide | exact b2i_R _ | exact gR_of (by omega) (by omega)) ?_)
    (first | refine And.intro (show gR _ from by first | assumption | omega | decide | exact b2i_R _ | exact gR_of (by omega) (by omega)) ?_ | refine And.intro (show gHas _ _ _ from by first | exact gW.has (gD.w (by assumption)) (by omega) | exact gD.has (by assumption) | exact gRu.has (gD.ru (by assumption)) | exact gGr.has (gD.gr (by assumption) _ (by omega))) ?_ | refine gCall_mk (by decide) (by decide) ?_ | refine if_yes (by first | assumption | omega | decide | exact b2i_R _ | exact gR_of (by omega) (by omega)) ?_ | refine if_no (by first | assumption | omega | decide | exact b2i_R _ | exact gR_of (by omega) (by omega)) ?_); (first | refine And.intro (show gR _ from by first | assumption | omega | decide | exact b2i_R _ | exact gR_of (by omega) (by omega)) ?_ | refine And.intro (show gHas _ _ _ from by first | exact gW.has (gD.w (by assumption)) (by omega) | exact gD.has (by assumption) | exact gRu.has (gD.ru (by assumption)) | exact gGr.has (gD.gr (by assumption) _ (by omega))) ?_ | refine gCall_mk (by decide) (by decide) ?_ | refine if_yes (by first | assumption | omega | decide | exact b2i_R _ | exact gR_of (by omega) (by omega)) ?_ | refine if_no (by first | assumption | omega | decide | exact b2i_R _ | exact gR_of (by omega) (by omega)) ?_)
    refine gI_mk a1 rfl (x := 0) ?_
    have emax : (bs.length : Int) + max ((m : Int) - (bs.length : Int)) ((bs.length : Int) + 2) = ((2 * bs.length + 2 : Nat) : Int) := by omega
    rw [emax, gShr0 (by omega)]
    refine gI_mk a1 rfl (x := 0) (gCall_mk (by decide) (by decide) ?_)
    rw [gShl0 (by omega)]
    unfold w_J7_copyOf_9075b
    refine gAL_mk a2 rfl ?_
    (first | refine And.intro (show gR _ from by first | assumption | omega | decide | exact b2i_R _ | exact gR_of (by omega) (by omega)) ?_ | refine And.intro (show gHas _ _ _ from by first | exact gW.has (gD.w (by assumption)) (by omega) | exact gD.has (by assumption) | exact gRu.has (gD.ru (by assumption)) | exact gGr.has (gD.gr (by assumption) _ (by omega))) ?_ | refine gCall_mk (by decide) (by decide) ?_ | refine if_yes (by first | assumption | omega | decide | exact b2i_R _ | exact gR_of (by omega) (by omega)) ?_ | refine if_no (by first | assumption | omega | decide | exact b2i_R _ | exact gR_of (by omega) (by omega)) ?_); (first | refine And.intro (show gR _ from by first | assumption | omega | decide | exact b2i_R _ | exact gR_of (by omega) (by omega)) ?_ | refine And.intro (show gHas _ _ _ from by first | exact gW.has (gD.w (by assumption)) (by omega) | exact gD.has (by assumption) | exact gRu.has (gD.ru (by assumption)) | exact gGr.has (gD.gr (by assumption) _ (by omega))) ?_ | refine gCall_mk (by decide) (by decide) ?_ | refine if_yes (by first | assumption | omega | decide | exact b2i_R _ | exact gR_of (by omega) (by omega)) ?_ | refine if_no (by first | assumption | omega | decide | exact b2i_R _ | exact gR_of (by omega) (by omega)) ?_)
    refine if_no (by omega) (gNA_mk (n := 2 * bs.length + 2) rfl (by omega) (by decide) (by omega) (fun c hc => ?_))
    have cv := new_ne a2 hc
    have cb := new_ne a1 hc
    refine gAL_mk (up_keep hc a2) rfl ?_
    (first | refine And.intro (show gR _ from by first | assumption | omega | decide | exact b2i_R _ | exact gR_of (by omega) (by omega)) ?_ | refine And.intro (show gHas _ _ _ from by first | exact gW.has (gD.w (by assumption)) (by omega) | exact gD.has (by assumption) | exact gRu.has (gD.ru (by assumption)) | exact gGr.has (gD.gr (by assumption) _ (by omega))) ?_ | refine gCall_mk (by decide) (by decide) ?_ | refine if_yes (by first | assumption | omega | decide | exact b2i_R _ | exact gR_of (by omega) (by omega)) ?_ | refine if_no (by first | assumption | omega | decide | exact b2i_R _ | exact gR_of (by omega) (by omega)) ?_); (first | refine And.intro (show gR _ from by first | assumption | omega | decide | exact b2i_R _ | exact gR_of (by omega) (by omega)) ?_ | refine And.intro (show gHas _ _ _ from by first | exact gW.has (gD.w (by assumption)) (by omega) | exact gD.has (by assumption) | exact gRu.has (gD.ru (by assumption)) | exact gGr.has (gD.gr (by assumption) _ (by omega))) ?_ | refine gCall_mk (by decide) (by decide) ?_ | refine if_yes (by first | assumption | omega | decide | exact b2i_R _ | exact gR_of (by omega) (by omega)) ?_ | refine if_no (by first | assumption | omega | decide | exact b2i_R _ | exact gR_of (by omega) (by omega)) ?_)
    refine ⟨cv, ⟨bs, _, up_keep hc a2, gaUp_self _ _ _, by omega, by omega, by omega, by omega, by omega, by omega, by simp; omega, a3, fun us e1 e2 => ?_⟩⟩
    rw [List.length_replicate] at e1
    have hc0 : h0 c = none := by
      cases q2 : h0 c with
      | none => rfl
      | some e => rw [a9 c e q2] at hc; cases hc
    refine gPF_mk (fs := [.ref v, gi 0, gi 0, gi (n : Int)]) (by rw [gaUp_ne _ _ cb, gaUp_ne _ _ cb]; exact a1) (by simp) (k _ ⟨c, us, ?_, ?_, fun x hx => ?_, by omega, by omega, cb, a7, hc0, fun a e ha => ?_⟩ (fun v2 bs2 f1 f2 => ?_))
    · rw [gaUp_self]; rfl
    · rw [gaUp_ne _ _ (Ne.symm cb), gaUp_self]
    · rcases e2 x hx with q3 | q3
      · exact a3 x q3
      · exact fits0 x q3
    · have := a9 a e ha
      rw [gaUp_ne _ _ (new_ne ha a7), gaUp_ne _ _ (new_ne this hc), gaUp_ne _ _ (new_ne this hc)]; exact this
    · rw [gaUp_self] at f1
      cases f1
      rw [gaUp_ne _ _ (Ne.symm cb), gaUp_self] at f2
      cases f2
      omega
theorem gI2b_byte {c : Int} (h1 : 0 ≤ c) (h2 : c ≤ 127) : gI2b c = c := by
  obtain ⟨n, rfl⟩ : ∃ n : Nat, c = n := ⟨c.toNat, by omega⟩
  have : ∀ m, m < 128 → gI2b ((m : Nat) : Int) = (m : Int) := by decide +kernel
  exact this n (by omega)
theorem narrow_byte2 {c : Int} (h1 : 0 ≤ c) (h2 : c ≤ 127) : narrow .byte (gi c) = gi c ∧ fits (gaTy 101) (gi c) = true := by
  obtain ⟨n, rfl⟩ : ∃ n : Nat, c = n := ⟨c.toNat, by omega⟩
  have : ∀ m, m < 128 → narrow .byte (gi ((m : Nat) : Int)) = gi (m : Int) ∧ fits (gaTy 101) (gi (m : Int)) = true := by decide +kernel
  exact this n (by omega)
theorem sb_put {K : gaH → Prop} (sb : sbd h0 h b n) {v : Nat} {bs : List Value} (a1 : h b = some (1, [.ref v, gi 0, gi 0, gi (n : Int)])) (a2 : h v = some (101, bs)) {c : Int} (h1 : 0 ≤ c) (h2 : c ≤ 127) {x : Int} {p : Nat} (hx : x = (p : Int)) (hp : p < bs.length) (k : ∀ h' bs', sbd h0 h' b n → h' b = some (1, [.ref v, gi 0, gi 0, gi (n : Int)]) → h' v = some (101, bs') → bs'.length = bs.length → K h') : gSI h v 101 x (gi c) K := by
  subst hx
  obtain ⟨v', bs', b1, b2, b3, b4, b5, b6, b7, b8, b9⟩ := sb
  rw [a1] at b1; cases b1
  rw [a2] at b2; cases b2
  refine gSI_mk a2 (by omega) (by omega) (by omega) (k _ (bs.set p (gi c)) ⟨v, bs.set p (gi c), ?_, ?_, ?_, by simpa using b4, by simpa using b5, b6, b7, b8, fun a e ha => ?_⟩ ?_ ?_ (by simp))
  · rw [gaUp_ne _ _ b6]; exact a1
  · rw [gaUp_self, Int.toNat_natCast]
  · intro x hx
    rcases List.mem_or_eq_of_mem_set hx with q | q
    · exact b3 x q
    · rw [q]; exact (narrow_byte2 h1 h2).2
  · rw [gaUp_ne _ _ (new_ne ha b8)]; exact b9 a e ha
  · rw [gaUp_ne _ _ b6]; exact a1
  · rw [gaUp_self, Int.toNat_natCast]
theorem sb_cnt {K : gaH → Prop} (sb : sbd h0 h b n) {m : Nat} {x : Int} (hx : x = (m : Int)) (hm : ∀ v bs, h b = some (1, [.ref v, gi 0, gi 0, gi (n : Int)]) → h v = some (101, bs) → m ≤ bs.length) (k : ∀ h', sbd h0 h' b m → (∀ a, a ≠ b → h' a = h a) → (∀ v, h b = some (1, [.ref v, gi 0, gi 0, gi (n : Int)]) → h' b = some (1, [.ref v, gi 0, gi 0, gi (m : Int)])) → K h') : gPF h b 1 3 (gi x) K := by
  subst hx
  obtain ⟨v, bs, b1, b2, b3, b4, b5, b6, b7, b8, b9⟩ := sb
  refine gPF_mk b1 (by simp) (k _ ⟨v, bs, by rw [gaUp_self]; rfl, by rw [gaUp_ne _ _ (Ne.symm b6)]; exact b2, b3, b4, hm v bs b1 b2, b6, b7, b8, fun a e ha => by rw [gaUp_ne _ _ (new_ne ha b7)]; exact b9 a e ha⟩ (fun a ha => gaUp_ne _ _ ha) (fun w q => by rw [b1] at q; cases q; rw [gaUp_self]; rfl))
theorem sb_lat {Q : Int → gaH → Prop} (sb : sbd h0 h b n) (k : Q 1 h) : w_J5_isLatin1_aae02 G b h Q := by
  obtain ⟨v, bs, b1, -⟩ := sb
  unfold w_J5_isLatin1_aae02
  exact gI_mk b1 rfl (x := 0) ⟨by decide, if_yes rfl k⟩
theorem sbd.has (sb : sbd h0 h b n) : gHas h b 1 := by obtain ⟨v, bs, b1, -⟩ := sb; exact ⟨_, b1⟩
/-- a sign is added -/
theorem sb_char {Q : Nat → gaH → Prop} (sb : sbd h0 h b n) (hn : n < 65) {c : Int} (h1 : 0 ≤ c) (h2 : c ≤ 127) (k : ∀ h', sbd h0 h' b (n + 1) → Q b h') : w_J4_append_cf468 G b c h Q := by
  unfold w_J4_append_cf468
  refine ⟨sb.has, gCall_mk (by decide) (by decide) ?_⟩
  unfold w_J5_append_3fe6f
  obtain ⟨v0, bs0, b1, -⟩ := id sb
  refine gI_mk b1 rfl (x := (n : Int)) ⟨sb.has, gCall_mk (by decide) (by decide) (sb_ensure sb (m := n + 1) (by omega) (by omega) (by omega) (by omega) (fun h' s1 le => ⟨s1.has, sb_lat s1 ?_⟩))⟩
  (first | refine And.intro (show gR _ from by first | assumption | omega | decide | exact b2i_R _ | exact gR_of (by omega) (by omega)) ?_ | refine And.intro (show gHas _ _ _ from by first | exact gW.has (gD.w (by assumption)) (by omega) | exact gD.has (by assumption) | exact gRu.has (gD.ru (by assumption)) | exact gGr.has (gD.gr (by assumption) _ (by omega))) ?_ | refine gCall_mk (by decide) (by decide) ?_ | refine if_yes (by first | assumption | omega | decide | exact b2i_R _ | exact gR_of (by omega) (by omega)) ?_ | refine if_no (by first | assumption | omega | decide | exact b2i_R _ | exact gR_of (by omega) (by omega)) ?_); (first | refine And.intro (show gR _ from by first | assumption | omega | decide | exact b2i_R _ | exact gR_of (by omega) (by omega)) ?_ | refine And.intro (show gHas _ _ _ from by first | exact gW.has (gD.w (by assumption)) (by omega) | exact gD.has (by assumption) | exact gRu.has (gD.ru (by assumption)) | exact gGr.has (gD.gr (by assumption) _ (by omega))) ?_ | refine gCall_mk (by decide) (by decide) ?_ | refine if_yes (by first | assumption | omega | decide | exact b2i_R _ | exact gR_of (by omega) (by omega)) ?_ | refine if_no (by first | assumption | omega | decide | exact b2i_R _ | exact gR_of (by omega) (by omega)) ?_)
  refine if_no (by omega) ⟨by decide, if_no (by decide) ?_⟩
  obtain ⟨v, bs, a1, a2, -⟩ := id s1
  have hl := le v bs a1 a2
  refine gA_mk a1 rfl (gI_mk a1 rfl (x := (n : Int)) (sb_cnt s1 (m := n + 1) (by omega) le (fun h2' s2 keep e => ?_)))
  rw [gI2b_byte h1 h2]
  refine ⟨(narrow_byte2 h1 h2).1, sb_put s2 (e v a1) (by
    obtain ⟨_, _, _, _, _, _, _, q, -⟩ := id s1
    rw [keep v (fun z => by
      obtain ⟨v3, bs3, c1, c2, c3, c4, c5, c6, -⟩ := s1
      rw [a1] at c1; cases c1; exact c6 z.symm)]; exact a2) h1 h2 rfl (by omega) (fun h3 bs3 s3 _ _ _ => k h3 s3)⟩
/-- a turn is added -/
theorem sb_turn {Q : Nat → gaH → Prop} (sb : sbd h0 h b n) (hn : n < 65) (m3 : h0 (G.2.2.2 1) = some (1101, gaOnes)) {t : Nat} (ht : 1 ≤ t ∧ t ≤ 3) (k : ∀ h', sbd h0 h' b (n + 1) → Q b h') : w_J4_append_bf812 G b (t : Int) h Q := by
  unfold w_J4_append_bf812
  refine ⟨sb.has, gCall_mk (by decide) (by decide) ?_⟩
  unfold w_J5_append_c97b9
  obtain ⟨v0, bs0, b1, -⟩ := id sb
  refine gI_mk b1 rfl (x := (n : Int)) ?_
  unfold w_J6_stringSize_0f7a4
  refine ⟨by omega, if_no (by omega) ⟨1, ?_⟩⟩
  unfold w_J6_stringSize_0f7a4_L16
  refine ⟨by decide, if_no (by decide) ⟨by omega, by decide, if_no (by omega) ⟨sb.has, gCall_mk (by decide) (by decide) (sb_ensure sb (m := n + 1) (by omega) (by omega) (by omega) (by omega) (fun h' s1 le => ⟨s1.has, sb_lat s1 ?_⟩))⟩⟩⟩
  (first | refine And.intro (show gR _ from by first | assumption | omega | decide | exact b2i_R _ | exact gR_of (by omega) (by omega)) ?_ | refine And.intro (show gHas _ _ _ from by first | exact gW.has (gD.w (by assumption)) (by omega) | exact gD.has (by assumption) | exact gRu.has (gD.ru (by assumption)) | exact gGr.has (gD.gr (by assumption) _ (by omega))) ?_ | refine gCall_mk (by decide) (by decide) ?_ | refine if_yes (by first | assumption | omega | decide | exact b2i_R _ | exact gR_of (by omega) (by omega)) ?_ | refine if_no (by first | assumption | omega | decide | exact b2i_R _ | exact gR_of (by omega) (by omega)) ?_); (first | refine And.intro (show gR _ from by first | assumption | omega | decide | exact b2i_R _ | exact gR_of (by omega) (by omega)) ?_ | refine And.intro (show gHas _ _ _ from by first | exact gW.has (gD.w (by assumption)) (by omega) | exact gD.has (by assumption) | exact gRu.has (gD.ru (by assumption)) | exact gGr.has (gD.gr (by assumption) _ (by omega))) ?_ | refine gCall_mk (by decide) (by decide) ?_ | refine if_yes (by first | assumption | omega | decide | exact b2i_R _ | exact gR_of (by omega) (by omega)) ?_ | refine if_no (by first | assumption | omega | decide | exact b2i_R _ | exact gR_of (by omega) (by omega)) ?_)
  obtain ⟨v, bs, a1, a2, a3, a4, a5, a6, a7, a8, a9⟩ := id s1
  have hl := le v bs a1 a2
  refine gA_mk a1 rfl ?_
  unfold w_J6_getChars_ba4f3
  refine ⟨by omega, if_yes (by omega) ?_⟩
  unfold w_J6_getChars_ba4f3_J12
  refine ⟨by decide, if_yes rfl ⟨1, ?_⟩⟩
  unfold w_J6_getChars_ba4f3_L22
  refine ⟨by omega, if_yes (by omega) ⟨1101, gaOnes, ((48 + t % 10 : Nat) : Int), a9 _ _ m3, Or.inr rfl, by omega, by omega, ?_, ?_⟩⟩
  · rw [Int.neg_neg, Int.toNat_natCast]
    rcases (show t = 1 ∨ t = 2 ∨ t = 3 by omega) with rfl | rfl | rfl <;> rfl
  · refine ⟨(narrow_byte2 (by omega) (by omega)).1, sb_put s1 a1 a2 (by omega) (by omega) (p := n) (by omega) (by omega) (fun h2 bs2 s2 e1 e2 e3 => ⟨by omega, if_yes (by omega) ?_⟩)⟩
    unfold w_J6_getChars_ba4f3_J104
    refine ⟨by decide, if_yes rfl ?_⟩
    refine sb_cnt s2 (m := n + 1) (by omega) (fun v2 bs3 f1 f2 => ?_) (fun h3 s3 _ _ => k h3 s3)
    rw [e1] at f1; cases f1
    rw [e2] at f2; cases f2
    omega
theorem sb_toString {Q : Nat → gaH → Prop} (sb : sbd h0 h b n) (hn : n ≤ 64) (k : ∀ h' o, (∀ a e, h0 a = some e → h' a = some e) → h0 o = none → Q o h') : w_J4_toString_0e30d G b h Q := by
  obtain ⟨v, bs, a1, a2, a3, a4, a5, a6, a7, a8, a9⟩ := id sb
  unfold w_J4_toString_0e30d
  refine gNO_mk (by decide) (by decide) (fun o ho => gCall_mk (by decide) (by decide) ?_)
  have ob := new_ne a1 ho
  have ov := new_ne a2 ho
  have ho0 : h0 o = none := by
    cases q2 : h0 o with
    | none => rfl
    | some e => rw [a9 o e q2] at ho; cases ho
  unfold w_J0_init_81219
  refine gCall_mk (by decide) (by decide) ?_
  unfold w_J0_init_db425 w_J5_getValue_6d5f1
  have e1 : gaUp h o (0, [.null, gi 0, gi 0, gi 0]) b = some (1, [.ref v, gi 0, gi 0, gi (n : Int)]) := up_keep ho a1
  refine ⟨⟨_, e1⟩, gA_mk e1 rfl ⟨⟨_, e1⟩, ?_⟩⟩
  unfold w_J4_length_8abf5 w_J5_length_8abf5
  refine ⟨⟨_, e1⟩, gI_mk e1 rfl (x := (n : Int)) ⟨⟨_, e1⟩, ?_⟩⟩
  unfold w_J5_isLatin1_aae02
  refine gI_mk e1 rfl (x := 0) ⟨by decide, if_yes rfl ⟨by decide, if_no (by decide) (gPF_mk (gaUp_self _ _ _) (by decide) (gCall_mk (by decide) (by decide) ?_))⟩⟩
  have e2 : gaUp (gaUp h o (0, [.null, gi 0, gi 0, gi 0])) o (0, [.null, gi 0, gi 0, gi 0].set 1 (gi 0)) v = some (101, bs) := by rw [gaUp_ne _ _ ov, gaUp_ne _ _ ov]; exact a2
  have e3 : ∀ a e, h0 a = some e → gaUp (gaUp h o (0, [.null, gi 0, gi 0, gi 0])) o (0, [.null, gi 0, gi 0, gi 0].set 1 (gi 0)) a = some e := fun a e ha => by rw [gaUp_ne _ _ (new_ne ha ho0), gaUp_ne _ _ (new_ne ha ho0)]; exact a9 a e ha
  have e4 : gaUp (gaUp h o (0, [.null, gi 0, gi 0, gi 0])) o (0, [.null, gi 0, gi 0, gi 0].set 1 (gi 0)) o = some (0, [.null, gi 0, gi 0, gi 0]) := gaUp_self _ _ _
  generalize gaUp (gaUp h o (0, [.null, gi 0, gi 0, gi 0])) o (0, [.null, gi 0, gi 0, gi 0].set 1 (gi 0)) = g at e2 e3 e4 ⊢
  have fin : ∀ c f, g c = none → ∀ f2, gPF (gaUp (gaUp g c f) c f2) o 0 0 (.ref c) (fun h' => Q o h') := fun c f hc f2 => by
    have oc := new_ne e4 hc
    exact gPF_mk (by rw [gaUp_ne _ _ oc, gaUp_ne _ _ oc]; exact e4) (by decide) (k _ o (fun a e ha => by
      have h9 := e3 a e ha
      rw [gaUp_ne _ _ (new_ne ha ho0), gaUp_ne _ _ (new_ne h9 hc), gaUp_ne _ _ (new_ne h9 hc)]; exact h9) ho0)
  have fin1 : ∀ c f, g c = none → gPF (gaUp g c f) o 0 0 (.ref c) (fun h' => Q o h') := fun c f hc => by
    have oc := new_ne e4 hc
    exact gPF_mk (by rw [gaUp_ne _ _ oc]; exact e4) (by decide) (k _ o (fun a e ha => by
      have h9 := e3 a e ha
      rw [gaUp_ne _ _ (new_ne ha ho0), gaUp_ne _ _ (new_ne h9 hc)]; exact h9) ho0)
  unfold w_J7_copyOfRange_39247
  refine ⟨by decide, if_yes rfl (gAL_mk e2 rfl ⟨by omega, by omega, ?_⟩)⟩
  by_cases q : n = bs.length
  · refine if_yes (by omega) ⟨bs, e2, a3, by decide, by omega, fun c hc => ⟨_, _, rfl, rfl, ⟨_, gaUp_self _ _ _⟩, ?_⟩⟩
    exact fin1 c _ hc
  · refine if_no (by omega) ?_
    unfold w_J7_copyOfRange_39247_J10 w_J7_copyOfRangeByte_39247 w_J7_checkLength_df160
    refine gCall_mk (by decide) (by decide) ⟨by omega, by decide, if_yes (by omega) ?_⟩
    refine gNA_mk (n := n) (by omega) (by omega) (by decide) (by omega) (fun c hc => ?_)
    refine gAL_mk (up_keep hc e2) rfl ?_
    refine ⟨by omega, by omega, new_ne e2 hc, ?_⟩
    refine ⟨bs, _, up_keep hc e2, gaUp_self _ _ _, by omega, by omega, by omega, by omega, by omega, by omega, by simp; omega, a3, fun us _ _ => ?_⟩
    exact fin c _ hc _
end SB
/-! The garden's texts, as far as they go through. -/
section CT
variable {A : Nat → Nat} {G : gaG} {h h0 : gaH} {U : Nat → List Bool} {st : GSt} {X : String → gaH → Prop} {Q : Nat → gaH → Prop} {w v g b : Nat} {x y z : Int}
/-- all that was there is there -/
theorem gD.kp (d : gD A G h U st) {h' : gaH} (k : ∀ a e, h a = some e → h' a = some e) : gD A G h' U st := by
  obtain ⟨⟨R, N, ⟨i1, i2, m, m1, m2⟩, e⟩, ru, ⟨x1, x2, x3⟩, gr, ok, gw, s, mc, ne⟩ := d
  exact ⟨⟨R, N, ⟨i1, fun w hw => ⟨(i2 w hw).1, (i2 w hw).2.1, k _ _ (i2 w hw).2.2.1, k _ _ (i2 w hw).2.2.2⟩, m, m1, k _ _ m2⟩, e⟩, k _ _ ru, ⟨k _ _ x1, k _ _ x2, k _ _ x3⟩, fun g hg => by
    obtain ⟨a0, row, a1, a2, a3, a4⟩ := gr g hg
    exact ⟨k _ _ a0, row, a1, a2, k _ _ a3, a4⟩, ok, gw, s, k _ _ mc, ne⟩
theorem gFr.kp {h h' : gaH} (k : ∀ a e, h a = some e → h' a = some e) : gFr A h h' := fun a e _ q => k a e q
theorem s_textOf_L (hw : w < 11) (d0 : gD A G h0 U st) (k : ∀ h' o, (∀ a e, h0 a = some e → h' a = some e) → h0 o = none → Q o h') : ∀ (n i : Nat) (h : gaH) (kc ks : Nat), sbd h0 h b i → i ≤ (U w).length → (U w).length - i < n → 2 * ((U w).length - i) + 5 ≤ kc → 134 * ((U w).length - i) + 272 ≤ ks → w_X1_textOf_L10 G Q n (A w) b (i : Int) h kc ks
  | 0, _, _, _, _, _, _, h1, _, _ => absurd h1 (Nat.not_lt_zero _)
  | n + 1, i, h, kc, ks, sb, hi, h1, hc, hs => by
    have kp : ∀ a e, h0 a = some e → h a = some e := by obtain ⟨_, _, _, _, _, _, _, _, _, _, q⟩ := sb; exact q
    have d := d0.kp kp
    have l1 := d.w.le hw
    unfold w_X1_textOf_L10
    refine d.w.many hw ?_
    refine ⟨by omega, by omega, ?_⟩
    by_cases q : (U w).length ≤ i
    · refine if_yes (by omega) ⟨sb.has, gCall_mk (by omega) (by omega) (sb_toString sb (by omega) k)⟩
    · refine if_no (by omega) ⟨d.w.has hw, s_isUp d.w hw rfl (by omega) ⟨b2i_R _, ?_⟩⟩
      have go : ∀ c : Int, 0 ≤ c → c ≤ 127 → w_X1_textOf_J34 G Q (w_X1_textOf_L10 G Q n) (A w) b (i : Int) b c h kc ks := fun c c1 c2 => by
        unfold w_X1_textOf_J34
        refine ⟨sb.has, gCall_mk (by omega) (by omega) (sb_char sb (by omega) c1 c2 (fun h' s' => ?_))⟩
        rw [show (i : Int) + 1 = ((i + 1 : Nat) : Int) by omega]
        exact s_textOf_L hw d0 k n (i + 1) h' _ _ s' (by omega) (by omega) (by omega) (by omega)
      exact ite_both (fun _ => go 97 (by decide) (by decide)) (fun _ => go 98 (by decide) (by decide))
theorem s_textOf (hw : w < 11) (d0 : gD A G h0 U st) (k : ∀ h' o, (∀ a e, h0 a = some e → h' a = some e) → h0 o = none → Q o h') : w_X1_textOf G (A w) h0 Q := by
  have l1 := d0.w.le hw
  unfold w_X1_textOf
  refine gNO_mk (by decide) (by decide) (fun o ho => gCall_mk (by decide) (by decide) (sb_init ho (fun h' sb => ⟨66, ?_⟩)))
  exact s_textOf_L hw d0 k 66 0 h' _ _ sb (Nat.zero_le _) (by omega) (by omega) (by omega)
theorem c_text (d : gD A G h U st) (hx : gR x) (e : ¬ okS x → X eI h) (k : okS x → ∀ h' o, (∀ a e, h a = some e → h' a = some e) → h o = none → Q o h') : w_X5_text G X (A 22) x h Q := by
  unfold w_X5_text
  (first | refine And.intro (show gR _ from by first | assumption | omega | decide | exact b2i_R _ | exact gR_of (by omega) (by omega)) ?_ | refine And.intro (show gHas _ _ _ from by first | exact gW.has (gD.w (by assumption)) (by omega) | exact gD.has (by assumption) | exact gRu.has (gD.ru (by assumption)) | exact gGr.has (gD.gr (by assumption) _ (by omega))) ?_ | refine gCall_mk (by decide) (by decide) ?_ | refine if_yes (by first | assumption | omega | decide | exact b2i_R _ | exact gR_of (by omega) (by omega)) ?_ | refine if_no (by first | assumption | omega | decide | exact b2i_R _ | exact gR_of (by omega) (by omega)) ?_)
  refine gCall_mk (by decide) (by decide) (c_wordOf d hx e (fun w hw e => gCall_mk (by decide) (by decide) (s_textOf (by omega) d (k (by omega)))))
theorem c_grown (d : gD A G h U st) (hx : gR x) (hy : y = 0 ∨ y = 1) (e : ¬ okG x → X eI h) (k : okG x → ∀ h' o, (∀ a e, h a = some e → h' a = some e) → h o = none → Q o h') : w_X5_grown G X (A 22) x y h Q := by
  unfold w_X5_grown
  (first | refine And.intro (show gR _ from by first | assumption | omega | decide | exact b2i_R _ | exact gR_of (by omega) (by omega)) ?_ | refine And.intro (show gHas _ _ _ from by first | exact gW.has (gD.w (by assumption)) (by omega) | exact gD.has (by assumption) | exact gRu.has (gD.ru (by assumption)) | exact gGr.has (gD.gr (by assumption) _ (by omega))) ?_ | refine gCall_mk (by decide) (by decide) ?_ | refine if_yes (by first | assumption | omega | decide | exact b2i_R _ | exact gR_of (by omega) (by omega)) ?_ | refine if_no (by first | assumption | omega | decide | exact b2i_R _ | exact gR_of (by omega) (by omega)) ?_)
  refine gCall_mk (by decide) (by decide) (c_growthOf d hx e (fun g hg e => ?_))
  (first | refine And.intro (show gR _ from by first | assumption | omega | decide | exact b2i_R _ | exact gR_of (by omega) (by omega)) ?_ | refine And.intro (show gHas _ _ _ from by first | exact gW.has (gD.w (by assumption)) (by omega) | exact gD.has (by assumption) | exact gRu.has (gD.ru (by assumption)) | exact gGr.has (gD.gr (by assumption) _ (by omega))) ?_ | refine gCall_mk (by decide) (by decide) ?_ | refine if_yes (by first | assumption | omega | decide | exact b2i_R _ | exact gR_of (by omega) (by omega)) ?_ | refine if_no (by first | assumption | omega | decide | exact b2i_R _ | exact gR_of (by omega) (by omega)) ?_)
  exact s_wordBy (d.gr g hg) hy (fun _ => gCall_mk (by decide) (by decide) (s_textOf (by omega) d (k (by omega)))) (fun _ => gCall_mk (by decide) (by decide) (s_textOf (by omega) d (k (by omega))))
theorem s_turns_L (hg : g < 2) (d0 : gD A G h0 U st) (m3 : h0 (G.2.2.2 1) = some (1101, gaOnes)) (k : ∀ h' o, (∀ a e, h0 a = some e → h' a = some e) → h0 o = none → Q o h') : ∀ (n i : Nat) (h : gaH) (kc ks : Nat), sbd h0 h b i → i ≤ (st.T g).length → (st.T g).length - i < n → 2 * ((st.T g).length - i) + 5 ≤ kc → 134 * ((st.T g).length - i) + 272 ≤ ks → w_X5_turns_L17 G X Q n (A (26 + g)) b (i : Int) h kc ks
  | 0, _, _, _, _, _, _, h1, _, _ => absurd h1 (Nat.not_lt_zero _)
  | n + 1, i, h, kc, ks, sb, hi, h1, hc, hs => by
    have kp : ∀ a e, h0 a = some e → h a = some e := by obtain ⟨_, _, _, _, _, _, _, _, _, _, q⟩ := sb; exact q
    have d := d0.kp kp
    have l1 := (d.ok g hg).len
    unfold w_X5_turns_L17
    refine (d.gr g hg).ct ⟨by omega, by omega, ?_⟩
    by_cases q : (st.T g).length ≤ i
    · refine if_yes (by omega) ⟨sb.has, gCall_mk (by omega) (by omega) (sb_toString sb (by omega) k)⟩
    · refine if_no (by omega) ⟨(d.gr g hg).has, s_turnAt (d.gr g hg) rfl (by omega) ⟨sb.has, gCall_mk (by omega) (by omega) (sb_turn sb (by omega) m3 ?_ (fun h' s' => ?_))⟩⟩
      · have hm : (st.T g).getD i 0 ∈ st.T g := by
          rw [List.getD_eq_getElem?_getD, List.getElem?_eq_getElem (by omega)]
          exact List.getElem_mem _
        exact (d.ok g hg).1 _ hm
      · rw [show (i : Int) + 1 = ((i + 1 : Nat) : Int) by omega]
        exact s_turns_L hg d0 m3 k n (i + 1) h' _ _ s' (by omega) (by omega) (by omega) (by omega)
theorem c_turns (d : gD A G h U st) (hx : gR x) (m3 : h (G.2.2.2 1) = some (1101, gaOnes)) (e : ¬ okG x → X eI h) (k : okG x → ∀ h' o, (∀ a e, h a = some e → h' a = some e) → h o = none → Q o h') : w_X5_turns G X (A 22) x h Q := by
  unfold w_X5_turns
  (first | refine And.intro (show gR _ from by first | assumption | omega | decide | exact b2i_R _ | exact gR_of (by omega) (by omega)) ?_ | refine And.intro (show gHas _ _ _ from by first | exact gW.has (gD.w (by assumption)) (by omega) | exact gD.has (by assumption) | exact gRu.has (gD.ru (by assumption)) | exact gGr.has (gD.gr (by assumption) _ (by omega))) ?_ | refine gCall_mk (by decide) (by decide) ?_ | refine if_yes (by first | assumption | omega | decide | exact b2i_R _ | exact gR_of (by omega) (by omega)) ?_ | refine if_no (by first | assumption | omega | decide | exact b2i_R _ | exact gR_of (by omega) (by omega)) ?_)
  refine gCall_mk (by decide) (by decide) (c_growthOf d hx e (fun g hg e => gNO_mk (by decide) (by decide) (fun o ho => gCall_mk (by decide) (by decide) (sb_init ho (fun h' sb => ⟨66, ?_⟩)))))
  have l1 := (d.ok g hg).len
  exact s_turns_L hg d m3 (k (by omega)) 66 0 h' _ _ sb (Nat.zero_le _) (by omega) (by omega) (by omega)
end CT
