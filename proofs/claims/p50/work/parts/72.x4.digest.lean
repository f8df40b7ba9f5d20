/-! The digest to the last: class and reference fold the same numbers. -/
def dA (d : Int64) (x : Int) : Int64 := d * 31 + gI2l x
def dSg (u : List Bool) : Nat → Nat → Int64 → Int64
  | 0, _, t => t
  | k + 1, i, t => dSg u k (i + 1) (dA t (b2i (u.getD i false) + 1))
noncomputable def tmV (u : List Bool) : Int := Classical.epsilon (isT u)
theorem tm_eq {u : List Bool} {r : Int} (h : isT u r) : r = tmV u := isT_u _ _ h (Classical.epsilon_spec ⟨r, h⟩)
noncomputable def dEn (u : List Bool) (t : Int64) : Int64 := dA (dA (dA (dA (dA (dA t (ones u : Int)) (b2i (mir u 0 u.length))) (tmV u)) ((sm (fun p => sm (ovF u p) 66) 66 : Nat) : Int)) ((sm (flF u) u.length : Nat) : Int)) ((lst u u.length : Nat) : Int)
noncomputable def dSh (u : List Bool) (t : Int64) : Int64 := dEn u (dSg u u.length 0 (dA t (u.length : Int)))
def dTn (ts : List Nat) : Nat → Nat → Int64 → Int64
  | 0, _, t => t
  | k + 1, i, t => dTn ts k (i + 1) (dA t ((ts.getD i 0 : Nat) : Int))
def dGe (ts : List Nat) (t : Int64) : Int64 := dA (dA (dA (dA (dA (dA t ((grw ts).2.length : Int)) ((grw ts).1.length : Int)) (ones (grw ts).2 : Int)) (ones (grw ts).1 : Int)) (crossG ts)) (unlike (grw ts).2 (grw ts).1)
def dGr (ts : List Nat) (t : Int64) : Int64 := dGe ts (dTn ts ts.length 0 (dA t (ts.length : Int)))
def dHs (C : Nat → Int) : Nat → Nat → Int64 → Int64
  | 0, _, t => t
  | k + 1, i, t => dHs C k (i + 1) (dA t (C i))
noncomputable def dGa (st : GSt) : Int64 := dA (dHs st.C 4 0 (dGr (st.T 1) (dGr (st.T 0) (dSh (st.S 2) (dSh (st.S 1) (dSh (st.S 0) 7979)))))) (b2i (soundB (st.T 0) && soundB (st.T 1)))
theorem gI2l_1 : gI2l (b2i false + 1) = 1 := rfl
theorem gI2l_2 : gI2l (b2i true + 1) = 2 := rfl
section XD
variable {A : Nat → Nat} {G : gaG} {h : gaH} {U : Nat → List Bool} {st : GSt} {X : String → gaH → Prop} {w v g : Nat} {x y z : Int}
theorem x_oneIf {b : Bool} {K : Int → gaH → Prop} (k : K (b2i b) h) : w_X5_oneIf (b2i b) h K := by
  unfold w_X5_oneIf
  refine ⟨b2i_R _, ?_⟩
  cases b
  · exact if_yes rfl k
  · exact if_no (by decide) k
theorem x_digestSheet_L {Q : Int64 → gaH → Prop} (hw : w < 3) : ∀ (n i e : Nat) (h : gaH) (U : Nat → List Bool) (kc ks : Nat) (t : Int64), gD A G h U st → i + e = (st.S w).length → e < n → 6 ≤ kc → 36 ≤ ks → (∀ h' U', gD A G h' U' st → gFr A h h' → Q (dEn (st.S w) (dSg (st.S w) e i t)) h') → w_X5_digestSheet_L22 X Q n (A 22) (w : Int) (A w) t (i : Int) h kc ks
  | 0, _, _, _, _, _, _, _, _, _, h1, _, _, _ => absurd h1 (Nat.not_lt_zero _)
  | n + 1, i, e, h, U, kc, ks, t, d, hi, h1, hc, hs, k => by
    have l1 := d.w.le (show w < 11 by omega)
    have hS : okS (w : Int) := by omega
    have eU := d.s w hw
    have hk : (w : Int).toNat = w := Int.toNat_natCast w
    unfold w_X5_digestSheet_L22
    refine d.w.many (by omega) ?_
    rw [eU] at l1 ⊢
    (first | refine And.intro (show gR _ from by first | assumption | omega | decide | exact b2i_R _ | exact gR_of (by omega) (by omega)) ?_ | refine And.intro (show gHas _ _ _ from by first | exact gW.has (gD.w (by assumption)) (by omega) | exact gD.has (by assumption) | exact gRu.has (gD.ru (by assumption)) | exact gGr.has (gD.gr (by assumption) _ (by omega))) ?_ | refine gCall_mk (by decide) (by decide) ?_ | refine if_yes (by first | assumption | omega | decide | exact b2i_R _ | exact gR_of (by omega) (by omega)) ?_ | refine if_no (by first | assumption | omega | decide | exact b2i_R _ | exact gR_of (by omega) (by omega)) ?_); (first | refine And.intro (show gR _ from by first | assumption | omega | decide | exact b2i_R _ | exact gR_of (by omega) (by omega)) ?_ | refine And.intro (show gHas _ _ _ from by first | exact gW.has (gD.w (by assumption)) (by omega) | exact gD.has (by assumption) | exact gRu.has (gD.ru (by assumption)) | exact gGr.has (gD.gr (by assumption) _ (by omega))) ?_ | refine gCall_mk (by decide) (by decide) ?_ | refine if_yes (by first | assumption | omega | decide | exact b2i_R _ | exact gR_of (by omega) (by omega)) ?_ | refine if_no (by first | assumption | omega | decide | exact b2i_R _ | exact gR_of (by omega) (by omega)) ?_)
    cases e with
    | zero =>
      refine if_yes (by omega) ?_
      (first | refine And.intro (show gR _ from by first | assumption | omega | decide | exact b2i_R _ | exact gR_of (by omega) (by omega)) ?_ | refine And.intro (show gHas _ _ _ from by first | exact gW.has (gD.w (by assumption)) (by omega) | exact gD.has (by assumption) | exact gRu.has (gD.ru (by assumption)) | exact gGr.has (gD.gr (by assumption) _ (by omega))) ?_ | refine gCall_mk (by decide) (by decide) ?_ | refine if_yes (by first | assumption | omega | decide | exact b2i_R _ | exact gR_of (by omega) (by omega)) ?_ | refine if_no (by first | assumption | omega | decide | exact b2i_R _ | exact gR_of (by omega) (by omega)) ?_)
      refine gCall_mk (by omega) (by omega) (c_count d (b := true) (by omega) rfl (gRes.to (if_pos hS) (fun h1 U1 r1 d1 f1 p1 => ?_)))
      show gHas _ _ _ ∧ _
      (first | refine And.intro (show gR _ from by first | assumption | omega | decide | exact b2i_R _ | exact gR_of (by omega) (by omega)) ?_ | refine And.intro (show gHas _ _ _ from by first | exact gW.has (gD.w (by assumption)) (by omega) | exact gD.has (by assumption) | exact gRu.has (gD.ru (by assumption)) | exact gGr.has (gD.gr (by assumption) _ (by omega))) ?_ | refine gCall_mk (by decide) (by decide) ?_ | refine if_yes (by first | assumption | omega | decide | exact b2i_R _ | exact gR_of (by omega) (by omega)) ?_ | refine if_no (by first | assumption | omega | decide | exact b2i_R _ | exact gR_of (by omega) (by omega)) ?_)
      refine gCall_mk (by omega) (by omega) (c_isMirrored_x d1 (by omega) (gRes.to (if_pos hS) (fun h2 U2 r2 d2 f2 p2 => ?_)))
      have p2' : r2 = b2i (mir (st.S w) 0 (st.S w).length) := by rw [hk] at p2; exact p2
      have p1' : r1 = (ones (st.S w) : Int) := by rw [hk] at p1; exact p1
      rw [p2']
      refine x_oneIf ?_
      show gHas _ _ _ ∧ _
      (first | refine And.intro (show gR _ from by first | assumption | omega | decide | exact b2i_R _ | exact gR_of (by omega) (by omega)) ?_ | refine And.intro (show gHas _ _ _ from by first | exact gW.has (gD.w (by assumption)) (by omega) | exact gD.has (by assumption) | exact gRu.has (gD.ru (by assumption)) | exact gGr.has (gD.gr (by assumption) _ (by omega))) ?_ | refine gCall_mk (by decide) (by decide) ?_ | refine if_yes (by first | assumption | omega | decide | exact b2i_R _ | exact gR_of (by omega) (by omega)) ?_ | refine if_no (by first | assumption | omega | decide | exact b2i_R _ | exact gR_of (by omega) (by omega)) ?_)
      refine gCall_mk (by omega) (by omega) (c_times_x d2 (by omega) (gRes.to (if_pos hS) (fun h3 U3 r4 d3 f3 p3 => ?_)))
      have p3' : r4 = tmV (st.S w) := by rw [hk] at p3; exact tm_eq p3
      show gHas _ _ _ ∧ _
      (first | refine And.intro (show gR _ from by first | assumption | omega | decide | exact b2i_R _ | exact gR_of (by omega) (by omega)) ?_ | refine And.intro (show gHas _ _ _ from by first | exact gW.has (gD.w (by assumption)) (by omega) | exact gD.has (by assumption) | exact gRu.has (gD.ru (by assumption)) | exact gGr.has (gD.gr (by assumption) _ (by omega))) ?_ | refine gCall_mk (by decide) (by decide) ?_ | refine if_yes (by first | assumption | omega | decide | exact b2i_R _ | exact gR_of (by omega) (by omega)) ?_ | refine if_no (by first | assumption | omega | decide | exact b2i_R _ | exact gR_of (by omega) (by omega)) ?_)
      refine gCall_mk (by omega) (by omega) (c_overlaps_x d3 (by omega) (gRes.to (if_pos hS) (fun h4 U4 r5 d4 f4 p4 => ?_)))
      have p4' : r5 = ((sm (fun p => sm (ovF (st.S w) p) 66) 66 : Nat) : Int) := by rw [hk] at p4; exact p4
      show gHas _ _ _ ∧ _
      (first | refine And.intro (show gR _ from by first | assumption | omega | decide | exact b2i_R _ | exact gR_of (by omega) (by omega)) ?_ | refine And.intro (show gHas _ _ _ from by first | exact gW.has (gD.w (by assumption)) (by omega) | exact gD.has (by assumption) | exact gRu.has (gD.ru (by assumption)) | exact gGr.has (gD.gr (by assumption) _ (by omega))) ?_ | refine gCall_mk (by decide) (by decide) ?_ | refine if_yes (by first | assumption | omega | decide | exact b2i_R _ | exact gR_of (by omega) (by omega)) ?_ | refine if_no (by first | assumption | omega | decide | exact b2i_R _ | exact gR_of (by omega) (by omega)) ?_)
      refine gCall_mk (by omega) (by omega) (c_folds_x d4 (by omega) (gRes.to (if_pos hS) (fun h5 U5 r6 d5 f5 p5 => ?_)))
      have p5' : r6 = ((sm (flF (st.S w)) (st.S w).length : Nat) : Int) := by rw [hk] at p5; exact p5
      show gHas _ _ _ ∧ _
      (first | refine And.intro (show gR _ from by first | assumption | omega | decide | exact b2i_R _ | exact gR_of (by omega) (by omega)) ?_ | refine And.intro (show gHas _ _ _ from by first | exact gW.has (gD.w (by assumption)) (by omega) | exact gD.has (by assumption) | exact gRu.has (gD.ru (by assumption)) | exact gGr.has (gD.gr (by assumption) _ (by omega))) ?_ | refine gCall_mk (by decide) (by decide) ?_ | refine if_yes (by first | assumption | omega | decide | exact b2i_R _ | exact gR_of (by omega) (by omega)) ?_ | refine if_no (by first | assumption | omega | decide | exact b2i_R _ | exact gR_of (by omega) (by omega)) ?_)
      refine gCall_mk (by omega) (by omega) (c_least_x d5 (by omega) (gRes.to (if_pos hS) (fun h6 U6 r7 d6 f6 p6 => ?_)))
      have p6' : r7 = ((lst (st.S w) (st.S w).length : Nat) : Int) := by rw [hk] at p6; exact p6
      have kk := k h6 U6 d6 (f1.tr (f2.tr (f3.tr (f4.tr (f5.tr f6)))))
      rw [p1', p3', p4', p5', p6']
      exact kk
    | succ e =>
      refine if_no (by omega) ?_
      (first | refine And.intro (show gR _ from by first | assumption | omega | decide | exact b2i_R _ | exact gR_of (by omega) (by omega)) ?_ | refine And.intro (show gHas _ _ _ from by first | exact gW.has (gD.w (by assumption)) (by omega) | exact gD.has (by assumption) | exact gRu.has (gD.ru (by assumption)) | exact gGr.has (gD.gr (by assumption) _ (by omega))) ?_ | refine gCall_mk (by decide) (by decide) ?_ | refine if_yes (by first | assumption | omega | decide | exact b2i_R _ | exact gR_of (by omega) (by omega)) ?_ | refine if_no (by first | assumption | omega | decide | exact b2i_R _ | exact gR_of (by omega) (by omega)) ?_)
      refine s_isUp d.w (show w < 11 by omega) rfl (by rw [eU]; omega) ?_
      rw [eU]
      (first | refine And.intro (show gR _ from by first | assumption | omega | decide | exact b2i_R _ | exact gR_of (by omega) (by omega)) ?_ | refine And.intro (show gHas _ _ _ from by first | exact gW.has (gD.w (by assumption)) (by omega) | exact gD.has (by assumption) | exact gRu.has (gD.ru (by assumption)) | exact gGr.has (gD.gr (by assumption) _ (by omega))) ?_ | refine gCall_mk (by decide) (by decide) ?_ | refine if_yes (by first | assumption | omega | decide | exact b2i_R _ | exact gR_of (by omega) (by omega)) ?_ | refine if_no (by first | assumption | omega | decide | exact b2i_R _ | exact gR_of (by omega) (by omega)) ?_)
      have ih := fun t2 (kk : ∀ h' U', gD A G h' U' st → gFr A h h' → Q (dEn (st.S w) (dSg (st.S w) e (i + 1) t2)) h') => x_digestSheet_L (Q := Q) hw n (i + 1) e h U kc ks t2 d (by omega) (by omega) hc hs kk
      unfold w_X5_digestSheet_J51 w_X5_digestWith
      rw [show (i : Int) + 1 = ((i + 1 : Nat) : Int) by omega]
      unfold dSg dA at k
      generalize (st.S w).getD i false = b at k
      cases b
      · refine if_yes rfl (ih _ ?_)
        rw [gI2l_1] at k
        exact k
      · refine if_no (by decide) (ih _ ?_)
        rw [gI2l_2] at k
        exact k
theorem x_digestSheet {Q : Int64 → gaH → Prop} {t : Int64} (d : gD A G h U st) (hw : w < 3) (k : ∀ h' U', gD A G h' U' st → gFr A h h' → Q (dSh (st.S w) t) h') : w_X5_digestSheet X (A 22) t (w : Int) h Q := by
  have l1 := d.w.le (show w < 11 by omega)
  have eU := d.s w hw
  unfold w_X5_digestSheet
  (first | refine And.intro (show gR _ from by first | assumption | omega | decide | exact b2i_R _ | exact gR_of (by omega) (by omega)) ?_ | refine And.intro (show gHas _ _ _ from by first | exact gW.has (gD.w (by assumption)) (by omega) | exact gD.has (by assumption) | exact gRu.has (gD.ru (by assumption)) | exact gGr.has (gD.gr (by assumption) _ (by omega))) ?_ | refine gCall_mk (by decide) (by decide) ?_ | refine if_yes (by first | assumption | omega | decide | exact b2i_R _ | exact gR_of (by omega) (by omega)) ?_ | refine if_no (by first | assumption | omega | decide | exact b2i_R _ | exact gR_of (by omega) (by omega)) ?_); (first | refine And.intro (show gR _ from by first | assumption | omega | decide | exact b2i_R _ | exact gR_of (by omega) (by omega)) ?_ | refine And.intro (show gHas _ _ _ from by first | exact gW.has (gD.w (by assumption)) (by omega) | exact gD.has (by assumption) | exact gRu.has (gD.ru (by assumption)) | exact gGr.has (gD.gr (by assumption) _ (by omega))) ?_ | refine gCall_mk (by decide) (by decide) ?_ | refine if_yes (by first | assumption | omega | decide | exact b2i_R _ | exact gR_of (by omega) (by omega)) ?_ | refine if_no (by first | assumption | omega | decide | exact b2i_R _ | exact gR_of (by omega) (by omega)) ?_)
  refine c_wordOf d (by omega) (fun q => absurd (show okS (w : Int) by omega) q) (fun v hv e => ?_)
  obtain rfl : w = v := by omega
  rw [eU] at l1
  refine d.w.many (by omega) ?_
  rw [eU]
  exact ⟨66, x_digestSheet_L hw 66 0 (st.S w).length h U _ _ _ d (by omega) (by omega) (by decide) (by decide) k⟩
theorem x_digestGrowth_L {Q : Int64 → gaH → Prop} (hg : g < 2) : ∀ (n i e : Nat) (h : gaH) (U : Nat → List Bool) (kc ks : Nat) (t : Int64), gD A G h U st → i + e = (st.T g).length → e < n → 6 ≤ kc → 36 ≤ ks → (∀ h' U', gD A G h' U' st → gFr A h h' → Q (dGe (st.T g) (dTn (st.T g) e i t)) h') → w_X5_digestGrowth_L22 X Q n (A 22) (g : Int) (A (26 + g)) t (i : Int) h kc ks
  | 0, _, _, _, _, _, _, _, _, _, h1, _, _, _ => absurd h1 (Nat.not_lt_zero _)
  | n + 1, i, e, h, U, kc, ks, t, d, hi, h1, hc, hs, k => by
    have l1 := (d.ok g hg).len
    have hS : okG (g : Int) := by omega
    have hk : (g : Int).toNat = g := Int.toNat_natCast g
    unfold w_X5_digestGrowth_L22
    refine (d.gr g hg).ct ?_
    (first | refine And.intro (show gR _ from by first | assumption | omega | decide | exact b2i_R _ | exact gR_of (by omega) (by omega)) ?_ | refine And.intro (show gHas _ _ _ from by first | exact gW.has (gD.w (by assumption)) (by omega) | exact gD.has (by assumption) | exact gRu.has (gD.ru (by assumption)) | exact gGr.has (gD.gr (by assumption) _ (by omega))) ?_ | refine gCall_mk (by decide) (by decide) ?_ | refine if_yes (by first | assumption | omega | decide | exact b2i_R _ | exact gR_of (by omega) (by omega)) ?_ | refine if_no (by first | assumption | omega | decide | exact b2i_R _ | exact gR_of (by omega) (by omega)) ?_); (first | refine And.intro (show gR _ from by first | assumption | omega | decide | exact b2i_R _ | exact gR_of (by omega) (by omega)) ?_ | refine And.intro (show gHas _ _ _ from by first | exact gW.has (gD.w (by assumption)) (by omega) | exact gD.has (by assumption) | exact gRu.has (gD.ru (by assumption)) | exact gGr.has (gD.gr (by assumption) _ (by omega))) ?_ | refine gCall_mk (by decide) (by decide) ?_ | refine if_yes (by first | assumption | omega | decide | exact b2i_R _ | exact gR_of (by omega) (by omega)) ?_ | refine if_no (by first | assumption | omega | decide | exact b2i_R _ | exact gR_of (by omega) (by omega)) ?_)
    cases e with
    | zero =>
      refine if_yes (by omega) ?_
      (first | refine And.intro (show gR _ from by first | assumption | omega | decide | exact b2i_R _ | exact gR_of (by omega) (by omega)) ?_ | refine And.intro (show gHas _ _ _ from by first | exact gW.has (gD.w (by assumption)) (by omega) | exact gD.has (by assumption) | exact gRu.has (gD.ru (by assumption)) | exact gGr.has (gD.gr (by assumption) _ (by omega))) ?_ | refine gCall_mk (by decide) (by decide) ?_ | refine if_yes (by first | assumption | omega | decide | exact b2i_R _ | exact gR_of (by omega) (by omega)) ?_ | refine if_no (by first | assumption | omega | decide | exact b2i_R _ | exact gR_of (by omega) (by omega)) ?_)
      refine gCall_mk (by omega) (by omega) (c_size d (b := false) (by omega) rfl (gRes.to (if_pos hS) (fun h1 U1 r1 d1 f1 p1 => ?_)))
      show gHas _ _ _ ∧ _
      (first | refine And.intro (show gR _ from by first | assumption | omega | decide | exact b2i_R _ | exact gR_of (by omega) (by omega)) ?_ | refine And.intro (show gHas _ _ _ from by first | exact gW.has (gD.w (by assumption)) (by omega) | exact gD.has (by assumption) | exact gRu.has (gD.ru (by assumption)) | exact gGr.has (gD.gr (by assumption) _ (by omega))) ?_ | refine gCall_mk (by decide) (by decide) ?_ | refine if_yes (by first | assumption | omega | decide | exact b2i_R _ | exact gR_of (by omega) (by omega)) ?_ | refine if_no (by first | assumption | omega | decide | exact b2i_R _ | exact gR_of (by omega) (by omega)) ?_)
      refine gCall_mk (by omega) (by omega) (c_size d1 (b := true) (by omega) rfl (gRes.to (if_pos hS) (fun h2 U2 r2 d2 f2 p2 => ?_)))
      show gHas _ _ _ ∧ _
      (first | refine And.intro (show gR _ from by first | assumption | omega | decide | exact b2i_R _ | exact gR_of (by omega) (by omega)) ?_ | refine And.intro (show gHas _ _ _ from by first | exact gW.has (gD.w (by assumption)) (by omega) | exact gD.has (by assumption) | exact gRu.has (gD.ru (by assumption)) | exact gGr.has (gD.gr (by assumption) _ (by omega))) ?_ | refine gCall_mk (by decide) (by decide) ?_ | refine if_yes (by first | assumption | omega | decide | exact b2i_R _ | exact gR_of (by omega) (by omega)) ?_ | refine if_no (by first | assumption | omega | decide | exact b2i_R _ | exact gR_of (by omega) (by omega)) ?_)
      refine gCall_mk (by omega) (by omega) (c_ups d2 (b := false) (by omega) rfl (gRes.to (if_pos hS) (fun h3 U3 r4 d3 f3 p3 => ?_)))
      show gHas _ _ _ ∧ _
      (first | refine And.intro (show gR _ from by first | assumption | omega | decide | exact b2i_R _ | exact gR_of (by omega) (by omega)) ?_ | refine And.intro (show gHas _ _ _ from by first | exact gW.has (gD.w (by assumption)) (by omega) | exact gD.has (by assumption) | exact gRu.has (gD.ru (by assumption)) | exact gGr.has (gD.gr (by assumption) _ (by omega))) ?_ | refine gCall_mk (by decide) (by decide) ?_ | refine if_yes (by first | assumption | omega | decide | exact b2i_R _ | exact gR_of (by omega) (by omega)) ?_ | refine if_no (by first | assumption | omega | decide | exact b2i_R _ | exact gR_of (by omega) (by omega)) ?_)
      refine gCall_mk (by omega) (by omega) (c_ups d3 (b := true) (by omega) rfl (gRes.to (if_pos hS) (fun h4 U4 r5 d4 f4 p4 => ?_)))
      show gHas _ _ _ ∧ _
      (first | refine And.intro (show gR _ from by first | assumption | omega | decide | exact b2i_R _ | exact gR_of (by omega) (by omega)) ?_ | refine And.intro (show gHas _ _ _ from by first | exact gW.has (gD.w (by assumption)) (by omega) | exact gD.has (by assumption) | exact gRu.has (gD.ru (by assumption)) | exact gGr.has (gD.gr (by assumption) _ (by omega))) ?_ | refine gCall_mk (by decide) (by decide) ?_ | refine if_yes (by first | assumption | omega | decide | exact b2i_R _ | exact gR_of (by omega) (by omega)) ?_ | refine if_no (by first | assumption | omega | decide | exact b2i_R _ | exact gR_of (by omega) (by omega)) ?_)
      refine gCall_mk (by omega) (by omega) (c_cross d4 (by omega) (gRes.to (if_pos hS) (fun h5 U5 r6 d5 f5 p5 => ?_)))
      show gHas _ _ _ ∧ _
      (first | refine And.intro (show gR _ from by first | assumption | omega | decide | exact b2i_R _ | exact gR_of (by omega) (by omega)) ?_ | refine And.intro (show gHas _ _ _ from by first | exact gW.has (gD.w (by assumption)) (by omega) | exact gD.has (by assumption) | exact gRu.has (gD.ru (by assumption)) | exact gGr.has (gD.gr (by assumption) _ (by omega))) ?_ | refine gCall_mk (by decide) (by decide) ?_ | refine if_yes (by first | assumption | omega | decide | exact b2i_R _ | exact gR_of (by omega) (by omega)) ?_ | refine if_no (by first | assumption | omega | decide | exact b2i_R _ | exact gR_of (by omega) (by omega)) ?_)
      refine gCall_mk (by omega) (by omega) (c_alike d5 (by omega) (gRes.to (if_pos hS) (fun h6 U6 r7 d6 f6 p6 => ?_)))
      have kk := k h6 U6 d6 (f1.tr (f2.tr (f3.tr (f4.tr (f5.tr f6)))))
      rw [hk] at p1 p2 p3 p4 p5 p6
      have p1' : r1 = ((grw (st.T g)).2.length : Int) := p1
      have p2' : r2 = ((grw (st.T g)).1.length : Int) := p2
      have p3' : r4 = (ones (grw (st.T g)).2 : Int) := p3
      have p4' : r5 = (ones (grw (st.T g)).1 : Int) := p4
      have p5' : r6 = crossG (st.T g) := p5
      have p6' : r7 = unlike (grw (st.T g)).2 (grw (st.T g)).1 := p6
      rw [p1', p2', p3', p4', p5', p6']
      exact kk
    | succ e =>
      refine if_no (by omega) ?_
      (first | refine And.intro (show gR _ from by first | assumption | omega | decide | exact b2i_R _ | exact gR_of (by omega) (by omega)) ?_ | refine And.intro (show gHas _ _ _ from by first | exact gW.has (gD.w (by assumption)) (by omega) | exact gD.has (by assumption) | exact gRu.has (gD.ru (by assumption)) | exact gGr.has (gD.gr (by assumption) _ (by omega))) ?_ | refine gCall_mk (by decide) (by decide) ?_ | refine if_yes (by first | assumption | omega | decide | exact b2i_R _ | exact gR_of (by omega) (by omega)) ?_ | refine if_no (by first | assumption | omega | decide | exact b2i_R _ | exact gR_of (by omega) (by omega)) ?_)
      refine s_turnAt (d.gr g hg) rfl (by omega) ?_
      show w_X5_digestGrowth_L22 X Q n (A 22) (g : Int) (A (26 + g)) _ ((i : Int) + 1) h kc ks
      rw [show (i : Int) + 1 = ((i + 1 : Nat) : Int) by omega]
      exact x_digestGrowth_L hg n (i + 1) e h U kc ks _ d (by omega) (by omega) hc hs k
theorem x_digestGrowth {Q : Int64 → gaH → Prop} {t : Int64} (d : gD A G h U st) (hg : g < 2) (k : ∀ h' U', gD A G h' U' st → gFr A h h' → Q (dGr (st.T g) t) h') : w_X5_digestGrowth X (A 22) t (g : Int) h Q := by
  have l1 := (d.ok g hg).len
  unfold w_X5_digestGrowth
  (first | refine And.intro (show gR _ from by first | assumption | omega | decide | exact b2i_R _ | exact gR_of (by omega) (by omega)) ?_ | refine And.intro (show gHas _ _ _ from by first | exact gW.has (gD.w (by assumption)) (by omega) | exact gD.has (by assumption) | exact gRu.has (gD.ru (by assumption)) | exact gGr.has (gD.gr (by assumption) _ (by omega))) ?_ | refine gCall_mk (by decide) (by decide) ?_ | refine if_yes (by first | assumption | omega | decide | exact b2i_R _ | exact gR_of (by omega) (by omega)) ?_ | refine if_no (by first | assumption | omega | decide | exact b2i_R _ | exact gR_of (by omega) (by omega)) ?_); (first | refine And.intro (show gR _ from by first | assumption | omega | decide | exact b2i_R _ | exact gR_of (by omega) (by omega)) ?_ | refine And.intro (show gHas _ _ _ from by first | exact gW.has (gD.w (by assumption)) (by omega) | exact gD.has (by assumption) | exact gRu.has (gD.ru (by assumption)) | exact gGr.has (gD.gr (by assumption) _ (by omega))) ?_ | refine gCall_mk (by decide) (by decide) ?_ | refine if_yes (by first | assumption | omega | decide | exact b2i_R _ | exact gR_of (by omega) (by omega)) ?_ | refine if_no (by first | assumption | omega | decide | exact b2i_R _ | exact gR_of (by omega) (by omega)) ?_)
  refine c_growthOf d (by omega) (fun q => absurd (show okG (g : Int) by omega) q) (fun v hv e => ?_)
  obtain rfl : g = v := by omega
  exact (d.gr g hg).ct ⟨66, x_digestGrowth_L hg 66 0 (st.T g).length h U _ _ _ d (by omega) (by omega) (by decide) (by decide) k⟩
theorem x_digest_L46 {Q : Int64 → gaH → Prop} : ∀ (n i e : Nat) (h : gaH) (U : Nat → List Bool) (kc ks : Nat) (t : Int64), gD A G h U st → i + e = 4 → e < n → e + 18 ≤ kc → 6 * e + 108 ≤ ks → (∀ h' U', gD A G h' U' st → gFr A h h' → Q (dA (dHs st.C e i t) (b2i (soundB (st.T 0) && soundB (st.T 1)))) h') → w_X5_digest_L46 G X Q n (A 22) t (i : Int) h kc ks
  | 0, _, _, _, _, _, _, _, _, _, h1, _, _, _ => absurd h1 (Nat.not_lt_zero _)
  | n + 1, i, e, h, U, kc, ks, t, d, hi, h1, hc, hs, k => by
    unfold w_X5_digest_L46
    (first | refine And.intro (show gR _ from by first | assumption | omega | decide | exact b2i_R _ | exact gR_of (by omega) (by omega)) ?_ | refine And.intro (show gHas _ _ _ from by first | exact gW.has (gD.w (by assumption)) (by omega) | exact gD.has (by assumption) | exact gRu.has (gD.ru (by assumption)) | exact gGr.has (gD.gr (by assumption) _ (by omega))) ?_ | refine gCall_mk (by decide) (by decide) ?_ | refine if_yes (by first | assumption | omega | decide | exact b2i_R _ | exact gR_of (by omega) (by omega)) ?_ | refine if_no (by first | assumption | omega | decide | exact b2i_R _ | exact gR_of (by omega) (by omega)) ?_)
    cases e with
    | zero =>
      refine if_yes (by omega) ?_
      (first | refine And.intro (show gR _ from by first | assumption | omega | decide | exact b2i_R _ | exact gR_of (by omega) (by omega)) ?_ | refine And.intro (show gHas _ _ _ from by first | exact gW.has (gD.w (by assumption)) (by omega) | exact gD.has (by assumption) | exact gRu.has (gD.ru (by assumption)) | exact gGr.has (gD.gr (by assumption) _ (by omega))) ?_ | refine gCall_mk (by decide) (by decide) ?_ | refine if_yes (by first | assumption | omega | decide | exact b2i_R _ | exact gR_of (by omega) (by omega)) ?_ | refine if_no (by first | assumption | omega | decide | exact b2i_R _ | exact gR_of (by omega) (by omega)) ?_)
      refine gCall_mk (by omega) (by omega) (c_isSound (E := []) d (gRes.to rfl (fun h1 U1 r1 d1 f1 p1 => ?_)))
      rw [p1]
      refine x_oneIf ?_
      exact k h1 U1 d1 f1
    | succ e =>
      refine if_no (by omega) ?_
      (first | refine And.intro (show gR _ from by first | assumption | omega | decide | exact b2i_R _ | exact gR_of (by omega) (by omega)) ?_ | refine And.intro (show gHas _ _ _ from by first | exact gW.has (gD.w (by assumption)) (by omega) | exact gD.has (by assumption) | exact gRu.has (gD.ru (by assumption)) | exact gGr.has (gD.gr (by assumption) _ (by omega))) ?_ | refine gCall_mk (by decide) (by decide) ?_ | refine if_yes (by first | assumption | omega | decide | exact b2i_R _ | exact gR_of (by omega) (by omega)) ?_ | refine if_no (by first | assumption | omega | decide | exact b2i_R _ | exact gR_of (by omega) (by omega)) ?_)
      refine gCall_mk (by omega) (by omega) (c_house d (by omega) (gRes.to (if_pos ⟨by omega, by omega⟩) (fun h1 U1 r1 d1 f1 p1 => ?_)))
      show w_X5_digest_L46 G X Q n (A 22) _ ((i : Int) + 1) h1 _ _
      rw [show (i : Int) + 1 = ((i + 1 : Nat) : Int) by omega]
      rw [Int.toNat_natCast] at p1
      have p1' : r1 = st.C i := p1
      rw [p1']
      exact x_digest_L46 n (i + 1) e h1 U1 _ _ _ d1 (by omega) (by omega) (by omega) (by omega) (fun h' U' d' f' => k h' U' d' (f1.tr f'))
theorem x_digest {Q : Int64 → gaH → Prop} (d : gD A G h U st) (k : ∀ h' U', gD A G h' U' st → gFr A h h' → Q (dGa st) h') : w_X5_digest G X (A 22) h Q := by
  unfold w_X5_digest
  refine ⟨4, ?_⟩
  unfold w_X5_digest_L6
  refine ⟨by decide, if_no (by decide) ?_⟩
  (first | refine And.intro (show gR _ from by first | assumption | omega | decide | exact b2i_R _ | exact gR_of (by omega) (by omega)) ?_ | refine And.intro (show gHas _ _ _ from by first | exact gW.has (gD.w (by assumption)) (by omega) | exact gD.has (by assumption) | exact gRu.has (gD.ru (by assumption)) | exact gGr.has (gD.gr (by assumption) _ (by omega))) ?_ | refine gCall_mk (by decide) (by decide) ?_ | refine if_yes (by first | assumption | omega | decide | exact b2i_R _ | exact gR_of (by omega) (by omega)) ?_ | refine if_no (by first | assumption | omega | decide | exact b2i_R _ | exact gR_of (by omega) (by omega)) ?_)
  refine gCall_mk (by omega) (by omega) (x_digestSheet (w := 0) d (by decide) (fun h1 U1 d1 f1 => ?_))
  unfold w_X5_digest_L6
  refine ⟨by decide, if_no (by decide) ?_⟩
  (first | refine And.intro (show gR _ from by first | assumption | omega | decide | exact b2i_R _ | exact gR_of (by omega) (by omega)) ?_ | refine And.intro (show gHas _ _ _ from by first | exact gW.has (gD.w (by assumption)) (by omega) | exact gD.has (by assumption) | exact gRu.has (gD.ru (by assumption)) | exact gGr.has (gD.gr (by assumption) _ (by omega))) ?_ | refine gCall_mk (by decide) (by decide) ?_ | refine if_yes (by first | assumption | omega | decide | exact b2i_R _ | exact gR_of (by omega) (by omega)) ?_ | refine if_no (by first | assumption | omega | decide | exact b2i_R _ | exact gR_of (by omega) (by omega)) ?_)
  refine gCall_mk (by omega) (by omega) (x_digestSheet (w := 1) d1 (by decide) (fun h2 U2 d2 f2 => ?_))
  unfold w_X5_digest_L6
  refine ⟨by decide, if_no (by decide) ?_⟩
  (first | refine And.intro (show gR _ from by first | assumption | omega | decide | exact b2i_R _ | exact gR_of (by omega) (by omega)) ?_ | refine And.intro (show gHas _ _ _ from by first | exact gW.has (gD.w (by assumption)) (by omega) | exact gD.has (by assumption) | exact gRu.has (gD.ru (by assumption)) | exact gGr.has (gD.gr (by assumption) _ (by omega))) ?_ | refine gCall_mk (by decide) (by decide) ?_ | refine if_yes (by first | assumption | omega | decide | exact b2i_R _ | exact gR_of (by omega) (by omega)) ?_ | refine if_no (by first | assumption | omega | decide | exact b2i_R _ | exact gR_of (by omega) (by omega)) ?_)
  refine gCall_mk (by omega) (by omega) (x_digestSheet (w := 2) d2 (by decide) (fun h3 U3 d3 f3 => ?_))
  unfold w_X5_digest_L6
  refine ⟨by decide, if_yes (by decide) ⟨3, ?_⟩⟩
  unfold w_X5_digest_L26
  refine ⟨by decide, if_no (by decide) ?_⟩
  (first | refine And.intro (show gR _ from by first | assumption | omega | decide | exact b2i_R _ | exact gR_of (by omega) (by omega)) ?_ | refine And.intro (show gHas _ _ _ from by first | exact gW.has (gD.w (by assumption)) (by omega) | exact gD.has (by assumption) | exact gRu.has (gD.ru (by assumption)) | exact gGr.has (gD.gr (by assumption) _ (by omega))) ?_ | refine gCall_mk (by decide) (by decide) ?_ | refine if_yes (by first | assumption | omega | decide | exact b2i_R _ | exact gR_of (by omega) (by omega)) ?_ | refine if_no (by first | assumption | omega | decide | exact b2i_R _ | exact gR_of (by omega) (by omega)) ?_)
  refine gCall_mk (by omega) (by omega) (x_digestGrowth (g := 0) d3 (by decide) (fun h4 U4 d4 f4 => ?_))
  unfold w_X5_digest_L26
  refine ⟨by decide, if_no (by decide) ?_⟩
  (first | refine And.intro (show gR _ from by first | assumption | omega | decide | exact b2i_R _ | exact gR_of (by omega) (by omega)) ?_ | refine And.intro (show gHas _ _ _ from by first | exact gW.has (gD.w (by assumption)) (by omega) | exact gD.has (by assumption) | exact gRu.has (gD.ru (by assumption)) | exact gGr.has (gD.gr (by assumption) _ (by omega))) ?_ | refine gCall_mk (by decide) (by decide) ?_ | refine if_yes (by first | assumption | omega | decide | exact b2i_R _ | exact gR_of (by omega) (by omega)) ?_ | refine if_no (by first | assumption | omega | decide | exact b2i_R _ | exact gR_of (by omega) (by omega)) ?_)
  refine gCall_mk (by omega) (by omega) (x_digestGrowth (g := 1) d4 (by decide) (fun h5 U5 d5 f5 => ?_))
  unfold w_X5_digest_L26
  refine ⟨by decide, if_yes (by decide) ⟨5, ?_⟩⟩
  exact x_digest_L46 5 0 4 h5 U5 _ _ _ d5 rfl (by decide) (by omega) (by omega) (fun h' U' d' f' => k h' U' d' (f1.tr (f2.tr (f3.tr (f4.tr (f5.tr f'))))))
end XD
section XR
variable {B : Nat → Nat} {h h0 : gaH} {st : GSt} {no : Int} {a b o : Nat} {u v : List Bool} {w g : Nat} {x y z : Int} {G : gaG}
end XR
