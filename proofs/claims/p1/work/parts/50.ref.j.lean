/-! The reference: its rows, and what it makes of them. -/
def mK (h h' : gaH) : Prop := ∀ a e, h a = some e → h' a = some e
theorem mK.rf {h : gaH} : mK h h := fun _ _ q => q
theorem mK.tr {h h1 h2 : gaH} (x : mK h h1) (y : mK h1 h2) : mK h h2 := fun a e q => y a e (x a e q)
theorem mK.up {h h1 : gaH} (x : mK h h1) {o : Nat} (ho : h o = none) (e : gaE) : mK h (gaUp h1 o e) := fun a f q => by
  rw [gaUp_ne _ _ (new_ne q ho)]; exact x a f q
/-- a row of signs at a cell -/
def mR (h : gaH) (a : Nat) (u : List Bool) : Prop := h a = some (102, gRow u)
theorem mR.on {h h' : gaH} {a : Nat} {u : List Bool} (r : mR h a u) (x : mK h h') : mR h' a u := x _ _ r
/-- a fresh row being filled -/
def fil (h0 h : gaH) (o : Nat) (w : List Bool) : Prop := h0 o = none ∧ mK h0 h ∧ mR h o w
def pf (t : List Bool) (i : Nat) : List Bool := t.take i ++ List.replicate (t.length - i) false
theorem pf_len {t : List Bool} {i : Nat} (hi : i ≤ t.length) : (pf t i).length = t.length := by simp [pf]; omega
theorem pf_set {t : List Bool} {i : Nat} (hi : i < t.length) : (pf t i).set i (t.getD i false) = pf t (i + 1) := by
  unfold pf
  rw [List.set_append_right _ _ (by simp; omega), show t.length - i = (t.length - (i + 1)) + 1 by omega, List.replicate_succ, List.length_take, Nat.min_eq_left (by omega), Nat.sub_self, List.set_cons_zero, List.take_add_one, getD_lt hi]
  simp
theorem pf_end (t : List Bool) : pf t t.length = t := by simp [pf]
theorem pf_0 (t : List Bool) : pf t 0 = List.replicate t.length false := by simp [pf]
theorem pf_at {t : List Bool} {i j : Nat} (hj : j < i) (hi : i ≤ t.length) : (pf t i).getD j false = t.getD j false := by
  unfold pf
  rw [List.getD_eq_getElem?_getD, List.getElem?_append_left (by simp; omega), List.getElem?_take_of_lt hj, ← List.getD_eq_getElem?_getD]
theorem gRow_rep (n : Nat) : gRow (List.replicate n false) = List.replicate n (gi 0) := by simp [gRow, b2i]
section RF
variable {h h0 : gaH} {a b o : Nat} {u v w : List Bool}
theorem mR.len (r : mR h a u) {K : Int → Prop} (k : K (u.length : Int)) : gAL h a 102 K := gAL_mk r (by rw [gRow_len]) k
theorem mR.has (r : mR h a u) : gHas h a 102 := ⟨_, r⟩
theorem mR.at (r : mR h a u) {x : Int} {i : Nat} (hx : x = (i : Int)) (hi : i < u.length) (hl : u.length ≤ 100000) {K : Int → Prop} (k : K (b2i (u.getD i false))) : gLI h a 102 x K := by
  subst hx
  exact gLI_mk r (by omega) (by omega) (by rw [Int.toNat_natCast]; exact gRow_at hi) k
theorem fil.new {x : Int} {n c s : Nat} {K : Nat → gaH → Nat → Nat → Prop} (hx : x = (n : Int)) (h1 : n ≤ 100000) (h2 : 1 ≤ c) (h3 : n ≤ s) (k : ∀ o h', fil h h' o (List.replicate n false) → K o h' (c - 1) (s - n)) : gNA h 102 (gi 0) x c s K :=
  gNA_mk hx h1 h2 h3 (fun o ho => k o _ ⟨ho, mK.rf.up ho _, by unfold mR; rw [gaUp_self, gRow_rep]⟩)
theorem fil.set (f : fil h0 h o w) {x y : Int} {i : Nat} (hx : x = (i : Int)) (hi : i < w.length) (hl : w.length ≤ 100000) {b : Bool} (hy : y = b2i b) {K : gaH → Prop} (k : ∀ h', fil h0 h' o (w.set i b) → K h') : gSI h o 102 x (gi y) K := by
  subst hx; subst hy
  exact gSI_mk f.2.2 (by omega) (by omega) (by rw [Int.toNat_natCast, gRow_len]; exact hi) (k _ ⟨f.1, f.2.1.up f.1 _, by unfold mR; rw [gaUp_self, Int.toNat_natCast, gRow_set]⟩)
theorem fil.one {x : Int} {c s : Nat} {K : Nat → gaH → Nat → Nat → Prop} (hx : x = 1) {b : Bool} {y : Int} (hy : y = b2i b) (h2 : 1 ≤ c) (h3 : 1 ≤ s) (k : ∀ o h', fil h h' o [b] → K o h' (c - 1) (s - 1)) : gNA h 102 (gi 0) x c s (fun o h1 c1 s1 => gSI h1 o 102 0 (gi y) (fun h2 => K o h2 c1 s1)) :=
  fil.new (n := 1) (by omega) (by decide) h2 h3 (fun o h1 f => f.set (i := 0) rfl (by decide) (by decide) hy (fun h2 f2 => k o h2 f2))
/-- the loops that fill a row by a known word -/
theorem r_bs_L {Q : Int → gaH → Prop} (r : mR h a u) (hl : u.length ≤ 1000) : ∀ (n i c : Nat), i ≤ u.length → u.length - i < n → c ≤ i → Q ((c + ones (u.drop i) : Nat) : Int) h → w_X7_bs_L10 Q n (c : Int) a (u.length : Int) (i : Int) h
  | 0, i, c, _, h1, _, _ => absurd h1 (Nat.not_lt_zero _)
  | n + 1, i, c, hi, h1, hc, k => by
    unfold w_X7_bs_L10
    (first | refine And.intro (show gR _ from by first | assumption | omega | decide | exact b2i_R _ | exact gR_of (by omega) (by omega)) ?_ | refine And.intro (show gHas _ _ _ from by first | exact gW.has (gD.w (by assumption)) (by omega) | exact gD.has (by assumption) | exact gRu.has (gD.ru (by assumption)) | exact gGr.has (gD.gr (by assumption) _ (by omega))) ?_ | refine gCall_mk (by decide) (by decide) ?_ | refine if_yes (by first | assumption | omega | decide | exact b2i_R _ | exact gR_of (by omega) (by omega)) ?_ | refine if_no (by first | assumption | omega | decide | exact b2i_R _ | exact gR_of (by omega) (by omega)) ?_); (first | refine And.intro (show gR _ from by first | assumption | omega | decide | exact b2i_R _ | exact gR_of (by omega) (by omega)) ?_ | refine And.intro (show gHas _ _ _ from by first | exact gW.has (gD.w (by assumption)) (by omega) | exact gD.has (by assumption) | exact gRu.has (gD.ru (by assumption)) | exact gGr.has (gD.gr (by assumption) _ (by omega))) ?_ | refine gCall_mk (by decide) (by decide) ?_ | refine if_yes (by first | assumption | omega | decide | exact b2i_R _ | exact gR_of (by omega) (by omega)) ?_ | refine if_no (by first | assumption | omega | decide | exact b2i_R _ | exact gR_of (by omega) (by omega)) ?_)
    by_cases q : u.length ≤ i
    · refine if_yes (by omega) ?_
      rw [List.drop_of_length_le q] at k; exact k
    · refine if_no (by omega) (r.at rfl (by omega) (by omega) ?_)
      rw [take_one (u := u) (i := i) (by omega)] at k
      rw [show (i : Int) + 1 = ((i + 1 : Nat) : Int) by omega]
      generalize u.getD i false = y at k
      cases y
      · rw [show (c : Int) + b2i false = (c : Int) by simp [b2i]]
        exact r_bs_L r hl n (i + 1) c (by omega) (by omega) (by omega) (by simpa [ones] using k)
      · rw [show (c : Int) + b2i true = ((c + 1 : Nat) : Int) by simp [b2i]]
        refine r_bs_L r hl n (i + 1) (c + 1) (by omega) (by omega) (by omega) ?_
        have e2 : c + 1 + ones (u.drop (i + 1)) = c + ones (true :: u.drop (i + 1)) := by simp [ones]; omega
        rw [e2]; exact k
theorem r_bs {Q : Int → gaH → Prop} (r : mR h a u) (hl : u.length ≤ 1000) (k : Q (ones u : Int) h) : w_X7_bs a h Q := by
  unfold w_X7_bs
  refine r.len ⟨u.length + 1, ?_⟩
  have := r_bs_L r hl (Q := Q) (u.length + 1) 0 0 (Nat.zero_le _) (by omega) (Nat.le_refl _) (by simpa using k)
  simpa using this
theorem r_crossOf {Q : Int → gaH → Prop} (r : mR h a u) (s : mR h b v) (hl : u.length ≤ 1000) (hm : v.length ≤ 1000) (k : Q ((u.length : Int) * (ones v : Int) - (v.length : Int) * (ones u : Int)) h) : w_X7_crossOf a b h Q := by
  unfold w_X7_crossOf
  exact r.len (r_bs s hm (s.len (r_bs r hl k)))
theorem r_spliced_L {Q : Nat → gaH → Prop} (ru : mR h0 a u) (rv : mR h0 b v) {f t : Nat} (hft : f ≤ t) (ht : t ≤ u.length) (h1 : u.length ≤ 64) (h2 : v.length ≤ 64) (k : ∀ h', fil h0 h' o (u.take f ++ v ++ u.drop t) → Q o h') {kc ks : Nat} : ∀ (z i : Nat) (h : gaH), fil h0 h o (pf (u.take f ++ v ++ u.drop t) i) → i ≤ f + v.length + (u.length - t) → f + v.length + (u.length - t) - i < z → w_X7_spliced_L16 Q z a (f : Int) (t : Int) b o (i : Int) h kc ks
  | 0, _, _, _, _, h9 => absurd h9 (Nat.not_lt_zero _)
  | z + 1, i, h, fl, hi, h9 => by
    have hT : (u.take f ++ v ++ u.drop t).length = f + v.length + (u.length - t) := by simp; omega
    have hp : (pf (u.take f ++ v ++ u.drop t) i).length = f + v.length + (u.length - t) := by rw [pf_len (by omega), hT]
    unfold w_X7_spliced_L16
    refine fl.2.2.len ?_
    rw [hp]
    (first | refine And.intro (show gR _ from by first | assumption | omega | decide | exact b2i_R _ | exact gR_of (by omega) (by omega)) ?_ | refine And.intro (show gHas _ _ _ from by first | exact gW.has (gD.w (by assumption)) (by omega) | exact gD.has (by assumption) | exact gRu.has (gD.ru (by assumption)) | exact gGr.has (gD.gr (by assumption) _ (by omega))) ?_ | refine gCall_mk (by decide) (by decide) ?_ | refine if_yes (by first | assumption | omega | decide | exact b2i_R _ | exact gR_of (by omega) (by omega)) ?_ | refine if_no (by first | assumption | omega | decide | exact b2i_R _ | exact gR_of (by omega) (by omega)) ?_); (first | refine And.intro (show gR _ from by first | assumption | omega | decide | exact b2i_R _ | exact gR_of (by omega) (by omega)) ?_ | refine And.intro (show gHas _ _ _ from by first | exact gW.has (gD.w (by assumption)) (by omega) | exact gD.has (by assumption) | exact gRu.has (gD.ru (by assumption)) | exact gGr.has (gD.gr (by assumption) _ (by omega))) ?_ | refine gCall_mk (by decide) (by decide) ?_ | refine if_yes (by first | assumption | omega | decide | exact b2i_R _ | exact gR_of (by omega) (by omega)) ?_ | refine if_no (by first | assumption | omega | decide | exact b2i_R _ | exact gR_of (by omega) (by omega)) ?_)
    by_cases q : f + v.length + (u.length - t) ≤ i
    · refine if_yes (by omega) (k h ?_)
      obtain rfl : i = (u.take f ++ v ++ u.drop t).length := by omega
      rw [pf_end] at fl; exact fl
    · refine if_no (by omega) ?_
      have fin : ∀ y : Int, y = b2i ((u.take f ++ v ++ u.drop t).getD i false) → w_X7_spliced_J70 Q (w_X7_spliced_L16 Q z) a (f : Int) (t : Int) b o (i : Int) o (i : Int) y h kc ks := fun y hy => by
        unfold w_X7_spliced_J70
        refine fl.set rfl (by rw [hp]; omega) (by omega) hy (fun h3 f3 => ?_)
        rw [pf_set (by omega)] at f3
        rw [show (i : Int) + 1 = ((i + 1 : Nat) : Int) by omega]
        exact r_spliced_L ru rv hft ht h1 h2 k z (i + 1) h3 f3 (by omega) (by omega)
      have ru2 := ru.on fl.2.1
      have rv2 := rv.on fl.2.1
      (first | refine And.intro (show gR _ from by first | assumption | omega | decide | exact b2i_R _ | exact gR_of (by omega) (by omega)) ?_ | refine And.intro (show gHas _ _ _ from by first | exact gW.has (gD.w (by assumption)) (by omega) | exact gD.has (by assumption) | exact gRu.has (gD.ru (by assumption)) | exact gGr.has (gD.gr (by assumption) _ (by omega))) ?_ | refine gCall_mk (by decide) (by decide) ?_ | refine if_yes (by first | assumption | omega | decide | exact b2i_R _ | exact gR_of (by omega) (by omega)) ?_ | refine if_no (by first | assumption | omega | decide | exact b2i_R _ | exact gR_of (by omega) (by omega)) ?_); (first | refine And.intro (show gR _ from by first | assumption | omega | decide | exact b2i_R _ | exact gR_of (by omega) (by omega)) ?_ | refine And.intro (show gHas _ _ _ from by first | exact gW.has (gD.w (by assumption)) (by omega) | exact gD.has (by assumption) | exact gRu.has (gD.ru (by assumption)) | exact gGr.has (gD.gr (by assumption) _ (by omega))) ?_ | refine gCall_mk (by decide) (by decide) ?_ | refine if_yes (by first | assumption | omega | decide | exact b2i_R _ | exact gR_of (by omega) (by omega)) ?_ | refine if_no (by first | assumption | omega | decide | exact b2i_R _ | exact gR_of (by omega) (by omega)) ?_)
      by_cases q2 : f ≤ i
      · refine if_yes (by omega) (rv2.len ?_)
        (first | refine And.intro (show gR _ from by first | assumption | omega | decide | exact b2i_R _ | exact gR_of (by omega) (by omega)) ?_ | refine And.intro (show gHas _ _ _ from by first | exact gW.has (gD.w (by assumption)) (by omega) | exact gD.has (by assumption) | exact gRu.has (gD.ru (by assumption)) | exact gGr.has (gD.gr (by assumption) _ (by omega))) ?_ | refine gCall_mk (by decide) (by decide) ?_ | refine if_yes (by first | assumption | omega | decide | exact b2i_R _ | exact gR_of (by omega) (by omega)) ?_ | refine if_no (by first | assumption | omega | decide | exact b2i_R _ | exact gR_of (by omega) (by omega)) ?_); (first | refine And.intro (show gR _ from by first | assumption | omega | decide | exact b2i_R _ | exact gR_of (by omega) (by omega)) ?_ | refine And.intro (show gHas _ _ _ from by first | exact gW.has (gD.w (by assumption)) (by omega) | exact gD.has (by assumption) | exact gRu.has (gD.ru (by assumption)) | exact gGr.has (gD.gr (by assumption) _ (by omega))) ?_ | refine gCall_mk (by decide) (by decide) ?_ | refine if_yes (by first | assumption | omega | decide | exact b2i_R _ | exact gR_of (by omega) (by omega)) ?_ | refine if_no (by first | assumption | omega | decide | exact b2i_R _ | exact gR_of (by omega) (by omega)) ?_)
        by_cases q3 : f + v.length ≤ i
        · refine if_yes (by omega) (rv2.len (ru2.at (i := i - v.length + t - f) (by omega) (by omega) (by omega) (fin _ ?_)))
          rw [List.getD_eq_getElem?_getD, List.getD_eq_getElem?_getD, List.getElem?_append_right (by simp; omega), List.getElem?_drop]
          simp only [List.length_append, List.length_take]
          congr 3; omega
        · refine if_no (by omega) (rv2.at (i := i - f) (by omega) (by omega) (by omega) (fin _ ?_))
          rw [List.getD_eq_getElem?_getD, List.getD_eq_getElem?_getD, List.append_assoc, List.getElem?_append_right (by simp; omega), List.getElem?_append_left (by simp; omega)]
          simp only [List.length_take]
          congr 3; omega
      · refine if_no (by omega) (ru2.at (i := i) rfl (by omega) (by omega) (fin _ ?_))
        rw [List.getD_eq_getElem?_getD, List.getD_eq_getElem?_getD, List.append_assoc, List.getElem?_append_left (by simp; omega), List.getElem?_take_of_lt (by omega)]
theorem r_spliced {Q : Nat → gaH → Prop} (ru : mR h a u) (rv : mR h b v) {x y : Int} {f t : Nat} (hx : x = (f : Int)) (hy : y = (t : Int)) (hft : f ≤ t) (ht : t ≤ u.length) (h1 : u.length ≤ 64) (h2 : v.length ≤ 64) (k : ∀ o h', fil h h' o (u.take f ++ v ++ u.drop t) → Q o h') : w_X7_spliced a x y b h Q := by
  subst hx; subst hy
  unfold w_X7_spliced
  refine ru.len (rv.len (fil.new (n := f + v.length + (u.length - t)) (by omega) (by omega) (by decide) (by omega) (fun o h1' fl => ⟨130, ?_⟩)))
  refine r_spliced_L ru rv hft ht h1 h2 (fun h' f' => k o h' f') 130 0 h1' ?_ (Nat.zero_le _) (by omega)
  rw [pf_0, show (u.take f ++ v ++ u.drop t).length = f + v.length + (u.length - t) by simp; omega]
  exact fl
theorem unl_ge (u v : List Bool) : ∀ (f i : Nat), unl u v f i = -1 ∨ (i : Int) ≤ unl u v f i
  | 0, _ => Or.inl rfl
  | f + 1, i => by
    unfold unl
    split
    · exact Or.inl rfl
    · split
      · rcases unl_ge u v f (i + 1) with q | q
        · exact Or.inl q
        · right; omega
      · right; omega
theorem r_alikeOf_L {Q : Int → gaH → Prop} {p q : Nat} (rp : mR h p (u ++ v)) (rq : mR h q (v ++ u)) (h1 : u.length ≤ 64) (h2 : v.length ≤ 64) {kc ks : Nat} : ∀ (z i f : Nat), i ≤ (u ++ v).length → (u ++ v).length - i < z → (u ++ v).length - i < f → unl u v f i ≠ -1 → Q (unl u v f i) h → w_X7_alikeOf_L23 Q z p q (i : Int) h kc ks
  | 0, _, _, _, h9, _, _, _ => absurd h9 (Nat.not_lt_zero _)
  | z + 1, i, 0, _, _, h8, _, _ => absurd h8 (Nat.not_lt_zero _)
  | z + 1, i, f + 1, hi, h9, h8, hne, k => by
    have e1 : (u ++ v).length = u.length + v.length := by simp
    have e2 : (v ++ u).length = u.length + v.length := by simp; omega
    unfold unl at hne k
    by_cases q1 : (u ++ v).length ≤ i
    · rw [if_pos q1] at hne; exact absurd rfl hne
    · rw [if_neg q1] at hne k
      unfold w_X7_alikeOf_L23
      refine rp.at rfl (by omega) (by omega) (rq.at rfl (by omega) (by omega) ?_)
      (first | refine And.intro (show gR _ from by first | assumption | omega | decide | exact b2i_R _ | exact gR_of (by omega) (by omega)) ?_ | refine And.intro (show gHas _ _ _ from by first | exact gW.has (gD.w (by assumption)) (by omega) | exact gD.has (by assumption) | exact gRu.has (gD.ru (by assumption)) | exact gGr.has (gD.gr (by assumption) _ (by omega))) ?_ | refine gCall_mk (by decide) (by decide) ?_ | refine if_yes (by first | assumption | omega | decide | exact b2i_R _ | exact gR_of (by omega) (by omega)) ?_ | refine if_no (by first | assumption | omega | decide | exact b2i_R _ | exact gR_of (by omega) (by omega)) ?_); (first | refine And.intro (show gR _ from by first | assumption | omega | decide | exact b2i_R _ | exact gR_of (by omega) (by omega)) ?_ | refine And.intro (show gHas _ _ _ from by first | exact gW.has (gD.w (by assumption)) (by omega) | exact gD.has (by assumption) | exact gRu.has (gD.ru (by assumption)) | exact gGr.has (gD.gr (by assumption) _ (by omega))) ?_ | refine gCall_mk (by decide) (by decide) ?_ | refine if_yes (by first | assumption | omega | decide | exact b2i_R _ | exact gR_of (by omega) (by omega)) ?_ | refine if_no (by first | assumption | omega | decide | exact b2i_R _ | exact gR_of (by omega) (by omega)) ?_)
      by_cases q2 : (u ++ v).getD i false = (v ++ u).getD i false
      · rw [if_pos q2] at hne k
        refine if_yes (congrArg b2i q2) ?_
        rw [show (i : Int) + 1 = ((i + 1 : Nat) : Int) by omega]
        exact r_alikeOf_L rp rq h1 h2 z (i + 1) f (by omega) (by omega) (by omega) hne k
      · rw [if_neg q2] at k
        exact if_no (fun z => q2 ((b2i_eq _ _).mp z)) k
theorem r_alikeOf {Q : Int → gaH → Prop} (ru : mR h a u) (rv : mR h b v) (h1 : u.length ≤ 64) (h2 : v.length ≤ 64) (hne : unlike u v ≠ -1) (k : ∀ h', mK h h' → Q (unlike u v) h') : w_X7_alikeOf a b h Q := by
  unfold w_X7_alikeOf
  refine ru.len (ru.len (gCall_mk (by decide) (by decide) (r_spliced ru rv (f := u.length) (t := u.length) rfl rfl (Nat.le_refl _) (Nat.le_refl _) h1 h2 (fun p h3 f3 => ?_))))
  have ru3 := ru.on f3.2.1
  have rv3 := rv.on f3.2.1
  refine rv3.len (rv3.len (gCall_mk (by decide) (by decide) (r_spliced rv3 ru3 (f := v.length) (t := v.length) rfl rfl (Nat.le_refl _) (Nat.le_refl _) h2 h1 (fun q h4 f4 => ⟨130, ?_⟩))))
  have rp := f3.2.2.on f4.2.1
  have rq := f4.2.2
  simp only [List.take_length, List.drop_length, List.append_nil] at rp rq
  exact r_alikeOf_L rp rq h1 h2 130 0 _ (Nat.zero_le _) (by simp; omega) (by omega) hne (k h4 (f3.2.1.tr f4.2.1))
/-- words that grow are never alike both ways round -/
theorem grw_unlike : ∀ (n : Nat) (ts : List Nat), ts.length = n → (grw ts).2 ++ (grw ts).1 ≠ (grw ts).1 ++ (grw ts).2
  | 0, ts, hn => by rw [List.length_eq_zero_iff.mp hn]; decide
  | n + 1, ts, hn => by
    obtain ⟨us, t, rfl⟩ : ∃ us t, ts = us ++ [t] := ⟨ts.dropLast, ts.getLast (by intro h; rw [h] at hn; simp at hn), (List.dropLast_concat_getLast _).symm⟩
    rw [grw_snoc]
    intro q
    have ih := grw_unlike n us (by simpa using hn)
    simp only [gstep] at q
    have e : (grw us).2 ++ rep t (grw us).2 = rep t (grw us).2 ++ (grw us).2 := by
      rw [← rep_succ]; unfold rep; rw [List.replicate_succ]; rfl
    rw [← List.append_assoc (grw us).2, e, List.append_assoc, List.append_assoc] at q
    exact ih (List.append_cancel_left q).symm
theorem unl_none (u v : List Bool) : ∀ (f i : Nat), unl u v f i = -1 → (u ++ v).length - i < f → ∀ j, i ≤ j → j < (u ++ v).length → (u ++ v).getD j false = (v ++ u).getD j false
  | 0, _, _, h1 => absurd h1 (Nat.not_lt_zero _)
  | f + 1, i, e, h1 => by
    intro j hij hj
    unfold unl at e
    rw [if_neg (by omega)] at e
    by_cases q : (u ++ v).getD i false = (v ++ u).getD i false
    · rw [if_pos q] at e
      by_cases z : j = i
      · rw [z]; exact q
      · exact unl_none u v f (i + 1) e (by omega) j (by omega) hj
    · rw [if_neg q] at e; omega
theorem unlike_iff {u v : List Bool} (h : u ++ v ≠ v ++ u) : unlike u v ≠ -1 := fun e => h (by
  have hl : (u ++ v).length = (v ++ u).length := by simp; omega
  refine List.ext_getElem? (fun j => ?_)
  by_cases q : j < (u ++ v).length
  · have := unl_none u v _ 0 e (by omega) j (Nat.zero_le _) q
    rw [getD_lt q, getD_lt (by omega), this]
  · rw [List.getElem?_eq_none (by omega), List.getElem?_eq_none (by omega)])
theorem grw_alike (ts : List Nat) : unlike (grw ts).2 (grw ts).1 ≠ -1 := unlike_iff (grw_unlike _ ts rfl)
end RF
/-! The reference: codes, images, growths by copies. -/
section RC
variable {h h0 : gaH} {a b o : Nat} {u v w : List Bool}
theorem code_div : ∀ (m c : Nat), c ≤ m → 1 ≤ c → c < 65536 → c / 2 ^ (codeW c).length = 1
  | 0, c, h1, h2, _ => by omega
  | m + 1, c, h1, h2, h3 => by
    rw [codeW_step h3]
    by_cases q : c ≤ 1
    · rw [if_pos q]; simp; omega
    · rw [if_neg q, List.length_append, List.length_singleton, Nat.pow_succ, Nat.mul_comm, ← Nat.div_div_eq_div_mul]
      exact code_div m (c / 2) (by omega) (by omega) (by omega)
theorem code_at : ∀ (m c i : Nat), c ≤ m → 1 ≤ c → c < 65536 → i < (codeW c).length → (codeW c).getD i false = decide (c / 2 ^ ((codeW c).length - 1 - i) % 2 = 1)
  | 0, c, _, h1, h2, _, _ => by omega
  | m + 1, c, i, h1, h2, h3, hi => by
    rw [codeW_step h3] at hi ⊢
    by_cases q : c ≤ 1
    · rw [if_pos q] at hi; exact absurd hi (Nat.not_lt_zero _)
    · rw [if_neg q] at hi ⊢
      have ih := code_at m (c / 2)
      generalize codeW (c / 2) = t at ih hi ⊢
      rw [List.length_append, List.length_singleton] at hi ⊢
      by_cases z : i < t.length
      · rw [List.getD_eq_getElem?_getD, List.getElem?_append_left z, ← List.getD_eq_getElem?_getD, ih i (by omega) (by omega) (by omega) z, show t.length + 1 - 1 - i = (t.length - 1 - i) + 1 by omega, Nat.pow_succ, Nat.mul_comm (2 ^ _), ← Nat.div_div_eq_div_mul]
      · obtain rfl : i = t.length := by omega
        rw [List.getD_eq_getElem?_getD, List.getElem?_append_right (Nat.le_refl _)]
        simp
theorem r_ofCode_L21 {Q : Nat → gaH → Prop} {c : Nat} (h2 : 1 ≤ c) (h3 : c < 65536) (k : ∀ h', fil h0 h' o (codeW c) → Q o h') {kc ks : Nat} : ∀ (z i : Nat) (h : gaH), fil h0 h o (pf (codeW c) i) → i ≤ (codeW c).length → (codeW c).length - i < z → w_X7_ofCode_L21 Q z (c : Int) ((codeW c).length : Int) o (i : Int) h kc ks
  | 0, _, _, _, _, h9 => absurd h9 (Nat.not_lt_zero _)
  | z + 1, i, h, fl, hi, h9 => by
    have hl : (codeW c).length ≤ 16 := codeL_len 16 c
    unfold w_X7_ofCode_L21
    (first | refine And.intro (show gR _ from by first | assumption | omega | decide | exact b2i_R _ | exact gR_of (by omega) (by omega)) ?_ | refine And.intro (show gHas _ _ _ from by first | exact gW.has (gD.w (by assumption)) (by omega) | exact gD.has (by assumption) | exact gRu.has (gD.ru (by assumption)) | exact gGr.has (gD.gr (by assumption) _ (by omega))) ?_ | refine gCall_mk (by decide) (by decide) ?_ | refine if_yes (by first | assumption | omega | decide | exact b2i_R _ | exact gR_of (by omega) (by omega)) ?_ | refine if_no (by first | assumption | omega | decide | exact b2i_R _ | exact gR_of (by omega) (by omega)) ?_); (first | refine And.intro (show gR _ from by first | assumption | omega | decide | exact b2i_R _ | exact gR_of (by omega) (by omega)) ?_ | refine And.intro (show gHas _ _ _ from by first | exact gW.has (gD.w (by assumption)) (by omega) | exact gD.has (by assumption) | exact gRu.has (gD.ru (by assumption)) | exact gGr.has (gD.gr (by assumption) _ (by omega))) ?_ | refine gCall_mk (by decide) (by decide) ?_ | refine if_yes (by first | assumption | omega | decide | exact b2i_R _ | exact gR_of (by omega) (by omega)) ?_ | refine if_no (by first | assumption | omega | decide | exact b2i_R _ | exact gR_of (by omega) (by omega)) ?_)
    by_cases q : (codeW c).length ≤ i
    · refine if_yes (by omega) (k h ?_)
      obtain rfl : i = (codeW c).length := by omega
      rw [pf_end] at fl; exact fl
    · refine if_no (by omega) (fl.set rfl (by rw [pf_len hi]; omega) (by rw [pf_len hi]; omega) (b := (codeW c).getD i false) ?_ (fun h3 f3 => ?_))
      · rw [show ((codeW c).length : Int) - 1 - (i : Int) = (((codeW c).length - 1 - i : Nat) : Int) by omega, gShr_nat (by omega) (by omega), gAnd1_nat (Nat.lt_of_le_of_lt (Nat.div_le_self _ _) (by omega)), code_at c c i (Nat.le_refl _) h2 (by omega) (by omega)]
        rcases Nat.mod_two_eq_zero_or_one (c / 2 ^ ((codeW c).length - 1 - i)) with e | e <;> rw [e] <;> rfl
      · rw [pf_set (by omega)] at f3
        rw [show (i : Int) + 1 = ((i + 1 : Nat) : Int) by omega]
        exact r_ofCode_L21 h2 (by omega) k z (i + 1) h3 f3 (by omega) (by omega)
theorem r_ofCode_L2 {Q : Nat → gaH → Prop} {c : Nat} (h2 : 1 ≤ c) (h3 : c < 65536) (k : ∀ o h', fil h h' o (codeW c) → Q o h') : ∀ (z i : Nat), i ≤ (codeW c).length → (codeW c).length - i < z → w_X7_ofCode_L2 Q z (c : Int) (i : Int) h 1 16
  | 0, _, _, h9 => absurd h9 (Nat.not_lt_zero _)
  | z + 1, i, hi, h9 => by
    have hl : (codeW c).length ≤ 16 := codeL_len 16 c
    have hd := code_div c c (Nat.le_refl _) h2 h3
    have hc : ((c / 2 ^ i : Nat) : Int) < 65536 := by have := Nat.lt_of_le_of_lt (Nat.div_le_self c (2 ^ i)) h3; exact Int.ofNat_lt.mpr this
    have hc0 : 0 ≤ ((c / 2 ^ i : Nat) : Int) := Int.natCast_nonneg _
    unfold w_X7_ofCode_L2
    rw [gShr_nat (by omega) (by omega)]
    refine ⟨⟨Int.le_trans (by decide) hc0, Int.le_trans (Int.le_of_lt hc) (by decide)⟩, ?_⟩
    by_cases q : (codeW c).length ≤ i
    · obtain rfl : i = (codeW c).length := by omega
      refine if_yes (by rw [hd]; decide) (fil.new (n := (codeW c).length) rfl (by omega) (by decide) hl (fun o h' f => ⟨18, ?_⟩))
      exact r_ofCode_L21 h2 h3 (fun h'' f'' => k o h'' f'') 18 0 h' (by rw [pf_0]; exact f) (Nat.zero_le _) (by omega)
    · have h5 : 2 ^ (codeW c).length ≤ c := by
        have := Nat.div_mul_le_self c (2 ^ (codeW c).length)
        rw [hd] at this; omega
      have h6 : 2 ^ (i + 1) ≤ 2 ^ (codeW c).length := Nat.pow_le_pow_right (by decide) (by omega)
      have h7 : 2 ≤ c / 2 ^ i := by
        rw [Nat.le_div_iff_mul_le (Nat.pow_pos (by decide))]
        rw [Nat.pow_succ] at h6; omega
      refine if_no (fun q => absurd (Int.ofNat_le.mp q) (by omega)) ?_
      rw [show (i : Int) + 1 = ((i + 1 : Nat) : Int) by omega]
      exact r_ofCode_L2 h2 h3 k z (i + 1) (by omega) (by omega)
theorem r_ofCode {Q : Nat → gaH → Prop} {x : Int} {c : Nat} (hx : x = (c : Int)) (h2 : 1 ≤ c) (h3 : c < 65536) (k : ∀ o h', fil h h' o (codeW c) → Q o h') : w_X7_ofCode x h Q := by
  subst hx
  have hl : (codeW c).length ≤ 16 := codeL_len 16 c
  exact ⟨18, r_ofCode_L2 h2 h3 k 18 0 (Nat.zero_le _) (by omega)⟩
theorem r_image_L72 {Q : Nat → gaH → Prop} {p q : Nat} {t : List Bool} {s : Nat} {x : List Bool} (rx : mR h0 a x) (hx : x.length ≤ 1000) (ht : t.length ≤ 1000) (hst : s + x.length ≤ t.length) (hat : ∀ j, j < x.length → t.getD (s + j) false = x.getD j false) {v6 : Nat} {v7 v8 : Int} {kc ks : Nat} {K : Nat → Nat → Nat → Int → Nat → Int → Int → gaH → Nat → Nat → Prop} (k : ∀ h', fil h0 h' o (pf t (s + x.length)) → K p q o ((s + x.length : Nat) : Int) v6 v7 (v8 + 1) h' kc ks) : ∀ (z j : Nat) (h : gaH), fil h0 h o (pf t (s + j)) → j ≤ x.length → x.length - j < z → w_X7_image_L72 Q K z p q o ((s + j : Nat) : Int) v6 v7 v8 a (x.length : Int) (j : Int) h kc ks
  | 0, _, _, _, _, h9 => absurd h9 (Nat.not_lt_zero _)
  | z + 1, j, h, fl, hj, h9 => by
    unfold w_X7_image_L72
    (first | refine And.intro (show gR _ from by first | assumption | omega | decide | exact b2i_R _ | exact gR_of (by omega) (by omega)) ?_ | refine And.intro (show gHas _ _ _ from by first | exact gW.has (gD.w (by assumption)) (by omega) | exact gD.has (by assumption) | exact gRu.has (gD.ru (by assumption)) | exact gGr.has (gD.gr (by assumption) _ (by omega))) ?_ | refine gCall_mk (by decide) (by decide) ?_ | refine if_yes (by first | assumption | omega | decide | exact b2i_R _ | exact gR_of (by omega) (by omega)) ?_ | refine if_no (by first | assumption | omega | decide | exact b2i_R _ | exact gR_of (by omega) (by omega)) ?_); (first | refine And.intro (show gR _ from by first | assumption | omega | decide | exact b2i_R _ | exact gR_of (by omega) (by omega)) ?_ | refine And.intro (show gHas _ _ _ from by first | exact gW.has (gD.w (by assumption)) (by omega) | exact gD.has (by assumption) | exact gRu.has (gD.ru (by assumption)) | exact gGr.has (gD.gr (by assumption) _ (by omega))) ?_ | refine gCall_mk (by decide) (by decide) ?_ | refine if_yes (by first | assumption | omega | decide | exact b2i_R _ | exact gR_of (by omega) (by omega)) ?_ | refine if_no (by first | assumption | omega | decide | exact b2i_R _ | exact gR_of (by omega) (by omega)) ?_)
    by_cases q1 : x.length ≤ j
    · refine if_yes (by omega) ?_
      obtain rfl : j = x.length := by omega
      exact k h fl
    · refine if_no (by omega) ((rx.on fl.2.1).at rfl (by omega) (by omega) (fl.set (i := s + j) rfl (by rw [pf_len (by omega)]; omega) (by rw [pf_len (by omega)]; omega) rfl (fun h3 f3 => ?_)))
      rw [← hat j (by omega), pf_set (by omega)] at f3
      rw [show ((s + j : Nat) : Int) + 1 = ((s + (j + 1) : Nat) : Int) by omega, show (j : Int) + 1 = ((j + 1 : Nat) : Int) by omega]
      exact r_image_L72 rx hx ht hst hat k z (j + 1) h3 f3 (by omega) (by omega)
theorem r_image_L38 {Q : Nat → gaH → Prop} {p q : Nat} {x y : List Bool} (ru : mR h0 a u) (rx : mR h0 p x) (ry : mR h0 q y) (hu : u.length ≤ 1000) (hx : x.length ≤ 1000) (hy : y.length ≤ 1000) (ht : (img x y u).length ≤ 1000) (k : ∀ h', fil h0 h' o (img x y u) → Q o h') {kc ks : Nat} : ∀ (z i : Nat) (h : gaH), fil h0 h o (pf (img x y u) (img x y (u.take i)).length) → i ≤ u.length → u.length - i < z → w_X7_image_L38 Q z p q o ((img x y (u.take i)).length : Int) a (u.length : Int) (i : Int) h kc ks
  | 0, _, _, _, _, h9 => absurd h9 (Nat.not_lt_zero _)
  | z + 1, i, h, fl, hi, h9 => by
    unfold w_X7_image_L38
    (first | refine And.intro (show gR _ from by first | assumption | omega | decide | exact b2i_R _ | exact gR_of (by omega) (by omega)) ?_ | refine And.intro (show gHas _ _ _ from by first | exact gW.has (gD.w (by assumption)) (by omega) | exact gD.has (by assumption) | exact gRu.has (gD.ru (by assumption)) | exact gGr.has (gD.gr (by assumption) _ (by omega))) ?_ | refine gCall_mk (by decide) (by decide) ?_ | refine if_yes (by first | assumption | omega | decide | exact b2i_R _ | exact gR_of (by omega) (by omega)) ?_ | refine if_no (by first | assumption | omega | decide | exact b2i_R _ | exact gR_of (by omega) (by omega)) ?_); (first | refine And.intro (show gR _ from by first | assumption | omega | decide | exact b2i_R _ | exact gR_of (by omega) (by omega)) ?_ | refine And.intro (show gHas _ _ _ from by first | exact gW.has (gD.w (by assumption)) (by omega) | exact gD.has (by assumption) | exact gRu.has (gD.ru (by assumption)) | exact gGr.has (gD.gr (by assumption) _ (by omega))) ?_ | refine gCall_mk (by decide) (by decide) ?_ | refine if_yes (by first | assumption | omega | decide | exact b2i_R _ | exact gR_of (by omega) (by omega)) ?_ | refine if_no (by first | assumption | omega | decide | exact b2i_R _ | exact gR_of (by omega) (by omega)) ?_)
    by_cases q1 : u.length ≤ i
    · refine if_yes (by omega) (k h ?_)
      rw [List.take_of_length_le q1, pf_end] at fl; exact fl
    · refine if_no (by omega) ((ru.on fl.2.1).at rfl (by omega) (by omega) ⟨b2i_R _, ?_⟩)
      have e1 : u = u.take i ++ (u.getD i false :: u.drop (i + 1)) := by rw [← take_one (by omega)]; exact (List.take_append_drop i u).symm
      have e2 : u.take (i + 1) = u.take i ++ [u.getD i false] := by rw [List.take_add_one, getD_lt (by omega)]; rfl
      have go : ∀ (c : Nat) (m : List Bool), mR h0 c m → m.length ≤ 1000 → img x y [u.getD i false] = m → w_X7_image_J62 Q (w_X7_image_L38 Q z) p q o ((img x y (u.take i)).length : Int) a (u.length : Int) (i : Int) c h kc ks := by
        intro c m rm hm em
        have e3 : img x y u = img x y (u.take i) ++ (m ++ img x y (u.drop (i + 1))) := by
          conv => lhs; rw [e1]
          rw [img_app, show u.getD i false :: u.drop (i + 1) = [u.getD i false] ++ u.drop (i + 1) from rfl, img_app, em]
        have e4 : (img x y (u.take (i + 1))).length = (img x y (u.take i)).length + m.length := by rw [e2, img_app, em, List.length_append]
        have e5 : (img x y u).length = (img x y (u.take i)).length + (m.length + (img x y (u.drop (i + 1))).length) := by rw [e3]; simp
        unfold w_X7_image_J62
        refine (rm.on fl.2.1).len ⟨1002, ?_⟩
        refine r_image_L72 (s := (img x y (u.take i)).length) rm hm ht (by omega) (fun j hj => ?_) (fun h3 f3 => ?_) 1002 0 h fl (Nat.zero_le _) (by omega)
        · rw [e3, List.getD_eq_getElem?_getD, List.getElem?_append_right (by omega), Nat.add_sub_cancel_left, List.getElem?_append_left hj, ← List.getD_eq_getElem?_getD]
        · rw [← e4] at f3 ⊢
          rw [show (i : Int) + 1 = ((i + 1 : Nat) : Int) by omega]
          exact r_image_L38 ru rx ry hu hx hy ht k z (i + 1) h3 f3 (by omega) (by omega)
      generalize u.getD i false = y1 at go
      cases y1
      · exact if_yes rfl (go p x rx hx (by simp [img]))
      · exact if_no (by decide) (go q y ry hy (by simp [img]))
theorem r_image {Q : Nat → gaH → Prop} {p q : Nat} {x y : List Bool} (ru : mR h a u) (rx : mR h p x) (ry : mR h q y) (hu : u.length ≤ 1000) (hx : x.length ≤ 1000) (hy : y.length ≤ 1000) (ht : (img x y u).length ≤ 256) (k : ∀ o h', fil h h' o (img x y u) → Q o h') : w_X7_image a p q h Q := by
  have e := img_len x y u
  have l1 := ones_le u
  unfold w_X7_image
  refine ru.len (r_bs ru hu (rx.len (r_bs ru hu (ry.len (fil.new (n := (img x y u).length) ?_ (by omega) (by decide) ht (fun o h' f => (ru.on f.2.1).len ⟨1002, ?_⟩))))))
  · rw [e]; push_cast; rw [Int.ofNat_sub l1]
  · exact r_image_L38 ru rx ry hu hx hy (by omega) (fun h'' f'' => k o h'' f'') 1002 0 h' (by rw [List.take_zero]; show fil h h' o (pf _ 0); rw [pf_0]; exact f) (Nat.zero_le _) (by omega)
theorem r_standsAt_L {Q : Int → gaH → Prop} (ru : mR h a u) (rv : mR h b v) {p : Nat} (hp : p + v.length ≤ u.length) (hu : u.length ≤ 1000) : ∀ (n i : Nat), i ≤ v.length → v.length - i < n → Q (b2i (decide ((u.drop (p + i)).take (v.length - i) = v.drop i))) h → w_X7_standsAt_L13 Q n a b (p : Int) (i : Int) h
  | 0, _, _, h9, _ => absurd h9 (Nat.not_lt_zero _)
  | n + 1, i, hi, h9, k => by
    unfold w_X7_standsAt_L13
    refine rv.len ?_
    (first | refine And.intro (show gR _ from by first | assumption | omega | decide | exact b2i_R _ | exact gR_of (by omega) (by omega)) ?_ | refine And.intro (show gHas _ _ _ from by first | exact gW.has (gD.w (by assumption)) (by omega) | exact gD.has (by assumption) | exact gRu.has (gD.ru (by assumption)) | exact gGr.has (gD.gr (by assumption) _ (by omega))) ?_ | refine gCall_mk (by decide) (by decide) ?_ | refine if_yes (by first | assumption | omega | decide | exact b2i_R _ | exact gR_of (by omega) (by omega)) ?_ | refine if_no (by first | assumption | omega | decide | exact b2i_R _ | exact gR_of (by omega) (by omega)) ?_); (first | refine And.intro (show gR _ from by first | assumption | omega | decide | exact b2i_R _ | exact gR_of (by omega) (by omega)) ?_ | refine And.intro (show gHas _ _ _ from by first | exact gW.has (gD.w (by assumption)) (by omega) | exact gD.has (by assumption) | exact gRu.has (gD.ru (by assumption)) | exact gGr.has (gD.gr (by assumption) _ (by omega))) ?_ | refine gCall_mk (by decide) (by decide) ?_ | refine if_yes (by first | assumption | omega | decide | exact b2i_R _ | exact gR_of (by omega) (by omega)) ?_ | refine if_no (by first | assumption | omega | decide | exact b2i_R _ | exact gR_of (by omega) (by omega)) ?_)
    by_cases q : v.length ≤ i
    · refine if_yes (by omega) ?_
      rw [List.drop_of_length_le q, show v.length - i = 0 by omega, List.take_zero, decide_eq_true rfl] at k
      exact k
    · refine if_no (by omega) (ru.at (i := p + i) (by omega) (by omega) (by omega) (rv.at rfl (by omega) (by omega) ⟨b2i_R _, b2i_R _, ?_⟩))
      rw [show v.length - i = (v.length - (i + 1)) + 1 by omega, take_one (u := u) (i := p + i) (by omega), take_one (u := v) (i := i) (by omega), List.take_succ_cons] at k
      by_cases z : u.getD (p + i) false = v.getD i false
      · refine if_yes (congrArg b2i z) ?_
        rw [show (i : Int) + 1 = ((i + 1 : Nat) : Int) by omega]
        refine r_standsAt_L ru rv hp hu n (i + 1) (by omega) (by omega) ?_
        rw [z, show p + i + 1 = p + (i + 1) by omega] at k
        simpa using k
      · refine if_no (fun q9 => z ((b2i_eq _ _).mp q9)) ?_
        rw [decide_eq_false (fun q9 => z (List.cons.inj q9).1)] at k
        exact k
theorem r_standsAt {Q : Int → gaH → Prop} (ru : mR h a u) (rv : mR h b v) {x : Int} {p : Nat} (hx : x = (p : Int)) (hp : p ≤ 1000) (hu : u.length ≤ 1000) (hv : v.length ≤ 1000) (k : Q (b2i (stands u v p)) h) : w_X7_standsAt a b x h Q := by
  subst hx
  unfold w_X7_standsAt
  refine rv.len (ru.len ?_)
  (first | refine And.intro (show gR _ from by first | assumption | omega | decide | exact b2i_R _ | exact gR_of (by omega) (by omega)) ?_ | refine And.intro (show gHas _ _ _ from by first | exact gW.has (gD.w (by assumption)) (by omega) | exact gD.has (by assumption) | exact gRu.has (gD.ru (by assumption)) | exact gGr.has (gD.gr (by assumption) _ (by omega))) ?_ | refine gCall_mk (by decide) (by decide) ?_ | refine if_yes (by first | assumption | omega | decide | exact b2i_R _ | exact gR_of (by omega) (by omega)) ?_ | refine if_no (by first | assumption | omega | decide | exact b2i_R _ | exact gR_of (by omega) (by omega)) ?_); (first | refine And.intro (show gR _ from by first | assumption | omega | decide | exact b2i_R _ | exact gR_of (by omega) (by omega)) ?_ | refine And.intro (show gHas _ _ _ from by first | exact gW.has (gD.w (by assumption)) (by omega) | exact gD.has (by assumption) | exact gRu.has (gD.ru (by assumption)) | exact gGr.has (gD.gr (by assumption) _ (by omega))) ?_ | refine gCall_mk (by decide) (by decide) ?_ | refine if_yes (by first | assumption | omega | decide | exact b2i_R _ | exact gR_of (by omega) (by omega)) ?_ | refine if_no (by first | assumption | omega | decide | exact b2i_R _ | exact gR_of (by omega) (by omega)) ?_)
  unfold stands at k
  by_cases q : p + v.length ≤ u.length
  · refine if_yes (by omega) ⟨v.length + 1, r_standsAt_L ru rv q hu _ 0 (Nat.zero_le _) (by omega) ?_⟩
    rw [decide_eq_true q, Bool.true_and] at k
    exact k
  · refine if_no (by omega) ?_
    rw [decide_eq_false q, Bool.false_and] at k
    exact k
theorem r_areSame {Q : Int → gaH → Prop} (ru : mR h a u) (rv : mR h b v) (hu : u.length ≤ 1000) (hv : v.length ≤ 1000) (k : Q (b2i (decide (u = v))) h) : w_X7_areSame a b h Q := by
  unfold w_X7_areSame
  refine ru.len (rv.len ?_)
  (first | refine And.intro (show gR _ from by first | assumption | omega | decide | exact b2i_R _ | exact gR_of (by omega) (by omega)) ?_ | refine And.intro (show gHas _ _ _ from by first | exact gW.has (gD.w (by assumption)) (by omega) | exact gD.has (by assumption) | exact gRu.has (gD.ru (by assumption)) | exact gGr.has (gD.gr (by assumption) _ (by omega))) ?_ | refine gCall_mk (by decide) (by decide) ?_ | refine if_yes (by first | assumption | omega | decide | exact b2i_R _ | exact gR_of (by omega) (by omega)) ?_ | refine if_no (by first | assumption | omega | decide | exact b2i_R _ | exact gR_of (by omega) (by omega)) ?_); (first | refine And.intro (show gR _ from by first | assumption | omega | decide | exact b2i_R _ | exact gR_of (by omega) (by omega)) ?_ | refine And.intro (show gHas _ _ _ from by first | exact gW.has (gD.w (by assumption)) (by omega) | exact gD.has (by assumption) | exact gRu.has (gD.ru (by assumption)) | exact gGr.has (gD.gr (by assumption) _ (by omega))) ?_ | refine gCall_mk (by decide) (by decide) ?_ | refine if_yes (by first | assumption | omega | decide | exact b2i_R _ | exact gR_of (by omega) (by omega)) ?_ | refine if_no (by first | assumption | omega | decide | exact b2i_R _ | exact gR_of (by omega) (by omega)) ?_)
  by_cases q : u.length = v.length
  · refine if_yes (by omega) (r_standsAt ru rv (p := 0) rfl (by decide) hu hv ?_)
    have e : stands u v 0 = decide (u = v) := by
      unfold stands
      rw [decide_eq_true (by omega), Bool.true_and, List.drop_zero, List.take_of_length_le (by omega)]
    rw [e]
    (first | refine And.intro (show gR _ from by first | assumption | omega | decide | exact b2i_R _ | exact gR_of (by omega) (by omega)) ?_ | refine And.intro (show gHas _ _ _ from by first | exact gW.has (gD.w (by assumption)) (by omega) | exact gD.has (by assumption) | exact gRu.has (gD.ru (by assumption)) | exact gGr.has (gD.gr (by assumption) _ (by omega))) ?_ | refine gCall_mk (by decide) (by decide) ?_ | refine if_yes (by first | assumption | omega | decide | exact b2i_R _ | exact gR_of (by omega) (by omega)) ?_ | refine if_no (by first | assumption | omega | decide | exact b2i_R _ | exact gR_of (by omega) (by omega)) ?_)
    by_cases z : u = v
    · rw [decide_eq_true z] at k ⊢; exact if_no (by decide) k
    · rw [decide_eq_false z] at k ⊢; exact if_yes rfl k
  · refine if_no (by omega) ?_
    rw [decide_eq_false (fun z => q (by rw [z]))] at k
    exact k
theorem r_turned_L {Q : Nat → gaH → Prop} (ru : mR h0 a u) (hu : u.length ≤ 64) (k : ∀ h', fil h0 h' o u.reverse → Q o h') {kc ks : Nat} : ∀ (z i : Nat) (h : gaH), fil h0 h o (pf u.reverse i) → i ≤ u.length → u.length - i < z → w_X7_turned_L7 Q z a o (i : Int) h kc ks
  | 0, _, _, _, _, h9 => absurd h9 (Nat.not_lt_zero _)
  | z + 1, i, h, fl, hi, h9 => by
    have hr : u.reverse.length = u.length := List.length_reverse
    unfold w_X7_turned_L7
    have ru2 := ru.on fl.2.1
    refine ru2.len ?_
    (first | refine And.intro (show gR _ from by first | assumption | omega | decide | exact b2i_R _ | exact gR_of (by omega) (by omega)) ?_ | refine And.intro (show gHas _ _ _ from by first | exact gW.has (gD.w (by assumption)) (by omega) | exact gD.has (by assumption) | exact gRu.has (gD.ru (by assumption)) | exact gGr.has (gD.gr (by assumption) _ (by omega))) ?_ | refine gCall_mk (by decide) (by decide) ?_ | refine if_yes (by first | assumption | omega | decide | exact b2i_R _ | exact gR_of (by omega) (by omega)) ?_ | refine if_no (by first | assumption | omega | decide | exact b2i_R _ | exact gR_of (by omega) (by omega)) ?_); (first | refine And.intro (show gR _ from by first | assumption | omega | decide | exact b2i_R _ | exact gR_of (by omega) (by omega)) ?_ | refine And.intro (show gHas _ _ _ from by first | exact gW.has (gD.w (by assumption)) (by omega) | exact gD.has (by assumption) | exact gRu.has (gD.ru (by assumption)) | exact gGr.has (gD.gr (by assumption) _ (by omega))) ?_ | refine gCall_mk (by decide) (by decide) ?_ | refine if_yes (by first | assumption | omega | decide | exact b2i_R _ | exact gR_of (by omega) (by omega)) ?_ | refine if_no (by first | assumption | omega | decide | exact b2i_R _ | exact gR_of (by omega) (by omega)) ?_)
    by_cases q : u.length ≤ i
    · refine if_yes (by omega) (k h ?_)
      obtain rfl : i = u.reverse.length := by omega
      rw [pf_end] at fl; exact fl
    · refine if_no (by omega) (ru2.len (ru2.at (i := u.length - 1 - i) (by omega) (by omega) (by omega) (fl.set rfl (by rw [pf_len (by omega)]; omega) (by rw [pf_len (by omega)]; omega) rfl (fun h3 f3 => ?_))))
      have e : u.getD (u.length - 1 - i) false = u.reverse.getD i false := by
        rw [List.getD_eq_getElem?_getD, List.getD_eq_getElem?_getD, List.getElem?_reverse (by omega)]
      rw [e, pf_set (by omega)] at f3
      rw [show (i : Int) + 1 = ((i + 1 : Nat) : Int) by omega]
      exact r_turned_L ru hu k z (i + 1) h3 f3 (by omega) (by omega)
theorem r_turned {Q : Nat → gaH → Prop} (ru : mR h a u) (hu : u.length ≤ 64) (k : ∀ o h', fil h h' o u.reverse → Q o h') : w_X7_turned a h Q := by
  unfold w_X7_turned
  refine ru.len (fil.new (n := u.length) rfl (by omega) (by decide) hu (fun o h' f => ⟨66, ?_⟩))
  exact r_turned_L ru hu (fun h'' f'' => k o h'' f'') 66 0 h' (by rw [pf_0, List.length_reverse]; exact f) (Nat.zero_le _) (by omega)
end RC
/-! The reference's object, and its growths. -/
def gM (B : Nat → Nat) (h : gaH) (st : GSt) (no : Int) : Prop := ∃ s : Nat → Nat, h (B 0) = some (7, [.ref (B 1), .ref (B 2), .ref (B 3), gi (st.C 0), gi (st.C 1), gi (st.C 2), gi (st.C 3), gi no]) ∧ h (B 1) = some (112, [.ref (s 0), .ref (s 1), .ref (s 2)]) ∧ (∀ w, w < 3 → mR h (s w) (st.S w) ∧ (st.S w).length ≤ 64 ∧ ∀ i, i < 38 → s w ≠ B i) ∧ h (B 2) = some (112, [.ref (B 4), .ref (B 5)]) ∧ h (B 3) = some (102, [gi ((st.T 0).length : Int), gi ((st.T 1).length : Int)]) ∧ (∀ g, g < 2 → gOk (st.T g) ∧ ∃ row : List Int, row.length = 64 ∧ h (B (4 + g)) = some (102, row.map gi) ∧ ∀ i, i < (st.T g).length → row[i]? = ((st.T g)[i]?).map (fun t => (t : Int))) ∧ (∀ i j, i < 6 → j < 6 → B i = B j → i = j) ∧ ∀ i, i < 38 → ∃ e, h (B i) = some e
theorem gOk.take {ts : List Nat} (h : gOk ts) : ∀ (n i : Nat), ts.length - i ≤ n → gOk (ts.take i)
  | 0, i, hi => by rw [List.take_of_length_le (by omega)]; exact h
  | n + 1, i, hi => by
    by_cases q : ts.length ≤ i
    · rw [List.take_of_length_le q]; exact h
    · have ih := gOk.take h n (i + 1) (by omega)
      rw [List.take_add_one, List.getElem?_eq_getElem (by omega)] at ih
      exact gOk.pre ih
theorem take_snoc {ts : List Nat} {i : Nat} (hi : i < ts.length) : ts.take (i + 1) = ts.take i ++ [ts.getD i 0] := by
  rw [List.take_add_one, List.getD_eq_getElem?_getD, List.getElem?_eq_getElem hi]; rfl
theorem rep_at (y : List Bool) : ∀ (t j : Nat), j < t * y.length → (rep t y).getD j false = y.getD (j % y.length) false
  | 0, j, hj => by omega
  | t + 1, j, hj => by
    rw [Nat.succ_mul] at hj
    rw [rep_succ, List.getD_eq_getElem?_getD]
    by_cases q : j < t * y.length
    · rw [List.getElem?_append_left (by rw [rep_len]; exact q), ← List.getD_eq_getElem?_getD]
      exact rep_at y t j q
    · rw [List.getElem?_append_right (by rw [rep_len]; omega), rep_len, ← List.getD_eq_getElem?_getD]
      have e : j % y.length = j - t * y.length := by
        have e1 : j = (j - t * y.length) + t * y.length := by omega
        rw [e1, Nat.add_mul_mod_self_right, Nat.mod_eq_of_lt (by omega)]
        omega
      rw [e]
theorem mK.non {h h' : gaH} (k : mK h h') {o : Nat} (ho : h' o = none) : h o = none := by
  cases q : h o with
  | none => rfl
  | some e => rw [k o e q] at ho; cases ho
theorem upE {h : gaH} {a x : Nat} {f : gaE} (q : ∃ e, h x = some e) : ∃ e, gaUp h a f x = some e := by
  by_cases z : x = a
  · rw [z]; exact ⟨f, gaUp_self _ _ _⟩
  · rw [gaUp_ne _ _ z]; exact q
section RM
variable {B : Nat → Nat} {h h0 : gaH} {st : GSt} {no : Int} {a b o : Nat} {u v : List Bool} {w g : Nat}
theorem gM.kp (d : gM B h st no) {h' : gaH} (k : mK h h') : gM B h' st no := by
  obtain ⟨s, a1, a2, a3, a4, a5, a6, a7⟩ := d
  refine ⟨s, k _ _ a1, k _ _ a2, fun w hw => ⟨(a3 w hw).1.on k, (a3 w hw).2⟩, k _ _ a4, k _ _ a5, fun g hg => ?_, a7.1, fun i hi => by obtain ⟨e, q⟩ := a7.2 i hi; exact ⟨e, k _ _ q⟩⟩
  obtain ⟨b1, row, b2, b3, b4⟩ := a6 g hg
  exact ⟨b1, row, b2, k _ _ b3, b4⟩
theorem gM.has (d : gM B h st no) : gHas h (B 0) 7 := by obtain ⟨s, a1, -⟩ := d; exact ⟨_, a1⟩
theorem gM.f0 (d : gM B h st no) {K : Nat → Prop} (k : K (B 1)) : gA h (B 0) 7 0 K := by obtain ⟨s, a1, -⟩ := d; exact gA_mk a1 rfl k
theorem gM.f1 (d : gM B h st no) {K : Nat → Prop} (k : K (B 2)) : gA h (B 0) 7 1 K := by obtain ⟨s, a1, -⟩ := d; exact gA_mk a1 rfl k
theorem gM.f2 (d : gM B h st no) {K : Nat → Prop} (k : K (B 3)) : gA h (B 0) 7 2 K := by obtain ⟨s, a1, -⟩ := d; exact gA_mk a1 rfl k
theorem gM.cn (d : gM B h st no) {i f : Nat} (hf : f = 3 + i) (hi : i < 4) {K : Int → Prop} (k : K (st.C i)) : gI h (B 0) 7 f K := by
  subst hf
  obtain ⟨s, a1, -⟩ := d
  refine gI_mk a1 (x := st.C i) ?_ k
  rcases (show i = 0 ∨ i = 1 ∨ i = 2 ∨ i = 3 by omega) with rfl | rfl | rfl | rfl <;> rfl
theorem gM.nn (d : gM B h st no) {K : Int → Prop} (k : K no) : gI h (B 0) 7 7 K := by obtain ⟨s, a1, -⟩ := d; exact gI_mk a1 rfl k
theorem gM.sh (d : gM B h st no) {x : Int} (hx : x = (w : Int)) (hw : w < 3) {K : Nat → Prop} (k : ∀ a, mR h a (st.S w) → (∀ i, i < 38 → a ≠ B i) → K a) : gLA h (B 1) 112 x K := by
  subst hx
  obtain ⟨s, a1, a2, a3, -⟩ := d
  refine ⟨_, s w, a2, by omega, by omega, ?_, k _ (a3 w hw).1 (a3 w hw).2.2⟩
  rw [Int.toNat_natCast]
  rcases (show w = 0 ∨ w = 1 ∨ w = 2 by omega) with rfl | rfl | rfl <;> rfl
theorem gM.sl (d : gM B h st no) (hw : w < 3) : (st.S w).length ≤ 64 := by obtain ⟨s, a1, a2, a3, -⟩ := d; exact (a3 w hw).2.1
theorem gM.ok (d : gM B h st no) (hg : g < 2) : gOk (st.T g) := by obtain ⟨s, a1, a2, a3, a4, a5, a6, -⟩ := d; exact (a6 g hg).1
theorem gM.tr (d : gM B h st no) {x : Int} (hx : x = (g : Int)) (hg : g < 2) {K : Nat → Prop} (k : K (B (4 + g))) : gLA h (B 2) 112 x K := by
  subst hx
  obtain ⟨s, a1, a2, a3, a4, -⟩ := d
  refine ⟨_, _, a4, by omega, by omega, ?_, k⟩
  rw [Int.toNat_natCast]
  rcases (show g = 0 ∨ g = 1 by omega) with rfl | rfl <;> rfl
theorem gM.ct (d : gM B h st no) {x : Int} (hx : x = (g : Int)) (hg : g < 2) {K : Int → Prop} (k : K ((st.T g).length : Int)) : gLI h (B 3) 102 x K := by
  subst hx
  obtain ⟨s, a1, a2, a3, a4, a5, -⟩ := d
  refine gLI_mk a5 (by omega) (by omega) ?_ k
  rw [Int.toNat_natCast]
  rcases (show g = 0 ∨ g = 1 by omega) with rfl | rfl <;> rfl
theorem gM.tn (d : gM B h st no) (hg : g < 2) {x : Int} {i : Nat} (hx : x = (i : Int)) (hi : i < (st.T g).length) {K : Int → Prop} (k : K (((st.T g).getD i 0 : Nat) : Int)) : gLI h (B (4 + g)) 102 x K := by
  subst hx
  have hl := (d.ok hg).len
  obtain ⟨s, a1, a2, a3, a4, a5, a6, -⟩ := d
  obtain ⟨b1, row, b2, b3, b4⟩ := a6 g hg
  refine gLI_mk b3 (by omega) (by omega) ?_ k
  rw [Int.toNat_natCast, List.getElem?_map, b4 i hi, List.getD_eq_getElem?_getD, List.getElem?_eq_getElem hi]
  rfl
theorem gOk.tn {u' : List Nat} (hok : gOk u') {i : Nat} (hi : i < u'.length) : 1 ≤ u'.getD i 0 ∧ u'.getD i 0 ≤ 3 := by
  refine hok.1 _ ?_
  rw [List.getD_eq_getElem?_getD, List.getElem?_eq_getElem hi]
  exact List.getElem_mem _
theorem r_byCopies_L60 {Q : Nat → gaH → Prop} {K20 : Nat → Int → Int → Nat → Nat → Int → gaH → Nat → Nat → Prop} {e y : List Bool} {p q : Nat} {t : Nat} (re : mR h0 p e) (ry : mR h0 q y) (hy : 1 ≤ y.length) (hl : t * y.length + e.length ≤ 64) {v0 : Nat} {v1 v2 v5 : Int} {kc ks : Nat} (k : ∀ h', fil h0 h' o (rep t y ++ e) → K20 v0 v1 v2 q o (v5 + 1) h' kc ks) : ∀ (z i : Nat) (h : gaH), fil h0 h o (pf (rep t y ++ e) i) → i ≤ t * y.length + e.length → t * y.length + e.length - i < z → w_X7_byCopies_L60 Q K20 z v0 v1 v2 p q v5 (t : Int) o (i : Int) h kc ks
  | 0, _, _, _, _, h9 => absurd h9 (Nat.not_lt_zero _)
  | z + 1, i, h, fl, hi, h9 => by
    have hT : (rep t y ++ e).length = t * y.length + e.length := by simp [rep_len]
    have hy64 : t = 0 ∨ y.length ≤ 64 := by
      rcases Nat.eq_zero_or_pos t with q | q
      · exact Or.inl q
      · right
        have := Nat.le_mul_of_pos_left y.length q
        omega
    have em : (t : Int) * (y.length : Int) = ((t * y.length : Nat) : Int) := by push_cast; rfl
    unfold w_X7_byCopies_L60
    refine fl.2.2.len ?_
    rw [pf_len (by omega), hT]
    (first | refine And.intro (show gR _ from by first | assumption | omega | decide | exact b2i_R _ | exact gR_of (by omega) (by omega)) ?_ | refine And.intro (show gHas _ _ _ from by first | exact gW.has (gD.w (by assumption)) (by omega) | exact gD.has (by assumption) | exact gRu.has (gD.ru (by assumption)) | exact gGr.has (gD.gr (by assumption) _ (by omega))) ?_ | refine gCall_mk (by decide) (by decide) ?_ | refine if_yes (by first | assumption | omega | decide | exact b2i_R _ | exact gR_of (by omega) (by omega)) ?_ | refine if_no (by first | assumption | omega | decide | exact b2i_R _ | exact gR_of (by omega) (by omega)) ?_); (first | refine And.intro (show gR _ from by first | assumption | omega | decide | exact b2i_R _ | exact gR_of (by omega) (by omega)) ?_ | refine And.intro (show gHas _ _ _ from by first | exact gW.has (gD.w (by assumption)) (by omega) | exact gD.has (by assumption) | exact gRu.has (gD.ru (by assumption)) | exact gGr.has (gD.gr (by assumption) _ (by omega))) ?_ | refine gCall_mk (by decide) (by decide) ?_ | refine if_yes (by first | assumption | omega | decide | exact b2i_R _ | exact gR_of (by omega) (by omega)) ?_ | refine if_no (by first | assumption | omega | decide | exact b2i_R _ | exact gR_of (by omega) (by omega)) ?_)
    by_cases q1 : t * y.length + e.length ≤ i
    · refine if_yes (by omega) (k h ?_)
      obtain rfl : i = (rep t y ++ e).length := by omega
      rw [pf_end] at fl; exact fl
    · have fin : ∀ x : Int, x = b2i ((rep t y ++ e).getD i false) → w_X7_byCopies_J106 Q K20 (w_X7_byCopies_L60 Q K20 z) v0 v1 v2 p q v5 (t : Int) o (i : Int) o (i : Int) x h kc ks := fun x hx => by
        unfold w_X7_byCopies_J106
        refine fl.set rfl (by rw [pf_len (by omega)]; omega) (by rw [pf_len (by omega)]; omega) hx (fun h3 f3 => ?_)
        rw [pf_set (by omega)] at f3
        rw [show (i : Int) + 1 = ((i + 1 : Nat) : Int) by omega]
        exact r_byCopies_L60 re ry hy hl k z (i + 1) h3 f3 (by omega) (by omega)
      have re2 := re.on fl.2.1
      have ry2 := ry.on fl.2.1
      refine if_no (by omega) (ry2.len ?_)
      rw [em]
      (first | refine And.intro (show gR _ from by first | assumption | omega | decide | exact b2i_R _ | exact gR_of (by omega) (by omega)) ?_ | refine And.intro (show gHas _ _ _ from by first | exact gW.has (gD.w (by assumption)) (by omega) | exact gD.has (by assumption) | exact gRu.has (gD.ru (by assumption)) | exact gGr.has (gD.gr (by assumption) _ (by omega))) ?_ | refine gCall_mk (by decide) (by decide) ?_ | refine if_yes (by first | assumption | omega | decide | exact b2i_R _ | exact gR_of (by omega) (by omega)) ?_ | refine if_no (by first | assumption | omega | decide | exact b2i_R _ | exact gR_of (by omega) (by omega)) ?_); (first | refine And.intro (show gR _ from by first | assumption | omega | decide | exact b2i_R _ | exact gR_of (by omega) (by omega)) ?_ | refine And.intro (show gHas _ _ _ from by first | exact gW.has (gD.w (by assumption)) (by omega) | exact gD.has (by assumption) | exact gRu.has (gD.ru (by assumption)) | exact gGr.has (gD.gr (by assumption) _ (by omega))) ?_ | refine gCall_mk (by decide) (by decide) ?_ | refine if_yes (by first | assumption | omega | decide | exact b2i_R _ | exact gR_of (by omega) (by omega)) ?_ | refine if_no (by first | assumption | omega | decide | exact b2i_R _ | exact gR_of (by omega) (by omega)) ?_)
      by_cases q2 : t * y.length ≤ i
      · refine if_yes (by omega) (ry2.len ?_)
        rw [em]
        refine re2.at (i := i - t * y.length) (by omega) (by omega) (by omega) (fin _ ?_)
        rw [List.getD_eq_getElem?_getD (l := rep t y ++ e), List.getElem?_append_right (by rw [rep_len]; omega), rep_len, ← List.getD_eq_getElem?_getD]
      · have ht0 : t ≠ 0 := by rintro rfl; simp at q2
        refine if_no (by omega) (ry2.len ⟨by omega, by omega, ?_⟩)
        rw [gRem_nat (by omega) (by omega)]
        have hm := Nat.mod_lt i (show 0 < y.length by omega)
        refine ry2.at (i := i % y.length) rfl hm (by omega) (fin _ ?_)
        rw [List.getD_eq_getElem?_getD (l := rep t y ++ e), List.getElem?_append_left (by rw [rep_len]; omega), ← List.getD_eq_getElem?_getD, rep_at y t i (by omega)]
theorem r_byCopies_L20 {Q : Nat → gaH → Prop} (hg : g < 2) {m bk : Nat} (hm : m + bk = (st.T g).length) (k : ∀ h' o, mK h0 h' → h0 o = none → mR h' o (grw ((st.T g).take m)).2 → Q o h') : ∀ (n i p q : Nat) (h : gaH) (kc ks : Nat), gM B h st no → mK h0 h → h0 q = none → mR h p (grw ((st.T g).take i)).1 → mR h q (grw ((st.T g).take i)).2 → i ≤ m → m - i < n → m - i ≤ kc → 64 * (m - i) ≤ ks → w_X7_byCopies_L20 Q n (B 0) (g : Int) (bk : Int) p q (i : Int) h kc ks
  | 0, _, _, _, _, _, _, _, _, _, _, _, _, h9, _, _ => absurd h9 (Nat.not_lt_zero _)
  | n + 1, i, p, q, h, kc, ks, d, kp, nq, re, ry, hi, h9, hc, hs => by
    have hok := d.ok hg
    have hl := hok.len
    unfold w_X7_byCopies_L20
    refine d.f2 (d.ct rfl hg ?_)
    (first | refine And.intro (show gR _ from by first | assumption | omega | decide | exact b2i_R _ | exact gR_of (by omega) (by omega)) ?_ | refine And.intro (show gHas _ _ _ from by first | exact gW.has (gD.w (by assumption)) (by omega) | exact gD.has (by assumption) | exact gRu.has (gD.ru (by assumption)) | exact gGr.has (gD.gr (by assumption) _ (by omega))) ?_ | refine gCall_mk (by decide) (by decide) ?_ | refine if_yes (by first | assumption | omega | decide | exact b2i_R _ | exact gR_of (by omega) (by omega)) ?_ | refine if_no (by first | assumption | omega | decide | exact b2i_R _ | exact gR_of (by omega) (by omega)) ?_); (first | refine And.intro (show gR _ from by first | assumption | omega | decide | exact b2i_R _ | exact gR_of (by omega) (by omega)) ?_ | refine And.intro (show gHas _ _ _ from by first | exact gW.has (gD.w (by assumption)) (by omega) | exact gD.has (by assumption) | exact gRu.has (gD.ru (by assumption)) | exact gGr.has (gD.gr (by assumption) _ (by omega))) ?_ | refine gCall_mk (by decide) (by decide) ?_ | refine if_yes (by first | assumption | omega | decide | exact b2i_R _ | exact gR_of (by omega) (by omega)) ?_ | refine if_no (by first | assumption | omega | decide | exact b2i_R _ | exact gR_of (by omega) (by omega)) ?_)
    by_cases q1 : m ≤ i
    · refine if_yes (by omega) (k h q kp nq ?_)
      obtain rfl : i = m := by omega
      exact ry
    · refine if_no (by omega) (d.f1 (d.tr rfl hg (d.tn hg rfl (by omega) (ry.len (re.len ?_)))))
      have o1 := hok.take _ (i + 1) (Nat.le_refl _)
      have o0 := hok.take _ i (Nat.le_refl _)
      have ht := hok.tn (i := i) (by omega)
      rw [take_snoc (by omega)] at o1
      have e1 : (grw ((st.T g).take i ++ [(st.T g).getD i 0])).2.length = (st.T g).getD i 0 * (grw ((st.T g).take i)).2.length + (grw ((st.T g).take i)).1.length := by
        rw [grw_snoc]; simp [gstep, rep_len]
      have hlen := o1.2
      rw [e1] at hlen
      have hy1 := (grw_len _ ((st.T g).take i) rfl o0.1).1
      refine fil.new (n := (st.T g).getD i 0 * (grw ((st.T g).take i)).2.length + (grw ((st.T g).take i)).1.length) (by push_cast; rfl) (by omega) (by omega) (by omega) (fun o h1 f1 => ⟨66, ?_⟩)
      refine r_byCopies_L60 re ry (by omega) hlen (fun h' f' => ?_) 66 0 h1 (by rw [pf_0, List.length_append, rep_len]; exact f1) (Nat.zero_le _) (by omega)
      rw [show (i : Int) + 1 = ((i + 1 : Nat) : Int) by omega]
      have eg : grw ((st.T g).take (i + 1)) = ((grw ((st.T g).take i)).2, rep ((st.T g).getD i 0) (grw ((st.T g).take i)).2 ++ (grw ((st.T g).take i)).1) := by rw [take_snoc (by omega), grw_snoc]; rfl
      refine r_byCopies_L20 hg hm k n (i + 1) q o h' _ _ (d.kp f'.2.1) (kp.tr f'.2.1) (kp.non f'.1) (by rw [eg]; exact ry.on f'.2.1) (by rw [eg]; exact f'.2.2) (by omega) (by omega) (by omega) (by omega)
theorem r_byCopies {Q : Nat → gaH → Prop} (d : gM B h st no) (hg : g < 2) {x y : Int} {m bk : Nat} (hx : x = (g : Int)) (hy : y = (bk : Int)) (hm : m + bk = (st.T g).length) (k : ∀ h' o, mK h h' → h o = none → mR h' o (grw ((st.T g).take m)).2 → Q o h') : w_X7_byCopies (B 0) x y h Q := by
  subst hx; subst hy
  have hl := (d.ok hg).len
  unfold w_X7_byCopies
  refine fil.new (n := 1) rfl (by decide) (by decide) (by decide) (fun p h1 f1 => f1.set (i := 0) rfl (by decide) (by decide) (b := true) rfl (fun h2 f2 => ?_))
  refine fil.new (n := 1) rfl (by decide) (by decide) (by decide) (fun q h3 f3 => f3.set (i := 0) rfl (by decide) (by decide) (b := false) rfl (fun h4 f4 => ⟨66, ?_⟩))
  exact r_byCopies_L20 hg hm k 66 0 p q h4 _ _ (d.kp (f2.2.1.tr f4.2.1)) (f2.2.1.tr f4.2.1) (f2.2.1.non f4.1) (f2.2.2.on f4.2.1) f4.2.2 (Nat.zero_le _) (by omega) (by omega) (by omega)
/-- the elder word is the younger of the turns but the last -/
theorem grw_elder (ts : List Nat) (hne : ts ≠ []) : (grw (ts.take (ts.length - 1))).2 = (grw ts).1 := by
  obtain ⟨us, t, rfl⟩ : ∃ us t, ts = us ++ [t] := ⟨ts.dropLast, ts.getLast hne, (List.dropLast_concat_getLast _).symm⟩
  rw [grw_snoc]
  simp [gstep]
theorem r_elder {Q : Nat → gaH → Prop} (d : gM B h st no) (hg : g < 2) {x : Int} (hx : x = (g : Int)) (k : ∀ h' o, mK h h' → h o = none → mR h' o (grw (st.T g)).1 → Q o h') : w_X7_elder (B 0) x h Q := by
  subst hx
  have hl := (d.ok hg).len
  unfold w_X7_elder
  refine d.f2 (d.ct rfl hg ?_)
  refine ⟨by omega, ?_⟩
  by_cases q : st.T g = []
  · refine if_yes (by rw [q]; rfl) (fil.new (n := 1) rfl (by decide) (by decide) (by decide) (fun p h1 f1 => f1.set (i := 0) rfl (by decide) (by decide) (b := true) rfl (fun h2 f2 => k h2 p f2.2.1 f2.1 ?_)))
    rw [q]; exact f2.2.2
  · have hp : 0 < (st.T g).length := List.length_pos_iff.mpr q
    refine if_no (by omega) ⟨d.has, gCall_mk (by decide) (by decide) (r_byCopies d hg (m := (st.T g).length - 1) (bk := 1) rfl rfl (by omega) (fun h' o kp no r => k h' o kp no ?_))⟩
    rw [grw_elder _ q] at r; exact r
theorem r_word {Q : Nat → gaH → Prop} (d : gM B h st no) (hg : g < 2) {x y : Int} {b : Bool} (hx : x = (g : Int)) (hy : y = b2i b) (k : ∀ h' o, mK h h' → h o = none → mR h' o (gWd (st.T g) b) → Q o h') : w_X7_word (B 0) x y h Q := by
  subst hy
  unfold w_X7_word
  refine ⟨b2i_R _, ?_⟩
  cases b
  · refine if_yes rfl ⟨d.has, gCall_mk (by decide) (by decide) (r_byCopies d hg (m := (st.T g).length) (bk := 0) hx rfl rfl (fun h' o kp no r => k h' o kp no ?_))⟩
    rw [List.take_length] at r; exact r
  · exact if_no (by decide) ⟨d.has, gCall_mk (by decide) (by decide) (r_elder d hg hx k)⟩
end RM
/-! The reference: growths by rules and by their line; twos. -/
theorem phi_take_drop (ts : List Nat) (hok : gOk ts) (i : Nat) : (phi (ts.drop i) [false]).length ≤ 64 := by
  have h1 : (grw ts).2 = phi ts [false] := by rw [grw_phi _ ts rfl hok.1]
  have h2 := hok.2
  have h3 : phi ts [false] = phi (ts.take i) (phi (ts.drop i) [false]) := by rw [← phi_split, List.take_append_drop]
  have h4 := phi_ge (ts.take i) (fun x hx => hok.1 x (List.mem_of_mem_take hx)) (phi (ts.drop i) [false])
  rw [h1, h3] at h2
  omega
theorem phi_drop {ts : List Nat} {i : Nat} (hi : i < ts.length) (w : List Bool) : phi (ts.drop i) w = img (codeW (cf (ts.getD i 0))) (codeW 2) (phi (ts.drop (i + 1)) w) := by
  rw [List.drop_eq_getElem_cons hi, List.getD_eq_getElem?_getD, List.getElem?_eq_getElem hi]; rfl
section RL
variable {B : Nat → Nat} {h h0 : gaH} {st : GSt} {no : Int} {a b o : Nat} {u v : List Bool} {w g : Nat}
theorem r_byRules_L {Q : Nat → gaH → Prop} (hg : g < 2) (k : ∀ h' o, mK h0 h' → h0 o = none → mR h' o (grw (st.T g)).2 → Q o h') : ∀ (n i p : Nat) (h : gaH) (kc ks : Nat), gM B h st no → mK h0 h → h0 p = none → mR h p (phi ((st.T g).drop i) [false]) → i ≤ (st.T g).length → i < n → 3 * i ≤ kc → 288 * i ≤ ks → w_X7_byRules_L17 Q n (B 0) (g : Int) p ((i : Int) - 1) h kc ks
  | 0, _, _, _, _, _, _, _, _, _, _, h9, _, _ => absurd h9 (Nat.not_lt_zero _)
  | n + 1, i, p, h, kc, ks, d, kp, np, rp, hi, h9, hc, hs => by
    have hok := d.ok hg
    have hl := hok.len
    unfold w_X7_byRules_L17
    (first | refine And.intro (show gR _ from by first | assumption | omega | decide | exact b2i_R _ | exact gR_of (by omega) (by omega)) ?_ | refine And.intro (show gHas _ _ _ from by first | exact gW.has (gD.w (by assumption)) (by omega) | exact gD.has (by assumption) | exact gRu.has (gD.ru (by assumption)) | exact gGr.has (gD.gr (by assumption) _ (by omega))) ?_ | refine gCall_mk (by decide) (by decide) ?_ | refine if_yes (by first | assumption | omega | decide | exact b2i_R _ | exact gR_of (by omega) (by omega)) ?_ | refine if_no (by first | assumption | omega | decide | exact b2i_R _ | exact gR_of (by omega) (by omega)) ?_)
    by_cases q : i = 0
    · subst q
      refine if_yes (by decide) (k h p kp np ?_)
      rw [List.drop_zero] at rp
      rw [grw_phi _ (st.T g) rfl hok.1]; exact rp
    · have ht := hok.tn (i := i - 1) (by omega)
      have hw := phi_take_drop (st.T g) hok i
      have hw2 := phi_take_drop (st.T g) hok (i - 1)
      have e := phi_drop (ts := st.T g) (i := i - 1) (by omega) [false]
      rw [show i - 1 + 1 = i by omega] at e
      rw [e] at hw2
      refine if_no (by omega) (d.f1 (d.tr rfl hg (d.tn hg (i := i - 1) (by omega) (by omega) (gCall_mk (by omega) (by omega) ?_))))
      have ec : gShl 2 (((st.T g).getD (i - 1) 0 : Nat) : Int) + 1 = ((cf ((st.T g).getD (i - 1) 0) : Nat) : Int) := by
        rcases (show (st.T g).getD (i - 1) 0 = 1 ∨ (st.T g).getD (i - 1) 0 = 2 ∨ (st.T g).getD (i - 1) 0 = 3 by omega) with e | e | e <;> rw [e] <;> decide +kernel
      obtain ⟨c1, c2, -, -⟩ := cf_len ht
      have c3 : 1 ≤ cf ((st.T g).getD (i - 1) 0) := by unfold cf; split; decide; split; decide; split; decide; omega
      have c4 : (codeW (cf ((st.T g).getD (i - 1) 0))).length ≤ 16 := codeL_len 16 _
      rw [ec]
      refine r_ofCode rfl c3 c2 (fun x h1 f1 => gCall_mk (by omega) (by omega) (r_ofCode (c := 2) rfl (by decide) (by decide) (fun y h2 f2 => gCall_mk (by omega) (by omega) ?_)))
      refine r_image (rp.on (f1.2.1.tr f2.2.1)) (f1.2.2.on f2.2.1) f2.2.2 (by omega) (by omega) (by decide) (by omega) (fun z h3 f3 => ?_)
      rw [show (i : Int) - 1 + -1 = ((i - 1 : Nat) : Int) - 1 by omega]
      have kk := f1.2.1.tr (f2.2.1.tr f3.2.1)
      exact r_byRules_L hg k n (i - 1) z h3 _ _ (d.kp kk) (kp.tr kk) ((kp.tr (f1.2.1.tr f2.2.1)).non f3.1) (by rw [e]; exact f3.2.2) (by omega) (by omega) (by omega) (by omega)
theorem r_byRules {Q : Nat → gaH → Prop} (d : gM B h st no) (hg : g < 2) {x : Int} (hx : x = (g : Int)) (k : ∀ h' o, mK h h' → h o = none → mR h' o (grw (st.T g)).2 → Q o h') : w_X7_byRules (B 0) x h Q := by
  subst hx
  have hl := (d.ok hg).len
  unfold w_X7_byRules
  refine fil.new (n := 1) rfl (by decide) (by decide) (by decide) (fun p h1 f1 => f1.set (i := 0) rfl (by decide) (by decide) (b := false) rfl (fun h2 f2 => ?_))
  have d2 := d.kp f2.2.1
  refine d2.f2 (d2.ct rfl hg ⟨66, ?_⟩)
  refine r_byRules_L hg k 66 _ p h2 _ _ d2 f2.2.1 f2.1 ?_ (Nat.le_refl _) (by omega) (by omega) (by omega)
  rw [List.drop_length]; exact f2.2.2
theorem r_lineSign {Q : Int → gaH → Prop} {n p s i : Nat} (hn : 0 < n) (hb : n ≤ 1000) (hp : p ≤ 1000) (hs : s ≤ 1000) (hi : i ≤ 1000) {x1 x2 x3 x4 : Int} (h1 : x1 = (n : Int)) (h2 : x2 = (p : Int)) (h3 : x3 = (s : Int)) (h4 : x4 = (i : Int)) (k : Q (b2i (lineB n p s i)) h) : w_X7_lineSign x1 x2 x3 x4 h Q := by
  subst h1; subst h2; subst h3; subst h4
  have hm : i * p ≤ 1000 * 1000 := Nat.mul_le_mul hi hp
  have e1 : (i : Int) * (p : Int) + (s : Int) = ((i * p + s : Nat) : Int) := by push_cast; rfl
  have hr := Nat.mod_lt (i * p + s) hn
  unfold w_X7_lineSign
  rw [e1, gRem_nat (by omega) (by omega)]
  refine ⟨by omega, by omega, by omega, by omega, ?_⟩
  unfold lineB at k
  by_cases q : n ≤ (i * p + s) % n + p
  · rw [decide_eq_true q] at k
    refine if_no (by omega) ?_
    exact ⟨by decide, if_no (by decide) k⟩
  · rw [decide_eq_false q] at k
    refine if_yes (by omega) ?_
    exact ⟨by decide, if_yes rfl k⟩
def mI (h : gaH) (a : Nat) (x y : Int) : Prop := h a = some (102, [gi x, gi y])
theorem mI.a0 {x y : Int} (r : mI h a x y) {K : Int → Prop} (k : K x) : gLI h a 102 0 K := gLI_mk r (by decide) (by decide) rfl k
theorem mI.a1 {x y : Int} (r : mI h a x y) {K : Int → Prop} (k : K y) : gLI h a 102 1 K := gLI_mk r (by decide) (by decide) rfl k
theorem mI.on {h' : gaH} {x y : Int} (r : mI h a x y) (k : mK h h') : mI h' a x y := k _ _ r
theorem byL_len {ts : List Nat} (hne : ts ≠ []) (h2 : 2 ≤ (nums ts).2.2.1) : (byL ts).length = (nums ts).2.2.1 := by
  unfold byL
  rw [if_neg hne]; simp; omega
theorem r_byLine_L132 {Q : Nat → gaH → Prop} {ts : List Nat} (hg : g < 2) (e0 : ts = st.T g) (hne : ts ≠ []) {v3 : Nat} {x : Int} (h2 : 2 ≤ (nums ts).2.2.1) (h64 : (nums ts).2.2.1 ≤ 64) (hp : (nums ts).2.2.2 ≤ 64) (k : ∀ h' , fil h0 h' o (byL ts) → Q o h') (d0 : gM B h0 st no) (rv : mI h0 v3 x ((nums ts).2.2.2 : Int)) {kc ks : Nat} : ∀ (z i : Nat) (h : gaH), fil h0 h o (pf (byL ts) i) → i ≤ (nums ts).2.2.1 - 2 → (nums ts).2.2.1 - 2 - i < z → w_X7_byLine_L132 Q z (B 0) (g : Int) v3 ((nums ts).2.2.1 : Int) o (i : Int) h kc ks
  | 0, _, _, _, _, h9 => absurd h9 (Nat.not_lt_zero _)
  | z + 1, i, h, fl, hi, h9 => by
    have hT := byL_len hne h2
    have hl : ts.length ≤ 63 := by rw [e0]; exact (d0.ok hg).len
    have d := d0.kp fl.2.1
    have er : gRem ((ts.length : Nat) : Int) 2 = ((ts.length % 2 : Nat) : Int) := gRem_nat (b := 2) (by omega) (by decide)
    unfold w_X7_byLine_L132
    (first | refine And.intro (show gR _ from by first | assumption | omega | decide | exact b2i_R _ | exact gR_of (by omega) (by omega)) ?_ | refine And.intro (show gHas _ _ _ from by first | exact gW.has (gD.w (by assumption)) (by omega) | exact gD.has (by assumption) | exact gRu.has (gD.ru (by assumption)) | exact gGr.has (gD.gr (by assumption) _ (by omega))) ?_ | refine gCall_mk (by decide) (by decide) ?_ | refine if_yes (by first | assumption | omega | decide | exact b2i_R _ | exact gR_of (by omega) (by omega)) ?_ | refine if_no (by first | assumption | omega | decide | exact b2i_R _ | exact gR_of (by omega) (by omega)) ?_); (first | refine And.intro (show gR _ from by first | assumption | omega | decide | exact b2i_R _ | exact gR_of (by omega) (by omega)) ?_ | refine And.intro (show gHas _ _ _ from by first | exact gW.has (gD.w (by assumption)) (by omega) | exact gD.has (by assumption) | exact gRu.has (gD.ru (by assumption)) | exact gGr.has (gD.gr (by assumption) _ (by omega))) ?_ | refine gCall_mk (by decide) (by decide) ?_ | refine if_yes (by first | assumption | omega | decide | exact b2i_R _ | exact gR_of (by omega) (by omega)) ?_ | refine if_no (by first | assumption | omega | decide | exact b2i_R _ | exact gR_of (by omega) (by omega)) ?_)
    by_cases q : (nums ts).2.2.1 - 2 ≤ i
    · obtain rfl : i = (nums ts).2.2.1 - 2 := by omega
      refine if_yes (by omega) (d.f2 (d.ct rfl hg ?_))
      rw [← e0, er]
      have at1 : (byL ts).getD ((nums ts).2.2.1 - 2) false = decide (ts.length % 2 = 0) := by
        unfold byL
        rw [if_neg hne, List.getD_eq_getElem?_getD, List.getElem?_append_right (by simp)]
        simp
      have at2 : (byL ts).getD ((nums ts).2.2.1 - 2 + 1) false = decide (ts.length % 2 = 1) := by
        unfold byL
        rw [if_neg hne, List.getD_eq_getElem?_getD, List.getElem?_append_right (by simp)]
        simp
      have fin : ∀ c : Int, c = b2i (decide (ts.length % 2 = 0)) → w_X7_byLine_J187 Q (B 0) (g : Int) ((nums ts).2.2.1 : Int) o o (((nums ts).2.2.1 : Int) - 2) c h kc ks := by
        intro c hc
        unfold w_X7_byLine_J187
        have one : ∀ {K : Int → gaH → Prop} {c : Int} {b : Bool} {h : gaH}, c = b2i b → K (b2i b) h → w_X7_one c h K := fun {K c b h} hc k => by
          subst hc
          cases b
          · exact ⟨by decide, if_yes rfl k⟩
          · exact ⟨by decide, if_no (by decide) k⟩
        refine one hc (fl.set (i := (nums ts).2.2.1 - 2) (by omega) (by rw [pf_len (by omega)]; omega) (by rw [pf_len (by omega)]; omega) rfl (fun h3 f3 => ?_))
        rw [← at1, pf_set (by omega)] at f3
        have d3 := d0.kp f3.2.1
        refine d3.f2 (d3.ct rfl hg ?_)
        rw [← e0, er]
        have fin2 : ∀ c : Int, c = b2i (decide (ts.length % 2 = 1)) → w_X7_byLine_J213 Q o o (((nums ts).2.2.1 : Int) - 1) c h3 kc ks := by
          intro c hc
          unfold w_X7_byLine_J213
          refine one hc (f3.set (i := (nums ts).2.2.1 - 2 + 1) (by omega) (by rw [pf_len (by omega)]; omega) (by rw [pf_len (by omega)]; omega) rfl (fun h4 f4 => ?_))
          rw [← at2, pf_set (by omega)] at f4
          rw [show (nums ts).2.2.1 - 2 + 1 + 1 = (byL ts).length by omega, pf_end] at f4
          exact k h4 f4
        refine ⟨by omega, ?_⟩
        rcases Nat.mod_two_eq_zero_or_one ts.length with e | e
        · exact if_yes (by omega) (fin2 0 (by rw [e]; rfl))
        · exact if_no (by omega) (fin2 1 (by rw [e]; rfl))
      refine ⟨by omega, ?_⟩
      rcases Nat.mod_two_eq_zero_or_one ts.length with e | e
      · exact if_yes (by omega) (fin 1 (by rw [e]; rfl))
      · exact if_no (by omega) (fin 0 (by rw [e]; rfl))
    · refine if_no (by omega) ((rv.on fl.2.1).a1 (r_lineSign (n := (nums ts).2.2.1) (p := (nums ts).2.2.2) (s := 0) (i := i + 1) (by omega) (by omega) (by omega) (by omega) (by omega) rfl rfl rfl (by omega) ?_))
      have at0 : (byL ts).getD i false = lineB (nums ts).2.2.1 (nums ts).2.2.2 0 (i + 1) := by
        unfold byL
        rw [if_neg hne, List.getD_eq_getElem?_getD, List.getElem?_append_left (by simp; omega)]
        simp [show i < (nums ts).2.2.1 - 2 by omega]
      refine fl.set rfl (by rw [pf_len (by omega)]; omega) (by rw [pf_len (by omega)]; omega) rfl (fun h3 f3 => ?_)
      rw [← at0, pf_set (by omega)] at f3
      rw [show (i : Int) + 1 = ((i + 1 : Nat) : Int) by omega]
      exact r_byLine_L132 hg e0 hne h2 h64 hp k d0 rv z (i + 1) h3 f3 (by omega) (by omega)
theorem pair_new {c s : Nat} {K : Nat → gaH → Nat → Nat → Prop} (h2 : 1 ≤ c) (h3 : 2 ≤ s) (k : ∀ o, h o = none → K o (gaUp h o (102, [gi 0, gi 0])) (c - 1) (s - 2)) : gNA h 102 (gi 0) 2 c s K := gNA_mk (n := 2) rfl (by decide) h2 h3 k
theorem pair_set0 {K : gaH → Prop} {p q x : Int} (r : h o = some (102, [gi p, gi q])) (k : K (gaUp h o (102, [gi x, gi q]))) : gSI h o 102 0 (gi x) K := gSI_mk r (by decide) (by decide) (by simp) k
theorem pair_set1 {K : gaH → Prop} {p q x : Int} (r : h o = some (102, [gi p, gi q])) (k : K (gaUp h o (102, [gi p, gi x]))) : gSI h o 102 1 (gi x) K := gSI_mk r (by decide) (by decide) (by simp) k
theorem mK.up2 {h1 : gaH} (x : mK h h1) {o : Nat} (ho : h o = none) (e : gaE) : mK h (gaUp h1 o e) := x.up ho e
theorem nums_ok {ts : List Nat} (hok : gOk ts) : (nums ts).1 ≤ 64 ∧ (nums ts).2.1 ≤ 64 ∧ (nums ts).2.2.1 ≤ 64 ∧ (nums ts).2.2.2 ≤ 64 := by
  rw [nums_grw _ ts rfl]
  have h1 := hok.2
  have h2 := hok.elder
  have h3 := ones_le (grw ts).1
  have h4 := ones_le (grw ts).2
  exact ⟨h2, Nat.le_trans h3 h2, h1, Nat.le_trans h4 h1⟩
theorem r_byLine_L44 {Q : Nat → gaH → Prop} (hg : g < 2) (hne : st.T g ≠ []) (k : ∀ h' o, mK h0 h' → h0 o = none → mR h' o (byL (st.T g)) → Q o h') : ∀ (n i p q : Nat) (h : gaH) (kc ks : Nat), gM B h st no → mK h0 h → mI h p ((nums ((st.T g).take i)).1 : Int) ((nums ((st.T g).take i)).2.2.1 : Int) → mI h q ((nums ((st.T g).take i)).2.1 : Int) ((nums ((st.T g).take i)).2.2.2 : Int) → i ≤ (st.T g).length → (st.T g).length - i < n → 2 * ((st.T g).length - i) + 1 ≤ kc → 4 * ((st.T g).length - i) + 64 ≤ ks → w_X7_byLine_L44 Q n (B 0) (g : Int) p q (i : Int) h kc ks
  | 0, _, _, _, _, _, _, _, _, _, _, _, h9, _, _ => absurd h9 (Nat.not_lt_zero _)
  | n + 1, i, p, q, h, kc, ks, d, kp, rp, rq, hi, h9, hc, hs => by
    have hok := d.ok hg
    have hl := hok.len
    unfold w_X7_byLine_L44
    refine d.f2 (d.ct rfl hg ?_)
    (first | refine And.intro (show gR _ from by first | assumption | omega | decide | exact b2i_R _ | exact gR_of (by omega) (by omega)) ?_ | refine And.intro (show gHas _ _ _ from by first | exact gW.has (gD.w (by assumption)) (by omega) | exact gD.has (by assumption) | exact gRu.has (gD.ru (by assumption)) | exact gGr.has (gD.gr (by assumption) _ (by omega))) ?_ | refine gCall_mk (by decide) (by decide) ?_ | refine if_yes (by first | assumption | omega | decide | exact b2i_R _ | exact gR_of (by omega) (by omega)) ?_ | refine if_no (by first | assumption | omega | decide | exact b2i_R _ | exact gR_of (by omega) (by omega)) ?_); (first | refine And.intro (show gR _ from by first | assumption | omega | decide | exact b2i_R _ | exact gR_of (by omega) (by omega)) ?_ | refine And.intro (show gHas _ _ _ from by first | exact gW.has (gD.w (by assumption)) (by omega) | exact gD.has (by assumption) | exact gRu.has (gD.ru (by assumption)) | exact gGr.has (gD.gr (by assumption) _ (by omega))) ?_ | refine gCall_mk (by decide) (by decide) ?_ | refine if_yes (by first | assumption | omega | decide | exact b2i_R _ | exact gR_of (by omega) (by omega)) ?_ | refine if_no (by first | assumption | omega | decide | exact b2i_R _ | exact gR_of (by omega) (by omega)) ?_)
    by_cases q1 : (st.T g).length ≤ i
    · rw [List.take_of_length_le q1] at rp rq
      obtain ⟨n1, n2, n3, n4⟩ := nums_ok hok
      have hn2 : 2 ≤ (nums (st.T g)).2.2.1 := by
        rw [nums_grw _ (st.T g) rfl]
        have := (grw_len _ (st.T g) rfl hok.1).1
        have := List.length_pos_iff.mpr hne
        show 2 ≤ (grw (st.T g)).2.length
        omega
      refine if_yes (by omega) (rp.a1 (fil.new (n := (nums (st.T g)).2.2.1) rfl (by omega) (by omega) (by omega) (fun o h1 f1 => ⟨66, ?_⟩)))
      refine r_byLine_L132 hg rfl hne hn2 n3 n4 (fun h' f' => k h' o (kp.tr f'.2.1) (kp.non f'.1) f'.2.2) d rq 66 0 h1 ?_ (Nat.zero_le _) (by omega)
      rw [pf_0, byL_len hne hn2]; exact f1
    · have o0 := hok.take _ i (Nat.le_refl _)
      obtain ⟨n1, n2, n3, n4⟩ := nums_ok o0
      have ht := hok.tn (i := i) (by omega)
      have en : nums ((st.T g).take (i + 1)) = nstep (nums ((st.T g).take i)) ((st.T g).getD i 0) := by rw [take_snoc (by omega), nums_app]
      refine if_no (by omega) (d.f1 (d.tr rfl hg (d.tn hg rfl (by omega) (pair_new (by omega) (by omega) (fun o ho => ?_)))))
      have k1 : mK h (gaUp h o (102, [gi 0, gi 0])) := mK.rf.up ho _
      refine (rp.on k1).a1 (pair_set0 (gaUp_self _ _ _) ?_)
      have k2 := k1.up ho (102, [gi ((nums ((st.T g).take i)).2.2.1 : Int), gi 0])
      refine (rp.on k2).a1 ((rp.on k2).a0 (pair_set1 (gaUp_self _ _ _) ?_))
      have k3 := k2.up ho (102, [gi ((nums ((st.T g).take i)).2.2.1 : Int), gi ((((st.T g).getD i 0 : Nat) : Int) * ((nums ((st.T g).take i)).2.2.1 : Int) + ((nums ((st.T g).take i)).1 : Int))])
      have ro : mI (gaUp (gaUp (gaUp h o (102, [gi 0, gi 0])) o (102, [gi ((nums ((st.T g).take i)).2.2.1 : Int), gi 0])) o (102, [gi ((nums ((st.T g).take i)).2.2.1 : Int), gi ((((st.T g).getD i 0 : Nat) : Int) * ((nums ((st.T g).take i)).2.2.1 : Int) + ((nums ((st.T g).take i)).1 : Int))])) o _ _ := gaUp_self _ _ _
      generalize gaUp (gaUp (gaUp h o (102, [gi 0, gi 0])) o (102, [gi ((nums ((st.T g).take i)).2.2.1 : Int), gi 0])) o (102, [gi ((nums ((st.T g).take i)).2.2.1 : Int), gi ((((st.T g).getD i 0 : Nat) : Int) * ((nums ((st.T g).take i)).2.2.1 : Int) + ((nums ((st.T g).take i)).1 : Int))]) = h3 at k3 ro ⊢
      refine pair_new (by omega) (by omega) (fun o2 ho2 => ?_)
      have k4 : mK h3 (gaUp h3 o2 (102, [gi 0, gi 0])) := mK.rf.up ho2 _
      refine (rq.on (k3.tr k4)).a1 (pair_set0 (gaUp_self _ _ _) ?_)
      have k5 := k4.up ho2 (102, [gi ((nums ((st.T g).take i)).2.2.2 : Int), gi 0])
      refine (rq.on (k3.tr k5)).a1 ((rq.on (k3.tr k5)).a0 (pair_set1 (gaUp_self _ _ _) ?_))
      have k6 := k5.up ho2 (102, [gi ((nums ((st.T g).take i)).2.2.2 : Int), gi ((((st.T g).getD i 0 : Nat) : Int) * ((nums ((st.T g).take i)).2.2.2 : Int) + ((nums ((st.T g).take i)).2.1 : Int))])
      rw [show (i : Int) + 1 = ((i + 1 : Nat) : Int) by omega]
      refine r_byLine_L44 hg hne k n (i + 1) o o2 _ _ _ (d.kp (k3.tr k6)) (kp.tr (k3.tr k6)) ?_ ?_ (by omega) (by omega) (by omega) (by omega)
      · rw [en]
        have := ro.on k6
        simp only [nstep]
        push_cast
        exact this
      · rw [en]
        simp only [nstep]
        push_cast
        exact gaUp_self _ _ _
theorem r_byLine {Q : Nat → gaH → Prop} (d : gM B h st no) (hg : g < 2) {x : Int} (hx : x = (g : Int)) (k : ∀ h' o, mK h h' → h o = none → mR h' o (byL (st.T g)) → Q o h') : w_X7_byLine (B 0) x h Q := by
  subst hx
  have hl := (d.ok hg).len
  unfold w_X7_byLine
  refine d.f2 (d.ct rfl hg ⟨by omega, ?_⟩)
  by_cases q : st.T g = []
  · refine if_yes (by rw [q]; rfl) (fil.new (n := 1) rfl (by decide) (by decide) (by decide) (fun p h1 f1 => f1.set (i := 0) rfl (by decide) (by decide) (b := false) rfl (fun h2 f2 => k h2 p f2.2.1 f2.1 ?_)))
    have e : byL (st.T g) = [false] := by rw [q]; rfl
    rw [e]; exact f2.2.2
  · have hp : 0 < (st.T g).length := List.length_pos_iff.mpr q
    refine if_no (by omega) (pair_new (by decide) (by decide) (fun o ho => pair_set0 (gaUp_self _ _ _) (pair_set1 (gaUp_self _ _ _) ?_)))
    have k3 := ((mK.rf (h := h)).up ho (102, [gi 0, gi 0])).up ho (102, [gi 1, gi 0]) |>.up ho (102, [gi 1, gi 1])
    have ro : mI (gaUp (gaUp (gaUp h o (102, [gi 0, gi 0])) o (102, [gi 1, gi 0])) o (102, [gi 1, gi 1])) o 1 1 := gaUp_self _ _ _
    generalize gaUp (gaUp (gaUp h o (102, [gi 0, gi 0])) o (102, [gi 1, gi 0])) o (102, [gi 1, gi 1]) = h3 at k3 ro ⊢
    refine pair_new (by decide) (by decide) (fun o2 ho2 => pair_set0 (gaUp_self _ _ _) (pair_set1 (gaUp_self _ _ _) ⟨66, ?_⟩))
    have k6 := ((mK.rf (h := h3)).up ho2 (102, [gi 0, gi 0])).up ho2 (102, [gi 1, gi 0]) |>.up ho2 (102, [gi 1, gi 0])
    exact r_byLine_L44 hg q k 66 0 o o2 _ _ _ (d.kp (k3.tr k6)) (k3.tr k6) (ro.on k6) (gaUp_self _ _ _) (Nat.zero_le _) (by omega) (by omega) (by omega)
end RL
/-! The reference: twos, steps back, and what is read, as far as it goes through. -/
theorem twL_not : ∀ s, s < 6 → twL s ++ img [true] [false] (twL s) = twL (s + 1) := by decide +kernel
def parL : Nat → Nat → Bool → Bool
  | 0, _, b => b
  | f + 1, v, b => if v = 0 then b else parL f (v / 2) (xor b (decide (v % 2 = 1)))
theorem parL_two : ∀ i, i < 64 → parL 7 i false = (twL 6).getD i false := by decide +kernel
section RT
variable {B : Nat → Nat} {h h0 : gaH} {st : GSt} {no : Int} {a b o : Nat} {u v : List Bool} {w g : Nat}
theorem xor_rem (b : Bool) {v : Nat} (hv : v ≤ 1000) : gRem (b2i b + (v : Int)) 2 = b2i (xor b (decide (v % 2 = 1))) := by
  have e : b2i b + (v : Int) = (((if b = true then 1 else 0) + v : Nat) : Int) := by cases b <;> simp [b2i]
  have e2 : gRem (((if b = true then 1 else 0) + v : Nat) : Int) 2 = ((((if b = true then 1 else 0) + v) % 2 : Nat) : Int) := gRem_nat (b := 2) (by split <;> omega) (by decide)
  rw [e, e2]
  rcases Nat.mod_two_eq_zero_or_one v with q | q
  · rw [Nat.add_mod, q]; cases b <;> rfl
  · rw [Nat.add_mod, q]; cases b <;> rfl
theorem r_twos_L96 {Q : Nat → gaH → Prop} {K : Nat → Int → gaH → Nat → Nat → Prop} {i : Nat} {kc ks : Nat} {t : List Bool} (hi : i < t.length) (ht : t.length ≤ 1000) : ∀ (z f v : Nat) (h : gaH) (w : List Bool) (b : Bool), fil h0 h o w → w.length = t.length → w.getD i false = b → v < 2 ^ f → f < z → v ≤ 1000 → (∀ h', fil h0 h' o (w.set i (parL (f + 1) v b)) → K o ((i : Int) + 1) h' kc ks) → w_X7_twosOf_L96 Q K z o (i : Int) (v : Int) h kc ks
  | 0, _, _, _, _, _, _, _, _, _, h9, _, _ => absurd h9 (Nat.not_lt_zero _)
  | z + 1, f, v, h, w, b, fl, hw, hb, hv, h9, hv2, k => by
    unfold w_X7_twosOf_L96
    refine ⟨by omega, ?_⟩
    by_cases q : v = 0
    · refine if_yes (by omega) (k h ?_)
      have e : w.set i (parL (f + 1) v b) = w := by
        rw [parL, if_pos q, ← hb]
        refine List.ext_getElem? (fun j => ?_)
        by_cases z : j = i
        · rw [z, List.getElem?_set_self (by omega), getD_lt (by omega)]
        · rw [List.getElem?_set_ne (by omega)]
      rw [e]; exact fl
    · refine if_no (by omega) (fl.2.2.at rfl (by omega) (by omega) ?_)
      have e2 : gDiv (v : Int) 2 = ((v / 2 : Nat) : Int) := gDiv_nat (b := 2) (by omega) (by decide)
      rw [hb, xor_rem b hv2, e2]
      refine fl.set rfl (by omega) (by omega) rfl (fun h2 f2 => ?_)
      cases f with
      | zero => omega
      | succ f =>
        refine r_twos_L96 hi ht z f (v / 2) h2 _ (xor b (decide (v % 2 = 1))) f2 (by simp [hw]) (by rw [List.getD_eq_getElem?_getD, List.getElem?_set_self (by omega)]; rfl) (by rw [Nat.pow_succ] at hv; omega) (by omega) (by omega) (fun h3 f3 => k h3 ?_)
        rw [List.set_set] at f3
        rw [parL, if_neg q]; exact f3
theorem r_twos_L87 {Q : Nat → gaH → Prop} {s : Nat} (hs : s ≤ 6) (k : ∀ h', fil h0 h' o (twL s) → Q o h') {kc ks : Nat} : ∀ (z i : Nat) (h : gaH), fil h0 h o (pf (twL s) i) → i ≤ 2 ^ s → 2 ^ s - i < z → w_X7_twosOf_L87 Q z o (i : Int) h kc ks
  | 0, _, _, _, _, h9 => absurd h9 (Nat.not_lt_zero _)
  | z + 1, i, h, fl, hi, h9 => by
    have hT := twL_len s hs
    have h64 : 2 ^ s ≤ 64 := by have : 2 ^ s ≤ 2 ^ 6 := Nat.pow_le_pow_right (by decide) hs; omega
    unfold w_X7_twosOf_L87
    refine fl.2.2.len ?_
    rw [pf_len (by omega), hT]
    refine ⟨by omega, ⟨by omega, by omega⟩, ?_⟩
    by_cases q : 2 ^ s ≤ i
    · refine if_yes (by omega) (k h ?_)
      obtain rfl : i = (twL s).length := by omega
      rw [pf_end] at fl; exact fl
    · refine if_no (by omega) ⟨8, ?_⟩
      have hb : (pf (twL s) i).getD i false = false := by
        unfold pf
        rw [List.getD_eq_getElem?_getD, List.getElem?_append_right (by simp; omega)]
        simp
        by_cases q2 : (twL s).length - i = 0
        · rw [q2]; rfl
        · rw [List.getElem?_replicate]; split <;> rfl
      refine r_twos_L96 (t := twL s) (by omega) (by omega) 8 6 i h _ false fl (pf_len (by omega)) hb (by omega) (by decide) (by omega) (fun h3 f3 => ?_)
      have e : (twL s).getD i false = (twL 6).getD i false := by
        rw [twL_take s hs, List.getD_eq_getElem?_getD, List.getElem?_take_of_lt (by omega), ← List.getD_eq_getElem?_getD]
      rw [parL_two i (by omega), ← e, pf_set (by omega)] at f3
      rw [show (i : Int) + 1 = ((i + 1 : Nat) : Int) by omega]
      exact r_twos_L87 hs k z (i + 1) h3 f3 (by omega) (by omega)
theorem r_twos_L15 {Q : Nat → gaH → Prop} {s : Nat} (hs : s ≤ 6) {rd : Int} (hrd : rd = 0 ∨ rd = 1) (k : ∀ h' o, mK h0 h' → h0 o = none → mR h' o (twL s) → Q o h') : ∀ (z i p : Nat) (h : gaH) (kc ks : Nat), mK h0 h → h0 p = none → mR h p (twL i) → i ≤ s → s - i < z → 6 * (s - i) ≤ kc → 600 * (s - i) ≤ ks → w_X7_twosOf_L15 Q z (s : Int) rd p (i : Int) h kc ks
  | 0, _, _, _, _, _, _, _, _, _, h9, _, _ => absurd h9 (Nat.not_lt_zero _)
  | z + 1, i, p, h, kc, ks, kp, np, rp, hi, h9, hc, hs2 => by
    unfold w_X7_twosOf_L15
    (first | refine And.intro (show gR _ from by first | assumption | omega | decide | exact b2i_R _ | exact gR_of (by omega) (by omega)) ?_ | refine And.intro (show gHas _ _ _ from by first | exact gW.has (gD.w (by assumption)) (by omega) | exact gD.has (by assumption) | exact gRu.has (gD.ru (by assumption)) | exact gGr.has (gD.gr (by assumption) _ (by omega))) ?_ | refine gCall_mk (by decide) (by decide) ?_ | refine if_yes (by first | assumption | omega | decide | exact b2i_R _ | exact gR_of (by omega) (by omega)) ?_ | refine if_no (by first | assumption | omega | decide | exact b2i_R _ | exact gR_of (by omega) (by omega)) ?_); (first | refine And.intro (show gR _ from by first | assumption | omega | decide | exact b2i_R _ | exact gR_of (by omega) (by omega)) ?_ | refine And.intro (show gHas _ _ _ from by first | exact gW.has (gD.w (by assumption)) (by omega) | exact gD.has (by assumption) | exact gRu.has (gD.ru (by assumption)) | exact gGr.has (gD.gr (by assumption) _ (by omega))) ?_ | refine gCall_mk (by decide) (by decide) ?_ | refine if_yes (by first | assumption | omega | decide | exact b2i_R _ | exact gR_of (by omega) (by omega)) ?_ | refine if_no (by first | assumption | omega | decide | exact b2i_R _ | exact gR_of (by omega) (by omega)) ?_)
    by_cases q : s ≤ i
    · obtain rfl : i = s := by omega
      exact if_yes (by omega) (k h p kp np rp)
    · have hl := twL_len i (by omega)
      have hl2 := twL_len (i + 1) (by omega)
      have h64 : 2 ^ i ≤ 32 := by have : 2 ^ i ≤ 2 ^ 5 := Nat.pow_le_pow_right (by decide) (by omega); omega
      have h65 : 2 ^ (i + 1) ≤ 64 := by rw [Nat.pow_succ]; omega
      have en := twL_not i (by omega)
      have eln : (img [true] [false] (twL i)).length ≤ 64 := by
        have := congrArg List.length en
        rw [List.length_append] at this; omega
      refine if_no (by omega) (fil.new (n := 1) rfl (by decide) (by omega) (by omega) (fun x h1 f1 => f1.set (i := 0) rfl (by decide) (by decide) (b := true) rfl (fun h2 f2 => ?_)))
      refine fil.new (n := 1) rfl (by decide) (by omega) (by omega) (fun y h3 f3 => f3.set (i := 0) rfl (by decide) (by decide) (b := false) rfl (fun h4 f4 => gCall_mk (by omega) (by omega) ?_))
      have kk := f2.2.1.tr f4.2.1
      refine r_image (rp.on kk) (f2.2.2.on f4.2.1) f4.2.2 (by omega) (by decide) (by decide) (by show (img [true] [false] (twL i)).length ≤ 256; omega) (fun q1 h5 f5 => ?_)
      have kk5 := kk.tr f5.2.1
      refine ⟨by omega, ?_⟩
      rcases hrd with e | e
      · refine if_yes e (gCall_mk (by omega) (by omega) (r_ofCode (c := 5) rfl (by decide) (by decide) (fun c1 h6 f6 => gCall_mk (by omega) (by omega) (r_ofCode (c := 6) rfl (by decide) (by decide) (fun c2 h7 f7 => gCall_mk (by omega) (by omega) ?_)))))
        have kk7 := kk5.tr (f6.2.1.tr f7.2.1)
        have ei := twL_img i (by omega)
        refine r_image (rp.on kk7) (f6.2.2.on f7.2.1) f7.2.2 (by omega) (by decide) (by decide) (by rw [ei]; omega) (fun q2 h8 f8 => ?_)
        rw [show (i : Int) + 1 = ((i + 1 : Nat) : Int) by omega]
        refine r_twos_L15 hs (Or.inl e) k z (i + 1) q2 h8 _ _ (kp.tr (kk7.tr f8.2.1)) ((kp.tr kk7).non f8.1) (by rw [← ei]; exact f8.2.2) (by omega) (by omega) (by omega) (by omega)
      · have rp5 := rp.on kk5
        refine if_no (by omega) (rp5.len (rp5.len (gCall_mk (by omega) (by omega) ?_)))
        refine r_spliced rp5 f5.2.2 (f := (twL i).length) (t := (twL i).length) rfl rfl (Nat.le_refl _) (Nat.le_refl _) (by omega) eln (fun q2 h6 f6 => ?_)
        have r6 := f6.2.2
        rw [List.take_length, List.drop_length, List.append_nil] at r6
        rw [show (i : Int) + 1 = ((i + 1 : Nat) : Int) by omega]
        refine r_twos_L15 hs (Or.inr e) k z (i + 1) q2 h6 _ _ (kp.tr (kk5.tr f6.2.1)) ((kp.tr kk5).non f6.1) ?_ (by omega) (by omega) (by omega) (by omega)
        rw [← en]; exact r6
theorem r_twosOf {Q : Nat → gaH → Prop} {s : Nat} {x rd : Int} (hx : x = (s : Int)) (hs : s ≤ 6) (hr : gR rd) (hrd : 0 ≤ rd ∧ rd ≤ 2) (k : ∀ h' o, mK h h' → h o = none → mR h' o (twL s) → Q o h') : w_X7_twosOf x rd h Q := by
  subst hx
  have h64 : 2 ^ s ≤ 64 := by have : 2 ^ s ≤ 2 ^ 6 := Nat.pow_le_pow_right (by decide) hs; omega
  unfold w_X7_twosOf
  refine fil.new (n := 1) rfl (by decide) (by decide) (by decide) (fun x h1 f1 => f1.set (i := 0) rfl (by decide) (by decide) (b := false) rfl (fun h2 f2 => ⟨hr, ?_⟩))
  by_cases q : 2 ≤ rd
  · refine if_yes q (fil.new (n := 2 ^ s) ?_ (by omega) (by decide) (by omega) (fun y h3 f3 => ⟨66, ?_⟩))
    · have := gShl_nat (n := 1) (d := s) (by omega) (by omega)
      rw [show ((1 : Nat) : Int) = 1 from rfl] at this
      rw [this]; push_cast; omega
    · exact r_twos_L87 hs (fun h' f' => k h' y (f2.2.1.tr f'.2.1) (f2.2.1.non f'.1) f'.2.2) 66 0 h3 (by rw [pf_0, twL_len s hs]; exact f3) (Nat.zero_le _) (by omega)
  · refine if_no q ⟨8, ?_⟩
    exact r_twos_L15 hs (by omega) (fun h' o k' n' r' => k h' o k' n' r') 8 0 x h2 _ _ f2.2.1 f2.1 f2.2.2 (Nat.zero_le _) (by omega) (by omega) (by omega)
end RT
/-! The reference's object changes: numbers told, sheets put in, turns. -/
def mF (B : Nat → Nat) (h h' : gaH) : Prop := ∀ a e, (∀ i, i < 6 → a ≠ B i) → h a = some e → h' a = some e
theorem mF.rf {B : Nat → Nat} {h : gaH} : mF B h h := fun _ _ _ q => q
theorem mF.tr {B : Nat → Nat} {h h1 h2 : gaH} (x : mF B h h1) (y : mF B h1 h2) : mF B h h2 := fun a e hb q => y a e hb (x a e hb q)
theorem mF.kp {B : Nat → Nat} {h h1 : gaH} (x : mK h h1) : mF B h h1 := fun a e _ q => x a e q
theorem mF.up {B : Nat → Nat} {h : gaH} {i : Nat} (hi : i < 6) {e : gaE} : mF B h (gaUp h (B i) e) := fun a f hb q => by rw [gaUp_ne _ _ (hb i hi)]; exact q
def mRes (B : Nat → Nat) (h : gaH) (Q : Int → gaH → Prop) (o : Nat × (Int → Prop) × GSt) : Prop := ∀ h' r, gM B h' o.2.2 (o.1 : Int) → mF B h h' → (o.1 = 0 → o.2.1 r) → Q r h'
def mSafe (B : Nat → Nat) (h : gaH) (Q : Int → gaH → Prop) (st : GSt) (c : Nat) : Prop := ∀ h' r, gM B h' st (c : Int) → mF B h h' → Q r h'
section RS
variable {B : Nat → Nat} {h h0 : gaH} {st : GSt} {no : Int} {a b o : Nat} {u v : List Bool} {w g : Nat} {x y z : Int} {Q : Int → gaH → Prop}
theorem mRes.on {r : Nat × (Int → Prop) × GSt} (k : mRes B h Q r) {h1 : gaH} (f : mF B h h1) : mRes B h1 Q r := fun h' x d f2 => k h' x d (f.tr f2)
theorem mSafe.on {c : Nat} (k : mSafe B h Q st c) {h1 : gaH} (f : mF B h h1) : mSafe B h1 Q st c := fun h' x d f2 => k h' x d (f.tr f2)
theorem mRes.ok {P : Int → Prop} {st' : GSt} (k : mRes B h Q (0, P, st')) {h' : gaH} (d : gM B h' st' 0) (f : mF B h h') {r : Int} (hr : P r) : Q r h' := k h' r d f (fun _ => hr)
theorem mRes.ex {c : Nat} {P : Int → Prop} {st' : GSt} (k : mRes B h Q (c + 1, P, st')) {h' : gaH} (d : gM B h' st' ((c + 1 : Nat) : Int)) (f : mF B h h') {r : Int} : Q r h' := k h' r d f (fun q => absurd q (Nat.succ_ne_zero c))
theorem gM.inj (d : gM B h st no) : ∀ i j, i < 6 → j < 6 → B i = B j → i = j := by obtain ⟨s, a1, a2, a3, a4, a5, a6, a7⟩ := d; exact a7.1
theorem gM.cell (d : gM B h st no) {i : Nat} (hi : i < 38) : ∃ e, h (B i) = some e := by obtain ⟨s, a1, a2, a3, a4, a5, a6, a7⟩ := d; exact a7.2 i hi
theorem gM.new (d : gM B h st no) (ho : h o = none) : ∀ i, i < 38 → o ≠ B i := fun i hi q => by
  obtain ⟨e, he⟩ := d.cell hi
  rw [← q, ho] at he; cases he
/-- the object's numbers are set -/
theorem gM.put (d : gM B h st no) {C : Nat → Int} {no' : Int} : gM B (gaUp h (B 0) (7, [.ref (B 1), .ref (B 2), .ref (B 3), gi (C 0), gi (C 1), gi (C 2), gi (C 3), gi no'])) (st.S, st.T, C) no' := by
  obtain ⟨s, a1, a2, a3, a4, a5, a6, a7⟩ := d
  have ne : ∀ i, i < 6 → i ≠ 0 → B i ≠ B 0 := fun i hi hn q => hn (a7.1 i 0 hi (by decide) q)
  refine ⟨s, gaUp_self _ _ _, ?_, fun w hw => ⟨?_, (a3 w hw).2⟩, ?_, ?_, fun g hg => ?_, a7.1, fun i hi => upE (a7.2 i hi)⟩
  · rw [gaUp_ne _ _ (ne _ (by decide) (by decide))]; exact a2
  · unfold mR; rw [gaUp_ne _ _ ((a3 w hw).2.2 0 (by decide))]; exact (a3 w hw).1
  · rw [gaUp_ne _ _ (ne _ (by decide) (by decide))]; exact a4
  · rw [gaUp_ne _ _ (ne _ (by decide) (by decide))]; exact a5
  · obtain ⟨b1, row, b2, b3, b4⟩ := a6 g hg
    exact ⟨b1, row, b2, by rw [gaUp_ne _ _ (ne _ (by omega) (by omega))]; exact b3, b4⟩
theorem gM.setNo (d : gM B h st no) {c : Int} {K : gaH → Prop} (k : ∀ h', gM B h' st c → mF B h h' → K h') : gPF h (B 0) 7 7 (gi c) K := by
  obtain ⟨s, a1, -⟩ := id d
  exact gPF_mk a1 (by simp) (k _ (d.put (C := st.C)) (mF.up (by decide)))
theorem gM.inc (d : gM B h st no) {i f : Nat} (hf : f = 3 + i) (hi : i < 4) {x : Int} (hx : x = st.C i + 1) {K : gaH → Prop} (k : ∀ h', gM B h' (st.S, st.T, pu st.C i (st.C i + 1)) no → mF B h h' → K h') : gPF h (B 0) 7 f (gi x) K := by
  subst hf; subst hx
  obtain ⟨s, a1, -⟩ := id d
  refine gPF_mk a1 (by simp; omega) (k _ ?_ (mF.up (by decide)))
  have := d.put (C := pu st.C i (st.C i + 1)) (no' := no)
  rcases (show i = 0 ∨ i = 1 ∨ i = 2 ∨ i = 3 by omega) with rfl | rfl | rfl | rfl <;> exact this
theorem r_J16 (d : gM B h st no) (k0 : no ≤ 0 → Q 0 h) (k1 : 0 < no → Q 1 h) (hn : gR no) : w_X7_refuse_J16 Q (B 0) h := by
  unfold w_X7_refuse_J16
  exact d.nn ⟨hn, ite_both k0 (fun q => k1 (by omega))⟩
theorem r_refuse (d : gM B h st 0) {bd : Bool} (hx : x = b2i bd) {c : Int} (hc : 1 ≤ c ∧ c ≤ 3) (k0 : bd = false → Q 0 h) (k1 : bd = true → ∀ h', gM B h' st c → mF B h h' → Q 1 h') : w_X7_refuse (B 0) x c h Q := by
  subst hx
  unfold w_X7_refuse
  refine ⟨b2i_R _, ?_⟩
  cases bd
  · exact if_yes rfl (r_J16 d (fun _ => k0 rfl) (fun q => absurd q (by decide)) (by decide))
  · exact if_no (by decide) (d.nn ⟨by decide, if_yes rfl (d.setNo (fun h' d' f => r_J16 d' (fun q => by omega) (fun _ => k1 rfl h' d' f) (by omega)))⟩)
theorem r_start (d : gM B h st no) {bd : Bool} (hx : x = b2i bd) {c : Int} (hc : 1 ≤ c ∧ c ≤ 3) (k0 : bd = false → ∀ h', gM B h' st 0 → mF B h h' → Q 0 h') (k1 : bd = true → ∀ h', gM B h' st c → mF B h h' → Q 1 h') : w_X7_start (B 0) x c h Q := by
  unfold w_X7_start
  exact d.setNo (fun h1 d1 f1 => ⟨d1.has, r_refuse d1 hx hc (fun q => ⟨by decide, k0 q h1 d1 f1⟩) (fun q h2 d2 f2 => ⟨by decide, k1 q h2 d2 (f1.tr f2)⟩)⟩)
theorem r_isIn {lo hi : Int} (hx : gR x) (h1 : gR lo) (h2 : gR hi) (k : Q (b2i (decide (lo ≤ x ∧ x ≤ hi))) h) : w_X7_isIn x lo hi h Q := by
  unfold w_X7_isIn
  refine ⟨hx, h1, ?_⟩
  by_cases q : x < lo
  · rw [decide_eq_false (by omega)] at k; exact if_yes q k
  · refine if_no q ⟨hx, h2, ?_⟩
    by_cases z : hi < x
    · rw [decide_eq_false (by omega)] at k; exact if_yes z k
    · rw [decide_eq_true (by omega)] at k; exact if_no z k
theorem r_flip {c : Bool} (k : Q (b2i (!c)) h) : gR (b2i c) ∧ (if b2i c = 0 then Q 1 h else Q 0 h) := by
  cases c
  · exact ⟨by decide, if_yes rfl k⟩
  · exact ⟨by decide, if_no (by decide) k⟩
theorem r_isNoSheet (hx : gR x) (k : Q (b2i (!decide (okS x))) h) : w_X7_isNoSheet x h Q := by
  unfold w_X7_isNoSheet
  exact r_isIn hx (by decide) (by decide) (r_flip k)
theorem r_isNoGrowth (hx : gR x) (k : Q (b2i (!decide (okG x))) h) : w_X7_isNoGrowth x h Q := by
  unfold w_X7_isNoGrowth
  exact r_isIn hx (by decide) (by decide) (r_flip k)
theorem r_isNoRule (hx : gR x) (hy : gR y) (k : Q (b2i (!decide (okP x y))) h) : w_X7_isNoRule x y h Q := by
  unfold w_X7_isNoRule
  refine r_isIn hx (by decide) (by decide) ⟨b2i_R _, ?_⟩
  by_cases q : 2 ≤ x ∧ x ≤ 31
  · rw [decide_eq_true q]
    refine if_no (by decide) (r_isIn hy (by decide) (by decide) ?_)
    have e : decide (okP x y) = decide (2 ≤ y ∧ y ≤ 31) := by by_cases z : 2 ≤ y ∧ y ≤ 31 <;> simp [okP, q, z]
    rw [e] at k
    exact r_flip k
  · rw [decide_eq_false q]
    have e : decide (okP x y) = false := decide_eq_false (fun z => q z.1)
    rw [e] at k
    exact if_yes rfl k
theorem r_one {c : Bool} (hx : x = b2i c) (k : Q (b2i c) h) : w_X7_one x h Q := by
  subst hx
  cases c
  · exact ⟨by decide, if_yes rfl k⟩
  · exact ⟨by decide, if_no (by decide) k⟩
/-- no place up to the length -/
theorem r_isNoGap (d : gM B h st no) (hx : gR x) (hy : gR y) (k : Q (b2i (!decide (okS x ∧ 0 ≤ y ∧ y ≤ ((st.S x.toNat).length : Int)))) h) : w_X7_isNoGap (B 0) x y h Q := by
  unfold w_X7_isNoGap
  refine r_isNoSheet hx ⟨b2i_R _, ?_⟩
  by_cases q : okS x
  · obtain ⟨w, rfl⟩ : ∃ w : Nat, x = w := ⟨x.toNat, by omega⟩
    rw [Int.toNat_natCast] at k
    have hl := d.sl (show w < 3 by omega)
    rw [decide_eq_true q]
    refine if_yes rfl (d.f0 (d.sh rfl (by omega) (fun a r _ => r.len (r_isIn hy (by decide) (by omega) ?_))))
    have e : decide (okS (w : Int) ∧ 0 ≤ y ∧ y ≤ ((st.S w).length : Int)) = decide (0 ≤ y ∧ y ≤ ((st.S w).length : Int)) := by rw [decide_eq_decide]; omega
    rw [e] at k
    exact r_flip k
  · rw [decide_eq_false q]
    rw [decide_eq_false (fun z => q z.1)] at k
    exact if_no (by decide) k
theorem r_isNoPlace (d : gM B h st no) (hx : gR x) (hy : gR y) (k : Q (b2i (!decide (okS x ∧ 0 ≤ y ∧ y < ((st.S x.toNat).length : Int)))) h) : w_X7_isNoPlace (B 0) x y h Q := by
  unfold w_X7_isNoPlace
  refine r_isNoSheet hx ⟨b2i_R _, ?_⟩
  by_cases q : okS x
  · obtain ⟨w, rfl⟩ : ∃ w : Nat, x = w := ⟨x.toNat, by omega⟩
    rw [Int.toNat_natCast] at k
    have hl := d.sl (show w < 3 by omega)
    rw [decide_eq_true q]
    refine if_yes rfl (d.f0 (d.sh rfl (by omega) (fun a r _ => r.len (r_isIn hy (by decide) (by omega) ?_))))
    have e : decide (okS (w : Int) ∧ 0 ≤ y ∧ y < ((st.S w).length : Int)) = decide (0 ≤ y ∧ y ≤ ((st.S w).length : Int) - 1) := by
      rw [decide_eq_decide]; omega
    rw [e] at k
    exact r_flip k
  · rw [decide_eq_false q]
    rw [decide_eq_false (fun z => q z.1)] at k
    exact if_no (by decide) k
theorem r_isNoPart (d : gM B h st no) (hx : gR x) (hy : gR y) (hz : gR z) (k : Q (b2i (!decide (okS x ∧ okF y z (st.S x.toNat).length))) h) : w_X7_isNoPart (B 0) x y z h Q := by
  unfold w_X7_isNoPart
  refine r_isNoSheet hx ⟨b2i_R _, ?_⟩
  by_cases q : okS x
  · obtain ⟨w, rfl⟩ : ∃ w : Nat, x = w := ⟨x.toNat, by omega⟩
    rw [Int.toNat_natCast] at k
    have hl := d.sl (show w < 3 by omega)
    rw [decide_eq_true q]
    refine if_yes rfl ⟨hy, ?_⟩
    by_cases q1 : y < 0
    · rw [decide_eq_false (by omega)] at k; exact if_yes q1 k
    refine if_no q1 ⟨hy, hz, ?_⟩
    by_cases q2 : z < y
    · rw [decide_eq_false (by omega)] at k; exact if_yes q2 k
    refine if_no q2 (d.f0 (d.sh rfl (by omega) (fun a r _ => r.len ⟨hz, by omega, ?_⟩)))
    by_cases q3 : z ≤ ((st.S w).length : Int)
    · rw [decide_eq_true (by omega)] at k; exact if_yes q3 k
    · rw [decide_eq_false (by omega)] at k; exact if_no q3 k
  · rw [decide_eq_false q]
    rw [decide_eq_false (fun z => q z.1)] at k
    exact if_no (by decide) k
theorem r_cannot (d : gM B h st no) (k : ∀ h', gM B h' st.refuse no → mF B h h' → Q (-9) h') : w_X7_cannot (B 0) h Q := by
  unfold w_X7_cannot
  exact d.cn (i := 2) rfl (by decide) (d.inc (i := 2) rfl (by decide) rfl k)
/-- a row becomes a sheet's word -/
theorem r_comes (d : gM B h st no) (hw : w < 3) (hx : x = (w : Int)) (r : mR h a u) (hu : u.length ≤ 64) (hne : ∀ i, i < 38 → a ≠ B i) (k : ∀ h', gM B h' (st.sheet w u) no → mF B h h' → Q (u.length : Int) h') : w_X7_comes (B 0) x a h Q := by
  subst hx
  unfold w_X7_comes
  refine d.f0 ⟨r.has, ?_⟩
  obtain ⟨s, a1, a2, a3, a4, a5, a6, a7⟩ := id d
  have ne : ∀ i, i < 6 → i ≠ 1 → B i ≠ B 1 := fun i hi hn q => hn (a7.1 i 1 hi (by decide) q)
  refine gSI_mk a2 (by omega) (by omega) (by rw [Int.toNat_natCast]; simp; omega) ?_
  have d1 : gM B (gaUp h (B 1) (112, [Value.ref (s 0), .ref (s 1), .ref (s 2)].set (w : Int).toNat (.ref a))) (pu st.S w u, st.T, st.C) no := by
    refine ⟨pu s w a, ?_, ?_, fun v hv => ?_, ?_, ?_, fun g hg => ?_, a7.1, fun i hi => upE (a7.2 i hi)⟩
    · rw [gaUp_ne _ _ (ne _ (by decide) (by decide))]; exact a1
    · rw [gaUp_self, Int.toNat_natCast]
      rcases (show w = 0 ∨ w = 1 ∨ w = 2 by omega) with rfl | rfl | rfl <;> rfl
    · show mR _ (pu s w a v) (pu st.S w u v) ∧ (pu st.S w u v).length ≤ 64 ∧ _
      by_cases e : v = w
      · subst e
        rw [pu_self, pu_self]
        exact ⟨by unfold mR; rw [gaUp_ne _ _ (hne 1 (by decide))]; exact r, hu, hne⟩
      · rw [pu_ne _ _ e, pu_ne _ _ e]
        exact ⟨by unfold mR; rw [gaUp_ne _ _ ((a3 v hv).2.2 1 (by decide))]; exact (a3 v hv).1, (a3 v hv).2⟩
    · rw [gaUp_ne _ _ (ne _ (by decide) (by decide))]; exact a4
    · rw [gaUp_ne _ _ (ne _ (by decide) (by decide))]; exact a5
    · obtain ⟨b1, row, b2, b3, b4⟩ := a6 g hg
      exact ⟨b1, row, b2, by rw [gaUp_ne _ _ (ne _ (by omega) (by omega))]; exact b3, b4⟩
  refine d1.cn (i := 0) rfl (by decide) (d1.inc (i := 0) rfl (by decide) rfl (fun h2 d2 f2 => ?_))
  have r2 : mR h2 a u := f2 _ _ (fun i hi => hne i (by omega)) (by rw [gaUp_ne _ _ (hne 1 (by decide))]; exact r)
  exact r2.len (k h2 d2 ((mF.up (by decide)).tr f2))
theorem r_becomes (d : gM B h st no) (hw : w < 3) (hx : x = (w : Int)) (r : mR h a u) (hu : u.length ≤ 64) (hne : ∀ i, i < 38 → a ≠ B i) (k : ∀ h', gM B h' (st.sheet w u) no → mF B h h' → Q (if st.S w = u then 0 else 1) h') : w_X7_becomes (B 0) x a h Q := by
  have hl := d.sl hw
  unfold w_X7_becomes
  refine d.f0 (d.sh hx hw (fun c rc _ => r_areSame rc r (by omega) (by omega) ⟨b2i_R _, ?_⟩))
  have fin : ∀ t : Bool, t = !decide (st.S w = u) → w_X7_becomes_J18 Q (B 0) x a (b2i t) h := by
    intro t ht
    unfold w_X7_becomes_J18
    refine r_one rfl ⟨d.has, r_comes d hw hx r hu hne (fun h' d' f' => ?_)⟩
    have kk := k h' d' f'
    subst ht
    by_cases q : st.S w = u
    · rw [if_pos q] at kk; rw [decide_eq_true q]; exact kk
    · rw [if_neg q] at kk; rw [decide_eq_false q]; exact kk
  by_cases q : st.S w = u
  · rw [decide_eq_true q] at fin ⊢; exact if_no (by decide) (fin false rfl)
  · rw [decide_eq_false q] at fin ⊢; exact if_yes rfl (fin true rfl)
/-- a row is put in the place of a part -/
theorem r_put (d : gM B h st 0) (hw : w < 3) (hx : x = (w : Int)) {f t : Nat} (hy : y = (f : Int)) (hz : z = (t : Int)) (hft : f ≤ t) (ht : t ≤ (st.S w).length) (r : mR h a v) (hv : v.length ≤ 64) (k : mRes B h Q (exch st w f t v)) : w_X7_put (B 0) x y z a h Q := by
  subst hx; subst hy; subst hz
  have hl := d.sl hw
  unfold exch at k
  unfold w_X7_put
  refine d.f0 (d.sh rfl hw (fun c rc nc => rc.len (r.len ⟨by omega, ?_⟩)))
  have hT : ((st.S w).take f ++ v ++ (st.S w).drop t).length = (st.S w).length - (t - f) + v.length := by simp; omega
  by_cases q : (st.S w).length - (t - f) + v.length ≤ 64
  · rw [if_pos q] at k
    refine if_yes (by omega) (d.f0 (d.sh rfl hw (fun c2 rc2 nc2 => gCall_mk (by decide) (by decide) (r_spliced rc2 r rfl rfl hft ht hl hv (fun o h1 f1 => ?_)))))
    have d1 := d.kp f1.2.1
    exact ⟨d1.has, r_comes d1 hw rfl f1.2.2 (by omega) (d.new f1.1) (fun h2 d2 f2 => k.ok d2 ((mF.kp f1.2.1).tr f2) rfl)⟩
  · rw [if_neg q] at k
    exact if_no (by omega) ⟨d.has, r_cannot d (fun h2 d2 f2 => k.ok d2 f2 rfl)⟩
end RS
/-! The reference's acts. -/
theorem sel {c : Bool} (F : Int → Prop) (k : F (b2i (!c))) : gR (b2i c) ∧ (if b2i c = 0 then F 1 else F 0) := by
  cases c
  · exact ⟨by decide, if_yes rfl k⟩
  · exact ⟨by decide, if_no (by decide) k⟩
theorem nd {P : Prop} [Decidable P] (h : (!decide P) = false) : P := by simpa using h
theorem nn {P : Prop} [Decidable P] (h : (!decide P) = true) : ¬ P := by simpa using h
section RX
variable {B : Nat → Nat} {h h0 : gaH} {st : GSt} {no : Int} {a b o : Nat} {u v : List Bool} {w g : Nat} {x y z : Int} {Q : Int → gaH → Prop}
theorem r_write {c : Int} (d : gM B h st no) (hx : gR x) (hc : gR c) (k : mRes B h Q (m_write st x c)) : w_X7_write (B 0) x c h Q := by
  unfold w_X7_write
  refine r_isNoSheet hx ⟨d.has, r_start d rfl (by decide) (fun q h1 d1 f1 => ?_) (fun q h1 d1 f1 => ?_)⟩
  · rw [m_write, if_pos (nd q)] at k
    obtain ⟨w, rfl⟩ : ∃ w : Nat, x = w := ⟨x.toNat, by have := nd q; omega⟩
    have hw := nd q
    refine ⟨by decide, if_yes rfl (r_isIn hc (by decide) (by decide) (sel (fun t => w_X7_write_J28 Q (B 0) (w : Int) c (B 0) t h1 1 16) ?_))⟩
    unfold w_X7_write_J28
    refine ⟨d1.has, r_refuse d1 rfl (by decide) (fun q => ?_) (fun q h2 d2 f2 => ?_)⟩
    · have hcc := nd q
      rw [if_pos hcc, Int.toNat_natCast] at k
      refine ⟨by decide, if_yes rfl (gCall_mk (by decide) (by decide) (r_ofCode (c := c.toNat) (by omega) (by omega) (by omega) (fun o h2 f2 => ?_)))⟩
      have d2 := d1.kp f2.2.1
      have hl : (codeW c.toNat).length ≤ 16 := codeL_len 16 _
      exact ⟨d2.has, r_comes d2 (by omega) rfl f2.2.2 (by omega) (d1.new f2.1) (fun h3 d3 f3 => k.ok d3 (f1.tr ((mF.kp f2.2.1).tr f3)) rfl)⟩
    · rw [if_neg (nn q)] at k
      exact ⟨by decide, if_no (by decide) (k.ex d2 (f1.tr f2))⟩
  · rw [m_write, if_neg (nn q)] at k
    exact ⟨by decide, if_no (by decide) (k.ex d1 f1)⟩
theorem r_append (d : gM B h st no) (hx : gR x) (hy : gR y) (k : mRes B h Q (m_append st x y)) : w_X7_append (B 0) x y h Q := by
  have bd : ¬ (okS x ∧ okS y) → w_X7_append_J20 Q (B 0) x y (B 0) 1 h 1 128 := fun q => by
    have e : m_append st x y = bad 1 st := by
      unfold m_append
      by_cases q1 : okS x
      · rw [if_pos q1, if_neg (fun q2 => q ⟨q1, q2⟩)]
      · rw [if_neg q1]
    rw [e] at k
    unfold w_X7_append_J20
    exact ⟨d.has, r_start d (bd := true) rfl (by decide) (fun q => by cases q) (fun q h1 d1 f1 => ⟨by decide, if_no (by decide) (k.ex d1 f1)⟩)⟩
  unfold w_X7_append
  refine r_isNoSheet hx ⟨b2i_R _, ?_⟩
  by_cases q1 : okS x
  · rw [decide_eq_true q1]
    refine if_yes rfl (r_isNoSheet hy ⟨b2i_R _, ?_⟩)
    by_cases q2 : okS y
    · rw [decide_eq_true q2]
      refine if_yes rfl ?_
      rw [m_append, if_pos q1, if_pos q2] at k
      unfold w_X7_append_J20
      refine ⟨d.has, r_start d (bd := false) rfl (by decide) (fun q h1 d1 f1 => ⟨by decide, if_yes rfl ?_⟩) (fun q => by cases q)⟩
      obtain ⟨w, rfl⟩ : ∃ w : Nat, x = w := ⟨x.toNat, by omega⟩
      obtain ⟨v, rfl⟩ : ∃ v : Nat, y = v := ⟨y.toNat, by omega⟩
      rw [Int.toNat_natCast, Int.toNat_natCast] at k
      refine d1.f0 (d1.sh rfl (by omega) (fun a ra na => ra.len (d1.f0 (d1.sh rfl (by omega) (fun a2 ra2 na2 => ra2.len (d1.f0 (d1.sh rfl (by omega) (fun c rc nc => ⟨d1.has, gCall_mk (by decide) (by decide) ?_⟩))))))))
      exact r_put d1 (by omega) rfl rfl rfl (Nat.le_refl _) (Nat.le_refl _) rc (d1.sl (by omega)) (k.on f1)
    · rw [decide_eq_false q2]
      exact if_no (by decide) (bd (fun z => q2 z.2))
  · rw [decide_eq_false q1]
    exact if_no (by decide) (bd (fun z => q1 z.1))
theorem r_insertSign {b : Bool} (d : gM B h st no) (hx : gR x) (hy : gR y) (hz : z = b2i b) (k : mRes B h Q (m_insertSign st x y b)) : w_X7_insertSign (B 0) x y z h Q := by
  unfold w_X7_insertSign
  refine ⟨d.has, r_isNoGap d hx hy ⟨d.has, r_start d rfl (by decide) (fun q h1 d1 f1 => ?_) (fun q h1 d1 f1 => ?_)⟩⟩
  · obtain ⟨q1, q2⟩ := nd q
    rw [m_insertSign, if_pos q1, if_pos q2] at k
    obtain ⟨w, rfl⟩ : ∃ w : Nat, x = w := ⟨x.toNat, by omega⟩
    obtain ⟨p, rfl⟩ : ∃ p : Nat, y = p := ⟨y.toNat, by omega⟩
    rw [Int.toNat_natCast, Int.toNat_natCast] at k
    rw [Int.toNat_natCast] at q2
    refine ⟨by decide, if_yes rfl (fil.new (n := 1) rfl (by decide) (by decide) (by decide) (fun o h2 f2 => r_one hz (f2.set (i := 0) rfl (by decide) (by decide) rfl (fun h3 f3 => ?_))))⟩
    have d3 := d1.kp f3.2.1
    exact ⟨d3.has, gCall_mk (by decide) (by decide) (r_put d3 (by omega) rfl rfl rfl (Nat.le_refl _) (by omega) f3.2.2 (by simp) (k.on (f1.tr (mF.kp f3.2.1))))⟩
  · have q1 := nn q
    have e : m_insertSign st x y b = bad 1 st := by
      unfold m_insertSign
      by_cases z1 : okS x
      · rw [if_pos z1, if_neg (fun z2 => q1 ⟨z1, z2⟩)]
      · rw [if_neg z1]
    rw [e] at k
    exact ⟨by decide, if_no (by decide) (k.ex d1 f1)⟩
theorem r_insertSheet (d : gM B h st no) (hx : gR x) (hy : gR y) (hz : gR z) (k : mRes B h Q (m_insertSheet st x y z)) : w_X7_insertSheet (B 0) x y z h Q := by
  have bd : ¬ ((okS x ∧ 0 ≤ y ∧ y ≤ ((st.S x.toNat).length : Int)) ∧ okS z) → w_X7_insertSheet_J22 Q (B 0) x y z (B 0) 1 h 1 128 := fun q => by
    have e : m_insertSheet st x y z = bad 1 st := by
      unfold m_insertSheet
      by_cases q1 : okS x
      · rw [if_pos q1]
        by_cases q2 : okS z
        · rw [if_pos q2, if_neg (fun q3 => q ⟨⟨q1, q3⟩, q2⟩)]
        · rw [if_neg q2]
      · rw [if_neg q1]
    rw [e] at k
    unfold w_X7_insertSheet_J22
    exact ⟨d.has, r_start d (bd := true) rfl (by decide) (fun q => by cases q) (fun q h1 d1 f1 => ⟨by decide, if_no (by decide) (k.ex d1 f1)⟩)⟩
  unfold w_X7_insertSheet
  refine ⟨d.has, r_isNoGap d hx hy ⟨b2i_R _, ?_⟩⟩
  by_cases q1 : okS x ∧ 0 ≤ y ∧ y ≤ ((st.S x.toNat).length : Int)
  · rw [decide_eq_true q1]
    refine if_yes rfl (r_isNoSheet hz ⟨b2i_R _, ?_⟩)
    by_cases q2 : okS z
    · rw [decide_eq_true q2]
      refine if_yes rfl ?_
      rw [m_insertSheet, if_pos q1.1, if_pos q2, if_pos q1.2] at k
      unfold w_X7_insertSheet_J22
      refine ⟨d.has, r_start d (bd := false) rfl (by decide) (fun q h1 d1 f1 => ⟨by decide, if_yes rfl ?_⟩) (fun q => by cases q)⟩
      obtain ⟨w, rfl⟩ : ∃ w : Nat, x = w := ⟨x.toNat, by omega⟩
      obtain ⟨v, rfl⟩ : ∃ v : Nat, z = v := ⟨z.toNat, by omega⟩
      obtain ⟨p, rfl⟩ : ∃ p : Nat, y = p := ⟨y.toNat, by omega⟩
      simp only [Int.toNat_natCast] at k q1
      refine d1.f0 (d1.sh rfl (by omega) (fun c rc nc => ⟨d1.has, gCall_mk (by decide) (by decide) ?_⟩))
      exact r_put d1 (by omega) rfl rfl rfl (Nat.le_refl _) (by omega) rc (d1.sl (by omega)) (k.on f1)
    · rw [decide_eq_false q2]
      exact if_no (by decide) (bd (fun z => q2 z.2))
  · rw [decide_eq_false q1]
    exact if_no (by decide) (bd (fun z => q1 z.1))
theorem r_replace {o : Int} (d : gM B h st no) (hx : gR x) (hy : gR y) (hz : gR z) (ho : gR o) (k : mRes B h Q (m_replace st x y z o)) : w_X7_replace (B 0) x y z o h Q := by
  have bd : ¬ ((okS x ∧ okF y z (st.S x.toNat).length) ∧ okS o) → w_X7_replace_J24 Q (B 0) x y z o (B 0) 1 h 1 128 := fun q => by
    have e : m_replace st x y z o = bad 1 st := by
      unfold m_replace
      by_cases q1 : okS x
      · rw [if_pos q1]
        by_cases q2 : okS o
        · rw [if_pos q2, if_neg (fun q3 => q ⟨⟨q1, q3⟩, q2⟩)]
        · rw [if_neg q2]
      · rw [if_neg q1]
    rw [e] at k
    unfold w_X7_replace_J24
    exact ⟨d.has, r_start d (bd := true) rfl (by decide) (fun q => by cases q) (fun q h1 d1 f1 => ⟨by decide, if_no (by decide) (k.ex d1 f1)⟩)⟩
  unfold w_X7_replace
  refine ⟨d.has, r_isNoPart d hx hy hz ⟨b2i_R _, ?_⟩⟩
  by_cases q1 : okS x ∧ okF y z (st.S x.toNat).length
  · rw [decide_eq_true q1]
    refine if_yes rfl (r_isNoSheet ho ⟨b2i_R _, ?_⟩)
    by_cases q2 : okS o
    · rw [decide_eq_true q2]
      refine if_yes rfl ?_
      rw [m_replace, if_pos q1.1, if_pos q2, if_pos q1.2] at k
      unfold w_X7_replace_J24
      refine ⟨d.has, r_start d (bd := false) rfl (by decide) (fun q h1 d1 f1 => ⟨by decide, if_yes rfl ?_⟩) (fun q => by cases q)⟩
      obtain ⟨w, rfl⟩ : ∃ w : Nat, x = w := ⟨x.toNat, by omega⟩
      obtain ⟨v, rfl⟩ : ∃ v : Nat, o = v := ⟨o.toNat, by omega⟩
      simp only [Int.toNat_natCast] at k q1
      refine d1.f0 (d1.sh rfl (by omega) (fun c rc nc => ⟨d1.has, gCall_mk (by decide) (by decide) ?_⟩))
      exact r_put d1 (by omega) rfl (show y = (y.toNat : Int) by omega) (show z = (z.toNat : Int) by omega) (by omega) (by omega) rc (d1.sl (by omega)) (k.on f1)
    · rw [decide_eq_false q2]
      exact if_no (by decide) (bd (fun z => q2 z.2))
  · rw [decide_eq_false q1]
    exact if_no (by decide) (bd (fun z => q1 z.1))
theorem r_setSign {b : Bool} (d : gM B h st no) (hx : gR x) (hy : gR y) (hz : z = b2i b) (k : mRes B h Q (m_setSign st x y b)) : w_X7_setSign (B 0) x y z h Q := by
  unfold w_X7_setSign
  refine ⟨d.has, r_isNoPlace d hx hy ⟨d.has, r_start d rfl (by decide) (fun q h1 d1 f1 => ?_) (fun q h1 d1 f1 => ?_)⟩⟩
  · obtain ⟨q1, q2⟩ := nd q
    rw [m_setSign, if_pos q1, if_pos q2] at k
    obtain ⟨w, rfl⟩ : ∃ w : Nat, x = w := ⟨x.toNat, by omega⟩
    obtain ⟨p, rfl⟩ : ∃ p : Nat, y = p := ⟨y.toNat, by omega⟩
    simp only [Int.toNat_natCast] at k q2
    have hl := d1.sl (show w < 3 by omega)
    refine ⟨by decide, if_yes rfl (d1.f0 (d1.sh rfl (by omega) (fun a ra na => ra.at rfl (by omega) (by omega) (d1.f0 (d1.sh rfl (by omega) (fun c rc nc => ?_))))))⟩
    refine fil.new (n := 1) rfl (by decide) (by decide) (by decide) (fun o h2 f2 => r_one hz (f2.set (i := 0) rfl (by decide) (by decide) rfl (fun h3 f3 => gCall_mk (by decide) (by decide) ?_)))
    refine r_spliced (rc.on f3.2.1) f3.2.2 (f := p) (t := p + 1) rfl (by omega) (by omega) (by omega) hl (by simp) (fun o2 h4 f4 => ?_)
    have d4 := d1.kp (f3.2.1.tr f4.2.1)
    have hT : ((st.S w).take p ++ [b] ++ (st.S w).drop (p + 1)) = (st.S w).set p b := by
      rw [List.set_eq_take_append_cons_drop, if_pos (by omega)]; simp
    have f42 := f4.2.2
    rw [show (List.replicate 1 false).set 0 b = [b] from rfl, hT] at f42
    refine ⟨d4.has, r_comes d4 (by omega) rfl f42 (by simp; exact hl) (d4.kp mK.rf |> fun _ => (d1.kp f3.2.1).new f4.1) (fun h5 d5 f5 => r_one hz ⟨b2i_R _, b2i_R _, ?_⟩)⟩
    have kk := fun r hr => k.ok (r := r) d5 (f1.tr ((mF.kp (f3.2.1.tr f4.2.1)).tr f5)) hr
    unfold w_X7_setSign_J69
    by_cases q3 : (st.S w).getD p false = b
    · refine if_yes (congrArg b2i q3) (r_one (c := false) rfl (kk _ ?_))
      show _ = if _ then _ else _
      rw [if_pos q3]; rfl
    · refine if_no (fun z => q3 ((b2i_eq _ _).mp z)) (r_one (c := true) rfl (kk _ ?_))
      show _ = if _ then _ else _
      rw [if_neg q3]; rfl
  · have q1 := nn q
    have e : m_setSign st x y b = bad 1 st := by
      unfold m_setSign
      by_cases z1 : okS x
      · rw [if_pos z1, if_neg (fun z2 => q1 ⟨z1, z2⟩)]
      · rw [if_neg z1]
    rw [e] at k
    exact ⟨by decide, if_no (by decide) (k.ex d1 f1)⟩
theorem r_removeSign (d : gM B h st no) (hx : gR x) (hy : gR y) (k : mRes B h Q (m_removeSign st x y)) : w_X7_removeSign (B 0) x y h Q := by
  unfold w_X7_removeSign
  refine ⟨d.has, r_isNoPlace d hx hy ⟨d.has, r_start d rfl (by decide) (fun q h1 d1 f1 => ?_) (fun q h1 d1 f1 => ?_)⟩⟩
  · obtain ⟨q1, q2⟩ := nd q
    rw [m_removeSign, if_pos q1, if_pos q2] at k
    obtain ⟨w, rfl⟩ : ∃ w : Nat, x = w := ⟨x.toNat, by omega⟩
    obtain ⟨p, rfl⟩ : ∃ p : Nat, y = p := ⟨y.toNat, by omega⟩
    simp only [Int.toNat_natCast] at k q2
    have hl := d1.sl (show w < 3 by omega)
    refine ⟨by decide, if_yes rfl (d1.f0 (d1.sh rfl (by omega) (fun a ra na => ra.at rfl (by omega) (by omega) (d1.f0 (d1.sh rfl (by omega) (fun c rc nc => ?_))))))⟩
    refine fil.new (n := 0) rfl (by decide) (by decide) (by decide) (fun o h2 f2 => gCall_mk (by decide) (by decide) ?_)
    refine r_spliced (rc.on f2.2.1) f2.2.2 (f := p) (t := p + 1) rfl (by omega) (by omega) (by omega) hl (by decide) (fun o2 h4 f4 => ?_)
    have d4 := d1.kp (f2.2.1.tr f4.2.1)
    have f42 := f4.2.2
    rw [show List.replicate 0 false = ([] : List Bool) from rfl, List.append_nil] at f42
    refine ⟨d4.has, r_comes d4 (by omega) rfl f42 (by simp; omega) ((d1.kp f2.2.1).new f4.1) (fun h5 d5 f5 => k.ok d5 (f1.tr ((mF.kp (f2.2.1.tr f4.2.1)).tr f5)) ?_)⟩
    rw [Nat.add_sub_cancel_left, take_one (u := st.S w) (i := p) (by omega), List.take_succ_cons, List.take_zero]
    cases (st.S w).getD p false <;> rfl
  · have q1 := nn q
    have e : m_removeSign st x y = bad 1 st := by
      unfold m_removeSign
      by_cases z1 : okS x
      · rw [if_pos z1, if_neg (fun z2 => q1 ⟨z1, z2⟩)]
      · rw [if_neg z1]
    rw [e] at k
    exact ⟨by decide, if_no (by decide) (k.ex d1 f1)⟩
theorem ones_cut (u : List Bool) {f t : Nat} (hft : f ≤ t) (ht : t ≤ u.length) : ones u = ones (u.take f ++ u.drop t) + ones ((u.drop f).take (t - f)) := by
  have e : u = u.take f ++ ((u.drop f).take (t - f) ++ u.drop t) := by
    have e1 : u.drop f = (u.drop f).take (t - f) ++ u.drop t := by
      have := (List.take_append_drop (t - f) (u.drop f)).symm
      rw [List.drop_drop, show f + (t - f) = t by omega] at this
      exact this
    rw [← e1, List.take_append_drop]
  conv => lhs; rw [e]
  rw [ones_app, ones_app, ones_app]; omega
theorem r_remove (d : gM B h st no) (hx : gR x) (hy : gR y) (hz : gR z) (k : mRes B h Q (m_remove st x y z)) : w_X7_remove (B 0) x y z h Q := by
  unfold w_X7_remove
  refine ⟨d.has, r_isNoPart d hx hy hz ⟨d.has, r_start d rfl (by decide) (fun q h1 d1 f1 => ?_) (fun q h1 d1 f1 => ?_)⟩⟩
  · obtain ⟨q1, q2⟩ := nd q
    rw [m_remove, if_pos q1, if_pos q2] at k
    obtain ⟨w, rfl⟩ : ∃ w : Nat, x = w := ⟨x.toNat, by omega⟩
    obtain ⟨p, rfl⟩ : ∃ p : Nat, y = p := ⟨y.toNat, by omega⟩
    obtain ⟨t, rfl⟩ : ∃ p : Nat, z = p := ⟨z.toNat, by omega⟩
    simp only [Int.toNat_natCast] at k q2
    have hl := d1.sl (show w < 3 by omega)
    refine ⟨by decide, if_yes rfl (d1.f0 (d1.sh rfl (by omega) (fun a ra na => r_bs ra (by omega) (d1.f0 (d1.sh rfl (by omega) (fun c rc nc => ?_))))))⟩
    refine fil.new (n := 0) rfl (by decide) (by decide) (by decide) (fun o h2 f2 => gCall_mk (by decide) (by decide) ?_)
    refine r_spliced (rc.on f2.2.1) f2.2.2 (f := p) (t := t) rfl rfl (by omega) (by omega) hl (by decide) (fun o2 h4 f4 => ?_)
    have d4 := d1.kp (f2.2.1.tr f4.2.1)
    have f42 := f4.2.2
    rw [show List.replicate 0 false = ([] : List Bool) from rfl, List.append_nil] at f42
    refine ⟨d4.has, r_comes d4 (by omega) rfl f42 (by simp; omega) ((d1.kp f2.2.1).new f4.1) (fun h5 d5 f5 => d5.f0 (d5.sh rfl (by omega) (fun c2 rc2 nc2 => ?_)))⟩
    have e9 : (GSt.sheet st w ((st.S w).take p ++ (st.S w).drop t)).S w = (st.S w).take p ++ (st.S w).drop t := pu_self _ _ _
    rw [e9] at rc2
    refine r_bs rc2 (by simp; omega) (k.ok d5 (f1.tr ((mF.kp (f2.2.1.tr f4.2.1)).tr f5)) ?_)
    rw [ones_cut (st.S w) (f := p) (t := t) (by omega) (by omega)]
    push_cast; omega
  · have q1 := nn q
    have e : m_remove st x y z = bad 1 st := by
      unfold m_remove
      by_cases z1 : okS x
      · rw [if_pos z1, if_neg (fun z2 => q1 ⟨z1, z2⟩)]
      · rw [if_neg z1]
    rw [e] at k
    exact ⟨by decide, if_no (by decide) (k.ex d1 f1)⟩
end RX
/-! The reference's acts, the others. -/
theorem mR.fr {B : Nat → Nat} {h h' : gaH} {a : Nat} {u : List Bool} (r : mR h a u) (f : mF B h h') (na : ∀ i, i < 38 → a ≠ B i) : mR h' a u := f _ _ (fun i hi => na i (by omega)) r
theorem img_not (u : List Bool) : img [true] [false] u = u.map (fun b => !b) := by
  induction u with
  | nil => rfl
  | cons b t ih => simp only [img, List.map_cons, ih]; cases b <;> rfl
theorem byL_le {ts : List Nat} (hok : gOk ts) : (byL ts).length ≤ 64 := by
  obtain ⟨n1, n2, n3, n4⟩ := nums_ok hok
  by_cases q : ts = []
  · rw [q]; decide
  · have h2 : 2 ≤ (nums ts).2.2.1 := by
      rw [nums_grw _ ts rfl]
      have := (grw_len _ ts rfl hok.1).1
      have := List.length_pos_iff.mpr q
      show 2 ≤ (grw ts).2.length
      omega
    rw [byL_len q h2]; exact n3
section RY
variable {B : Nat → Nat} {h h0 : gaH} {st : GSt} {no : Int} {a b o : Nat} {u v : List Bool} {w g : Nat} {x y z : Int} {Q : Int → gaH → Prop}
theorem r_turn (d : gM B h st no) (hx : gR x) (k : mRes B h Q (m_turn st x)) : w_X7_turn (B 0) x h Q := by
  unfold w_X7_turn
  refine r_isNoSheet hx ⟨d.has, r_start d rfl (by decide) (fun q h1 d1 f1 => ?_) (fun q h1 d1 f1 => ?_)⟩
  · have q1 := nd q
    rw [m_turn, if_pos q1] at k
    obtain ⟨w, rfl⟩ : ∃ w : Nat, x = w := ⟨x.toNat, by omega⟩
    rw [Int.toNat_natCast] at k
    have hl := d1.sl (show w < 3 by omega)
    refine ⟨by decide, if_yes rfl (d1.f0 (d1.sh rfl (by omega) (fun a ra na => gCall_mk (by decide) (by decide) (r_turned ra hl (fun o h2 f2 => ?_)))))⟩
    have d2 := d1.kp f2.2.1
    exact ⟨d2.has, r_becomes d2 (by omega) rfl f2.2.2 (by simpa using hl) (d1.new f2.1) (fun h3 d3 f3 => k.ok d3 (f1.tr ((mF.kp f2.2.1).tr f3)) rfl)⟩
  · rw [m_turn, if_neg (nn q)] at k
    exact ⟨by decide, if_no (by decide) (k.ex d1 f1)⟩
theorem r_exchange (d : gM B h st no) (hx : gR x) (k : mRes B h Q (m_exchange st x)) : w_X7_exchange (B 0) x h Q := by
  unfold w_X7_exchange
  refine r_isNoSheet hx ⟨d.has, r_start d rfl (by decide) (fun q h1 d1 f1 => ?_) (fun q h1 d1 f1 => ?_)⟩
  · have q1 := nd q
    rw [m_exchange, if_pos q1] at k
    obtain ⟨w, rfl⟩ : ∃ w : Nat, x = w := ⟨x.toNat, by omega⟩
    rw [Int.toNat_natCast] at k
    have hl := d1.sl (show w < 3 by omega)
    refine ⟨by decide, if_yes rfl (d1.f0 (d1.sh rfl (by omega) (fun a ra na => ?_)))⟩
    refine fil.new (n := 1) rfl (by decide) (by decide) (by decide) (fun p h2 f2 => f2.set (i := 0) rfl (by decide) (by decide) (b := true) rfl (fun h3 f3 => ?_))
    refine fil.new (n := 1) rfl (by decide) (by decide) (by decide) (fun q h4 f4 => f4.set (i := 0) rfl (by decide) (by decide) (b := false) rfl (fun h5 f5 => gCall_mk (by decide) (by decide) ?_))
    have kk := f3.2.1.tr f5.2.1
    have e := img_not (st.S w)
    refine r_image (x := [true]) (y := [false]) (ra.on kk) (f3.2.2.on f5.2.1) f5.2.2 (by omega) (by decide) (by decide) (by rw [e]; simp; omega) (fun o h6 f6 => ?_)
    have d6 := d1.kp (kk.tr f6.2.1)
    have f62 := f6.2.2
    rw [e] at f62
    refine ⟨d6.has, r_comes d6 (by omega) rfl f62 (by simpa using hl) ((d1.kp kk).new f6.1) (fun h7 d7 f7 => d7.f0 (d7.sh rfl (by omega) (fun c rc nc => ?_)))⟩
    have e9 : (GSt.sheet st w ((st.S w).map (fun b => !b))).S w = (st.S w).map (fun b => !b) := pu_self _ _ _
    rw [e9] at rc
    exact r_bs rc (by simp; omega) (k.ok d7 (f1.tr ((mF.kp (kk.tr f6.2.1)).tr f7)) rfl)
  · rw [m_exchange, if_neg (nn q)] at k
    exact ⟨by decide, if_no (by decide) (k.ex d1 f1)⟩
theorem r_copy (d : gM B h st no) (hx : gR x) (hy : gR y) (k : mRes B h Q (m_copy st x y)) : w_X7_copy (B 0) x y h Q := by
  have bd : ¬ (okS x ∧ okS y) → w_X7_copy_J20 Q (B 0) x y (B 0) 1 h := fun q => by
    have e : m_copy st x y = bad 1 st := by
      unfold m_copy
      by_cases q1 : okS x
      · rw [if_pos q1, if_neg (fun q2 => q ⟨q1, q2⟩)]
      · rw [if_neg q1]
    rw [e] at k
    unfold w_X7_copy_J20
    exact ⟨d.has, r_start d (bd := true) rfl (by decide) (fun q => by cases q) (fun q h1 d1 f1 => ⟨by decide, if_no (by decide) (k.ex d1 f1)⟩)⟩
  unfold w_X7_copy
  refine r_isNoSheet hx ⟨b2i_R _, ?_⟩
  by_cases q1 : okS x
  · rw [decide_eq_true q1]
    refine if_yes rfl (r_isNoSheet hy ⟨b2i_R _, ?_⟩)
    by_cases q2 : okS y
    · rw [decide_eq_true q2]
      refine if_yes rfl ?_
      rw [m_copy, if_pos q1, if_pos q2] at k
      unfold w_X7_copy_J20
      refine ⟨d.has, r_start d (bd := false) rfl (by decide) (fun q h1 d1 f1 => ⟨by decide, if_yes rfl ?_⟩) (fun q => by cases q)⟩
      obtain ⟨w, rfl⟩ : ∃ w : Nat, x = w := ⟨x.toNat, by omega⟩
      obtain ⟨v, rfl⟩ : ∃ v : Nat, y = v := ⟨y.toNat, by omega⟩
      rw [Int.toNat_natCast, Int.toNat_natCast] at k
      refine d1.f0 (d1.sh rfl (by omega) (fun a ra na => ⟨d1.has, ?_⟩))
      exact r_becomes d1 (by omega) rfl ra (d1.sl (by omega)) na (fun h3 d3 f3 => k.ok d3 (f1.tr f3) rfl)
    · rw [decide_eq_false q2]
      exact if_no (by decide) (bd (fun z => q2 z.2))
  · rw [decide_eq_false q1]
    exact if_no (by decide) (bd (fun z => q1 z.1))
theorem r_apply (d : gM B h st no) (hx : gR x) (hy : gR y) (hz : gR z) (k : mRes B h Q (m_apply st x y z)) : w_X7_apply (B 0) x y z h Q := by
  unfold w_X7_apply
  refine r_isNoSheet hx ⟨d.has, r_start d rfl (by decide) (fun q h1 d1 f1 => ?_) (fun q h1 d1 f1 => ?_)⟩
  · have q1 := nd q
    rw [m_apply, if_pos q1] at k
    refine ⟨by decide, if_yes rfl (r_isNoRule hy hz ⟨d1.has, r_refuse d1 rfl (by decide) (fun q => ?_) (fun q h2 d2 f2 => ?_)⟩)⟩
    · have q2 := nd q
      rw [if_pos q2] at k
      obtain ⟨w, rfl⟩ : ∃ w : Nat, x = w := ⟨x.toNat, by omega⟩
      obtain ⟨c, rfl⟩ : ∃ w : Nat, y = w := ⟨y.toNat, by omega⟩
      obtain ⟨e, rfl⟩ : ∃ w : Nat, z = w := ⟨z.toNat, by omega⟩
      simp only [Int.toNat_natCast] at k
      have hl := d1.sl (show w < 3 by omega)
      have l1 := (code_ok c (by omega) (by omega)).2
      have l2 := (code_ok e (by omega) (by omega)).2
      have l3 := img_le (codeW c) (codeW e) (m := 4) l1 l2 (st.S w)
      refine ⟨by decide, if_yes rfl (d1.f0 (d1.sh rfl (by omega) (fun a ra na => gCall_mk (by decide) (by decide) (r_ofCode (c := c) rfl (by omega) (by omega) (fun p h2 f2 => gCall_mk (by decide) (by decide) (r_ofCode (c := e) rfl (by omega) (by omega) (fun q h3 f3 => gCall_mk (by decide) (by decide) ?_)))))))⟩
      have kk := f2.2.1.tr f3.2.1
      refine r_image (ra.on kk) (f2.2.2.on f3.2.1) f3.2.2 (by omega) (by omega) (by omega) (by omega) (fun o h4 f4 => f4.2.2.len ⟨by omega, ?_⟩)
      have k4 := kk.tr f4.2.1
      have d4 := d1.kp k4
      by_cases q3 : (img (codeW c) (codeW e) (st.S w)).length ≤ 64
      · rw [if_pos q3] at k
        exact if_yes (by omega) ⟨d4.has, r_comes d4 (by omega) rfl f4.2.2 q3 ((d1.kp kk).new f4.1) (fun h5 d5 f5 => k.ok d5 (f1.tr ((mF.kp k4).tr f5)) rfl)⟩
      · rw [if_neg q3] at k
        exact if_no (by omega) ⟨d4.has, r_cannot d4 (fun h5 d5 f5 => k.ok d5 (f1.tr ((mF.kp k4).tr f5)) rfl)⟩
    · rw [if_neg (nn q)] at k
      exact ⟨by decide, if_no (by decide) (k.ex d2 (f1.tr f2))⟩
  · rw [m_apply, if_neg (nn q)] at k
    exact ⟨by decide, if_no (by decide) (k.ex d1 f1)⟩
theorem r_lay (d : gM B h st no) (hx : gR x) (hy : gR y) (hz : gR z) (k : mRes B h Q (m_lay st x y z)) : w_X7_lay (B 0) x y z h Q := by
  have bd : ¬ (okG x ∧ okS y) → w_X7_lay_J20 Q (B 0) x y z (B 0) 1 h 391 22856 := fun q => by
    have e : m_lay st x y z = bad 1 st := by
      unfold m_lay
      by_cases q1 : okG x
      · rw [if_pos q1, if_neg (fun q2 => q ⟨q1, q2⟩)]
      · rw [if_neg q1]
    rw [e] at k
    unfold w_X7_lay_J20
    exact ⟨d.has, r_start d (bd := true) rfl (by decide) (fun q => by cases q) (fun q h1 d1 f1 => ⟨by decide, if_no (by decide) (k.ex d1 f1)⟩)⟩
  unfold w_X7_lay
  refine r_isNoGrowth hx ⟨b2i_R _, ?_⟩
  by_cases q1 : okG x
  · rw [decide_eq_true q1]
    refine if_yes rfl (r_isNoSheet hy ⟨b2i_R _, ?_⟩)
    by_cases q2 : okS y
    · rw [decide_eq_true q2]
      refine if_yes rfl ?_
      rw [m_lay, if_pos q1, if_pos q2] at k
      unfold w_X7_lay_J20
      refine ⟨d.has, r_start d (bd := false) rfl (by decide) (fun q h1 d1 f1 => ⟨by decide, if_yes rfl (r_isIn hz (by decide) (by decide) (sel (fun t => w_X7_lay_J42 Q (B 0) x y z (B 0) t h1 391 22856) ?_))⟩) (fun q => by cases q)⟩
      unfold w_X7_lay_J42
      refine ⟨d1.has, r_refuse d1 rfl (by decide) (fun q => ?_) (fun q h2 d2 f2 => ?_)⟩
      · have q3 := nd q
        rw [if_pos q3] at k
        obtain ⟨g, rfl⟩ : ∃ w : Nat, x = w := ⟨x.toNat, by omega⟩
        obtain ⟨w, rfl⟩ : ∃ w : Nat, y = w := ⟨y.toNat, by omega⟩
        simp only [Int.toNat_natCast] at k
        have fin : ∀ h2 o kc ks, mK h1 h2 → h1 o = none → mR h2 o (layW (st.T g) z) → (layW (st.T g) z).length ≤ 64 → w_X7_lay_J84 Q (B 0) (w : Int) o h2 kc ks := by
          intro h2 o kc ks k2 no r2 hl
          have d2 := d1.kp k2
          unfold w_X7_lay_J84
          exact ⟨d2.has, r_comes d2 (by omega) rfl r2 hl (d1.new no) (fun h5 d5 f5 => k.ok d5 (f1.tr ((mF.kp k2).tr f5)) rfl)⟩
        have hok := d1.ok (show g < 2 by omega)
        refine ⟨by decide, if_yes rfl ⟨hz, ?_⟩⟩
        by_cases c0 : z = 0
        · refine if_yes c0 ⟨d1.has, gCall_mk (by decide) (by decide) (r_byCopies d1 (show g < 2 by omega) (m := (st.T g).length) (bk := 0) rfl rfl rfl (fun h2 o k2 no r2 => ?_))⟩
          rw [List.take_length] at r2
          have e : layW (st.T g) z = (grw (st.T g)).2 := by rw [layW, if_neg (by omega)]
          exact fin h2 o _ _ k2 no (by rw [e]; exact r2) (by rw [e]; exact hok.2)
        refine if_no c0 ⟨hz, ?_⟩
        by_cases c1 : z = 1
        · refine if_yes c1 ⟨d1.has, gCall_mk (by decide) (by decide) (r_byRules d1 (show g < 2 by omega) rfl (fun h2 o k2 no r2 => ?_))⟩
          have e : layW (st.T g) z = (grw (st.T g)).2 := by rw [layW, if_neg (by omega)]
          exact fin h2 o _ _ k2 no (by rw [e]; exact r2) (by rw [e]; exact hok.2)
        · refine if_no c1 ⟨d1.has, gCall_mk (by decide) (by decide) (r_byLine d1 (show g < 2 by omega) rfl (fun h2 o k2 no r2 => ?_))⟩
          have e : layW (st.T g) z = byL (st.T g) := by rw [layW, if_pos (by omega)]
          exact fin h2 o _ _ k2 no (by rw [e]; exact r2) (by rw [e]; exact byL_le hok)
      · rw [if_neg (nn q)] at k
        exact ⟨by decide, if_no (by decide) (k.ex d2 (f1.tr f2))⟩
    · rw [decide_eq_false q2]
      exact if_no (by decide) (bd (fun z => q2 z.2))
  · rw [decide_eq_false q1]
    exact if_no (by decide) (bd (fun z => q1 z.1))
end RY
/-! The reference's acts: cutTo, rotate, line, twos, and the growths'. -/
section RZ
variable {B : Nat → Nat} {h h0 : gaH} {st : GSt} {no : Int} {a b o : Nat} {u v : List Bool} {w g : Nat} {x y z : Int} {Q : Int → gaH → Prop}
def cutW (u : List Bool) (n : Nat) : List Bool := u.take n ++ List.replicate (n - u.length) false
theorem cutW_len (u : List Bool) (n : Nat) : (cutW u n).length = n := by simp [cutW]; omega
theorem cutW_at {u : List Bool} {n i : Nat} (h1 : i < n) (h2 : i < u.length) : (cutW u n).getD i false = u.getD i false := by
  unfold cutW
  rw [List.getD_eq_getElem?_getD, List.getElem?_append_left (by simp; omega), List.getElem?_take_of_lt h1, ← List.getD_eq_getElem?_getD]
theorem cutW_end {u : List Bool} {n i : Nat} (hi : i ≤ n) (h : n ≤ i ∨ u.length ≤ i) : pf (cutW u n) i = cutW u n := by
  rcases h with q | q
  · obtain rfl : i = n := by omega
    have := pf_end (cutW u i)
    rw [cutW_len] at this; exact this
  · unfold pf
    rw [cutW_len]
    unfold cutW
    rw [List.take_of_length_le (show u.length ≤ n by omega), List.take_append, List.take_of_length_le q, List.append_assoc, List.take_replicate, List.replicate_append_replicate]
    congr 2; omega
theorem r_cutTo_L {h0 : gaH} (d0 : gM B h0 st 0) (hw : w < 3) (ru : mR h0 a (st.S w)) (na : ∀ i, i < 38 → a ≠ B i) {n : Nat} (hn : n ≤ 64) (k : mRes B h0 Q (done (st.sheet w (cutW (st.S w) n)) ((st.S w).length : Int))) {kc ks : Nat} : ∀ (z i : Nat) (h : gaH), fil h0 h o (pf (cutW (st.S w) n) i) → i ≤ n → n - i < z → w_X7_cutTo_L52 Q z (B 0) (w : Int) (n : Int) a o (i : Int) h kc ks
  | 0, _, _, _, _, h9 => absurd h9 (Nat.not_lt_zero _)
  | z + 1, i, h, fl, hi, h9 => by
    have hl := d0.sl hw
    have hT := cutW_len (st.S w) n
    have d := d0.kp fl.2.1
    have fin : (n ≤ i ∨ (st.S w).length ≤ i) → w_X7_cutTo_J80 Q (B 0) (w : Int) a o h kc ks := fun q => by
      rw [cutW_end hi q] at fl
      unfold w_X7_cutTo_J80
      refine ⟨d.has, r_comes d hw rfl fl.2.2 (by omega) (d0.new fl.1) (fun h2 d2 f2 => ?_)⟩
      have ff := (mF.kp fl.2.1).tr f2
      exact (ru.fr ff na).len (k.ok d2 ff rfl)
    unfold w_X7_cutTo_L52
    refine ⟨by omega, by omega, ?_⟩
    by_cases q : n ≤ i
    · exact if_yes (by omega) (fin (Or.inl q))
    · refine if_no (by omega) ((ru.on fl.2.1).len ⟨by omega, by omega, ?_⟩)
      by_cases q2 : (st.S w).length ≤ i
      · exact if_yes (by omega) (fin (Or.inr q2))
      · refine if_no (by omega) ((ru.on fl.2.1).at rfl (by omega) (by omega) (fl.set rfl (by rw [pf_len (by omega)]; omega) (by rw [pf_len (by omega)]; omega) rfl (fun h3 f3 => ?_)))
        rw [← cutW_at (n := n) (by omega) (by omega), pf_set (by omega)] at f3
        rw [show (i : Int) + 1 = ((i + 1 : Nat) : Int) by omega]
        exact r_cutTo_L d0 hw ru na hn k z (i + 1) h3 f3 (by omega) (by omega)
theorem r_cutTo (d : gM B h st no) (hx : gR x) (hy : gR y) (k : mRes B h Q (m_cutTo st x y)) : w_X7_cutTo (B 0) x y h Q := by
  unfold w_X7_cutTo
  refine r_isNoSheet hx ⟨d.has, r_start d rfl (by decide) (fun q h1 d1 f1 => ?_) (fun q h1 d1 f1 => ?_)⟩
  · have q1 := nd q
    rw [m_cutTo, if_pos q1] at k
    refine ⟨by decide, if_yes rfl (r_isIn hy (by decide) (by decide) (sel (fun t => w_X7_cutTo_J28 Q (B 0) x y (B 0) t h1 1 64) ?_))⟩
    unfold w_X7_cutTo_J28
    refine ⟨d1.has, r_refuse d1 rfl (by decide) (fun q => ?_) (fun q h2 d2 f2 => ?_)⟩
    · have q2 := nd q
      rw [if_pos q2] at k
      obtain ⟨w, rfl⟩ : ∃ w : Nat, x = w := ⟨x.toNat, by omega⟩
      obtain ⟨n, rfl⟩ : ∃ w : Nat, y = w := ⟨y.toNat, by omega⟩
      simp only [Int.toNat_natCast] at k
      refine ⟨by decide, if_yes rfl (d1.f0 (d1.sh rfl (by omega) (fun a ra na => fil.new (n := n) rfl (by omega) (by decide) (by omega) (fun o h2 f2 => ⟨66, ?_⟩))))⟩
      exact r_cutTo_L d1 (by omega) ra na (by omega) (k.on f1) 66 0 h2 (by rw [pf_0, cutW_len]; exact f2) (Nat.zero_le _) (by omega)
    · rw [if_neg (nn q)] at k
      exact ⟨by decide, if_no (by decide) (k.ex d2 (f1.tr f2))⟩
  · rw [m_cutTo, if_neg (nn q)] at k
    exact ⟨by decide, if_no (by decide) (k.ex d1 f1)⟩
theorem rot_at {u : List Bool} {n i : Nat} (hn : n ≤ u.length) (hi : i < u.length) : (u.drop n ++ u.take n).getD i false = u.getD ((i + n) % u.length) false := by
  rw [List.getD_eq_getElem?_getD, List.getD_eq_getElem?_getD]
  by_cases q : i + n < u.length
  · rw [Nat.mod_eq_of_lt q, List.getElem?_append_left (by simp; omega), List.getElem?_drop, Nat.add_comm]
  · have e : (i + n) % u.length = i + n - u.length := by
      rw [Nat.mod_eq_sub_mod (by omega), Nat.mod_eq_of_lt (by omega)]
    rw [e, List.getElem?_append_right (by simp; omega)]
    simp only [List.length_drop]
    rw [List.getElem?_take_of_lt (by omega)]
    congr 2; omega
theorem r_rotate_L {h0 : gaH} (d0 : gM B h0 st 0) (hw : w < 3) (ru : mR h0 a (st.S w)) {n : Nat} (hn : n ≤ (st.S w).length) (k : mRes B h0 Q (settled st w ((st.S w).drop n ++ (st.S w).take n))) {kc ks : Nat} : ∀ (z i : Nat) (h : gaH), fil h0 h o (pf ((st.S w).drop n ++ (st.S w).take n) i) → i ≤ (st.S w).length → (st.S w).length - i < z → w_X7_rotate_L58 Q z (B 0) (w : Int) (n : Int) a o (i : Int) h kc ks
  | 0, _, _, _, _, h9 => absurd h9 (Nat.not_lt_zero _)
  | z + 1, i, h, fl, hi, h9 => by
    have hl := d0.sl hw
    have hT : ((st.S w).drop n ++ (st.S w).take n).length = (st.S w).length := by simp; omega
    have d := d0.kp fl.2.1
    unfold w_X7_rotate_L58
    refine fl.2.2.len ?_
    rw [pf_len (by omega), hT]
    refine ⟨by omega, by omega, ?_⟩
    by_cases q : (st.S w).length ≤ i
    · obtain rfl : i = ((st.S w).drop n ++ (st.S w).take n).length := by omega
      rw [pf_end] at fl
      exact if_yes (by omega) ⟨d.has, r_becomes d hw rfl fl.2.2 (by omega) (d0.new fl.1) (fun h2 d2 f2 => k.ok d2 ((mF.kp fl.2.1).tr f2) rfl)⟩
    · refine if_no (by omega) ((ru.on fl.2.1).len ⟨by omega, by omega, ?_⟩)
      have e : gRem ((i : Int) + (n : Int)) ((st.S w).length : Int) = (((i + n) % (st.S w).length : Nat) : Int) := by
        have := gRem_nat (a := i + n) (b := (st.S w).length) (by omega) (by omega)
        rw [← this]; congr 1
      rw [e]
      refine (ru.on fl.2.1).at rfl (Nat.mod_lt _ (by omega)) (by omega) (fl.set rfl (by rw [pf_len (by omega)]; omega) (by rw [pf_len (by omega)]; omega) rfl (fun h3 f3 => ?_))
      rw [← rot_at hn (by omega), pf_set (by omega)] at f3
      rw [show (i : Int) + 1 = ((i + 1 : Nat) : Int) by omega]
      exact r_rotate_L d0 hw ru hn k z (i + 1) h3 f3 (by omega) (by omega)
theorem r_rotate (d : gM B h st no) (hx : gR x) (hy : gR y) (k : mRes B h Q (m_rotate st x y)) : w_X7_rotate (B 0) x y h Q := by
  unfold w_X7_rotate
  refine r_isNoSheet hx ⟨d.has, r_start d rfl (by decide) (fun q h1 d1 f1 => ?_) (fun q h1 d1 f1 => ?_)⟩
  · have q1 := nd q
    rw [m_rotate, if_pos q1] at k
    obtain ⟨w, rfl⟩ : ∃ w : Nat, x = w := ⟨x.toNat, by omega⟩
    rw [Int.toNat_natCast] at k
    have hl := d1.sl (show w < 3 by omega)
    refine ⟨by decide, if_yes rfl (d1.f0 (d1.sh rfl (by omega) (fun a ra na => ra.len (r_isIn hy (by decide) (by omega) (sel (fun t => w_X7_rotate_J33 Q (B 0) (w : Int) y (B 0) t h1 1 64) ?_)))))⟩
    unfold w_X7_rotate_J33
    refine ⟨d1.has, r_refuse d1 rfl (by decide) (fun q => ?_) (fun q h2 d2 f2 => ?_)⟩
    · have q2 := nd q
      rw [if_pos q2] at k
      obtain ⟨n, rfl⟩ : ∃ w : Nat, y = w := ⟨y.toNat, by omega⟩
      simp only [Int.toNat_natCast] at k
      refine ⟨by decide, if_yes rfl (d1.f0 (d1.sh rfl (by omega) (fun a ra na => ra.len (fil.new (n := (st.S w).length) rfl (by omega) (by decide) (by omega) (fun o h2 f2 => ⟨66, ?_⟩)))))⟩
      have hT : ((st.S w).drop n ++ (st.S w).take n).length = (st.S w).length := by simp; omega
      exact r_rotate_L d1 (by omega) ra (by omega) (k.on f1) 66 0 h2 (by rw [pf_0, hT]; exact f2) (Nat.zero_le _) (by omega)
    · rw [if_neg (nn q)] at k
      exact ⟨by decide, if_no (by decide) (k.ex d2 (f1.tr f2))⟩
  · rw [m_rotate, if_neg (nn q)] at k
    exact ⟨by decide, if_no (by decide) (k.ex d1 f1)⟩
theorem lineW_len (n p s : Nat) : (lineW n p s).length = n := by simp [lineW]
theorem lineW_at {n p s i : Nat} (hi : i < n) : (lineW n p s).getD i false = lineB n p s i := by
  unfold lineW
  rw [List.getD_eq_getElem?_getD]; simp [hi]
theorem r_line_L {h0 : gaH} (d0 : gM B h0 st 0) (hw : w < 3) {n p s : Nat} (hn : 1 ≤ n ∧ n ≤ 64) (hp : p ≤ n) (hs : s < n) (k : mRes B h0 Q (settled st w (lineW n p s))) {kc ks : Nat} : ∀ (z i : Nat) (h : gaH), fil h0 h o (pf (lineW n p s) i) → i ≤ n → n - i < z → w_X7_line_L66 Q z (B 0) (w : Int) (n : Int) (p : Int) (s : Int) o (i : Int) h kc ks
  | 0, _, _, _, _, h9 => absurd h9 (Nat.not_lt_zero _)
  | z + 1, i, h, fl, hi, h9 => by
    have hT := lineW_len n p s
    have d := d0.kp fl.2.1
    unfold w_X7_line_L66
    refine ⟨by omega, by omega, ?_⟩
    by_cases q : n ≤ i
    · obtain rfl : i = (lineW n p s).length := by omega
      rw [pf_end] at fl
      exact if_yes (by omega) ⟨d.has, r_becomes d hw rfl fl.2.2 (by omega) (d0.new fl.1) (fun h2 d2 f2 => k.ok d2 ((mF.kp fl.2.1).tr f2) rfl)⟩
    · refine if_no (by omega) (r_lineSign (n := n) (p := p) (s := s) (i := i) (by omega) (by omega) (by omega) (by omega) (by omega) rfl rfl rfl rfl (fl.set rfl (by rw [pf_len (by omega)]; omega) (by rw [pf_len (by omega)]; omega) rfl (fun h3 f3 => ?_)))
      rw [← lineW_at (show i < n by omega), pf_set (by omega)] at f3
      rw [show (i : Int) + 1 = ((i + 1 : Nat) : Int) by omega]
      exact r_line_L d0 hw hn hp hs k z (i + 1) h3 f3 (by omega) (by omega)
theorem r_line {n p s : Int} (d : gM B h st no) (hx : gR x) (hn : gR n) (hp : gR p) (hs : gR s) (k : mRes B h Q (m_line st x n p s)) : w_X7_line (B 0) x n p s h Q := by
  unfold w_X7_line
  refine r_isNoSheet hx ⟨d.has, r_start d rfl (by decide) (fun q h1 d1 f1 => ?_) (fun q h1 d1 f1 => ?_)⟩
  · have q1 := nd q
    rw [m_line, if_pos q1] at k
    have bd : ¬ ((1 ≤ n ∧ n ≤ 64) ∧ (0 ≤ p ∧ p ≤ n) ∧ 0 ≤ s ∧ s < n) → w_X7_line_J49 Q (B 0) x n p s (B 0) 1 h1 1 64 := fun q => by
      have e : (if 1 ≤ n ∧ n ≤ 64 then if 0 ≤ p ∧ p ≤ n then if 0 ≤ s ∧ s < n then settled st x.toNat (lineW n.toNat p.toNat s.toNat) else bad 2 st else bad 2 st else bad 2 st) = bad 2 st := by
        by_cases z1 : 1 ≤ n ∧ n ≤ 64
        · rw [if_pos z1]
          by_cases z2 : 0 ≤ p ∧ p ≤ n
          · rw [if_pos z2, if_neg (fun z3 => q ⟨z1, z2, z3⟩)]
          · rw [if_neg z2]
        · rw [if_neg z1]
      rw [e] at k
      unfold w_X7_line_J49
      exact ⟨d1.has, r_refuse d1 (bd := true) rfl (by decide) (fun q => by cases q) (fun q h2 d2 f2 => ⟨by decide, if_no (by decide) (k.ex d2 (f1.tr f2))⟩)⟩
    refine ⟨by decide, if_yes rfl (r_isIn hn (by decide) (by decide) ⟨b2i_R _, ?_⟩)⟩
    by_cases z1 : 1 ≤ n ∧ n ≤ 64
    · rw [decide_eq_true z1]
      refine if_no (by decide) (r_isIn hp (by decide) hn ⟨b2i_R _, ?_⟩)
      by_cases z2 : 0 ≤ p ∧ p ≤ n
      · rw [decide_eq_true z2]
        refine if_no (by decide) (r_isIn hs (by decide) (by omega) ⟨b2i_R _, ?_⟩)
        by_cases z3 : 0 ≤ s ∧ s < n
        · rw [decide_eq_true (show 0 ≤ s ∧ s ≤ n - 1 by omega)]
          refine if_no (by decide) ?_
          rw [if_pos z1, if_pos z2, if_pos z3] at k
          obtain ⟨w, rfl⟩ : ∃ w : Nat, x = w := ⟨x.toNat, by omega⟩
          obtain ⟨n, rfl⟩ : ∃ w : Nat, n = w := ⟨n.toNat, by omega⟩
          obtain ⟨p, rfl⟩ : ∃ w : Nat, p = w := ⟨p.toNat, by omega⟩
          obtain ⟨s, rfl⟩ : ∃ w : Nat, s = w := ⟨s.toNat, by omega⟩
          simp only [Int.toNat_natCast] at k
          unfold w_X7_line_J49
          refine ⟨d1.has, r_refuse d1 (bd := false) rfl (by decide) (fun q => ⟨by decide, if_yes rfl (fil.new (n := n) rfl (by omega) (by decide) (by omega) (fun o h2 f2 => ⟨66, ?_⟩))⟩) (fun q => by cases q)⟩
          exact r_line_L d1 (by omega) (by omega) (by omega) (by omega) (k.on f1) 66 0 h2 (by rw [pf_0, lineW_len]; exact f2) (Nat.zero_le _) (by omega)
        · rw [decide_eq_false (show ¬ (0 ≤ s ∧ s ≤ n - 1) by omega)]
          exact if_yes rfl (bd (fun z => z3 z.2.2))
      · rw [decide_eq_false z2]
        exact if_yes rfl (bd (fun z => z2 z.2.1))
    · rw [decide_eq_false z1]
      exact if_yes rfl (bd (fun z => z1 z.1))
  · rw [m_line, if_neg (nn q)] at k
    exact ⟨by decide, if_no (by decide) (k.ex d1 f1)⟩
theorem r_twos (d : gM B h st no) (hx : gR x) (hy : gR y) (hz : gR z) (k : mRes B h Q (m_twos st x y z)) : w_X7_twos (B 0) x y z h Q := by
  unfold w_X7_twos
  refine r_isNoSheet hx ⟨d.has, r_start d rfl (by decide) (fun q h1 d1 f1 => ?_) (fun q h1 d1 f1 => ?_)⟩
  · have q1 := nd q
    rw [m_twos, if_pos q1] at k
    have bd : ¬ ((0 ≤ y ∧ y ≤ 6) ∧ 0 ≤ z ∧ z ≤ 2) → w_X7_twos_J37 Q (B 0) x y z (B 0) 1 h1 44 4928 := fun q => by
      have e : (if 0 ≤ y ∧ y ≤ 6 then if 0 ≤ z ∧ z ≤ 2 then done (st.sheet x.toNat (twL y.toNat)) ((twL y.toNat).length : Int) else bad 2 st else bad 2 st) = bad 2 st := by
        by_cases z1 : 0 ≤ y ∧ y ≤ 6
        · rw [if_pos z1, if_neg (fun z2 => q ⟨z1, z2⟩)]
        · rw [if_neg z1]
      rw [e] at k
      unfold w_X7_twos_J37
      exact ⟨d1.has, r_refuse d1 (bd := true) rfl (by decide) (fun q => by cases q) (fun q h2 d2 f2 => ⟨by decide, if_no (by decide) (k.ex d2 (f1.tr f2))⟩)⟩
    refine ⟨by decide, if_yes rfl (r_isIn hy (by decide) (by decide) ⟨b2i_R _, ?_⟩)⟩
    by_cases z1 : 0 ≤ y ∧ y ≤ 6
    · rw [decide_eq_true z1]
      refine if_no (by decide) (r_isIn hz (by decide) (by decide) ⟨b2i_R _, ?_⟩)
      by_cases z2 : 0 ≤ z ∧ z ≤ 2
      · rw [decide_eq_true z2]
        refine if_no (by decide) ?_
        rw [if_pos z1, if_pos z2] at k
        obtain ⟨w, rfl⟩ : ∃ w : Nat, x = w := ⟨x.toNat, by omega⟩
        obtain ⟨s, rfl⟩ : ∃ w : Nat, y = w := ⟨y.toNat, by omega⟩
        simp only [Int.toNat_natCast] at k
        unfold w_X7_twos_J37
        refine ⟨d1.has, r_refuse d1 (bd := false) rfl (by decide) (fun q => ⟨by decide, if_yes rfl (gCall_mk (by decide) (by decide) (r_twosOf rfl (show s ≤ 6 by omega) hz z2 (fun h2 o k2 n2 r2 => ?_)))⟩) (fun q => by cases q)⟩
        have d2 := d1.kp k2
        have hl : (twL s).length ≤ 64 := by
          rw [twL_len s (by omega)]
          have : 2 ^ s ≤ 2 ^ 6 := Nat.pow_le_pow_right (by decide) (by omega)
          omega
        exact ⟨d2.has, r_comes d2 (by omega) rfl r2 hl (d1.new n2) (fun h5 d5 f5 => k.ok d5 (f1.tr ((mF.kp k2).tr f5)) rfl)⟩
      · rw [decide_eq_false z2]
        exact if_yes rfl (bd (fun z => z2 z.2))
    · rw [decide_eq_false z1]
      exact if_yes rfl (bd (fun z => z1 z.1))
  · rw [m_twos, if_neg (nn q)] at k
    exact ⟨by decide, if_no (by decide) (k.ex d1 f1)⟩
theorem r_knock (d : gM B h st no) (k : mRes B h Q (m_knock st)) : w_X7_knock (B 0) h Q := by
  unfold w_X7_knock
  exact d.setNo (fun h1 d1 f1 => d1.cn (i := 3) rfl (by decide) (d1.inc (i := 3) rfl (by decide) rfl (fun h2 d2 f2 => d2.cn (i := 3) rfl (by decide) (k.ok d2 (f1.tr f2) (show pu st.C 3 (st.C 3 + 1) 3 = st.C 3 + 1 from pu_self _ _ _)))))
end RZ
/-! The reference's acts on growths. -/
section RG2
variable {B : Nat → Nat} {h h0 : gaH} {st : GSt} {no : Int} {a b o : Nat} {u v : List Bool} {w g : Nat} {x y z : Int} {Q : Int → gaH → Prop}
/-- these turns lie in the growth's row -/
def mT (B : Nat → Nat) (h : gaH) (g : Nat) (us : List Nat) : Prop := ∃ row : List Int, row.length = 64 ∧ h (B (4 + g)) = some (102, row.map gi) ∧ ∀ i, i < us.length → row[i]? = (us[i]?).map (fun t => (t : Int))
theorem gM.rowset (d : gM B h st no) (hg : g < 2) {t : Nat} (hx : x = ((st.T g).length : Int)) (hy : y = (t : Int)) (hl : (st.T g).length ≤ 63) {K : gaH → Prop} (k : ∀ h', gM B h' st no → mF B h h' → mT B h' g (st.T g ++ [t]) → K h') : gSI h (B (4 + g)) 102 x (gi y) K := by
  subst hx; subst hy
  obtain ⟨s, a1, a2, a3, a4, a5, a6, a7⟩ := id d
  obtain ⟨b1, row, b2, b3, b4⟩ := a6 g hg
  have ne : ∀ i, i < 6 → i ≠ 4 + g → B i ≠ B (4 + g) := fun i hi hn q => hn (a7.1 i _ hi (by omega) q)
  have er : (row.map gi).set (st.T g).length (gi (t : Int)) = (row.set (st.T g).length (t : Int)).map gi := by rw [List.map_set]
  have hr : ∀ i, i < (st.T g).length → (row.set (st.T g).length (t : Int))[i]? = ((st.T g)[i]?).map (fun t => (t : Int)) := fun i hi => by rw [List.getElem?_set_ne (by omega)]; exact b4 i hi
  refine gSI_mk b3 (by omega) (by omega) (by rw [Int.toNat_natCast]; simp; omega) ?_
  rw [Int.toNat_natCast, er]
  refine k _ ⟨s, ?_, ?_, fun w hw => ⟨?_, (a3 w hw).2⟩, ?_, ?_, fun j hj => ?_, a7.1, fun i hi => upE (a7.2 i hi)⟩ (mF.up (by omega)) ⟨_, by simpa using b2, gaUp_self _ _ _, fun i hi => ?_⟩
  · rw [gaUp_ne _ _ (ne _ (by decide) (by omega))]; exact a1
  · rw [gaUp_ne _ _ (ne _ (by decide) (by omega))]; exact a2
  · unfold mR; rw [gaUp_ne _ _ ((a3 w hw).2.2 _ (by omega))]; exact (a3 w hw).1
  · rw [gaUp_ne _ _ (ne _ (by decide) (by omega))]; exact a4
  · rw [gaUp_ne _ _ (ne _ (by decide) (by omega))]; exact a5
  · by_cases e : j = g
    · subst e
      exact ⟨b1, _, by simpa using b2, gaUp_self _ _ _, hr⟩
    · obtain ⟨c1, r2, c2, c3, c4⟩ := a6 j hj
      exact ⟨c1, r2, c2, by rw [gaUp_ne _ _ (ne _ (by omega) (by omega))]; exact c3, c4⟩
  · rw [List.length_append, List.length_singleton] at hi
    by_cases e : i = (st.T g).length
    · subst e
      rw [List.getElem?_set_self (by omega), List.getElem?_append_right (Nat.le_refl _), Nat.sub_self]; rfl
    · rw [hr i (by omega), List.getElem?_append_left (by omega)]
theorem gM.cntset (d : gM B h st no) (hg : g < 2) {us : List Nat} (hx : x = (g : Int)) (hy : y = (us.length : Int)) (hok : gOk us) (ht : mT B h g us) {K : gaH → Prop} (k : ∀ h', gM B h' (st.S, pu st.T g us, st.C) no → mF B h h' → mT B h' g us → (∀ g', g' < 2 → h' (B (4 + g')) = h (B (4 + g'))) → K h') : gSI h (B 3) 102 x (gi y) K := by
  subst hx; subst hy
  obtain ⟨s, a1, a2, a3, a4, a5, a6, a7⟩ := id d
  have ne : ∀ i, i < 6 → i ≠ 3 → B i ≠ B 3 := fun i hi hn q => hn (a7.1 i _ hi (by omega) q)
  refine gSI_mk a5 (by omega) (by omega) (by rw [Int.toNat_natCast]; simp; omega) ?_
  have rows : ∀ g', g' < 2 → gaUp h (B 3) (102, [gi ((st.T 0).length : Int), gi ((st.T 1).length : Int)].set (g : Int).toNat (gi (us.length : Int))) (B (4 + g')) = h (B (4 + g')) := fun g' hg' => gaUp_ne _ _ (ne _ (by omega) (by omega))
  have ht2 : mT B (gaUp h (B 3) (102, [gi ((st.T 0).length : Int), gi ((st.T 1).length : Int)].set (g : Int).toNat (gi (us.length : Int)))) g us := by
    obtain ⟨row, r1, r2, r3⟩ := ht
    exact ⟨row, r1, (rows g hg).trans r2, r3⟩
  refine k _ ⟨s, ?_, ?_, fun w hw => ⟨?_, (a3 w hw).2⟩, ?_, ?_, fun j hj => ?_, a7.1, fun i hi => upE (a7.2 i hi)⟩ (mF.up (by omega)) ht2 rows
  · rw [gaUp_ne _ _ (ne _ (by decide) (by omega))]; exact a1
  · rw [gaUp_ne _ _ (ne _ (by decide) (by omega))]; exact a2
  · unfold mR; rw [gaUp_ne _ _ ((a3 w hw).2.2 _ (by omega))]; exact (a3 w hw).1
  · rw [gaUp_ne _ _ (ne _ (by decide) (by omega))]; exact a4
  · rw [gaUp_self, Int.toNat_natCast]
    rcases (show g = 0 ∨ g = 1 by omega) with rfl | rfl <;> rfl
  · show gOk (pu st.T g us j) ∧ _
    by_cases e : j = g
    · subst e
      have e2 : GSt.T (st.S, pu st.T j us, st.C) j = us := pu_self _ _ _
      rw [pu_self]
      obtain ⟨row, r1, r2, r3⟩ := ht2
      exact ⟨hok, row, r1, r2, fun i hi => by rw [e2] at hi ⊢; exact r3 i hi⟩
    · have e2 : GSt.T (st.S, pu st.T g us, st.C) j = st.T j := pu_ne _ _ e
      rw [pu_ne _ _ e]
      obtain ⟨c1, r2, c2, c3, c4⟩ := a6 j hj
      exact ⟨c1, r2, c2, (rows j hj).trans c3, fun i hi => by rw [e2] at hi ⊢; exact c4 i hi⟩
theorem gM.inc2 (d : gM B h st no) {i f : Nat} (hf : f = 3 + i) (hi : i < 4) {x : Int} (hx : x = st.C i + 1) {K : gaH → Prop} (k : ∀ h', gM B h' (st.S, st.T, pu st.C i (st.C i + 1)) no → mF B h h' → (∀ j, 1 ≤ j → j < 6 → h' (B j) = h (B j)) → K h') : gPF h (B 0) 7 f (gi x) K := by
  subst hf; subst hx
  have hi2 := d.inj
  obtain ⟨s, a1, -⟩ := id d
  refine gPF_mk a1 (by simp; omega) (k _ ?_ (mF.up (by decide)) (fun j h1 h2 => gaUp_ne _ _ (fun q => by have := hi2 _ _ h2 (by decide) q; omega)))
  have := d.put (C := pu st.C i (st.C i + 1)) (no' := no)
  rcases (show i = 0 ∨ i = 1 ∨ i = 2 ∨ i = 3 by omega) with rfl | rfl | rfl | rfl <;> exact this
theorem gM.mt (d : gM B h st no) (hg : g < 2) {us : List Nat} (hl : us.length ≤ (st.T g).length) (hu : ∀ i, i < us.length → us[i]? = (st.T g)[i]?) : mT B h g us := by
  obtain ⟨s, a1, a2, a3, a4, a5, a6, a7⟩ := d
  obtain ⟨b1, row, b2, b3, b4⟩ := a6 g hg
  exact ⟨row, b2, b3, fun i hi => by rw [b4 i (by omega), hu i hi]⟩
theorem r_fresh (d : gM B h st no) (hx : gR x) (k : mRes B h Q (m_fresh st x)) : w_X7_fresh (B 0) x h Q := by
  unfold w_X7_fresh
  refine r_isNoGrowth hx ⟨d.has, r_start d rfl (by decide) (fun q h1 d1 f1 => ?_) (fun q h1 d1 f1 => ?_)⟩
  · have q1 := nd q
    rw [m_fresh, if_pos q1] at k
    obtain ⟨g, rfl⟩ : ∃ w : Nat, x = w := ⟨x.toNat, by omega⟩
    rw [Int.toNat_natCast] at k
    have hg : g < 2 := by omega
    refine ⟨by decide, if_yes rfl (d1.f2 (d1.ct rfl hg (d1.f2 (d1.cntset hg (us := []) rfl rfl gOk.nil (d1.mt hg (Nat.zero_le _) (fun i hi => absurd hi (Nat.not_lt_zero _))) (fun h2 d2 f2 t2 _ => d2.cn (i := 1) rfl (by decide) (d2.inc (i := 1) rfl (by decide) rfl (fun h3 d3 f3 => ?_)))))))⟩
    exact k.ok d3 (f1.tr (f2.tr f3)) rfl
  · rw [m_fresh, if_neg (nn q)] at k
    exact ⟨by decide, if_no (by decide) (k.ex d1 f1)⟩
theorem r_shrink (d : gM B h st no) (hx : gR x) (k : mRes B h Q (m_shrink st x)) : w_X7_shrink (B 0) x h Q := by
  unfold w_X7_shrink
  refine r_isNoGrowth hx ⟨d.has, r_start d rfl (by decide) (fun q h1 d1 f1 => ?_) (fun q h1 d1 f1 => ?_)⟩
  · have q1 := nd q
    rw [m_shrink, if_pos q1] at k
    obtain ⟨g, rfl⟩ : ∃ w : Nat, x = w := ⟨x.toNat, by omega⟩
    rw [Int.toNat_natCast] at k
    have hg : g < 2 := by omega
    have hok := d1.ok hg
    have hl := hok.len
    refine ⟨by decide, if_yes rfl (d1.f2 (d1.ct rfl hg ⟨by omega, ?_⟩))⟩
    by_cases q2 : st.T g = []
    · rw [if_pos q2] at k
      refine if_yes (by rw [q2]; rfl) ?_
      unfold w_X7_shrink_J27
      exact ⟨d1.has, r_refuse d1 (bd := true) rfl (by decide) (fun q => by cases q) (fun q h2 d2 f2 => ⟨by decide, if_no (by decide) (k.ex d2 (f1.tr f2))⟩)⟩
    · rw [if_neg q2] at k
      have hp : 0 < (st.T g).length := List.length_pos_iff.mpr q2
      refine if_no (by omega) ?_
      unfold w_X7_shrink_J27
      refine ⟨d1.has, r_refuse d1 (bd := false) rfl (by decide) (fun q => ⟨by decide, if_yes rfl ?_⟩) (fun q => by cases q)⟩
      obtain ⟨us, t, e⟩ : ∃ us t, st.T g = us ++ [t] := ⟨(st.T g).dropLast, (st.T g).getLast q2, (List.dropLast_concat_getLast _).symm⟩
      have e1 : (st.T g).dropLast = us := by rw [e, List.dropLast_concat]
      have e2 : (st.T g).getLastD 0 = t := by rw [e]; simp
      have e3 : (st.T g).length = us.length + 1 := by rw [e]; simp
      rw [e1, e2] at k
      have hus : gOk us := by rw [e] at hok; exact hok.pre
      refine d1.f2 (d1.ct rfl hg (d1.cntset hg (us := us) rfl (by omega) hus (d1.mt hg (by omega) (fun i hi => by rw [e, List.getElem?_append_left hi])) (fun h2 d2 f2 t2 keep => d2.cn (i := 1) rfl (by decide) (d2.inc2 (i := 1) rfl (by decide) rfl (fun h3 d3 f3 k3 => ?_)))))
      have kk := fun r hr => k.ok (r := r) d3 (f1.tr (f2.tr f3)) hr
      obtain ⟨s, z1, z2, z3, z4, z5, z6, z7⟩ := id d1
      obtain ⟨b1, row, b2, b3, b4⟩ := z6 g hg
      have e9 : ((pu st.T g us) g).length = us.length := by rw [pu_self]
      refine d3.f1 (d3.tr rfl hg (d3.f2 (d3.ct rfl hg ?_)))
      show gLI h3 (B (4 + g)) 102 (((pu st.T g us) g).length : Int) _
      rw [e9]
      refine gLI_mk (x := (t : Int)) ((k3 (4 + g) (by omega) (by omega)).trans ((keep g hg).trans b3)) (by omega) (by omega) ?_ (kk _ rfl)
      rw [Int.toNat_natCast, List.getElem?_map, b4 us.length (by omega), e, List.getElem?_append_right (Nat.le_refl _), Nat.sub_self]
      rfl
  · rw [m_shrink, if_neg (nn q)] at k
    exact ⟨by decide, if_no (by decide) (k.ex d1 f1)⟩
theorem r_grow (d : gM B h st no) (hx : gR x) (hy : gR y) (k : mRes B h Q (m_grow st x y)) : w_X7_grow (B 0) x y h Q := by
  unfold w_X7_grow
  refine r_isNoGrowth hx ⟨d.has, r_start d rfl (by decide) (fun q h1 d1 f1 => ?_) (fun q h1 d1 f1 => ?_)⟩
  · have q1 := nd q
    rw [m_grow, if_pos q1] at k
    refine ⟨by decide, if_yes rfl (r_isIn hy (by decide) (by decide) (sel (fun t => w_X7_grow_J27 Q (B 0) x y (B 0) t h1 133 8197) ?_))⟩
    unfold w_X7_grow_J27
    refine ⟨d1.has, r_refuse d1 rfl (by decide) (fun q => ?_) (fun q h2 d2 f2 => ?_)⟩
    · have q2 := nd q
      rw [if_pos q2] at k
      obtain ⟨g, rfl⟩ : ∃ w : Nat, x = w := ⟨x.toNat, by omega⟩
      obtain ⟨t, rfl⟩ : ∃ w : Nat, y = w := ⟨y.toNat, by omega⟩
      simp only [Int.toNat_natCast] at k
      have hg : g < 2 := by omega
      have hok := d1.ok hg
      have hl := hok.len
      have l1 := hok.2
      have l2 := hok.elder
      refine ⟨by decide, if_yes rfl ⟨d1.has, gCall_mk (by decide) (by decide) (r_byCopies d1 hg (m := (st.T g).length) (bk := 0) rfl rfl rfl (fun h2 o k2 n2 r2 => r2.len ⟨(d1.kp k2).has, gCall_mk (by decide) (by decide) (r_elder (d1.kp k2) hg rfl (fun h3 o3 k3 n3 r3 => r3.len ?_))⟩))⟩⟩
      rw [List.take_length]
      have em : (t : Int) * ((grw (st.T g)).2.length : Int) + ((grw (st.T g)).1.length : Int) = ((t * (grw (st.T g)).2.length + (grw (st.T g)).1.length : Nat) : Int) := by push_cast; rfl
      have b1 : t * (grw (st.T g)).2.length ≤ 3 * 64 := Nat.mul_le_mul (by omega) l1
      rw [em]
      have d3 := d1.kp (k2.tr k3)
      refine ⟨by omega, ?_⟩
      by_cases q3 : t * (grw (st.T g)).2.length + (grw (st.T g)).1.length ≤ 64
      · rw [if_pos q3] at k
        have hok2 := grow_ok hok (by omega) q3
        refine if_yes (by omega) (d3.f1 (d3.tr rfl hg (d3.f2 (d3.ct rfl hg (d3.rowset hg rfl rfl hl (fun h4 d4 f4 t4 => d4.f2 (d4.ct rfl hg (d4.cntset hg (us := st.T g ++ [t]) rfl (by simp) hok2 t4 (fun h5 d5 f5 t5 _ => d5.cn (i := 1) rfl (by decide) (d5.inc (i := 1) rfl (by decide) rfl (fun h6 d6 f6 => ?_)))))))))))
        refine k.ok d6 (f1.tr ((mF.kp (k2.tr k3)).tr (f4.tr (f5.tr f6)))) ?_
        rw [grw_snoc]; simp [gstep, rep_len]
      · rw [if_neg q3] at k
        exact if_no (by omega) ⟨d3.has, r_cannot d3 (fun h4 d4 f4 => k.ok d4 (f1.tr ((mF.kp (k2.tr k3)).tr f4)) rfl)⟩
    · rw [if_neg (nn q)] at k
      exact ⟨by decide, if_no (by decide) (k.ex d2 (f1.tr f2))⟩
  · rw [m_grow, if_neg (nn q)] at k
    exact ⟨by decide, if_no (by decide) (k.ex d1 f1)⟩
end RG2
/-! The reference: undo. -/
def stepv (x y u : List Bool) (j : Nat) : Int := if (stands u x j && okR x y u (j + x.length)) = true then 1 else if (stands u y j && okR x y u (j + y.length)) = true then 2 else 0
theorem stepv_pos {x y u : List Bool} (hx : 0 < x.length) (hy : 0 < y.length) {j : Nat} (hj : j < u.length) : (0 < stepv x y u j ↔ okR x y u j = true) := by
  rw [okR_at hx hy j, decide_eq_false (by omega), Bool.false_or]
  unfold stepv
  cases stands u x j && okR x y u (j + x.length) <;> cases stands u y j && okR x y u (j + y.length) <;> decide
theorem stepv_R (x y u : List Bool) (j : Nat) : 0 ≤ stepv x y u j ∧ stepv x y u j ≤ 2 := by
  unfold stepv
  split
  · decide
  · split <;> decide
theorem unl_same {u v : List Bool} (h : u ++ v = v ++ u) : ∀ f i, unl u v f i = -1
  | 0, _ => rfl
  | f + 1, i => by
    unfold unl
    rw [h]
    split
    · rfl
    · rw [if_pos rfl]; exact unl_same h f (i + 1)
theorem unlike_dec (u v : List Bool) : decide (unlike u v ≠ -1) = !decide (u ++ v = v ++ u) := by
  by_cases q : u ++ v = v ++ u
  · rw [decide_eq_true q, decide_eq_false (fun z => z (unl_same q _ _))]; rfl
  · rw [decide_eq_false q, decide_eq_true (unlike_iff q)]; rfl
def mJ (h : gaH) (a : Nat) (xs : List Int) : Prop := h a = some (102, xs.map gi)
section RU
variable {B : Nat → Nat} {h h0 : gaH} {st : GSt} {no : Int} {a b o : Nat} {u v : List Bool} {w g : Nat} {x y z : Int} {Q : Int → gaH → Prop}
theorem mJ.at {xs : List Int} (r : mJ h a xs) {i : Nat} {c : Int} (hx : x = (i : Int)) (hi : xs[i]? = some c) (hl : i ≤ 1000) {K : Int → Prop} (k : K c) : gLI h a 102 x K := by
  subst hx
  exact gLI_mk r (by omega) (by omega) (by rw [Int.toNat_natCast, List.getElem?_map, hi]; rfl) k
theorem mJ.on {xs : List Int} {h' : gaH} (r : mJ h a xs) (k : mK h h') : mJ h' a xs := k _ _ r
theorem r_isApartRule (hx : 2 ≤ x ∧ x ≤ 31) (hy : 2 ≤ y ∧ y ≤ 31) (k : ∀ h', mK h h' → Q (b2i (decide (unlike (codeW x.toNat) (codeW y.toNat) ≠ -1))) h') : w_X7_isApartRule x y h Q := by
  obtain ⟨c, rfl⟩ : ∃ w : Nat, x = w := ⟨x.toNat, by omega⟩
  obtain ⟨e, rfl⟩ : ∃ w : Nat, y = w := ⟨y.toNat, by omega⟩
  simp only [Int.toNat_natCast] at k
  have l1 := (code_ok c (by omega) (by omega)).2
  have l2 := (code_ok e (by omega) (by omega)).2
  unfold w_X7_isApartRule
  refine gCall_mk (by decide) (by decide) (r_ofCode (c := c) rfl (by omega) (by omega) (fun p h1 f1 => gCall_mk (by decide) (by decide) (r_ofCode (c := e) rfl (by omega) (by omega) (fun q h2 f2 => ?_))))
  have rp := f1.2.2.on f2.2.1
  have rq := f2.2.2
  refine rp.len (rp.len (gCall_mk (by decide) (by decide) (r_spliced rp rq rfl rfl (Nat.le_refl _) (Nat.le_refl _) (by omega) (by omega) (fun o h3 f3 => ?_))))
  have rp3 := rp.on f3.2.1
  have rq3 := rq.on f3.2.1
  refine rq3.len (rq3.len (gCall_mk (by decide) (by decide) (r_spliced rq3 rp3 rfl rfl (Nat.le_refl _) (Nat.le_refl _) (by omega) (by omega) (fun o2 h4 f4 => ?_))))
  have ra := f3.2.2.on f4.2.1
  have rb := f4.2.2
  simp only [List.take_length, List.drop_length, List.append_nil] at ra rb
  refine r_areSame ra rb (by simp; omega) (by simp; omega) ⟨b2i_R _, ?_⟩
  have kk := k h4 (f1.2.1.tr (f2.2.1.tr (f3.2.1.tr f4.2.1)))
  rw [unlike_dec] at kk
  generalize decide (codeW c ++ codeW e = codeW e ++ codeW c) = t at kk ⊢
  cases t
  · exact if_yes rfl kk
  · exact if_no (by decide) kk
theorem r_isApart (d : gM B h st no) (hx : gR x) (hy : gR y) (k : mRes B h Q (m_isApart st x y)) : w_X7_isApart (B 0) x y h Q := by
  unfold w_X7_isApart
  refine r_isNoRule hx hy ⟨d.has, r_start d rfl (by decide) (fun q h1 d1 f1 => ?_) (fun q h1 d1 f1 => ?_)⟩
  · have q1 := nd q
    rw [m_isApart, if_pos q1] at k
    refine ⟨by decide, if_yes rfl (gCall_mk (by decide) (by decide) (r_isApartRule q1.1 q1.2 (fun h2 k2 => ⟨b2i_R _, ?_⟩)))⟩
    have kk := fun r hr => k.ok (r := r) (d1.kp k2) (f1.tr (mF.kp k2)) hr
    generalize decide (unlike (codeW x.toNat) (codeW y.toNat) ≠ -1) = t at kk ⊢
    cases t
    · exact if_yes rfl (kk _ rfl)
    · exact if_no (by decide) (kk _ rfl)
  · rw [m_isApart, if_neg (nn q)] at k
    exact ⟨by decide, if_no (by decide) (k.ex d1 f1)⟩
theorem r_flag {X Y m : List Bool} {c : Nat} {xs : List Int} (ru : mR h a u) (rm : mR h c m) (ro : mJ h o xs) (hX : 0 < X.length) (hY : 0 < Y.length) (hm : 0 < m.length) (hul : u.length ≤ 64) (hml : m.length ≤ 1000) {j : Nat} (hj : j < u.length) (hxs : ∀ i, j < i → i < u.length → xs[i]? = some (stepv X Y u i)) {F0 F1 : gaH → Prop} (k1 : (stands u m j && okR X Y u (j + m.length)) = true → F1 h) (k0 : (stands u m j && okR X Y u (j + m.length)) = false → F0 h) :
    w_X7_standsAt a c (j : Int) h (fun r2 hp1 => gR r2 ∧ (if r2 = 0 then F0 hp1 else gAL hp1 c 102 (fun r3 => gAL hp1 a 102 (fun r4 => gR ((j : Int) + r3) ∧ gR r4 ∧ (if ((j : Int) + r3) = r4 then F1 hp1 else gAL hp1 c 102 (fun r5 => gLI hp1 o 102 ((j : Int) + r5) (fun r6 => gR r6 ∧ (if r6 ≤ 0 then F0 hp1 else F1 hp1)))))))) := by
  refine r_standsAt ru rm rfl (by omega) (by omega) hml ⟨b2i_R _, ?_⟩
  cases e : stands u m j
  · rw [e] at k0; exact if_yes rfl (k0 rfl)
  · rw [e, Bool.true_and] at k0 k1
    have hle := stands_le e
    refine if_no (by decide) (rm.len (ru.len ⟨by omega, by omega, ?_⟩))
    by_cases q : j + m.length = u.length
    · refine if_yes (by omega) (k1 ?_)
      rw [q, okR_at hX hY, decide_eq_true rfl, Bool.true_or]
    · have sp := stepv_pos hX hY (show j + m.length < u.length by omega)
      have sr := stepv_R X Y u (j + m.length)
      refine if_no (by omega) (rm.len (ro.at (i := j + m.length) (by omega) (hxs _ (by omega) (by omega)) (by omega) ⟨by omega, ?_⟩))
      by_cases z : stepv X Y u (j + m.length) ≤ 0
      · refine if_yes z (k0 ?_)
        cases e2 : okR X Y u (j + m.length)
        · rfl
        · exact absurd (sp.mpr e2) (by omega)
      · exact if_no z (k1 (sp.mp (by omega)))
theorem r_steps_L13 {Q : Nat → gaH → Prop} {X Y : List Bool} {p q : Nat} (ru : mR h0 a u) (rX : mR h0 p X) (rY : mR h0 q Y) (hX : 0 < X.length) (hY : 0 < Y.length) (hXl : X.length ≤ 100) (hYl : Y.length ≤ 100) (hul : u.length ≤ 64) (ho : h0 o = none) (k : ∀ h' xs, mK h0 h' → mJ h' o xs → (∀ i, i < u.length → xs[i]? = some (stepv X Y u i)) → Q o h') {kc ks : Nat} : ∀ (z j : Nat) (h : gaH) (xs : List Int), mK h0 h → mJ h o xs → xs.length = u.length + 1 → (∀ i, j ≤ i → i < u.length → xs[i]? = some (stepv X Y u i)) → j ≤ u.length → j < z → w_X7_steps_L13 Q z a p q o ((j : Int) - 1) h kc ks
  | 0, _, _, _, _, _, _, _, _, h9 => absurd h9 (Nat.not_lt_zero _)
  | z + 1, j, h, xs, kp, rx, hxl, hxs, hj, h9 => by
    unfold w_X7_steps_L13
    refine ⟨by omega, ?_⟩
    by_cases q0 : j = 0
    · subst q0
      exact if_yes (by decide) (k h xs kp rx (fun i hi => hxs i (Nat.zero_le _) hi))
    · refine if_no (by omega) ?_
      have ej : (j : Int) - 1 = ((j - 1 : Nat) : Int) := by omega
      rw [ej]
      have fin : ∀ c : Int, c = stepv X Y u (j - 1) → w_X7_steps_J114 Q (w_X7_steps_L13 Q z) a p q o ((j - 1 : Nat) : Int) o ((j - 1 : Nat) : Int) c h kc ks := by
        intro c hc
        unfold w_X7_steps_J114
        refine gSI_mk rx (by omega) (by omega) (by rw [Int.toNat_natCast]; simp; omega) ?_
        rw [Int.toNat_natCast, ← List.map_set, show ((j - 1 : Nat) : Int) + -1 = ((j - 1 : Nat) : Int) - 1 by omega]
        refine r_steps_L13 ru rX rY hX hY hXl hYl hul ho k z (j - 1) _ (xs.set (j - 1) c) (kp.up ho _) (gaUp_self _ _ _) (by simpa using hxl) (fun i h1 h2 => ?_) (by omega) (by omega)
        by_cases e : i = j - 1
        · rw [e, List.getElem?_set_self (by omega), hc]
        · rw [List.getElem?_set_ne (by omega)]; exact hxs i (by omega) h2
      have hx2 : ∀ i, j - 1 < i → i < u.length → xs[i]? = some (stepv X Y u i) := fun i h1 h2 => hxs i (by omega) h2
      have second : ∀ t : Bool, t = (stands u X (j - 1) && okR X Y u (j - 1 + X.length)) → w_X7_steps_J53 Q (w_X7_steps_L13 Q z) a p q o ((j - 1 : Nat) : Int) (b2i t) h kc ks := by
        intro t ht
        unfold w_X7_steps_J53
        refine r_flag (X := X) (Y := Y) (F0 := fun hp => w_X7_steps_J89 Q (w_X7_steps_L13 Q z) a p q o ((j - 1 : Nat) : Int) (b2i t) hp kc ks) (F1 := fun hp => w_X7_steps_J85 Q (w_X7_steps_L13 Q z) a p q o ((j - 1 : Nat) : Int) (b2i t) hp kc ks) (ru.on kp) (rY.on kp) rx hX hY hY hul (by omega) (by omega) hx2 (fun e => ?_) (fun e => ?_)
        · unfold w_X7_steps_J85 w_X7_steps_J90
          refine ⟨b2i_R _, ?_⟩
          cases t
          · refine if_yes rfl ⟨by decide, if_no (by decide) (fin 2 ?_)⟩
            unfold stepv; rw [← ht, e]; rfl
          · refine if_no (by decide) (fin 1 ?_)
            unfold stepv; rw [← ht]; rfl
        · unfold w_X7_steps_J89 w_X7_steps_J90
          refine ⟨b2i_R _, ?_⟩
          cases t
          · refine if_yes rfl ⟨by decide, if_yes rfl (fin 0 ?_)⟩
            unfold stepv; rw [← ht, e]; rfl
          · refine if_no (by decide) (fin 1 ?_)
            unfold stepv; rw [← ht]; rfl
      refine r_flag (X := X) (Y := Y) (F0 := fun hp => w_X7_steps_J52 Q (w_X7_steps_L13 Q z) a p q o ((j - 1 : Nat) : Int) hp kc ks) (F1 := fun hp => w_X7_steps_J48 Q (w_X7_steps_L13 Q z) a p q o ((j - 1 : Nat) : Int) hp kc ks) (ru.on kp) (rX.on kp) rx hX hY hX hul (by omega) (by omega) hx2 (fun e => second true e.symm) (fun e => second false e.symm)
theorem r_steps {Q : Nat → gaH → Prop} {X Y : List Bool} {p q : Nat} (ru : mR h a u) (rX : mR h p X) (rY : mR h q Y) (hX : 0 < X.length) (hY : 0 < Y.length) (hXl : X.length ≤ 100) (hYl : Y.length ≤ 100) (hul : u.length ≤ 64) (k : ∀ h' o xs, mK h h' → h o = none → mJ h' o xs → (∀ i, i < u.length → xs[i]? = some (stepv X Y u i)) → Q o h') : w_X7_steps a p q h Q := by
  unfold w_X7_steps
  refine ru.len (gNA_mk (n := u.length + 1) (by omega) (by omega) (by decide) (by omega) (fun o ho => ?_))
  have kp := (mK.rf (h := h)).up ho (102, List.replicate (u.length + 1) (gi 0))
  refine (ru.on kp).len ⟨66, ?_⟩
  exact r_steps_L13 ru rX rY hX hY hXl hYl hul ho (fun h' xs k' r' e => k h' o xs k' ho r' e) 66 u.length _ (List.replicate (u.length + 1) 0) kp (by unfold mJ; rw [gaUp_self]; simp) (by simp) (fun i h1 h2 => by omega) (Nat.le_refl _) (by omega)
end RU
/-! The reference: undo, the walk. -/
section RV
variable {B : Nat → Nat} {h h0 : gaH} {st : GSt} {no : Int} {a b o : Nat} {u v : List Bool} {w g : Nat} {x y z : Int} {Q : Int → gaH → Prop}
theorem walk_step {X Y u : List Bool} (hX : 0 < X.length) (hY : 0 < Y.length) {j : Nat} (hj : j < u.length) (hok : okR X Y u j = true) : (stepv X Y u j = 1 ∧ walkR X Y u j = false :: walkR X Y u (j + X.length) ∧ okR X Y u (j + X.length) = true ∧ j + X.length ≤ u.length) ∨ (stepv X Y u j = 2 ∧ walkR X Y u j = true :: walkR X Y u (j + Y.length) ∧ okR X Y u (j + Y.length) = true ∧ j + Y.length ≤ u.length) := by
  rw [okR_at hX hY j, decide_eq_false (by omega), Bool.false_or] at hok
  rw [walkR, dif_pos ⟨hj, hX, hY⟩]
  unfold stepv
  cases e1 : stands u X j && okR X Y u (j + X.length)
  · rw [e1, Bool.false_or] at hok
    right
    rw [if_neg (by decide), if_pos hok]
    rw [Bool.and_eq_true] at hok
    exact ⟨rfl, rfl, hok.2, stands_le hok.1⟩
  · left
    rw [Bool.and_eq_true] at e1
    exact ⟨rfl, rfl, e1.2, stands_le e1.1⟩
theorem walk_end {X Y u : List Bool} {j : Nat} (hj : u.length ≤ j) : walkR X Y u j = [] := by
  rw [walkR, dif_neg (by omega)]
theorem walk_len {X Y u : List Bool} (hX : 0 < X.length) (hY : 0 < Y.length) : ∀ (n j : Nat), u.length - j ≤ n → (walkR X Y u j).length ≤ u.length - j
  | 0, j, h => by rw [walk_end (by omega)]; exact Nat.zero_le _
  | n + 1, j, h => by
    by_cases q : u.length ≤ j
    · rw [walk_end q]; exact Nat.zero_le _
    · rw [walkR, dif_pos ⟨by omega, hX, hY⟩]
      split
      · have := walk_len (u := u) (X := X) (Y := Y) hX hY n (j + X.length) (by omega)
        rw [List.length_cons]; omega
      · have := walk_len (u := u) (X := X) (Y := Y) hX hY n (j + Y.length) (by omega)
        rw [List.length_cons]; omega
theorem r_undo_L152 {h0 : gaH} (d0 : gM B h0 st 0) (hw : w < 3) {X Y : List Bool} {p q r : Nat} {xs : List Int} (ru : mR h0 a (st.S w)) (rX : mR h0 p X) (rY : mR h0 q Y) (rs : mJ h0 r xs) (hX : 0 < X.length) (hY : 0 < Y.length) (hxs : ∀ i, i < (st.S w).length → xs[i]? = some (stepv X Y (st.S w) i)) {t : List Bool} (ht : t.length ≤ 64) (k : mRes B h0 Q (done (st.sheet w t) (t.length : Int))) {kc ks : Nat} : ∀ (z j c : Nat) (h : gaH), fil h0 h o (pf t c) → j ≤ (st.S w).length → (st.S w).length - j < z → okR X Y (st.S w) j = true → c ≤ t.length → t.drop c = walkR X Y (st.S w) j → w_X7_undo_L152 Q z (B 0) (w : Int) a p q r o (c : Int) (j : Int) h kc ks
  | 0, _, _, _, _, _, h9, _, _, _ => absurd h9 (Nat.not_lt_zero _)
  | z + 1, j, c, h, fl, hj, h9, hok, hc, hd => by
    have hl := d0.sl hw
    have d := d0.kp fl.2.1
    unfold w_X7_undo_L152
    refine (ru.on fl.2.1).len ⟨by omega, by omega, ?_⟩
    by_cases q1 : (st.S w).length ≤ j
    · rw [walk_end q1] at hd
      have hlen : t.length - c = 0 := by rw [← List.length_drop, hd]; rfl
      obtain rfl : c = t.length := by omega
      rw [pf_end] at fl
      exact if_yes (by omega) ⟨d.has, r_comes d hw rfl fl.2.2 ht (d0.new fl.1) (fun h2 d2 f2 => k.ok d2 ((mF.kp fl.2.1).tr f2) rfl)⟩
    · have hx := hxs j (by omega)
      have cl : ∀ (bb : Bool) (rest : List Bool), walkR X Y (st.S w) j = bb :: rest → c < t.length ∧ t.getD c false = bb ∧ t.drop (c + 1) = rest := fun bb rest e => by
        rw [e] at hd
        have hlen : t.length - c = rest.length + 1 := by rw [← List.length_drop, hd]; rfl
        have hc2 : c < t.length := by omega
        rw [take_one hc2] at hd
        exact ⟨hc2, (List.cons.inj hd).1, (List.cons.inj hd).2⟩
      refine if_no (by omega) ((rs.on fl.2.1).at rfl hx (by omega) ?_)
      rcases walk_step hX hY (show j < (st.S w).length by omega) hok with ⟨e1, e2, e3, e4⟩ | ⟨e1, e2, e3, e4⟩
      · obtain ⟨c1, c2, c3⟩ := cl _ _ e2
        rw [e1]
        refine fl.set (b := false) rfl (by rw [pf_len hc]; exact c1) (by rw [pf_len hc]; omega) rfl (fun h3 f3 => (rs.on f3.2.1).at rfl hx (by omega) ?_)
        rw [← c2, pf_set c1] at f3
        rw [e1]
        refine ⟨by decide, if_yes rfl ((rX.on f3.2.1).len ?_)⟩
        rw [show (c : Int) + 1 = ((c + 1 : Nat) : Int) by omega, show (j : Int) + (X.length : Int) = ((j + X.length : Nat) : Int) by omega]
        exact r_undo_L152 d0 hw ru rX rY rs hX hY hxs ht k z (j + X.length) (c + 1) h3 f3 e4 (by omega) e3 (by omega) c3
      · obtain ⟨c1, c2, c3⟩ := cl _ _ e2
        rw [e1]
        refine fl.set (b := true) rfl (by rw [pf_len hc]; exact c1) (by rw [pf_len hc]; omega) rfl (fun h3 f3 => (rs.on f3.2.1).at rfl hx (by omega) ?_)
        rw [← c2, pf_set c1] at f3
        rw [e1]
        refine ⟨by decide, if_no (by decide) ((rY.on f3.2.1).len ?_)⟩
        rw [show (c : Int) + 1 = ((c + 1 : Nat) : Int) by omega, show (j : Int) + (Y.length : Int) = ((j + Y.length : Nat) : Int) by omega]
        exact r_undo_L152 d0 hw ru rX rY rs hX hY hxs ht k z (j + Y.length) (c + 1) h3 f3 e4 (by omega) e3 (by omega) c3
theorem r_undo_L103 (d0 : gM B h st 0) (hw : w < 3) {X Y : List Bool} {p q r : Nat} {xs : List Int} (ru : mR h a (st.S w)) (rX : mR h p X) (rY : mR h q Y) (rs : mJ h r xs) (hX : 0 < X.length) (hY : 0 < Y.length) (hxs : ∀ i, i < (st.S w).length → xs[i]? = some (stepv X Y (st.S w) i)) (h0k : okR X Y (st.S w) 0 = true) (k : mRes B h Q (done (st.sheet w (walkR X Y (st.S w) 0)) ((walkR X Y (st.S w) 0).length : Int))) : ∀ (z j c : Nat), j ≤ (st.S w).length → (st.S w).length - j < z → okR X Y (st.S w) j = true → c + (walkR X Y (st.S w) j).length = (walkR X Y (st.S w) 0).length → w_X7_undo_L103 Q z (B 0) (w : Int) a p q r (c : Int) (j : Int) h 1 64
  | 0, _, _, _, h9, _, _ => absurd h9 (Nat.not_lt_zero _)
  | z + 1, j, c, hj, h9, hok, hc => by
    have hl := d0.sl hw
    have hwl := walk_len (X := X) (Y := Y) (u := st.S w) hX hY _ 0 (Nat.le_refl _)
    unfold w_X7_undo_L103
    refine ru.len ⟨by omega, by omega, ?_⟩
    by_cases q1 : (st.S w).length ≤ j
    · rw [walk_end q1, List.length_nil, Nat.add_zero] at hc
      refine if_yes (by omega) (fil.new (n := c) rfl (by omega) (by decide) (by omega) (fun o h1 f1 => ⟨66, ?_⟩))
      refine r_undo_L152 d0 hw ru rX rY rs hX hY hxs (by omega) k 66 0 0 h1 ?_ (Nat.zero_le _) (by omega) h0k (Nat.zero_le _) rfl
      rw [pf_0, ← hc]; exact f1
    · refine if_no (by omega) (rs.at rfl (hxs j (by omega)) (by omega) ?_)
      rcases walk_step hX hY (show j < (st.S w).length by omega) hok with ⟨e1, e2, e3, e4⟩ | ⟨e1, e2, e3, e4⟩
      · rw [e1]
        rw [e2, List.length_cons] at hc
        refine ⟨by decide, if_yes rfl (rX.len ?_)⟩
        rw [show (c : Int) + 1 = ((c + 1 : Nat) : Int) by omega, show (j : Int) + (X.length : Int) = ((j + X.length : Nat) : Int) by omega]
        exact r_undo_L103 d0 hw ru rX rY rs hX hY hxs h0k k z (j + X.length) (c + 1) e4 (by omega) e3 (by omega)
      · rw [e1]
        rw [e2, List.length_cons] at hc
        refine ⟨by decide, if_no (by decide) (rY.len ?_)⟩
        rw [show (c : Int) + 1 = ((c + 1 : Nat) : Int) by omega, show (j : Int) + (Y.length : Int) = ((j + Y.length : Nat) : Int) by omega]
        exact r_undo_L103 d0 hw ru rX rY rs hX hY hxs h0k k z (j + Y.length) (c + 1) e4 (by omega) e3 (by omega)
theorem r_undo (d : gM B h st no) (hx : gR x) (hy : gR y) (hz : gR z) (k : mRes B h Q (m_undo st x y z)) : w_X7_undo (B 0) x y z h Q := by
  unfold w_X7_undo
  refine r_isNoSheet hx ⟨d.has, r_start d rfl (by decide) (fun q h1 d1 f1 => ?_) (fun q h1 d1 f1 => ?_)⟩
  · have q1 := nd q
    rw [m_undo, if_pos q1] at k
    refine ⟨by decide, if_yes rfl (r_isNoRule hy hz ⟨d1.has, r_refuse d1 rfl (by decide) (fun q => ?_) (fun q h2 d2 f2 => ?_)⟩)⟩
    · have q2 := nd q
      rw [if_pos q2] at k
      refine ⟨by decide, if_yes rfl (gCall_mk (by decide) (by decide) (r_isApartRule q2.1 q2.2 (fun h2 k2 => sel (fun t => w_X7_undo_J39 Q (B 0) x y z (B 0) t h2 (8 - 4) (450 - 288)) ?_)))⟩
      have d2 := d1.kp k2
      have f2 := f1.tr (mF.kp k2)
      unfold w_X7_undo_J39
      refine ⟨d2.has, r_refuse d2 rfl (by decide) (fun q => ?_) (fun q h3 d3 f3 => ?_)⟩
      · have q3 := nd q
        rw [if_pos q3] at k
        obtain ⟨w, rfl⟩ : ∃ w : Nat, x = w := ⟨x.toNat, by omega⟩
        obtain ⟨c, rfl⟩ : ∃ w : Nat, y = w := ⟨y.toNat, by omega⟩
        obtain ⟨e, rfl⟩ : ∃ w : Nat, z = w := ⟨z.toNat, by omega⟩
        simp only [Int.toNat_natCast] at k
        have hw : w < 3 := by omega
        have hl := d2.sl hw
        have l1 := code_ok c (by omega) (by omega)
        have l2 := code_ok e (by omega) (by omega)
        refine ⟨by decide, if_yes rfl (d2.f0 (d2.sh rfl hw (fun a ra na => gCall_mk (by decide) (by decide) (r_ofCode (c := c) rfl (by omega) (by omega) (fun p h3 g3 => gCall_mk (by decide) (by decide) (r_ofCode (c := e) rfl (by omega) (by omega) (fun q h4 g4 => gCall_mk (by decide) (by decide) ?_)))))))⟩
        have k4 := g3.2.1.tr g4.2.1
        refine r_steps (ra.on k4) (g3.2.2.on g4.2.1) g4.2.2 l1.1 l2.1 (by omega) (by omega) hl (fun h5 r xs k5 n5 rs hxs => ?_)
        have k6 := k4.tr k5
        have d5 := d2.kp k6
        have ra5 := ra.on k6
        have rp5 := (g3.2.2.on g4.2.1).on k5
        have rq5 := g4.2.2.on k5
        have f5 := f2.tr (mF.kp k6)
        have go : okR (codeW c) (codeW e) (st.S w) 0 = true → w_X7_undo_L103 Q 66 (B 0) (w : Int) a p q r ((0 : Nat) : Int) ((0 : Nat) : Int) h5 1 64 := fun h0k => by
          rw [if_pos h0k] at k
          exact r_undo_L103 d5 hw ra5 rp5 rq5 rs l1.1 l2.1 hxs h0k (k.on f5) 66 0 0 (Nat.zero_le _) (by omega) h0k (Nat.zero_add _)
        refine ra5.len ⟨by omega, ?_⟩
        by_cases z0 : (st.S w).length = 0
        · refine if_yes (by omega) ⟨66, go ?_⟩
          rw [okR_at l1.1 l2.1, decide_eq_true (by omega), Bool.true_or]
        · have sp := stepv_pos (u := st.S w) l1.1 l2.1 (show 0 < (st.S w).length by omega)
          have sr := stepv_R (codeW c) (codeW e) (st.S w) 0
          refine if_no (by omega) (rs.at (i := 0) rfl (hxs 0 (by omega)) (by omega) ⟨by omega, ?_⟩)
          by_cases z1 : stepv (codeW c) (codeW e) (st.S w) 0 = 0
          · have hno : ¬ (okR (codeW c) (codeW e) (st.S w) 0 = true) := fun z2 => by have := sp.mpr z2; omega
            rw [if_neg hno] at k
            exact if_yes z1 ⟨d5.has, r_cannot d5 (fun h6 d6 f6 => k.ok d6 (f5.tr f6) rfl)⟩
          · exact if_no z1 ⟨66, go (sp.mp (by omega))⟩
      · rw [if_neg (nn q)] at k
        exact ⟨by decide, if_no (by decide) (k.ex d3 (f2.tr f3))⟩
    · rw [if_neg (nn q)] at k
      exact ⟨by decide, if_no (by decide) (k.ex d2 (f1.tr f2))⟩
  · rw [m_undo, if_neg (nn q)] at k
    exact ⟨by decide, if_no (by decide) (k.ex d1 f1)⟩
end RV
/-! What is asked of the reference: the exact ones. -/
section RQ
variable {B : Nat → Nat} {h h0 : gaH} {st : GSt} {no : Int} {a b o : Nat} {u v : List Bool} {w g : Nat} {x y z : Int} {Q : Int → gaH → Prop}
theorem r_length (d : gM B h st no) (hx : gR x) (k : mRes B h Q (m_length st x)) : w_X7_length (B 0) x h Q := by
  unfold w_X7_length
  refine r_isNoSheet hx ⟨d.has, r_start d rfl (by decide) (fun q h1 d1 f1 => ?_) (fun q h1 d1 f1 => ?_)⟩
  · have q1 := nd q
    rw [m_length, if_pos q1] at k
    obtain ⟨w, rfl⟩ : ∃ w : Nat, x = w := ⟨x.toNat, by omega⟩
    exact ⟨by decide, if_yes rfl (d1.f0 (d1.sh rfl (by omega) (fun a ra na => ra.len (k.ok d1 f1 (by rw [Int.toNat_natCast])))))⟩
  · rw [m_length, if_neg (nn q)] at k
    exact ⟨by decide, if_no (by decide) (k.ex d1 f1)⟩
theorem r_isB (d : gM B h st no) (hx : gR x) (hy : gR y) (k : mRes B h Q (m_isB st x y)) : w_X7_isB (B 0) x y h Q := by
  unfold w_X7_isB
  refine ⟨d.has, r_isNoPlace d hx hy ⟨d.has, r_start d rfl (by decide) (fun q h1 d1 f1 => ?_) (fun q h1 d1 f1 => ?_)⟩⟩
  · obtain ⟨q1, q2⟩ := nd q
    rw [m_isB, if_pos q1, if_pos q2] at k
    obtain ⟨w, rfl⟩ : ∃ w : Nat, x = w := ⟨x.toNat, by omega⟩
    obtain ⟨p, rfl⟩ : ∃ p : Nat, y = p := ⟨y.toNat, by omega⟩
    simp only [Int.toNat_natCast] at k q2
    have hl := d1.sl (show w < 3 by omega)
    refine ⟨by decide, if_yes rfl (d1.f0 (d1.sh rfl (by omega) (fun a ra na => ra.at rfl (by omega) (by omega) ⟨b2i_R _, ?_⟩)))⟩
    have kk := fun r hr => k.ok (r := r) d1 f1 hr
    generalize (st.S w).getD p false = t at kk ⊢
    cases t
    · exact if_no (by decide) (kk _ rfl)
    · exact if_yes rfl (kk _ rfl)
  · have q1 := nn q
    have e : m_isB st x y = bad 1 st := by
      unfold m_isB
      by_cases z1 : okS x
      · rw [if_pos z1, if_neg (fun z2 => q1 ⟨z1, z2⟩)]
      · rw [if_neg z1]
    rw [e] at k
    exact ⟨by decide, if_no (by decide) (k.ex d1 f1)⟩
theorem r_count {b : Bool} (d : gM B h st no) (hx : gR x) (hy : y = b2i b) (k : mRes B h Q (m_count st x b)) : w_X7_count (B 0) x y h Q := by
  subst hy
  unfold w_X7_count
  refine r_isNoSheet hx ⟨d.has, r_start d rfl (by decide) (fun q h1 d1 f1 => ?_) (fun q h1 d1 f1 => ?_)⟩
  · have q1 := nd q
    rw [m_count, if_pos q1] at k
    obtain ⟨w, rfl⟩ : ∃ w : Nat, x = w := ⟨x.toNat, by omega⟩
    rw [Int.toNat_natCast] at k
    have hl := d1.sl (show w < 3 by omega)
    refine ⟨by decide, if_yes rfl (d1.f0 (d1.sh rfl (by omega) (fun a ra na => r_bs ra (by omega) ⟨b2i_R _, ?_⟩)))⟩
    cases b
    · exact if_yes rfl (d1.f0 (d1.sh rfl (by omega) (fun c rc nc => rc.len (k.ok d1 f1 rfl))))
    · exact if_no (by decide) (k.ok d1 f1 rfl)
  · rw [m_count, if_neg (nn q)] at k
    exact ⟨by decide, if_no (by decide) (k.ex d1 f1)⟩
theorem r_size {b : Bool} (d : gM B h st no) (hx : gR x) (hy : y = b2i b) (k : mRes B h Q (m_size st x b)) : w_X7_size (B 0) x y h Q := by
  unfold w_X7_size
  refine r_isNoGrowth hx ⟨d.has, r_start d rfl (by decide) (fun q h1 d1 f1 => ?_) (fun q h1 d1 f1 => ?_)⟩
  · have q1 := nd q
    rw [m_size, if_pos q1] at k
    obtain ⟨g, rfl⟩ : ∃ w : Nat, x = w := ⟨x.toNat, by omega⟩
    rw [Int.toNat_natCast] at k
    exact ⟨by decide, if_yes rfl ⟨d1.has, gCall_mk (by decide) (by decide) (r_word d1 (show g < 2 by omega) rfl hy (fun h2 o k2 n2 r2 => r2.len (k.ok (d1.kp k2) (f1.tr (mF.kp k2)) rfl)))⟩⟩
  · rw [m_size, if_neg (nn q)] at k
    exact ⟨by decide, if_no (by decide) (k.ex d1 f1)⟩
theorem gWd_le {ts : List Nat} (hok : gOk ts) (b : Bool) : (gWd ts b).length ≤ 64 := by
  unfold gWd
  split
  · exact hok.elder
  · exact hok.2
theorem r_ups {b : Bool} (d : gM B h st no) (hx : gR x) (hy : y = b2i b) (k : mRes B h Q (m_ups st x b)) : w_X7_ups (B 0) x y h Q := by
  unfold w_X7_ups
  refine r_isNoGrowth hx ⟨d.has, r_start d rfl (by decide) (fun q h1 d1 f1 => ?_) (fun q h1 d1 f1 => ?_)⟩
  · have q1 := nd q
    rw [m_ups, if_pos q1] at k
    obtain ⟨g, rfl⟩ : ∃ w : Nat, x = w := ⟨x.toNat, by omega⟩
    rw [Int.toNat_natCast] at k
    have hl := gWd_le (d1.ok (show g < 2 by omega)) b
    exact ⟨by decide, if_yes rfl ⟨d1.has, gCall_mk (by decide) (by decide) (r_word d1 (show g < 2 by omega) rfl hy (fun h2 o k2 n2 r2 => r_bs r2 (by omega) (k.ok (d1.kp k2) (f1.tr (mF.kp k2)) rfl)))⟩⟩
  · rw [m_ups, if_neg (nn q)] at k
    exact ⟨by decide, if_no (by decide) (k.ex d1 f1)⟩
theorem r_cross (d : gM B h st no) (hx : gR x) (k : mRes B h Q (m_cross st x)) : w_X7_cross (B 0) x h Q := by
  unfold w_X7_cross
  refine r_isNoGrowth hx ⟨d.has, r_start d rfl (by decide) (fun q h1 d1 f1 => ?_) (fun q h1 d1 f1 => ?_)⟩
  · have q1 := nd q
    rw [m_cross, if_pos q1] at k
    obtain ⟨g, rfl⟩ : ∃ w : Nat, x = w := ⟨x.toNat, by omega⟩
    rw [Int.toNat_natCast] at k
    have hok := d1.ok (show g < 2 by omega)
    have l1 := hok.2
    have l2 := hok.elder
    refine ⟨by decide, if_yes rfl ⟨d1.has, gCall_mk (by decide) (by decide) (r_word (b := false) d1 (show g < 2 by omega) rfl rfl (fun h2 o k2 n2 r2 => ⟨(d1.kp k2).has, gCall_mk (by decide) (by decide) (r_word (b := true) (d1.kp k2) (show g < 2 by omega) rfl rfl (fun h3 o3 k3 n3 r3 => ?_))⟩))⟩⟩
    exact r_crossOf (u := (grw (st.T g)).2) (v := (grw (st.T g)).1) (r2.on k3) r3 (by omega) (by omega) (k.ok (d1.kp (k2.tr k3)) (f1.tr (mF.kp (k2.tr k3))) rfl)
  · rw [m_cross, if_neg (nn q)] at k
    exact ⟨by decide, if_no (by decide) (k.ex d1 f1)⟩
theorem r_alike (d : gM B h st no) (hx : gR x) (k : mRes B h Q (m_alike st x)) : w_X7_alike (B 0) x h Q := by
  unfold w_X7_alike
  refine r_isNoGrowth hx ⟨d.has, r_start d rfl (by decide) (fun q h1 d1 f1 => ?_) (fun q h1 d1 f1 => ?_)⟩
  · have q1 := nd q
    rw [m_alike, if_pos q1] at k
    obtain ⟨g, rfl⟩ : ∃ w : Nat, x = w := ⟨x.toNat, by omega⟩
    rw [Int.toNat_natCast] at k
    have hok := d1.ok (show g < 2 by omega)
    refine ⟨by decide, if_yes rfl ⟨d1.has, gCall_mk (by decide) (by decide) (r_word (b := false) d1 (show g < 2 by omega) rfl rfl (fun h2 o k2 n2 r2 => ⟨(d1.kp k2).has, gCall_mk (by decide) (by decide) (r_word (b := true) (d1.kp k2) (show g < 2 by omega) rfl rfl (fun h3 o3 k3 n3 r3 => gCall_mk (by decide) (by decide) ?_))⟩))⟩⟩
    exact r_alikeOf (u := (grw (st.T g)).2) (v := (grw (st.T g)).1) (r2.on k3) r3 hok.2 hok.elder (grw_alike _) (fun h4 k4 => k.ok (d1.kp (k2.tr (k3.tr k4))) (f1.tr (mF.kp (k2.tr (k3.tr k4)))) rfl)
  · rw [m_alike, if_neg (nn q)] at k
    exact ⟨by decide, if_no (by decide) (k.ex d1 f1)⟩
theorem r_told (d : gM B h st no) (hx : 0 ≤ x ∧ x ≤ 3) (k : Q (st.C x.toNat) h) : w_X7_told (B 0) x h Q := by
  unfold w_X7_told
  refine ⟨by omega, ?_⟩
  by_cases c0 : x = 0
  · subst c0; exact if_yes rfl (d.cn (i := 0) rfl (by decide) k)
  refine if_no c0 ⟨by omega, ?_⟩
  by_cases c1 : x = 1
  · subst c1; exact if_yes rfl (d.cn (i := 1) rfl (by decide) k)
  refine if_no c1 ⟨by omega, ?_⟩
  by_cases c2 : x = 2
  · subst c2; exact if_yes rfl (d.cn (i := 2) rfl (by decide) k)
  refine if_no c2 ?_
  obtain rfl : x = 3 := by omega
  exact d.cn (i := 3) rfl (by decide) k
theorem r_house (d : gM B h st no) (hx : gR x) (k : mRes B h Q (m_house st x)) : w_X7_house (B 0) x h Q := by
  unfold w_X7_house
  refine r_isIn hx (by decide) (by decide) (sel (fun t => w_X7_house_J15 Q (B 0) x (B 0) t h) ?_)
  unfold w_X7_house_J15
  refine ⟨d.has, r_start d rfl (by decide) (fun q h1 d1 f1 => ?_) (fun q h1 d1 f1 => ?_)⟩
  · have q1 := nd q
    rw [m_house, if_pos q1] at k
    exact ⟨by decide, if_yes rfl ⟨d1.has, r_told d1 q1 (k.ok d1 f1 rfl)⟩⟩
  · rw [m_house, if_neg (nn q)] at k
    exact ⟨by decide, if_no (by decide) (k.ex d1 f1)⟩
theorem r_order_L (rp : mR h a u) (rq : mR h b v) (hu : u.length ≤ 64) (hv : v.length ≤ 64) : ∀ (n i : Nat), i ≤ u.length → i ≤ v.length → u.length - i < n → Q (cmpL (u.drop i) (v.drop i)) h → w_X7_order_L47 Q n a b (i : Int) h
  | 0, i, _, _, h1, _ => absurd h1 (Nat.not_lt_zero _)
  | n + 1, i, hi, hj, h1, k => by
    have fin : (u.length ≤ i ∨ v.length ≤ i) → w_X7_order_J98 Q a b h := fun q => by
      unfold w_X7_order_J98
      refine rp.len (rq.len ⟨by omega, by omega, ?_⟩)
      by_cases q1 : v.length ≤ u.length
      · refine if_yes (by omega) (rp.len (rq.len ⟨by omega, by omega, ?_⟩))
        by_cases q2 : u.length ≤ v.length
        · refine if_yes (by omega) ?_
          rw [List.drop_of_length_le (show u.length ≤ i by omega), List.drop_of_length_le (show v.length ≤ i by omega)] at k
          exact k
        · refine if_no (by omega) ?_
          rw [List.drop_of_length_le (show v.length ≤ i by omega), take_one (u := u) (i := i) (by omega)] at k
          exact k
      · refine if_no (by omega) ?_
        rw [List.drop_of_length_le (show u.length ≤ i by omega), take_one (u := v) (i := i) (by omega)] at k
        exact k
    unfold w_X7_order_L47
    refine rp.len ⟨by omega, by omega, ?_⟩
    by_cases q : u.length ≤ i
    · exact if_yes (by omega) (fin (Or.inl q))
    refine if_no (by omega) (rq.len ⟨by omega, by omega, ?_⟩)
    by_cases q2 : v.length ≤ i
    · exact if_yes (by omega) (fin (Or.inr q2))
    refine if_no (by omega) (rp.at rfl (by omega) (by omega) (rq.at rfl (by omega) (by omega) ⟨b2i_R _, b2i_R _, ?_⟩))
    rw [take_one (u := u) (i := i) (by omega), take_one (u := v) (i := i) (by omega)] at k
    unfold cmpL at k
    by_cases z : u.getD i false = v.getD i false
    · rw [if_pos z] at k
      refine if_yes (congrArg b2i z) ?_
      rw [show (i : Int) + 1 = ((i + 1 : Nat) : Int) by omega]
      exact r_order_L rp rq hu hv n (i + 1) (by omega) (by omega) (by omega) k
    · rw [if_neg z] at k
      refine if_no (fun q9 => z ((b2i_eq _ _).mp q9)) (rp.at rfl (by omega) (by omega) (rq.at rfl (by omega) (by omega) ⟨b2i_R _, b2i_R _, ?_⟩))
      generalize u.getD i false = y1 at k z ⊢
      generalize v.getD i false = y2 at k z ⊢
      cases y1 <;> cases y2
      · exact absurd rfl z
      · exact if_no (by decide) k
      · exact if_yes (by decide) k
      · exact absurd rfl z
theorem r_order (d : gM B h st no) (hx : gR x) (hy : gR y) (k : mRes B h Q (m_order st x y)) : w_X7_order (B 0) x y h Q := by
  have bd : ¬ (okS x ∧ okS y) → w_X7_order_J20 Q (B 0) x y (B 0) 1 h := fun q => by
    have e : m_order st x y = bad 1 st := by
      unfold m_order
      by_cases q1 : okS x
      · rw [if_pos q1, if_neg (fun q2 => q ⟨q1, q2⟩)]
      · rw [if_neg q1]
    rw [e] at k
    unfold w_X7_order_J20
    exact ⟨d.has, r_start d (bd := true) rfl (by decide) (fun q => by cases q) (fun q h1 d1 f1 => ⟨by decide, if_no (by decide) (k.ex d1 f1)⟩)⟩
  unfold w_X7_order
  refine r_isNoSheet hx ⟨b2i_R _, ?_⟩
  by_cases q1 : okS x
  · rw [decide_eq_true q1]
    refine if_yes rfl (r_isNoSheet hy ⟨b2i_R _, ?_⟩)
    by_cases q2 : okS y
    · rw [decide_eq_true q2]
      refine if_yes rfl ?_
      rw [m_order, if_pos q1, if_pos q2] at k
      unfold w_X7_order_J20
      refine ⟨d.has, r_start d (bd := false) rfl (by decide) (fun q h1 d1 f1 => ⟨by decide, if_yes rfl ?_⟩) (fun q => by cases q)⟩
      obtain ⟨w, rfl⟩ : ∃ w : Nat, x = w := ⟨x.toNat, by omega⟩
      obtain ⟨v, rfl⟩ : ∃ v : Nat, y = v := ⟨y.toNat, by omega⟩
      rw [Int.toNat_natCast, Int.toNat_natCast] at k
      have l1 := d1.sl (show w < 3 by omega)
      have l2 := d1.sl (show v < 3 by omega)
      exact d1.f0 (d1.sh rfl (by omega) (fun a ra na => d1.f0 (d1.sh rfl (by omega) (fun c rc nc => ⟨66, r_order_L ra rc l1 l2 66 0 (Nat.zero_le _) (Nat.zero_le _) (by omega) (k.ok d1 f1 rfl)⟩))))
    · rw [decide_eq_false q2]
      exact if_no (by decide) (bd (fun z => q2 z.2))
  · rw [decide_eq_false q1]
    exact if_no (by decide) (bd (fun z => q1 z.1))
end RQ
/-! What is asked of the reference: as far as it goes through. -/
section RW2
variable {B : Nat → Nat} {h h0 : gaH} {st : GSt} {no : Int} {a b o : Nat} {u v : List Bool} {w g : Nat} {x y z : Int} {Q : Int → gaH → Prop}
theorem r_areLike_L (r : mR h a u) (hl : u.length ≤ 64) {p q l : Nat} (hp : p ≤ 500) (hq : q ≤ 500) (hll : l ≤ 500) (h0 : l = 0 ∨ 0 < u.length) (k : ∀ b : Bool, Q (b2i b) h) : ∀ (n i : Nat), i ≤ l → l - i < n → w_X7_areLike_L3 Q n a (p : Int) (q : Int) (l : Int) (i : Int) h
  | 0, _, _, h9 => absurd h9 (Nat.not_lt_zero _)
  | n + 1, i, hi, h9 => by
    unfold w_X7_areLike_L3
    refine ⟨by omega, by omega, ?_⟩
    by_cases q1 : l ≤ i
    · exact if_yes (by omega) (k true)
    · have e1 : gRem ((p : Int) + (i : Int)) (u.length : Int) = (((p + i) % u.length : Nat) : Int) := by
        have := gRem_nat (a := p + i) (b := u.length) (by omega) (by omega)
        rw [← this]; congr 1
      have e2 : gRem ((q : Int) + (i : Int)) (u.length : Int) = (((q + i) % u.length : Nat) : Int) := by
        have := gRem_nat (a := q + i) (b := u.length) (by omega) (by omega)
        rw [← this]; congr 1
      refine if_no (by omega) (r.len ⟨by omega, by omega, ?_⟩)
      rw [e1]
      refine r.at rfl (Nat.mod_lt _ (by omega)) (by omega) (r.len ⟨by omega, by omega, ?_⟩)
      rw [e2]
      refine r.at rfl (Nat.mod_lt _ (by omega)) (by omega) ⟨b2i_R _, b2i_R _, ite_both (fun _ => ?_) (fun _ => k false)⟩
      rw [show (i : Int) + 1 = ((i + 1 : Nat) : Int) by omega]
      exact r_areLike_L r hl hp hq hll h0 k n (i + 1) (by omega) (by omega)
theorem r_areLike (r : mR h a u) (hl : u.length ≤ 64) {p q l : Nat} (hx : x = (p : Int)) (hy : y = (q : Int)) (hz : z = (l : Int)) (hp : p ≤ 500) (hq : q ≤ 500) (hll : l ≤ 500) (h0 : l = 0 ∨ 0 < u.length) (k : ∀ b : Bool, Q (b2i b) h) : w_X7_areLike a x y z h Q := by
  subst hx; subst hy; subst hz
  exact ⟨l + 1, r_areLike_L r hl hp hq hll h0 k _ 0 (Nat.zero_le _) (by omega)⟩
theorem r_isMir_L (r : mR h a u) (hl : u.length ≤ 64) {f t : Nat} (hf : f ≤ t) (ht : t ≤ u.length) (k : ∀ b : Bool, Q (b2i b) h) : ∀ (n i : Nat), i ≤ t - f → t - f - i < n → w_X7_isMirrored_L2 Q n a (f : Int) (t : Int) (i : Int) h
  | 0, _, _, h9 => absurd h9 (Nat.not_lt_zero _)
  | n + 1, i, hi, h9 => by
    unfold w_X7_isMirrored_L2
    refine ⟨by omega, by omega, ?_⟩
    by_cases q1 : t - f ≤ i
    · exact if_yes (by omega) (k true)
    · refine if_no (by omega) (r.at (i := f + i) (by omega) (by omega) (by omega) (r.at (i := t - 1 - i) (by omega) (by omega) (by omega) ⟨b2i_R _, b2i_R _, ite_both (fun _ => ?_) (fun _ => k false)⟩))
      rw [show (i : Int) + 1 = ((i + 1 : Nat) : Int) by omega]
      exact r_isMir_L r hl hf ht k n (i + 1) (by omega) (by omega)
theorem r_isMir (r : mR h a u) (hl : u.length ≤ 64) {f t : Nat} (hx : x = (f : Int)) (hy : y = (t : Int)) (hf : f ≤ t) (ht : t ≤ u.length) (k : ∀ b : Bool, Q (b2i b) h) : w_X7_isMirrored a x y h Q := by
  subst hx; subst hy
  exact ⟨t + 1, r_isMir_L r hl hf ht k _ 0 (Nat.zero_le _) (by omega)⟩
theorem bb {c : Bool} {F1 F0 : Prop} (k1 : F1) (k0 : F0) : gR (b2i c) ∧ (if b2i c = 0 then F0 else F1) := ⟨b2i_R _, ite_both (fun _ => k0) (fun _ => k1)⟩
theorem r_times_L23 {K4 : Nat → Int → Int → gaH → Prop} {K12 : Nat → Int → Int → Int → gaH → Prop} (r : mR h a u) (hl : u.length ≤ 64) {s p : Nat} (hp : 1 ≤ p ∧ p ≤ 64) (hs : s ≤ 64) (k : ∀ m : Nat, m ≤ 65 → K12 a (m : Int) (s : Int) ((p : Int) + 1) h) : ∀ (n c m : Nat), 1 ≤ c → c ≤ 64 → 65 - c < n → m ≤ 65 → s + c * p ≤ u.length → w_X7_timesOf_L23 Q K4 K12 n a (m : Int) (s : Int) (p : Int) (c : Int) h
  | 0, _, _, _, _, h9, _, _ => absurd h9 (Nat.not_lt_zero _)
  | n + 1, c, m, h1, h2, h9, hm, hc => by
    have em : ((c : Int) + 1) * (p : Int) = (((c + 1) * p : Nat) : Int) := by push_cast; rfl
    have em2 : (c : Int) * (p : Int) = ((c * p : Nat) : Int) := by push_cast; rfl
    have b1 : (c + 1) * p ≤ 65 * 64 := Nat.mul_le_mul (by omega) hp.2
    have b2 : c + 1 ≤ (c + 1) * p := Nat.le_mul_of_pos_right _ hp.1
    have j : w_X7_timesOf_J57 Q K4 K12 a (m : Int) (s : Int) (p : Int) (c : Int) h := by
      unfold w_X7_timesOf_J57
      refine ⟨by omega, by omega, ?_⟩
      rw [show max (m : Int) (c : Int) = ((max m c : Nat) : Int) by omega]
      exact k _ (by omega)
    unfold w_X7_timesOf_L23
    rw [em, em2]
    refine r.len ⟨by omega, by omega, ?_⟩
    by_cases q : u.length < s + (c + 1) * p
    · exact if_yes (by omega) j
    · refine if_no (by omega) (r_areLike r hl rfl (show (s : Int) + ((c * p : Nat) : Int) = ((s + c * p : Nat) : Int) by omega) rfl (by omega) (by omega) (by omega) (by omega) (fun t => bb ?_ j))
      rw [show (c : Int) + 1 = ((c + 1 : Nat) : Int) by omega]
      exact r_times_L23 r hl hp hs k n (c + 1) m (by omega) (by omega) (by omega) hm (by omega)
theorem r_times_L12 {K4 : Nat → Int → Int → gaH → Prop} (r : mR h a u) (hl : u.length ≤ 64) {s : Nat} (hs : s ≤ 64) (k : ∀ m : Nat, m ≤ 65 → K4 a (m : Int) ((s : Int) + 1) h) : ∀ (n p m : Nat), 1 ≤ p → p ≤ 65 → 66 - p < n → m ≤ 65 → w_X7_timesOf_L12 Q K4 n a (m : Int) (s : Int) (p : Int) h
  | 0, _, _, _, _, h9, _ => absurd h9 (Nat.not_lt_zero _)
  | n + 1, p, m, h1, h2, h9, hm => by
    unfold w_X7_timesOf_L12
    refine r.len ⟨by omega, by omega, ?_⟩
    by_cases q : u.length < s + p
    · exact if_yes (by omega) (k m hm)
    · refine if_no (by omega) ⟨66, r_times_L23 (p := p) r hl ⟨h1, by omega⟩ hs (fun m' hm' => ?_) 66 1 m (by decide) (by decide) (by decide) hm (by omega)⟩
      rw [show (p : Int) + 1 = ((p + 1 : Nat) : Int) by omega]
      exact r_times_L12 r hl hs k n (p + 1) m' (by omega) (by omega) (by omega) hm'
theorem r_times_L4 (r : mR h a u) (hl : u.length ≤ 64) (k : ∀ r : Int, Q r h) : ∀ (n s m : Nat), s ≤ u.length → u.length - s < n → m ≤ 65 → w_X7_timesOf_L4 Q n a (m : Int) (s : Int) h
  | 0, _, _, _, h9, _ => absurd h9 (Nat.not_lt_zero _)
  | n + 1, s, m, h1, h9, hm => by
    unfold w_X7_timesOf_L4
    refine r.len ⟨by omega, by omega, ?_⟩
    by_cases q : u.length ≤ s
    · exact if_yes (by omega) (k _)
    · refine if_no (by omega) ⟨67, r_times_L12 r hl (by omega) (fun m' hm' => ?_) 67 1 m (by decide) (by decide) (by decide) hm⟩
      rw [show (s : Int) + 1 = ((s + 1 : Nat) : Int) by omega]
      exact r_times_L4 r hl k n (s + 1) m' (by omega) (by omega) hm'
theorem r_timesOf (r : mR h a u) (hl : u.length ≤ 64) (k : ∀ r : Int, Q r h) : w_X7_timesOf a h Q :=
  ⟨65, r_times_L4 r hl k 65 0 0 (Nat.zero_le _) (by omega) (Nat.zero_le _)⟩
theorem r_over_L12 {K4 : Nat → Int → Int → gaH → Prop} (r : mR h a u) (hl : u.length ≤ 64) {s : Nat} (hs : s ≤ 64) (k : ∀ m : Int, K4 a m ((s : Int) + 1) h) : ∀ (n p : Nat) (m : Int), p ≤ 65 → 66 - p < n → w_X7_overlapsOf_L12 Q K4 n a m (s : Int) (p : Int) h
  | 0, _, _, _, h9 => absurd h9 (Nat.not_lt_zero _)
  | n + 1, p, m, h2, h9 => by
    unfold w_X7_overlapsOf_L12
    refine r.len ⟨by omega, by omega, ?_⟩
    by_cases q : u.length ≤ s + 2 * p
    · exact if_yes (by omega) (k m)
    · refine if_no (by omega) (r_areLike r hl rfl (show (s : Int) + (p : Int) = ((s + p : Nat) : Int) by omega) (show (p : Int) + 1 = ((p + 1 : Nat) : Int) by omega) (by omega) (by omega) (by omega) (by omega) (fun t => r_one rfl ?_))
      rw [show (p : Int) + 1 = ((p + 1 : Nat) : Int) by omega]
      exact r_over_L12 r hl hs k n (p + 1) _ (by omega) (by omega)
theorem r_over_L4 (r : mR h a u) (hl : u.length ≤ 64) (k : ∀ r : Int, Q r h) : ∀ (n s : Nat) (m : Int), s ≤ u.length → u.length - s < n → w_X7_overlapsOf_L4 Q n a m (s : Int) h
  | 0, _, _, _, h9 => absurd h9 (Nat.not_lt_zero _)
  | n + 1, s, m, h1, h9 => by
    unfold w_X7_overlapsOf_L4
    refine r.len ⟨by omega, by omega, ?_⟩
    by_cases q : u.length ≤ s
    · exact if_yes (by omega) (k _)
    · refine if_no (by omega) ⟨67, r_over_L12 r hl (by omega) (fun m' => ?_) 67 1 m (by decide) (by decide)⟩
      rw [show (s : Int) + 1 = ((s + 1 : Nat) : Int) by omega]
      exact r_over_L4 r hl k n (s + 1) m' (by omega) (by omega)
theorem r_overlapsOf (r : mR h a u) (hl : u.length ≤ 64) (k : ∀ r : Int, Q r h) : w_X7_overlapsOf a h Q :=
  ⟨65, r_over_L4 r hl k 65 0 0 (Nat.zero_le _) (by omega)⟩
theorem r_folds_L4 (r : mR h a u) (hl : u.length ≤ 64) (k : ∀ r : Int, Q r h) : ∀ (n s : Nat) (m : Int), s ≤ u.length → u.length - s < n → w_X7_foldsOf_L4 Q n a m (s : Int) h
  | 0, _, _, _, h9 => absurd h9 (Nat.not_lt_zero _)
  | n + 1, s, m, h1, h9 => by
    unfold w_X7_foldsOf_L4
    refine r.len ⟨by omega, by omega, ?_⟩
    by_cases q : u.length ≤ s
    · exact if_yes (by omega) (k _)
    · have go : ∀ c : Bool, w_X7_foldsOf_J35 Q (w_X7_foldsOf_L4 Q n) a (s : Int) m (b2i c) h := fun c => by
        unfold w_X7_foldsOf_J35
        refine r_one rfl ?_
        rw [show (s : Int) + 1 = ((s + 1 : Nat) : Int) by omega]
        exact r_folds_L4 r hl k n (s + 1) _ (by omega) (by omega)
      have g0 : w_X7_foldsOf_J34 Q (w_X7_foldsOf_L4 Q n) a (s : Int) m h := go false
      refine if_no (by omega) (r_isMir (f := 0) (t := s) r hl rfl rfl (Nat.zero_le _) (by omega) (fun t => bb (r.len (r_isMir (f := s) (t := u.length) r hl rfl rfl (by omega) (Nat.le_refl _) (fun t2 => bb (go true) g0))) g0))
theorem r_foldsOf (r : mR h a u) (hl : u.length ≤ 64) (k : ∀ r : Int, Q r h) : w_X7_foldsOf a h Q :=
  ⟨65, r_folds_L4 r hl k 65 0 0 (Nat.zero_le _) (by omega)⟩
theorem r_least_L12 {K4 : Nat → Int → Int → gaH → Prop} (r : mR h a u) (hl : u.length ≤ 64) {m s : Nat} (hm : m ≤ 64) (hs : s ≤ 64) (k : ∀ m' : Nat, m' ≤ 64 → K4 a (m' : Int) ((s : Int) + 1) h) : ∀ (n i : Nat), i ≤ u.length → u.length - i < n → w_X7_leastOf_L12 Q K4 n a (m : Int) (s : Int) (i : Int) h
  | 0, _, _, h9 => absurd h9 (Nat.not_lt_zero _)
  | n + 1, i, h1, h9 => by
    have e2 : 0 < u.length → gRem ((s : Int) + (i : Int)) (u.length : Int) = (((s + i) % u.length : Nat) : Int) := fun hp => by
      have := gRem_nat (a := s + i) (b := u.length) (by omega) (by omega)
      rw [← this]; congr 1
    have e1 : 0 < u.length → gRem ((m : Int) + (i : Int)) (u.length : Int) = (((m + i) % u.length : Nat) : Int) := fun hp => by
      have := gRem_nat (a := m + i) (b := u.length) (by omega) (by omega)
      rw [← this]; congr 1
    have j : w_X7_leastOf_J43 Q K4 a (m : Int) (s : Int) (i : Int) h := by
      unfold w_X7_leastOf_J43
      refine r.len ⟨by omega, by omega, ?_⟩
      by_cases q : u.length ≤ i
      · exact if_yes (by omega) (k m hm)
      · refine if_no (by omega) (r.len ⟨by omega, by omega, ?_⟩)
        rw [e2 (by omega)]
        exact r.at rfl (Nat.mod_lt _ (by omega)) (by omega) ⟨b2i_R _, ite_both (fun _ => k s hs) (fun _ => k m hm)⟩
    unfold w_X7_leastOf_L12
    refine r.len ⟨by omega, by omega, ?_⟩
    by_cases q : u.length ≤ i
    · exact if_yes (by omega) j
    · refine if_no (by omega) (r.len ⟨by omega, by omega, ?_⟩)
      rw [e1 (by omega)]
      refine r.at rfl (Nat.mod_lt _ (by omega)) (by omega) (r.len ⟨by omega, by omega, ?_⟩)
      rw [e2 (by omega)]
      refine r.at rfl (Nat.mod_lt _ (by omega)) (by omega) ⟨b2i_R _, b2i_R _, ite_both (fun _ => ?_) (fun _ => j)⟩
      rw [show (i : Int) + 1 = ((i + 1 : Nat) : Int) by omega]
      exact r_least_L12 r hl hm hs k n (i + 1) (by omega) (by omega)
theorem r_least_L4 (r : mR h a u) (hl : u.length ≤ 64) (k : ∀ r : Int, Q r h) : ∀ (n s m : Nat), s ≤ 65 → 66 - s < n → m ≤ 64 → w_X7_leastOf_L4 Q n a (m : Int) (s : Int) h
  | 0, _, _, _, h9, _ => absurd h9 (Nat.not_lt_zero _)
  | n + 1, s, m, h1, h9, hm => by
    unfold w_X7_leastOf_L4
    refine r.len ⟨by omega, by omega, ?_⟩
    by_cases q : u.length ≤ s
    · exact if_yes (by omega) (k _)
    · refine if_no (by omega) ⟨66, r_least_L12 r hl hm (by omega) (fun m' hm' => ?_) 66 0 (Nat.zero_le _) (by omega)⟩
      rw [show (s : Int) + 1 = ((s + 1 : Nat) : Int) by omega]
      exact r_least_L4 r hl k n (s + 1) m' (by omega) (by omega) hm'
theorem r_leastOf (r : mR h a u) (hl : u.length ≤ 64) (k : ∀ r : Int, Q r h) : w_X7_leastOf a h Q :=
  ⟨67, r_least_L4 r hl k 67 1 0 (by decide) (by decide) (Nat.zero_le _)⟩
end RW2
/-! What is asked of the reference: the others, as far as they go through. -/
section RW3
variable {B : Nat → Nat} {h h0 : gaH} {st : GSt} {no : Int} {a b o : Nat} {u v : List Bool} {w g : Nat} {x y z : Int} {Q : Int → gaH → Prop}
theorem r_times (d : gM B h st no) (hx : gR x) (k : ∀ c, mSafe B h Q st c) : w_X7_times (B 0) x h Q := by
  unfold w_X7_times
  refine r_isNoSheet hx ⟨d.has, r_start d rfl (by decide) (fun q h1 d1 f1 => ?_) (fun q h1 d1 f1 => ?_)⟩
  · obtain ⟨w, rfl⟩ : ∃ w : Nat, x = w := ⟨x.toNat, by have := nd q; omega⟩
    have hw : w < 3 := by have := nd q; omega
    exact ⟨by decide, if_yes rfl (d1.f0 (d1.sh rfl hw (fun a ra na => r_timesOf ra (d1.sl hw) (fun r => k 0 h1 r d1 f1))))⟩
  · exact ⟨by decide, if_no (by decide) (k 1 h1 _ d1 f1)⟩
theorem r_overlaps (d : gM B h st no) (hx : gR x) (k : ∀ c, mSafe B h Q st c) : w_X7_overlaps (B 0) x h Q := by
  unfold w_X7_overlaps
  refine r_isNoSheet hx ⟨d.has, r_start d rfl (by decide) (fun q h1 d1 f1 => ?_) (fun q h1 d1 f1 => ?_)⟩
  · obtain ⟨w, rfl⟩ : ∃ w : Nat, x = w := ⟨x.toNat, by have := nd q; omega⟩
    have hw : w < 3 := by have := nd q; omega
    exact ⟨by decide, if_yes rfl (d1.f0 (d1.sh rfl hw (fun a ra na => r_overlapsOf ra (d1.sl hw) (fun r => k 0 h1 r d1 f1))))⟩
  · exact ⟨by decide, if_no (by decide) (k 1 h1 _ d1 f1)⟩
theorem r_folds (d : gM B h st no) (hx : gR x) (k : ∀ c, mSafe B h Q st c) : w_X7_folds (B 0) x h Q := by
  unfold w_X7_folds
  refine r_isNoSheet hx ⟨d.has, r_start d rfl (by decide) (fun q h1 d1 f1 => ?_) (fun q h1 d1 f1 => ?_)⟩
  · obtain ⟨w, rfl⟩ : ∃ w : Nat, x = w := ⟨x.toNat, by have := nd q; omega⟩
    have hw : w < 3 := by have := nd q; omega
    exact ⟨by decide, if_yes rfl (d1.f0 (d1.sh rfl hw (fun a ra na => r_foldsOf ra (d1.sl hw) (fun r => k 0 h1 r d1 f1))))⟩
  · exact ⟨by decide, if_no (by decide) (k 1 h1 _ d1 f1)⟩
theorem r_least (d : gM B h st no) (hx : gR x) (k : ∀ c, mSafe B h Q st c) : w_X7_least (B 0) x h Q := by
  unfold w_X7_least
  refine r_isNoSheet hx ⟨d.has, r_start d rfl (by decide) (fun q h1 d1 f1 => ?_) (fun q h1 d1 f1 => ?_)⟩
  · obtain ⟨w, rfl⟩ : ∃ w : Nat, x = w := ⟨x.toNat, by have := nd q; omega⟩
    have hw : w < 3 := by have := nd q; omega
    exact ⟨by decide, if_yes rfl (d1.f0 (d1.sh rfl hw (fun a ra na => r_leastOf ra (d1.sl hw) (fun r => k 0 h1 r d1 f1))))⟩
  · exact ⟨by decide, if_no (by decide) (k 1 h1 _ d1 f1)⟩
theorem r_isMirrored (d : gM B h st no) (hx : gR x) (k : ∀ c, mSafe B h Q st c) : w_X7_isMirrored_ (B 0) x h Q := by
  unfold w_X7_isMirrored_
  refine r_isNoSheet hx ⟨d.has, r_start d rfl (by decide) (fun q h1 d1 f1 => ?_) (fun q h1 d1 f1 => ?_)⟩
  · obtain ⟨w, rfl⟩ : ∃ w : Nat, x = w := ⟨x.toNat, by have := nd q; omega⟩
    have hw : w < 3 := by have := nd q; omega
    have hl := d1.sl hw
    exact ⟨by decide, if_yes rfl (d1.f0 (d1.sh rfl hw (fun a ra na => d1.f0 (d1.sh rfl hw (fun c rc nc => rc.len (r_isMir (f := 0) (t := (st.S w).length) ra hl rfl rfl (Nat.zero_le _) (Nat.le_refl _) (fun t => bb (k 0 h1 _ d1 f1) (k 0 h1 _ d1 f1))))))))⟩
  · exact ⟨by decide, if_no (by decide) (k 1 h1 _ d1 f1)⟩
theorem r_parts {l : Nat} {c : Bool} (r : mR h a u) (hx : x = (l : Int)) (hy : y = b2i c) (hul : u.length ≤ 64) (hl : l ≤ u.length) (k : ∀ n : Nat, n ≤ 65 → (u.length = 0 → n ≤ 1) → Q (n : Int) h) : w_X7_parts a x y h Q := by
  subst hx; subst hy
  have j : w_X7_parts_J14 Q a (l : Int) h := by
    unfold w_X7_parts_J14
    refine r.len ?_
    rw [show (u.length : Int) - (l : Int) + 1 = ((u.length - l + 1 : Nat) : Int) by omega]
    exact k _ (by omega) (by omega)
  unfold w_X7_parts
  refine ⟨b2i_R _, ite_both (fun _ => j) (fun _ => r.len ⟨by omega, ite_both (fun _ => j) (fun q => r.len (k _ (by omega) (by omega)))⟩)⟩
theorem r_kinds_L74 {K56 : Int → Int → Nat → Int → Int → gaH → Prop} {l : Nat} {c y5 : Int} (r : mR h a u) (hul : u.length ≤ 64) (hl : l ≤ u.length) {s : Nat} (hs : s ≤ 65) (hs0 : u.length = 0 → s ≤ 0) (k : ∀ y : Int, K56 (l : Int) c a y ((s : Int) + 1) h) : ∀ (n i : Nat) (t : Bool), i ≤ s → s - i < n → w_X7_kinds_L74 Q K56 n (l : Int) c a y5 (s : Int) (b2i t) (i : Int) h
  | 0, _, _, _, h9 => absurd h9 (Nat.not_lt_zero _)
  | n + 1, i, t, h1, h9 => by
    unfold w_X7_kinds_L74
    refine ⟨by omega, by omega, ?_⟩
    by_cases q : s ≤ i
    · exact if_yes (by omega) (r_one rfl (k _))
    · refine if_no (by omega) (r_areLike r hul rfl rfl rfl (by omega) (by omega) (by omega) (by omega) (fun t2 => ?_))
      rw [show (i : Int) + 1 = ((i + 1 : Nat) : Int) by omega]
      have e1 : gAnd (b2i t) 1 = b2i (t && true) := gAnd_bit t true
      have e0 : gAnd (b2i t) 0 = b2i (t && false) := gAnd_bit t false
      rw [e1, e0]
      exact bb (r_kinds_L74 r hul hl hs hs0 k n (i + 1) _ (by omega) (by omega)) (r_kinds_L74 r hul hl hs hs0 k n (i + 1) _ (by omega) (by omega))
theorem r_kinds_L56 {l : Nat} {c : Bool} (r : mR h a u) (hul : u.length ≤ 64) (hl : l ≤ u.length) (k : ∀ r : Int, Q r h) : ∀ (n s : Nat) (y5 : Int), s ≤ 65 → 66 - s < n → w_X7_kinds_L56 Q n (l : Int) (b2i c) a y5 (s : Int) h
  | 0, _, _, _, h9 => absurd h9 (Nat.not_lt_zero _)
  | n + 1, s, y5, h1, h9 => by
    unfold w_X7_kinds_L56
    refine r_parts r rfl rfl hul hl (fun m hm h0 => ⟨by omega, by omega, ?_⟩)
    by_cases q : m ≤ s
    · exact if_yes (by omega) (k _)
    · refine if_no (by omega) ⟨67, r_kinds_L74 r hul hl (by omega) (fun q0 => by have := h0 q0; omega) (fun y => ?_) 67 0 true (Nat.zero_le _) (by omega)⟩
      rw [show (s : Int) + 1 = ((s + 1 : Nat) : Int) by omega]
      exact r_kinds_L56 r hul hl k n (s + 1) y (by omega) (by omega)
theorem r_spread_L77 {K59 : Int → Int → Nat → Int → Int → Int → gaH → Prop} {l : Nat} {c : Int} (r : mR h a u) (hul : u.length ≤ 64) (hl : l ≤ u.length) {s m f : Nat} (hs : s ≤ 65) (hm : m ≤ 64) (hf : f ≤ 64) (k : ∀ m' f' : Nat, m' ≤ 64 → f' ≤ 64 → K59 (l : Int) c a (m' : Int) (f' : Int) ((s : Int) + 1) h) : ∀ (n i t : Nat), i ≤ l → l - i < n → t ≤ i → w_X7_spread_L77 Q K59 n (l : Int) c a (m : Int) (f : Int) (s : Int) (t : Int) (i : Int) h
  | 0, _, _, _, h9, _ => absurd h9 (Nat.not_lt_zero _)
  | n + 1, i, t, h1, h9, ht => by
    unfold w_X7_spread_L77
    refine ⟨by omega, by omega, ?_⟩
    by_cases q : l ≤ i
    · refine if_yes (by omega) ⟨by omega, by omega, by omega, by omega, ?_⟩
      rw [show max (m : Int) (t : Int) = ((max m t : Nat) : Int) by omega, show min (f : Int) (t : Int) = ((min f t : Nat) : Int) by omega]
      exact k _ _ (by omega) (by omega)
    · have e1 : gRem ((s : Int) + (i : Int)) (u.length : Int) = (((s + i) % u.length : Nat) : Int) := by
        have := gRem_nat (a := s + i) (b := u.length) (by omega) (by omega)
        rw [← this]; congr 1
      refine if_no (by omega) (r.len ⟨by omega, by omega, ?_⟩)
      rw [e1]
      refine r.at rfl (Nat.mod_lt _ (by omega)) (by omega) ?_
      rw [show (i : Int) + 1 = ((i + 1 : Nat) : Int) by omega]
      generalize u.getD ((s + i) % u.length) false = t2
      cases t2
      · rw [show (t : Int) + b2i false = (t : Int) by simp [b2i]]
        exact r_spread_L77 r hul hl hs hm hf k n (i + 1) t (by omega) (by omega) (by omega)
      · rw [show (t : Int) + b2i true = ((t + 1 : Nat) : Int) by simp [b2i]]
        exact r_spread_L77 r hul hl hs hm hf k n (i + 1) (t + 1) (by omega) (by omega) (by omega)
theorem r_spread_L59 {l : Nat} {c : Bool} (r : mR h a u) (hul : u.length ≤ 64) (hl : l ≤ u.length) (k : ∀ r : Int, Q r h) : ∀ (n s m f : Nat), s ≤ 65 → 66 - s < n → m ≤ 64 → f ≤ 64 → w_X7_spread_L59 Q n (l : Int) (b2i c) a (m : Int) (f : Int) (s : Int) h
  | 0, _, _, _, _, h9, _, _ => absurd h9 (Nat.not_lt_zero _)
  | n + 1, s, m, f, h1, h9, hm, hf => by
    unfold w_X7_spread_L59
    refine r_parts r rfl rfl hul hl (fun p hp h0 => ⟨by omega, by omega, ?_⟩)
    by_cases q : p ≤ s
    · exact if_yes (by omega) (k _)
    · refine if_no (by omega) ⟨66, r_spread_L77 r hul hl h1 hm hf (fun m' f' hm' hf' => ?_) 66 0 0 (Nat.zero_le _) (by omega) (Nat.le_refl _)⟩
      rw [show (s : Int) + 1 = ((s + 1 : Nat) : Int) by omega]
      exact r_spread_L59 r hul hl k n (s + 1) m' f' (by omega) (by omega) hm' hf'

theorem r_kinds {b : Bool} (d : gM B h st no) (hx : gR x) (hy : gR y) (hz : z = b2i b) (k : ∀ c, mSafe B h Q st c) : w_X7_kinds (B 0) x y z h Q := by
  subst hz
  unfold w_X7_kinds
  refine r_isNoSheet hx ⟨d.has, r_start d rfl (by decide) (fun q h1 d1 f1 => ?_) (fun q h1 d1 f1 => ?_)⟩
  · obtain ⟨w, rfl⟩ : ∃ w : Nat, x = w := ⟨x.toNat, by have := nd q; omega⟩
    have hw : w < 3 := by have := nd q; omega
    have hl := d1.sl hw
    refine ⟨by decide, if_yes rfl (d1.f0 (d1.sh rfl hw (fun a ra na => ra.len (r_isIn hy (by decide) (by omega) (sel (fun t => w_X7_kinds_J33 Q (B 0) (w : Int) y (b2i b) (B 0) t h1) ?_)))))⟩
    unfold w_X7_kinds_J33
    refine ⟨d1.has, r_refuse d1 rfl (by decide) (fun q => ?_) (fun q h2 d2 f2 => ?_)⟩
    · have q2 := nd q
      obtain ⟨l, rfl⟩ : ∃ w : Nat, y = w := ⟨y.toNat, by omega⟩
      exact ⟨by decide, if_yes rfl (d1.f0 (d1.sh rfl hw (fun a ra na => ⟨67, r_kinds_L56 ra hl (by omega) (fun r => k 0 h1 r d1 f1) 67 0 0 (Nat.zero_le _) (by decide)⟩)))⟩
    · exact ⟨by decide, if_no (by decide) (k 2 h2 _ d2 (f1.tr f2))⟩
  · exact ⟨by decide, if_no (by decide) (k 1 h1 _ d1 f1)⟩
theorem r_spread {b : Bool} (d : gM B h st no) (hx : gR x) (hy : gR y) (hz : z = b2i b) (k : ∀ c, mSafe B h Q st c) : w_X7_spread (B 0) x y z h Q := by
  subst hz
  unfold w_X7_spread
  refine r_isNoSheet hx ⟨d.has, r_start d rfl (by decide) (fun q h1 d1 f1 => ?_) (fun q h1 d1 f1 => ?_)⟩
  · obtain ⟨w, rfl⟩ : ∃ w : Nat, x = w := ⟨x.toNat, by have := nd q; omega⟩
    have hw : w < 3 := by have := nd q; omega
    have hl := d1.sl hw
    refine ⟨by decide, if_yes rfl (d1.f0 (d1.sh rfl hw (fun a ra na => ra.len (r_isIn hy (by decide) (by omega) (sel (fun t => w_X7_spread_J33 Q (B 0) (w : Int) y (b2i b) (B 0) t h1) ?_)))))⟩
    unfold w_X7_spread_J33
    refine ⟨d1.has, r_refuse d1 rfl (by decide) (fun q => ?_) (fun q h2 d2 f2 => ?_)⟩
    · have q2 := nd q
      obtain ⟨l, rfl⟩ : ∃ w : Nat, y = w := ⟨y.toNat, by omega⟩
      exact ⟨by decide, if_yes rfl (d1.f0 (d1.sh rfl hw (fun a ra na => ⟨67, r_spread_L59 ra hl (by omega) (fun r => k 0 h1 r d1 f1) 67 0 0 l (Nat.zero_le _) (by decide) (Nat.zero_le _) (by omega)⟩)))⟩
    · exact ⟨by decide, if_no (by decide) (k 2 h2 _ d2 (f1.tr f2))⟩
  · exact ⟨by decide, if_no (by decide) (k 1 h1 _ d1 f1)⟩
theorem r_mirrors_L69 {K26 : Nat → Int → Int → gaH → Prop} {K36 : Nat → Int → Int → Int → gaH → Prop} (r : mR h a u) (hul : u.length ≤ 64) {s l : Nat} {m : Int} (hs : s ≤ 65) (hl : l ≤ 65) (h0 : 0 < u.length) (k : ∀ m' : Int, K36 a m' (l : Int) ((s : Int) + 1) h) : ∀ (n i : Nat) (t : Bool), i ≤ s → s - i < n → w_X7_mirrors_L69 Q K26 K36 n a m (l : Int) (s : Int) (b2i t) (i : Int) h
  | 0, _, _, _, h9 => absurd h9 (Nat.not_lt_zero _)
  | n + 1, i, t, h1, h9 => by
    have j : w_X7_mirrors_J107 Q K26 K36 a m (l : Int) (s : Int) (b2i t) h := by
      unfold w_X7_mirrors_J107
      exact r_one rfl (k _)
    unfold w_X7_mirrors_L69
    refine ⟨by omega, by omega, ?_⟩
    by_cases q : s ≤ i
    · exact if_yes (by omega) j
    · refine if_no (by omega) ⟨b2i_R _, ite_both (fun _ => j) (fun _ => r_areLike r hul rfl rfl rfl (by omega) (by omega) (by omega) (by omega) (fun t2 => ?_))⟩
      rw [show (i : Int) + 1 = ((i + 1 : Nat) : Int) by omega]
      exact bb (r_mirrors_L69 r hul hs hl h0 k n (i + 1) false (by omega) (by omega)) (r_mirrors_L69 r hul hs hl h0 k n (i + 1) true (by omega) (by omega))
theorem r_mirrors_L36 {K26 : Nat → Int → Int → gaH → Prop} (r : mR h a u) (hul : u.length ≤ 64) {l : Nat} (hl1 : 1 ≤ l) (hl : l ≤ 64) (k : ∀ m' : Int, K26 a m' ((l : Int) + 1) h) : ∀ (n s : Nat) (m : Int), s ≤ 65 → 66 - s < n → w_X7_mirrors_L36 Q K26 n a m (l : Int) (s : Int) h
  | 0, _, _, _, h9 => absurd h9 (Nat.not_lt_zero _)
  | n + 1, s, m, h1, h9 => by
    unfold w_X7_mirrors_L36
    refine r.len ⟨by omega, by omega, ?_⟩
    by_cases q : u.length < s + l
    · exact if_yes (by omega) (k _)
    · have e : (s : Int) + 1 = ((s + 1 : Nat) : Int) := by omega
      refine if_no (by omega) (r_isMir (f := s) (t := s + l) r hul rfl (by omega) (by omega) (by omega) (fun t => bb ⟨67, r_mirrors_L69 r hul h1 (by omega) (by omega) (fun m' => ?_) 67 0 true (Nat.zero_le _) (by omega)⟩ ?_))
      · rw [e]; exact r_mirrors_L36 r hul hl1 hl k n (s + 1) m' (by omega) (by omega)
      · rw [e]; exact r_mirrors_L36 r hul hl1 hl k n (s + 1) m (by omega) (by omega)
theorem r_mirrors_L26 (r : mR h a u) (hul : u.length ≤ 64) (k : ∀ r : Int, Q r h) : ∀ (n l : Nat) (m : Int), 1 ≤ l → l ≤ 65 → 66 - l < n → w_X7_mirrors_L26 Q n a m (l : Int) h
  | 0, _, _, _, _, h9 => absurd h9 (Nat.not_lt_zero _)
  | n + 1, l, m, h0, h1, h9 => by
    unfold w_X7_mirrors_L26
    refine r.len ⟨by omega, by omega, ?_⟩
    by_cases q : u.length < l
    · exact if_yes (by omega) (k _)
    · refine if_no (by omega) ⟨67, r_mirrors_L36 r hul h0 (by omega) (fun m' => ?_) 67 0 m (Nat.zero_le _) (by decide)⟩
      rw [show (l : Int) + 1 = ((l + 1 : Nat) : Int) by omega]
      exact r_mirrors_L26 r hul k n (l + 1) m' (by omega) (by omega) (by omega)
theorem r_mirrors (d : gM B h st no) (hx : gR x) (k : ∀ c, mSafe B h Q st c) : w_X7_mirrors (B 0) x h Q := by
  unfold w_X7_mirrors
  refine r_isNoSheet hx ⟨d.has, r_start d rfl (by decide) (fun q h1 d1 f1 => ?_) (fun q h1 d1 f1 => ?_)⟩
  · obtain ⟨w, rfl⟩ : ∃ w : Nat, x = w := ⟨x.toNat, by have := nd q; omega⟩
    have hw : w < 3 := by have := nd q; omega
    exact ⟨by decide, if_yes rfl (d1.f0 (d1.sh rfl hw (fun a ra na => ⟨67, r_mirrors_L26 ra (d1.sl hw) (fun r => k 0 h1 r d1 f1) 67 1 0 (by decide) (by decide) (by decide)⟩)))⟩
  · exact ⟨by decide, if_no (by decide) (k 1 h1 _ d1 f1)⟩
theorem r_find_L34 (d : gM B h st 0) (hw : w < 3) {v : Nat} (hv : v < 3) (k : ∀ r : Int, Q r h) : ∀ (n i : Nat), i ≤ 65 → 66 - i < n → w_X7_find_L34 Q n (B 0) (w : Int) (v : Int) (i : Int) h
  | 0, _, _, h9 => absurd h9 (Nat.not_lt_zero _)
  | n + 1, i, h1, h9 => by
    have l1 := d.sl hw
    have l2 := d.sl hv
    unfold w_X7_find_L34
    refine d.f0 (d.sh rfl hw (fun a ra _ => ra.len ⟨by omega, by omega, ?_⟩))
    by_cases q : (st.S w).length < i
    · exact if_yes (by omega) (k _)
    · refine if_no (by omega) (d.f0 (d.sh rfl hw (fun a ra _ => d.f0 (d.sh rfl hv (fun c rc _ => r_standsAt ra rc rfl (by omega) (by omega) (by omega) (bb (k _) ?_))))))
      rw [show (i : Int) + 1 = ((i + 1 : Nat) : Int) by omega]
      exact r_find_L34 d hw hv k n (i + 1) (by omega) (by omega)
theorem r_findLast_L34 (d : gM B h st 0) (hw : w < 3) {v : Nat} (hv : v < 3) (k : ∀ r : Int, Q r h) : ∀ (n i : Nat), i ≤ 65 → i < n → w_X7_findLast_L34 Q n (B 0) (w : Int) (v : Int) ((i : Int) - 1) h
  | 0, _, _, h9 => absurd h9 (Nat.not_lt_zero _)
  | n + 1, i, h1, h9 => by
    have l1 := d.sl hw
    have l2 := d.sl hv
    unfold w_X7_findLast_L34
    refine ⟨by omega, ?_⟩
    by_cases q : i = 0
    · exact if_yes (by omega) (k _)
    · refine if_no (by omega) (d.f0 (d.sh rfl hw (fun a ra _ => d.f0 (d.sh rfl hv (fun c rc _ => r_standsAt (p := i - 1) ra rc (by omega) (by omega) (by omega) (by omega) (bb (k _) ?_))))))
      rw [show (i : Int) - 1 + -1 = ((i - 1 : Nat) : Int) - 1 by omega]
      exact r_findLast_L34 d hw hv k n (i - 1) (by omega) (by omega)
theorem r_find (d : gM B h st no) (hx : gR x) (hy : gR y) (hz : gR z) (k : ∀ c, mSafe B h Q st c) : w_X7_find (B 0) x y z h Q := by
  have bd : w_X7_find_J22 Q (B 0) x y z (B 0) 1 h := by
    unfold w_X7_find_J22
    exact ⟨d.has, r_start d (bd := true) rfl (by decide) (fun q => by cases q) (fun q h1 d1 f1 => ⟨by decide, if_no (by decide) (k 1 h1 _ d1 f1)⟩)⟩
  unfold w_X7_find
  refine ⟨d.has, r_isNoGap d hx hz ⟨b2i_R _, ?_⟩⟩
  by_cases q1 : okS x ∧ 0 ≤ z ∧ z ≤ ((st.S x.toNat).length : Int)
  · rw [decide_eq_true q1]
    refine if_yes rfl (r_isNoSheet hy ⟨b2i_R _, ?_⟩)
    by_cases q2 : okS y
    · rw [decide_eq_true q2]
      refine if_yes rfl ?_
      unfold w_X7_find_J22
      refine ⟨d.has, r_start d (bd := false) rfl (by decide) (fun q h1 d1 f1 => ⟨by decide, if_yes rfl ?_⟩) (fun q => by cases q)⟩
      obtain ⟨w, rfl⟩ : ∃ w : Nat, x = w := ⟨x.toNat, by omega⟩
      obtain ⟨v, rfl⟩ : ∃ v : Nat, y = v := ⟨y.toNat, by omega⟩
      obtain ⟨p, rfl⟩ : ∃ v : Nat, z = v := ⟨z.toNat, by omega⟩
      rw [Int.toNat_natCast] at q1
      have hl := d1.sl (show w < 3 by omega)
      exact ⟨67, r_find_L34 d1 (by omega) (by omega) (fun r => k 0 h1 r d1 f1) 67 p (by omega) (by omega)⟩
    · rw [decide_eq_false q2]
      exact if_no (by decide) bd
  · rw [decide_eq_false q1]
    exact if_no (by decide) bd
theorem r_findLast (d : gM B h st no) (hx : gR x) (hy : gR y) (hz : gR z) (k : ∀ c, mSafe B h Q st c) : w_X7_findLast (B 0) x y z h Q := by
  have bd : w_X7_findLast_J22 Q (B 0) x y z (B 0) 1 h := by
    unfold w_X7_findLast_J22
    exact ⟨d.has, r_start d (bd := true) rfl (by decide) (fun q => by cases q) (fun q h1 d1 f1 => ⟨by decide, if_no (by decide) (k 1 h1 _ d1 f1)⟩)⟩
  unfold w_X7_findLast
  refine ⟨d.has, r_isNoGap d hx hz ⟨b2i_R _, ?_⟩⟩
  by_cases q1 : okS x ∧ 0 ≤ z ∧ z ≤ ((st.S x.toNat).length : Int)
  · rw [decide_eq_true q1]
    refine if_yes rfl (r_isNoSheet hy ⟨b2i_R _, ?_⟩)
    by_cases q2 : okS y
    · rw [decide_eq_true q2]
      refine if_yes rfl ?_
      unfold w_X7_findLast_J22
      refine ⟨d.has, r_start d (bd := false) rfl (by decide) (fun q h1 d1 f1 => ⟨by decide, if_yes rfl ?_⟩) (fun q => by cases q)⟩
      obtain ⟨w, rfl⟩ : ∃ w : Nat, x = w := ⟨x.toNat, by omega⟩
      obtain ⟨v, rfl⟩ : ∃ v : Nat, y = v := ⟨y.toNat, by omega⟩
      obtain ⟨p, rfl⟩ : ∃ v : Nat, z = v := ⟨z.toNat, by omega⟩
      rw [Int.toNat_natCast] at q1
      have hl := d1.sl (show w < 3 by omega)
      exact ⟨67, by rw [show ((p : Nat) : Int) = ((p + 1 : Nat) : Int) - 1 by omega]; exact r_findLast_L34 d1 (by omega) (by omega) (fun r => k 0 h1 r d1 f1) 67 (p + 1) (by omega) (by omega)⟩
    · rw [decide_eq_false q2]
      exact if_no (by decide) bd
  · rw [decide_eq_false q1]
    exact if_no (by decide) bd
end RW3
/-! The reference: isSound. -/
section RI
variable {B : Nat → Nat} {h h0 : gaH} {st : GSt} {no : Int} {a b o : Nat} {u v : List Bool} {w g : Nat} {x y z : Int} {Q : Int → gaH → Prop}
theorem r_isWhole_L54 : ∀ (n i : Nat) (h : gaH) (kc ks : Nat), gM B h st no → i ≤ 2 → 2 - i < n → 461 * (2 - i) ≤ kc → 27590 * (2 - i) ≤ ks → (∀ h', mK h h' → Q (b2i (((i ≥ 1 ∨ soundB (st.T 0) = true) && (i ≥ 2 ∨ soundB (st.T 1) = true)))) h') → w_X7_isWhole_L54 Q n (B 0) (i : Int) h kc ks
  | 0, _, _, _, _, _, _, h1, _, _, _ => absurd h1 (Nat.not_lt_zero _)
  | n + 1, i, h, kc, ks, d, hi, h1, hc, hs, k => by
    unfold w_X7_isWhole_L54
    refine ⟨by omega, ?_⟩
    by_cases q : 2 ≤ i
    · obtain rfl : i = 2 := by omega
      exact if_yes (by omega) (k h mK.rf)
    · have hg : i < 2 := by omega
      have ho := d.ok hg
      have hl := ho.len
      have l1 := ho.2
      have l2 := ho.elder
      have l3 := byL_le ho
      have r1 := crossG_R ho
      have r2 := unlike_R l1 l2
      refine if_no (by omega) ⟨d.has, gCall_mk (by omega) (by omega) (r_word (b := false) d hg rfl rfl (fun h2 oy k2 n2 ry => ⟨(d.kp k2).has, gCall_mk (by omega) (by omega) (r_word (b := true) (d.kp k2) hg rfl rfl (fun h3 oe k3 n3 re => ?_))⟩))⟩
      have ry3 : mR h3 oy (grw (st.T i)).2 := ry.on k3
      have re3 : mR h3 oe (grw (st.T i)).1 := re
      have d3 := d.kp (k2.tr k3)
      refine ⟨d3.has, gCall_mk (by omega) (by omega) (r_byRules d3 hg rfl (fun h4 o4 k4 n4 r4 => r_areSame (ry3.on k4) r4 (by omega) (by omega) ⟨b2i_R _, ?_⟩))⟩
      rw [decide_eq_true rfl]
      have d4 := d3.kp k4
      refine if_no (by decide) ⟨d4.has, gCall_mk (by omega) (by omega) (r_byLine d4 hg rfl (fun h5 o5 k5 n5 r5 => r_areSame (ry3.on (k4.tr k5)) r5 (by omega) (by omega) ⟨b2i_R _, ?_⟩))⟩
      have k25 := k2.tr (k3.tr (k4.tr k5))
      have d5 := d.kp k25
      have ry5 := ry3.on (k4.tr k5)
      have re5 := re3.on (k4.tr k5)
      have bad : soundB (st.T i) = false → ∀ h', mK h h' → Q 0 h' := fun e h' kk => by
        have := k h' kk
        rcases (show i = 0 ∨ i = 1 by omega) with rfl | rfl
        · simpa [e, b2i] using this
        · simpa [e, b2i] using this
      by_cases q1 : byL (st.T i) = (grw (st.T i)).2
      · rw [decide_eq_true q1.symm]
        refine if_no (by decide) (r_crossOf ry5 re5 (by omega) (by omega) (d5.f2 (d5.ct rfl hg ?_)))
        have er : gRem ((st.T i).length : Int) 2 = (((st.T i).length % 2 : Nat) : Int) := gRem_nat (b := 2) (by omega) (by decide)
        rw [er]
        have ec : ((grw (st.T i)).2.length : Int) * (ones (grw (st.T i)).1 : Int) - ((grw (st.T i)).1.length : Int) * (ones (grw (st.T i)).2 : Int) = crossG (st.T i) := rfl
        rw [ec]
        have ed : 1 - (((st.T i).length % 2 : Nat) : Int) * 2 = (if (st.T i).length % 2 = 0 then 1 else -1) := by
          rcases Nat.mod_two_eq_zero_or_one (st.T i).length with e | e <;> rw [e] <;> rfl
        rw [ed]
        refine ⟨by omega, by split <;> decide, ?_⟩
        by_cases q2 : crossG (st.T i) = (if (st.T i).length % 2 = 0 then 1 else -1)
        · refine if_yes q2 (gCall_mk (by omega) (by omega) (r_alikeOf ry5 re5 l1 l2 (grw_alike _) (fun h6 k6 => (ry5.on k6).len ((re5.on k6).len ⟨by omega, by omega, ?_⟩))))
          by_cases q3 : unlike (grw (st.T i)).2 (grw (st.T i)).1 = ((grw (st.T i)).2.length : Int) + ((grw (st.T i)).1.length : Int) - 2
          · refine if_yes q3 ?_
            have e : soundB (st.T i) = true := by rw [soundB, decide_eq_true q1, decide_eq_true q2, decide_eq_true q3]; rfl
            rw [show (i : Int) + 1 = ((i + 1 : Nat) : Int) by omega]
            refine r_isWhole_L54 n (i + 1) h6 _ _ (d5.kp k6) (by omega) (by omega) (by omega) (by omega) (fun h7 k7 => ?_)
            have kk := k h7 (k25.tr (k6.tr k7))
            rcases (show i = 0 ∨ i = 1 by omega) with rfl | rfl
            · simpa [e] using kk
            · simpa [e] using kk
          · exact if_no q3 (bad (by rw [soundB, decide_eq_true q1, decide_eq_true q2, decide_eq_false q3]; rfl) _ (k25.tr k6))
        · exact if_no q2 (bad (by rw [soundB, decide_eq_true q1, decide_eq_false q2]; rfl) _ k25)
      · rw [decide_eq_false (fun z => q1 z.symm)]
        exact if_yes rfl (bad (by rw [soundB, decide_eq_false q1]; rfl) _ k25)
theorem r_isWhole_L10 : ∀ (n i : Nat) (h : gaH) (kc ks : Nat), gM B h st no → i ≤ 3 → 3 - i < n → 2 * (3 - i) + 922 ≤ kc → 128 * (3 - i) + 55180 ≤ ks → (∀ h', mK h h' → Q (b2i (soundB (st.T 0) && soundB (st.T 1))) h') → w_X7_isWhole_L10 Q n (B 0) (B 1) 3 (i : Int) h kc ks
  | 0, _, _, _, _, _, _, h1, _, _, _ => absurd h1 (Nat.not_lt_zero _)
  | n + 1, i, h, kc, ks, d, hi, h1, hc, hs, k => by
    unfold w_X7_isWhole_L10
    refine ⟨by omega, by decide, ?_⟩
    by_cases q : 3 ≤ i
    · refine if_yes (by omega) ⟨3, r_isWhole_L54 3 0 h kc ks d (by decide) (by decide) (by omega) (by omega) (fun h' k' => ?_)⟩
      have kk := k h' k'
      simpa using kk
    · have hw : i < 3 := by omega
      have hl := d.sl hw
      refine if_no (by omega) (d.sh rfl hw (fun a ra na => ra.len ⟨by omega, if_no (by omega) (gCall_mk (by omega) (by omega) (r_turned ra hl (fun o h2 f2 => gCall_mk (by omega) (by omega) (r_turned f2.2.2 (by simpa using hl) (fun o3 h3 f3 => r_areSame f3.2.2 (ra.on (f2.2.1.tr f3.2.1)) (by simp; omega) (by omega) ⟨b2i_R _, ?_⟩)))))⟩))
      rw [decide_eq_true (List.reverse_reverse _)]
      refine if_no (by decide) ?_
      rw [show (i : Int) + 1 = ((i + 1 : Nat) : Int) by omega]
      have kk := f2.2.1.tr f3.2.1
      exact r_isWhole_L10 n (i + 1) h3 _ _ (d.kp kk) (by omega) (by omega) (by omega) (by omega) (fun h' k' => k h' (kk.tr k'))
theorem r_isWhole (d : gM B h st no) (k : ∀ h', mK h h' → Q (b2i (soundB (st.T 0) && soundB (st.T 1))) h') : w_X7_isWhole (B 0) h Q := by
  unfold w_X7_isWhole
  obtain ⟨s, a1, a2, -⟩ := id d
  exact d.f0 (gAL_mk a2 (x := 3) rfl ⟨4, r_isWhole_L10 4 0 h _ _ d (by decide) (by decide) (by decide) (by decide) k⟩)
theorem r_isSound (d : gM B h st no) (k : mRes B h Q (m_isSound st)) : w_X7_isSound (B 0) h Q := by
  unfold w_X7_isSound
  exact d.setNo (fun h1 d1 f1 => ⟨d1.has, gCall_mk (by decide) (by decide) (r_isWhole d1 (fun h2 k2 => ⟨b2i_nar _, k.ok (d1.kp k2) (f1.tr (mF.kp k2)) rfl⟩))⟩)
end RI
/-! The reference: digest and texts, as far as they go through. -/
section RDg
variable {B : Nat → Nat} {h h0 : gaH} {st : GSt} {no : Int} {a b o : Nat} {u v : List Bool} {w g : Nat} {x y z : Int} {G : gaG}
theorem r_added_L {Q : Int64 → gaH → Prop} {p q : Nat} (hg : g < 2) (d : gM B h st no) (ry : mR h p (grw (st.T g)).2) (re : mR h q (grw (st.T g)).1) (k : ∀ r h', mK h h' → Q r h') : ∀ (n i : Nat) (t : Int64), i ≤ (st.T g).length → (st.T g).length - i < n → w_X7_added_L32 Q n (B 0) (g : Int) p q t (i : Int) h 2 256
  | 0, _, _, _, h9 => absurd h9 (Nat.not_lt_zero _)
  | n + 1, i, t, hi, h9 => by
    have ho := d.ok hg
    have hl := ho.len
    have l1 := ho.2
    have l2 := ho.elder
    unfold w_X7_added_L32 w_X7_add
    refine d.f2 (d.ct rfl hg ⟨by omega, by omega, ?_⟩)
    by_cases q1 : (st.T g).length ≤ i
    · refine if_yes (by omega) (ry.len ?_)
      refine re.len (r_bs ry (by omega) (r_bs re (by omega) (r_crossOf ry re (by omega) (by omega) (gCall_mk (by decide) (by decide) (r_alikeOf ry re l1 l2 (grw_alike _) (fun h2 k2 => k _ h2 k2))))))
    · refine if_no (by omega) (d.f1 (d.tr rfl hg (d.tn hg rfl (by omega) ?_)))
      show w_X7_added_L32 Q n (B 0) (g : Int) p q _ ((i : Int) + 1) h 2 256
      rw [show (i : Int) + 1 = ((i + 1 : Nat) : Int) by omega]
      exact r_added_L hg d ry re k n (i + 1) _ (by omega) (by omega)
theorem r_added {Q : Int64 → gaH → Prop} {t : Int64} (hg : g < 2) (hx : x = (g : Int)) (d : gM B h st no) (k : ∀ r h', mK h h' → Q r h') : w_X7_added (B 0) t x h Q := by
  subst hx
  have hl := (d.ok hg).len
  unfold w_X7_added w_X7_add
  refine ⟨d.has, gCall_mk (by decide) (by decide) (r_word (b := false) d hg rfl rfl (fun h2 oy k2 n2 ry => ⟨(d.kp k2).has, gCall_mk (by decide) (by decide) (r_word (b := true) (d.kp k2) hg rfl rfl (fun h3 oe k3 n3 re => ?_))⟩))⟩
  have d3 := d.kp (k2.tr k3)
  refine d3.f2 (d3.ct rfl hg ⟨66, ?_⟩)
  exact r_added_L hg d3 (ry.on k3) re (fun r h' k' => k r h' (k2.tr (k3.tr k'))) 66 0 _ (Nat.zero_le _) (by omega)
theorem r_digest_L172 {Q : Int64 → gaH → Prop} : ∀ (n i : Nat) (h : gaH) (t : Int64) (kc ks : Nat), gM B h st no → i ≤ 4 → 4 - i < n → 928 ≤ kc → 55564 ≤ ks → (∀ r h', mK h h' → Q r h') → w_X7_digest_L172 Q n (B 0) t (i : Int) h kc ks
  | 0, _, _, _, _, _, _, _, h9, _, _, _ => absurd h9 (Nat.not_lt_zero _)
  | n + 1, i, h, t, kc, ks, d, hi, h9, hc, hs, k => by
    unfold w_X7_digest_L172 w_X7_add
    refine ⟨by omega, ?_⟩
    by_cases q : 4 ≤ i
    · exact if_yes (by omega) ⟨d.has, gCall_mk hc hs (r_isWhole d (fun h2 k2 => r_one rfl (k _ h2 k2)))⟩
    · refine if_no (by omega) ⟨d.has, r_told d (by omega) ?_⟩
      show w_X7_digest_L172 Q n (B 0) _ ((i : Int) + 1) h kc ks
      rw [show (i : Int) + 1 = ((i + 1 : Nat) : Int) by omega]
      exact r_digest_L172 n (i + 1) h _ kc ks d (by omega) (by omega) hc hs k
theorem r_digest_L55 {Q : Int64 → gaH → Prop} {K21 : Nat → Int64 → Nat → Int → Int → gaH → Nat → Nat → Prop} {c v3 : Nat} {v4 v5 : Int} {kc ks : Nat} (r : mR h a u) (hl : u.length ≤ 64) (k : ∀ t : Int64, K21 c t v3 v4 (v5 + 1) h kc ks) : ∀ (n i : Nat) (t : Int64), i ≤ u.length → u.length - i < n → w_X7_digest_L55 Q K21 n c t v3 v4 v5 a a (u.length : Int) (i : Int) h kc ks
  | 0, _, _, _, h9 => absurd h9 (Nat.not_lt_zero _)
  | n + 1, i, t, hi, h9 => by
    unfold w_X7_digest_L55 w_X7_add
    refine ⟨by omega, by omega, ?_⟩
    by_cases q : u.length ≤ i
    · refine if_yes (by omega) (r_bs r (by omega) (r.len (r_isMir (f := 0) (t := u.length) r hl rfl rfl (Nat.zero_le _) (Nat.le_refl _) (fun t2 => r_one rfl (r_timesOf r hl (fun r1 => r_overlapsOf r hl (fun r2 => r_foldsOf r hl (fun r3 => r_leastOf r hl (fun r4 => k _)))))))))
    · refine if_no (by omega) (r.at rfl (by omega) (by omega) ?_)
      show w_X7_digest_L55 Q K21 n c _ v3 v4 v5 a a (u.length : Int) ((i : Int) + 1) h kc ks
      rw [show (i : Int) + 1 = ((i + 1 : Nat) : Int) by omega]
      exact r_digest_L55 r hl k n (i + 1) _ (by omega) (by omega)
theorem r_digest_L21 {Q : Int64 → gaH → Prop} (d : gM B h st no) (k : ∀ r h', mK h h' → Q r h') : ∀ (n i : Nat) (t : Int64), i ≤ 3 → 3 - i < n → w_X7_digest_L21 Q n (B 0) t (B 1) 3 (i : Int) h 1200 73228
  | 0, _, _, _, h9 => absurd h9 (Nat.not_lt_zero _)
  | n + 1, i, t, hi, h9 => by
    unfold w_X7_digest_L21 w_X7_add
    refine ⟨by omega, by decide, ?_⟩
    by_cases q : 3 ≤ i
    · refine if_yes (by omega) ⟨d.has, gCall_mk (by decide) (by decide) (r_added (g := 0) (by decide) rfl d (fun r2 h2 k2 => ⟨(d.kp k2).has, gCall_mk (by decide) (by decide) (r_added (g := 1) (by decide) rfl (d.kp k2) (fun r3 h3 k3 => ⟨5, ?_⟩))⟩))⟩
      exact r_digest_L172 5 0 h3 _ _ _ (d.kp (k2.tr k3)) (by decide) (by decide) (by decide) (by decide) (fun r h' k' => k r h' (k2.tr (k3.tr k')))
    · have hl := d.sl (show i < 3 by omega)
      refine if_no (by omega) (d.sh rfl (show i < 3 by omega) (fun a ra na => ra.len (ra.len ⟨66, ?_⟩)))
      refine r_digest_L55 ra hl (fun t2 => ?_) 66 0 _ (Nat.zero_le _) (by omega)
      rw [show (i : Int) + 1 = ((i + 1 : Nat) : Int) by omega]
      exact r_digest_L21 d k n (i + 1) _ (by omega) (by omega)
theorem r_digest {Q : Int64 → gaH → Prop} (d : gM B h st no) (k : ∀ r h', gM B h' st 0 → mF B h h' → Q r h') : w_X7_digest (B 0) h Q := by
  unfold w_X7_digest
  refine d.setNo (fun h1 d1 f1 => d1.f0 ?_)
  obtain ⟨s, a1, a2, -⟩ := id d1
  exact gAL_mk a2 (x := 3) rfl ⟨4, r_digest_L21 d1 (fun r h' k' => k r h' (d1.kp k') (f1.tr (mF.kp k'))) 4 0 _ (by decide) (by decide)⟩
end RDg
/-! The reference: texts, as far as they go through. -/
section RTx
variable {B : Nat → Nat} {h h0 : gaH} {st : GSt} {no : Int} {a b o : Nat} {u v : List Bool} {w g : Nat} {x y z : Int} {G : gaG} {Q : Nat → gaH → Prop}
theorem r_textOf_L (r : mR h0 a u) (hl : u.length ≤ 64) (k : ∀ h' o, mK h0 h' → Q o h') : ∀ (n i : Nat) (h : gaH) (kc ks : Nat), sbd h0 h b i → i ≤ u.length → u.length - i < n → 2 * (u.length - i) + 5 ≤ kc → 134 * (u.length - i) + 272 ≤ ks → w_X7_textOf_L16 G Q n b a (u.length : Int) (i : Int) h kc ks
  | 0, _, _, _, _, _, _, h1, _, _ => absurd h1 (Nat.not_lt_zero _)
  | n + 1, i, h, kc, ks, sb, hi, h1, hc, hs => by
    have kp : mK h0 h := by obtain ⟨_, _, _, _, _, _, _, _, _, _, q⟩ := sb; exact q
    unfold w_X7_textOf_L16
    refine ⟨by omega, by omega, ?_⟩
    by_cases q : u.length ≤ i
    · exact if_yes (by omega) ⟨sb.has, gCall_mk (by omega) (by omega) (sb_toString sb (by omega) (fun h' o k' _ => k h' o k'))⟩
    · have go : ∀ c : Int, 0 ≤ c → c ≤ 127 → w_X7_textOf_J42 G Q (w_X7_textOf_L16 G Q n) b a (u.length : Int) (i : Int) b c h kc ks := fun c c1 c2 => by
        unfold w_X7_textOf_J42
        refine ⟨sb.has, gCall_mk (by omega) (by omega) (sb_char sb (by omega) c1 c2 (fun h' s' => ?_))⟩
        rw [show (i : Int) + 1 = ((i + 1 : Nat) : Int) by omega]
        exact r_textOf_L r hl k n (i + 1) h' _ _ s' (by omega) (by omega) (by omega) (by omega)
      exact if_no (by omega) ((r.on kp).at rfl (by omega) (by omega) ⟨b2i_R _, ite_both (fun _ => go 98 (by decide) (by decide)) (fun _ => go 97 (by decide) (by decide))⟩)
theorem r_textOf (r : mR h a u) (hl : u.length ≤ 64) (k : ∀ h' o, mK h h' → Q o h') : w_X7_textOf G a h Q := by
  unfold w_X7_textOf
  refine gNO_mk (by decide) (by decide) (fun o ho => gCall_mk (by decide) (by decide) (sb_init ho (fun h' sb => ?_)))
  have kp : mK h h' := by obtain ⟨_, _, _, _, _, _, _, _, _, _, q⟩ := sb; exact q
  exact (r.on kp).len ⟨66, r_textOf_L r hl k 66 0 h' _ _ sb (Nat.zero_le _) (by omega) (by omega) (by omega)⟩
theorem r_text (d : gM B h st no) (hx : gR x) (k : ∀ (c : Nat) h' r, gM B h' st (c : Int) → mF B h h' → Q r h') : w_X7_text G (B 0) x h Q := by
  unfold w_X7_text
  refine r_isNoSheet hx ⟨d.has, r_start d rfl (by decide) (fun q h1 d1 f1 => ?_) (fun q h1 d1 f1 => ?_)⟩
  · obtain ⟨w, rfl⟩ : ∃ w : Nat, x = w := ⟨x.toNat, by have := nd q; omega⟩
    have hw : w < 3 := by have := nd q; omega
    exact ⟨by decide, if_yes rfl (d1.f0 (d1.sh rfl hw (fun a ra na => gCall_mk (by decide) (by decide) (r_textOf ra (d1.sl hw) (fun h2 o k2 => k 0 h2 o (d1.kp k2) (f1.tr (mF.kp k2)))))))⟩
  · exact ⟨by decide, if_no (by decide) (k 1 h1 _ d1 f1)⟩
theorem r_grown {c : Bool} (d : gM B h st no) (hx : gR x) (hy : y = b2i c) (k : ∀ (c : Nat) h' r, gM B h' st (c : Int) → mF B h h' → Q r h') : w_X7_grown G (B 0) x y h Q := by
  unfold w_X7_grown
  refine r_isNoGrowth hx ⟨d.has, r_start d rfl (by decide) (fun q h1 d1 f1 => ?_) (fun q h1 d1 f1 => ?_)⟩
  · obtain ⟨g, rfl⟩ : ∃ w : Nat, x = w := ⟨x.toNat, by have := nd q; omega⟩
    have hg : g < 2 := by have := nd q; omega
    have hl := gWd_le (d1.ok hg) c
    exact ⟨by decide, if_yes rfl ⟨d1.has, gCall_mk (by decide) (by decide) (r_word d1 hg rfl hy (fun h2 o k2 n2 r2 => gCall_mk (by decide) (by decide) (r_textOf r2 hl (fun h3 o3 k3 => k 0 h3 o3 (d1.kp (k2.tr k3)) (f1.tr (mF.kp (k2.tr k3)))))))⟩⟩
  · exact ⟨by decide, if_no (by decide) (k 1 h1 _ d1 f1)⟩
theorem r_turns_L (hg : g < 2) (d0 : gM B h0 st no) (m3 : h0 (G.2.2.2 1) = some (1101, gaOnes)) (k : ∀ h' o, mK h0 h' → Q o h') : ∀ (n i : Nat) (h : gaH) (kc ks : Nat), sbd h0 h b i → i ≤ (st.T g).length → (st.T g).length - i < n → 2 * ((st.T g).length - i) + 5 ≤ kc → 134 * ((st.T g).length - i) + 272 ≤ ks → w_X7_turns_L25 G Q n (B 0) (g : Int) b (i : Int) h kc ks
  | 0, _, _, _, _, _, _, h1, _, _ => absurd h1 (Nat.not_lt_zero _)
  | n + 1, i, h, kc, ks, sb, hi, h1, hc, hs => by
    have kp : mK h0 h := by obtain ⟨_, _, _, _, _, _, _, _, _, _, q⟩ := sb; exact q
    have d := d0.kp kp
    have l1 := (d.ok hg).len
    unfold w_X7_turns_L25
    refine d.f2 (d.ct rfl hg ⟨by omega, by omega, ?_⟩)
    by_cases q : (st.T g).length ≤ i
    · exact if_yes (by omega) ⟨sb.has, gCall_mk (by omega) (by omega) (sb_toString sb (by omega) (fun h' o k' _ => k h' o k'))⟩
    · refine if_no (by omega) (d.f1 (d.tr rfl hg (d.tn hg rfl (by omega) ⟨sb.has, gCall_mk (by omega) (by omega) (sb_turn sb (by omega) m3 ((d.ok hg).tn (by omega)) (fun h' s' => ?_))⟩)))
      rw [show (i : Int) + 1 = ((i + 1 : Nat) : Int) by omega]
      exact r_turns_L hg d0 m3 k n (i + 1) h' _ _ s' (by omega) (by omega) (by omega) (by omega)
theorem r_turns (d : gM B h st no) (hx : gR x) (m3 : h (G.2.2.2 1) = some (1101, gaOnes)) (hm : ∀ i, i < 6 → G.2.2.2 1 ≠ B i) (k : ∀ (c : Nat) h' r, gM B h' st (c : Int) → mF B h h' → Q r h') : w_X7_turns G (B 0) x h Q := by
  unfold w_X7_turns
  refine r_isNoGrowth hx ⟨d.has, r_start d rfl (by decide) (fun q h1 d1 f1 => ?_) (fun q h1 d1 f1 => ?_)⟩
  · obtain ⟨g, rfl⟩ : ∃ w : Nat, x = w := ⟨x.toNat, by have := nd q; omega⟩
    have hg : g < 2 := by have := nd q; omega
    have l1 := (d1.ok hg).len
    refine ⟨by decide, if_yes rfl (gNO_mk (by decide) (by decide) (fun o ho => gCall_mk (by decide) (by decide) (sb_init ho (fun h' sb => ⟨66, ?_⟩))))⟩
    exact r_turns_L hg d1 (f1 _ _ hm m3) (fun h2 o k2 => k 0 h2 o (d1.kp k2) (f1.tr (mF.kp k2))) 66 0 h' _ _ sb (Nat.zero_le _) (by omega) (by omega) (by omega)
  · exact ⟨by decide, if_no (by decide) (k 1 h1 _ d1 f1)⟩
end RTx
