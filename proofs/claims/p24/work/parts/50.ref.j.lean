/-! The reference: its rows, and what it makes of them. -/
def mK (h h' : gaH) : Prop := ∀ a e, h a = some e → h' a = some e
theorem mK.rf {h : gaH} : mK h h := fun _ _ q => q
theorem mK.tr {h h1 h2 : gaH} (x : mK h h1) (y : mK h1 h2) : mK h h2 := fun a e q => y a e (x a e q)
theorem mK.up {h h1 : gaH} (x : mK h h1) {o : Nat} (ho : h o = none) (e : gaE) : mK h (gaUp h1 o e) := fun a f q => by
  rw [gaUp_ne _ _ (new_ne q ho)]; exact x a f q
/-- a row of signs at a cell -/
def mR (h : gaH) (a : Nat) (u : List Bool) : Prop := h a = some (102, gRow u)
theorem mR.on {h h' : gaH} {a : Nat} {u : List Bool} (r : mR h a u) (x : mK h h') : mR h' a u := x _ _ r
/-- a fresh row being filled -/
def fil (h0 h : gaH) (o : Nat) (w : List Bool) : Prop := h0 o = none ∧ mK h0 h ∧ mR h o w
def pf (t : List Bool) (i : Nat) : List Bool := t.take i ++ List.replicate (t.length - i) false
theorem pf_len {t : List Bool} {i : Nat} (hi : i ≤ t.length) : (pf t i).length = t.length := by simp [pf]; omega
theorem pf_set {t : List Bool} {i : Nat} (hi : i < t.length) : (pf t i).set i (t.getD i false) = pf t (i + 1) := by
  unfold pf
  rw [List.set_append_right _ _ (by simp; omega), show t.length - i = (t.length - (i + 1)) + 1 by omega, List.replicate_succ, List.length_take, Nat.min_eq_left (by omega), Nat.sub_self, List.set_cons_zero, List.take_add_one, getD_lt hi]
  simp
theorem pf_end (t : List Bool) : pf t t.length = t := by simp [pf]
theorem pf_0 (t : List Bool) : pf t 0 = List.replicate t.length false := by simp [pf]
theorem pf_at {t : List Bool} {i j : Nat} (hj : j < i) (hi : i ≤ t.length) : (pf t i).getD j false = t.getD j false := by
  unfold pf
  rw [List.getD_eq_getElem?_getD, List.getElem?_append_left (by simp; omega), List.getElem?_take_of_lt hj, ← List.getD_eq_getElem?_getD]
theorem gRow_rep (n : Nat) : gRow (List.replicate n false) = List.replicate n (gi 0) := by simp [gRow, b2i]
section RF
variable {h h0 : gaH} {a b o : Nat} {u v w : List Bool}
theorem mR.len (r : mR h a u) {K : Int → Prop} (k : K (u.length : Int)) : gAL h a 102 K := gAL_mk r (by rw [gRow_len]) k
theorem mR.has (r : mR h a u) : gHas h a 102 := ⟨_, r⟩
theorem mR.at (r : mR h a u) {x : Int} {i : Nat} (hx : x = (i : Int)) (hi : i < u.length) (hl : u.length ≤ 100000) {K : Int → Prop} (k : K (b2i (u.getD i false))) : gLI h a 102 x K := by
  subst hx
  exact gLI_mk r (by omega) (by omega) (by rw [Int.toNat_natCast]; exact gRow_at hi) k
theorem fil.new {x : Int} {n c s : Nat} {K : Nat → gaH → Nat → Nat → Prop} (hx : x = (n : Int)) (h1 : n ≤ 100000) (h2 : 1 ≤ c) (h3 : n ≤ s) (k : ∀ o h', fil h h' o (List.replicate n false) → K o h' (c - 1) (s - n)) : gNA h 102 (gi 0) x c s K :=
  gNA_mk hx h1 h2 h3 (fun o ho => k o _ ⟨ho, mK.rf.up ho _, by unfold mR; rw [gaUp_self, gRow_rep]⟩)
theorem fil.set (f : fil h0 h o w) {x y : Int} {i : Nat} (hx : x = (i : Int)) (hi : i < w.length) (hl : w.length ≤ 100000) {b : Bool} (hy : y = b2i b) {K : gaH → Prop} (k : ∀ h', fil h0 h' o (w.set i b) → K h') : gSI h o 102 x (gi y) K := by
  subst hx; subst hy
  exact gSI_mk f.2.2 (by omega) (by omega) (by rw [Int.toNat_natCast, gRow_len]; exact hi) (k _ ⟨f.1, f.2.1.up f.1 _, by unfold mR; rw [gaUp_self, Int.toNat_natCast, gRow_set]⟩)
theorem fil.one {x : Int} {c s : Nat} {K : Nat → gaH → Nat → Nat → Prop} (hx : x = 1) {b : Bool} {y : Int} (hy : y = b2i b) (h2 : 1 ≤ c) (h3 : 1 ≤ s) (k : ∀ o h', fil h h' o [b] → K o h' (c - 1) (s - 1)) : gNA h 102 (gi 0) x c s (fun o h1 c1 s1 => gSI h1 o 102 0 (gi y) (fun h2 => K o h2 c1 s1)) :=
  fil.new (n := 1) (by omega) (by decide) h2 h3 (fun o h1 f => f.set (i := 0) rfl (by decide) (by decide) hy (fun h2 f2 => k o h2 f2))
/-- the loops that fill a row by a known word -/
theorem r_bs_L {Q : Int → gaH → Prop} (r : mR h a u) (hl : u.length ≤ 1000) : ∀ (n i c : Nat), i ≤ u.length → u.length - i < n → c ≤ i → Q ((c + ones (u.drop i) : Nat) : Int) h → w_X7_bs_L10 Q n (c : Int) a (u.length : Int) (i : Int) h
  | 0, i, c, _, h1, _, _ => absurd h1 (Nat.not_lt_zero _)
  | n + 1, i, c, hi, h1, hc, k => by
    unfold w_X7_bs_L10
    (first | refine And.intro (show gR _ from by first | assumption | omega | decide | exact b2i_R _ | exact gR_of (by omega) (by omega)) ?_ | refine And.intro (show gHas _ _ _ from by first | exact gW.has (gD.w (by assumption)) (by omega) | exact gD.has (by assumption) | exact gRu.has (gD.ru (by assumption)) | exact gGr.has (gD.gr (by assumption) _ (by omega))) ?_ | refine gCall_mk (by decide) (by decide) ?_ | refine if_yes (by first | assumption | omega | decide | exact b2i_R _ | exact gR_of (by omega) (by omega)) ?_ | refine if_no (by first | assumption | omega | decide | exact b2i_R _ | exact gR_of (by omega) (by omega)) ?_); (first | refine And.intro (show gR _ from by first | assumption | omega | decide | exact b2i_R _ | exact gR_of (by omega) (by omega)) ?_ | refine And.intro (show gHas _ _ _ from by first | exact gW.has (gD.w (by assumption)) (by omega) | exact gD.has (by assumption) | exact gRu.has (gD.ru (by assumption)) | exact gGr.has (gD.gr (by assumption) _ (by omega))) ?_ | refine gCall_mk (by decide) (by decide) ?_ | refine if_yes (by first | assumption | omega | decide | exact b2i_R _ | exact gR_of (by omega) (by omega)) ?_ | refine if_no (by first | assumption | omega | decide | exact b2i_R _ | exact gR_of (by omega) (by omega)) ?_)
    by_cases q : u.length ≤ i
    · refine if_yes (by omega) ?_
      rw [List.drop_of_length_le q] at k; exact k
    · refine if_no (by omega) (r.at rfl (by omega) (by omega) ?_)
      rw [take_one (u := u) (i := i) (by omega)] at k
      rw [show (i : Int) + 1 = ((i + 1 : Nat) : Int) by omega]
      generalize u.getD i false = y at k
      cases y
      · rw [show (c : Int) + b2i false = (c : Int) by simp [b2i]]
        exact r_bs_L r hl n (i + 1) c (by omega) (by omega) (by omega) (by simpa [ones] using k)
      · rw [show (c : Int) + b2i true = ((c + 1 : Nat) : Int) by simp [b2i]]
        refine r_bs_L r hl n (i + 1) (c + 1) (by omega) (by omega) (by omega) ?_
        have e2 : c + 1 + ones (u.drop (i + 1)) = c + ones (true :: u.drop (i + 1)) := by simp [ones]; omega
        rw [e2]; exact k
theorem r_bs {Q : Int → gaH → Prop} (r : mR h a u) (hl : u.length ≤ 1000) (k : Q (ones u : Int) h) : w_X7_bs a h Q := by
  unfold w_X7_bs
  refine r.len ⟨u.length + 1, ?_⟩
  have := r_bs_L r hl (Q := Q) (u.length + 1) 0 0 (Nat.zero_le _) (by omega) (Nat.le_refl _) (by simpa using k)
  simpa using this
theorem r_crossOf {Q : Int → gaH → Prop} (r : mR h a u) (s : mR h b v) (hl : u.length ≤ 1000) (hm : v.length ≤ 1000) (k : Q ((u.length : Int) * (ones v : Int) - (v.length : Int) * (ones u : Int)) h) : w_X7_crossOf a b h Q := by
  unfold w_X7_crossOf
  exact r.len (r_bs s hm (s.len (r_bs r hl k)))
theorem r_spliced_L {Q : Nat → gaH → Prop} (ru : mR h0 a u) (rv : mR h0 b v) {f t : Nat} (hft : f ≤ t) (ht : t ≤ u.length) (h1 : u.length ≤ 64) (h2 : v.length ≤ 64) (k : ∀ h', fil h0 h' o (u.take f ++ v ++ u.drop t) → Q o h') {kc ks : Nat} : ∀ (z i : Nat) (h : gaH), fil h0 h o (pf (u.take f ++ v ++ u.drop t) i) → i ≤ f + v.length + (u.length - t) → f + v.length + (u.length - t) - i < z → w_X7_spliced_L16 Q z a (f : Int) (t : Int) b o (i : Int) h kc ks
  | 0, _, _, _, _, h9 => absurd h9 (Nat.not_lt_zero _)
  | z + 1, i, h, fl, hi, h9 => by
    have hT : (u.take f ++ v ++ u.drop t).length = f + v.length + (u.length - t) := by simp; omega
    have hp : (pf (u.take f ++ v ++ u.drop t) i).length = f + v.length + (u.length - t) := by rw [pf_len (by omega), hT]
    unfold w_X7_spliced_L16
    refine fl.2.2.len ?_
    rw [hp]
    (first | refine And.intro (show gR _ from by first | assumption | omega | decide | exact b2i_R _ | exact gR_of (by omega) (by omega)) ?_ | refine And.intro (show gHas _ _ _ from by first | exact gW.has (gD.w (by assumption)) (by omega) | exact gD.has (by assumption) | exact gRu.has (gD.ru (by assumption)) | exact gGr.has (gD.gr (by assumption) _ (by omega))) ?_ | refine gCall_mk (by decide) (by decide) ?_ | refine if_yes (by first | assumption | omega | decide | exact b2i_R _ | exact gR_of (by omega) (by omega)) ?_ | refine if_no (by first | assumption | omega | decide | exact b2i_R _ | exact gR_of (by omega) (by omega)) ?_); (first | refine And.intro (show gR _ from by first | assumption | omega | decide | exact b2i_R _ | exact gR_of (by omega) (by omega)) ?_ | refine And.intro (show gHas _ _ _ from by first | exact gW.has (gD.w (by assumption)) (by omega) | exact gD.has (by assumption) | exact gRu.has (gD.ru (by assumption)) | exact gGr.has (gD.gr (by assumption) _ (by omega))) ?_ | refine gCall_mk (by decide) (by decide) ?_ | refine if_yes (by first | assumption | omega | decide | exact b2i_R _ | exact gR_of (by omega) (by omega)) ?_ | refine if_no (by first | assumption | omega | decide | exact b2i_R _ | exact gR_of (by omega) (by omega)) ?_)
    by_cases q : f + v.length + (u.length - t) ≤ i
    · refine if_yes (by omega) (k h ?_)
      obtain rfl : i = (u.take f ++ v ++ u.drop t).length := by omega
      rw [pf_end] at fl; exact fl
    · refine if_no (by omega) ?_
      have fin : ∀ y : Int, y = b2i ((u.take f ++ v ++ u.drop t).getD i false) → w_X7_spliced_J70 Q (w_X7_spliced_L16 Q z) a (f : Int) (t : Int) b o (i : Int) o (i : Int) y h kc ks := fun y hy => by
        unfold w_X7_spliced_J70
        refine fl.set rfl (by rw [hp]; omega) (by omega) hy (fun h3 f3 => ?_)
        rw [pf_set (by omega)] at f3
        rw [show (i : Int) + 1 = ((i + 1 : Nat) : Int) by omega]
        exact r_spliced_L ru rv hft ht h1 h2 k z (i + 1) h3 f3 (by omega) (by omega)
      have ru2 := ru.on fl.2.1
      have rv2 := rv.on fl.2.1
      (first | refine And.intro (show gR _ from by first | assumption | omega | decide | exact b2i_R _ | exact gR_of (by omega) (by omega)) ?_ | refine And.intro (show gHas _ _ _ from by first | exact gW.has (gD.w (by assumption)) (by omega) | exact gD.has (by assumption) | exact gRu.has (gD.ru (by assumption)) | exact gGr.has (gD.gr (by assumption) _ (by omega))) ?_ | refine gCall_mk (by decide) (by decide) ?_ | refine if_yes (by first | assumption | omega | decide | exact b2i_R _ | exact gR_of (by omega) (by omega)) ?_ | refine if_no (by first | assumption | omega | decide | exact b2i_R _ | exact gR_of (by omega) (by omega)) ?_); (first | refine And.intro (show gR _ from by first | assumption | omega | decide | exact b2i_R _ | exact gR_of (by omega) (by omega)) ?_ | refine And.intro (show gHas _ _ _ from by first | exact gW.has (gD.w (by assumption)) (by omega) | exact gD.has (by assumption) | exact gRu.has (gD.ru (by assumption)) | exact gGr.has (gD.gr (by assumption) _ (by omega))) ?_ | refine gCall_mk (by decide) (by decide) ?_ | refine if_yes (by first | assumption | omega | decide | exact b2i_R _ | exact gR_of (by omega) (by omega)) ?_ | refine if_no (by first | assumption | omega | decide | exact b2i_R _ | exact gR_of (by omega) (by omega)) ?_)
      by_cases q2 : f ≤ i
      · refine if_yes (by omega) (rv2.len ?_)
        (first | refine And.intro (show gR _ from by first | assumption | omega | decide | exact b2i_R _ | exact gR_of (by omega) (by omega)) ?_ | refine And.intro (show gHas _ _ _ from by first | exact gW.has (gD.w (by assumption)) (by omega) | exact gD.has (by assumption) | exact gRu.has (gD.ru (by assumption)) | exact gGr.has (gD.gr (by assumption) _ (by omega))) ?_ | refine gCall_mk (by decide) (by decide) ?_ | refine if_yes (by first | assumption | omega | decide | exact b2i_R _ | exact gR_of (by omega) (by omega)) ?_ | refine if_no (by first | assumption | omega | decide | exact b2i_R _ | exact gR_of (by omega) (by omega)) ?_); (first | refine And.intro (show gR _ from by first | assumption | omega | decide | exact b2i_R _ | exact gR_of (by omega) (by omega)) ?_ | refine And.intro (show gHas _ _ _ from by first | exact gW.has (gD.w (by assumption)) (by omega) | exact gD.has (by assumption) | exact gRu.has (gD.ru (by assumption)) | exact gGr.has (gD.gr (by assumption) _ (by omega))) ?_ | refine gCall_mk (by decide) (by decide) ?_ | refine if_yes (by first | assumption | omega | decide | exact b2i_R _ | exact gR_of (by omega) (by omega)) ?_ | refine if_no (by first | assumption | omega | decide | exact b2i_R _ | exact gR_of (by omega) (by omega)) ?_)
        by_cases q3 : f + v.length ≤ i
        · refine if_yes (by omega) (rv2.len (ru2.at (i := i - v.length + t - f) (by omega) (by omega) (by omega) (fin _ ?_)))
          rw [List.getD_eq_getElem?_getD, List.getD_eq_getElem?_getD, List.getElem?_append_right (by simp; omega), List.getElem?_drop]
          simp only [List.length_append, List.length_take]
          congr 3; omega
        · refine if_no (by omega) (rv2.at (i := i - f) (by omega) (by omega) (by omega) (fin _ ?_))
          rw [List.getD_eq_getElem?_getD, List.getD_eq_getElem?_getD, List.append_assoc, List.getElem?_append_right (by simp; omega), List.getElem?_append_left (by simp; omega)]
          simp only [List.length_take]
          congr 3; omega
      · refine if_no (by omega) (ru2.at (i := i) rfl (by omega) (by omega) (fin _ ?_))
        rw [List.getD_eq_getElem?_getD, List.getD_eq_getElem?_getD, List.append_assoc, List.getElem?_append_left (by simp; omega), List.getElem?_take_of_lt (by omega)]
theorem r_spliced {Q : Nat → gaH → Prop} (ru : mR h a u) (rv : mR h b v) {x y : Int} {f t : Nat} (hx : x = (f : Int)) (hy : y = (t : Int)) (hft : f ≤ t) (ht : t ≤ u.length) (h1 : u.length ≤ 64) (h2 : v.length ≤ 64) (k : ∀ o h', fil h h' o (u.take f ++ v ++ u.drop t) → Q o h') : w_X7_spliced a x y b h Q := by
  subst hx; subst hy
  unfold w_X7_spliced
  refine ru.len (rv.len (fil.new (n := f + v.length + (u.length - t)) (by omega) (by omega) (by decide) (by omega) (fun o h1' fl => ⟨130, ?_⟩)))
  refine r_spliced_L ru rv hft ht h1 h2 (fun h' f' => k o h' f') 130 0 h1' ?_ (Nat.zero_le _) (by omega)
  rw [pf_0, show (u.take f ++ v ++ u.drop t).length = f + v.length + (u.length - t) by simp; omega]
  exact fl
theorem unl_ge (u v : List Bool) : ∀ (f i : Nat), unl u v f i = -1 ∨ (i : Int) ≤ unl u v f i
  | 0, _ => Or.inl rfl
  | f + 1, i => by
    unfold unl
    split
    · exact Or.inl rfl
    · split
      · rcases unl_ge u v f (i + 1) with q | q
        · exact Or.inl q
        · right; omega
      · right; omega
theorem r_alikeOf_L {Q : Int → gaH → Prop} {p q : Nat} (rp : mR h p (u ++ v)) (rq : mR h q (v ++ u)) (h1 : u.length ≤ 64) (h2 : v.length ≤ 64) {kc ks : Nat} : ∀ (z i f : Nat), i ≤ (u ++ v).length → (u ++ v).length - i < z → (u ++ v).length - i < f → unl u v f i ≠ -1 → Q (unl u v f i) h → w_X7_alikeOf_L23 Q z p q (i : Int) h kc ks
  | 0, _, _, _, h9, _, _, _ => absurd h9 (Nat.not_lt_zero _)
  | z + 1, i, 0, _, _, h8, _, _ => absurd h8 (Nat.not_lt_zero _)
  | z + 1, i, f + 1, hi, h9, h8, hne, k => by
    have e1 : (u ++ v).length = u.length + v.length := by simp
    have e2 : (v ++ u).length = u.length + v.length := by simp; omega
    unfold unl at hne k
    by_cases q1 : (u ++ v).length ≤ i
    · rw [if_pos q1] at hne; exact absurd rfl hne
    · rw [if_neg q1] at hne k
      unfold w_X7_alikeOf_L23
      refine rp.at rfl (by omega) (by omega) (rq.at rfl (by omega) (by omega) ?_)
      (first | refine And.intro (show gR _ from by first | assumption | omega | decide | exact b2i_R _ | exact gR_of (by omega) (by omega)) ?_ | refine And.intro (show gHas _ _ _ from by first | exact gW.has (gD.w (by assumption)) (by omega) | exact gD.has (by assumption) | exact gRu.has (gD.ru (by assumption)) | exact gGr.has (gD.gr (by assumption) _ (by omega))) ?_ | refine gCall_mk (by decide) (by decide) ?_ | refine if_yes (by first | assumption | omega | decide | exact b2i_R _ | exact gR_of (by omega) (by omega)) ?_ | refine if_no (by first | assumption | omega | decide | exact b2i_R _ | exact gR_of (by omega) (by omega)) ?_); (first | refine And.intro (show gR _ from by first | assumption | omega | decide | exact b2i_R _ | exact gR_of (by omega) (by omega)) ?_ | refine And.intro (show gHas _ _ _ from by first | exact gW.has (gD.w (by assumption)) (by omega) | exact gD.has (by assumption) | exact gRu.has (gD.ru (by assumption)) | exact gGr.has (gD.gr (by assumption) _ (by omega))) ?_ | refine gCall_mk (by decide) (by decide) ?_ | refine if_yes (by first | assumption | omega | decide | exact b2i_R _ | exact gR_of (by omega) (by omega)) ?_ | refine if_no (by first | assumption | omega | decide | exact b2i_R _ | exact gR_of (by omega) (by omega)) ?_)
      by_cases q2 : (u ++ v).getD i false = (v ++ u).getD i false
      · rw [if_pos q2] at hne k
        refine if_yes (congrArg b2i q2) ?_
        rw [show (i : Int) + 1 = ((i + 1 : Nat) : Int) by omega]
        exact r_alikeOf_L rp rq h1 h2 z (i + 1) f (by omega) (by omega) (by omega) hne k
      · rw [if_neg q2] at k
        exact if_no (fun z => q2 ((b2i_eq _ _).mp z)) k
theorem r_alikeOf {Q : Int → gaH → Prop} (ru : mR h a u) (rv : mR h b v) (h1 : u.length ≤ 64) (h2 : v.length ≤ 64) (hne : unlike u v ≠ -1) (k : ∀ h', mK h h' → Q (unlike u v) h') : w_X7_alikeOf a b h Q := by
  unfold w_X7_alikeOf
  refine ru.len (ru.len (gCall_mk (by decide) (by decide) (r_spliced ru rv (f := u.length) (t := u.length) rfl rfl (Nat.le_refl _) (Nat.le_refl _) h1 h2 (fun p h3 f3 => ?_))))
  have ru3 := ru.on f3.2.1
  have rv3 := rv.on f3.2.1
  refine rv3.len (rv3.len (gCall_mk (by decide) (by decide) (r_spliced rv3 ru3 (f := v.length) (t := v.length) rfl rfl (Nat.le_refl _) (Nat.le_refl _) h2 h1 (fun q h4 f4 => ⟨130, ?_⟩))))
  have rp := f3.2.2.on f4.2.1
  have rq := f4.2.2
  simp only [List.take_length, List.drop_length, List.append_nil] at rp rq
  exact r_alikeOf_L rp rq h1 h2 130 0 _ (Nat.zero_le _) (by simp; omega) (by omega) hne (k h4 (f3.2.1.tr f4.2.1))
/-- words that grow are never alike both ways round -/
theorem grw_unlike : ∀ (n : Nat) (ts : List Nat), ts.length = n → (grw ts).2 ++ (grw ts).1 ≠ (grw ts).1 ++ (grw ts).2
  | 0, ts, hn => by rw [List.length_eq_zero_iff.mp hn]; decide
  | n + 1, ts, hn => by
    obtain ⟨us, t, rfl⟩ : ∃ us t, ts = us ++ [t] := ⟨ts.dropLast, ts.getLast (by intro h; rw [h] at hn; simp at hn), (List.dropLast_concat_getLast _).symm⟩
    rw [grw_snoc]
    intro q
    have ih := grw_unlike n us (by simpa using hn)
    simp only [gstep] at q
    have e : (grw us).2 ++ rep t (grw us).2 = rep t (grw us).2 ++ (grw us).2 := by
      rw [← rep_succ]; unfold rep; rw [List.replicate_succ]; rfl
    rw [← List.append_assoc (grw us).2, e, List.append_assoc, List.append_assoc] at q
    exact ih (List.append_cancel_left q).symm
theorem unl_none (u v : List Bool) : ∀ (f i : Nat), unl u v f i = -1 → (u ++ v).length - i < f → ∀ j, i ≤ j → j < (u ++ v).length → (u ++ v).getD j false = (v ++ u).getD j false
  | 0, _, _, h1 => absurd h1 (Nat.not_lt_zero _)
  | f + 1, i, e, h1 => by
    intro j hij hj
    unfold unl at e
    rw [if_neg (by omega)] at e
    by_cases q : (u ++ v).getD i false = (v ++ u).getD i false
    · rw [if_pos q] at e
      by_cases z : j = i
      · rw [z]; exact q
      · exact unl_none u v f (i + 1) e (by omega) j (by omega) hj
    · rw [if_neg q] at e; omega
theorem unlike_iff {u v : List Bool} (h : u ++ v ≠ v ++ u) : unlike u v ≠ -1 := fun e => h (by
  have hl : (u ++ v).length = (v ++ u).length := by simp; omega
  refine List.ext_getElem? (fun j => ?_)
  by_cases q : j < (u ++ v).length
  · have := unl_none u v _ 0 e (by omega) j (Nat.zero_le _) q
    rw [getD_lt q, getD_lt (by omega), this]
  · rw [List.getElem?_eq_none (by omega), List.getElem?_eq_none (by omega)])
theorem grw_alike (ts : List Nat) : unlike (grw ts).2 (grw ts).1 ≠ -1 := unlike_iff (grw_unlike _ ts rfl)
end RF
/-! The reference: codes, images, growths by copies. -/
section RC
variable {h h0 : gaH} {a b o : Nat} {u v w : List Bool}
theorem code_div : ∀ (m c : Nat), c ≤ m → 1 ≤ c → c < 65536 → c / 2 ^ (codeW c).length = 1
  | 0, c, h1, h2, _ => by omega
  | m + 1, c, h1, h2, h3 => by
    rw [codeW_step h3]
    by_cases q : c ≤ 1
    · rw [if_pos q]; simp; omega
    · rw [if_neg q, List.length_append, List.length_singleton, Nat.pow_succ, Nat.mul_comm, ← Nat.div_div_eq_div_mul]
      exact code_div m (c / 2) (by omega) (by omega) (by omega)
theorem code_at : ∀ (m c i : Nat), c ≤ m → 1 ≤ c → c < 65536 → i < (codeW c).length → (codeW c).getD i false = decide (c / 2 ^ ((codeW c).length - 1 - i) % 2 = 1)
  | 0, c, _, h1, h2, _, _ => by omega
  | m + 1, c, i, h1, h2, h3, hi => by
    rw [codeW_step h3] at hi ⊢
    by_cases q : c ≤ 1
    · rw [if_pos q] at hi; exact absurd hi (Nat.not_lt_zero _)
    · rw [if_neg q] at hi ⊢
      have ih := code_at m (c / 2)
      generalize codeW (c / 2) = t at ih hi ⊢
      rw [List.length_append, List.length_singleton] at hi ⊢
      by_cases z : i < t.length
      · rw [List.getD_eq_getElem?_getD, List.getElem?_append_left z, ← List.getD_eq_getElem?_getD, ih i (by omega) (by omega) (by omega) z, show t.length + 1 - 1 - i = (t.length - 1 - i) + 1 by omega, Nat.pow_succ, Nat.mul_comm (2 ^ _), ← Nat.div_div_eq_div_mul]
      · obtain rfl : i = t.length := by omega
        rw [List.getD_eq_getElem?_getD, List.getElem?_append_right (Nat.le_refl _)]
        simp
theorem r_ofCode_L21 {Q : Nat → gaH → Prop} {c : Nat} (h2 : 1 ≤ c) (h3 : c < 65536) (k : ∀ h', fil h0 h' o (codeW c) → Q o h') {kc ks : Nat} : ∀ (z i : Nat) (h : gaH), fil h0 h o (pf (codeW c) i) → i ≤ (codeW c).length → (codeW c).length - i < z → w_X7_ofCode_L21 Q z (c : Int) ((codeW c).length : Int) o (i : Int) h kc ks
  | 0, _, _, _, _, h9 => absurd h9 (Nat.not_lt_zero _)
  | z + 1, i, h, fl, hi, h9 => by
    have hl : (codeW c).length ≤ 16 := codeL_len 16 c
    unfold w_X7_ofCode_L21
    (first | refine And.intro (show gR _ from by first | assumption | omega | decide | exact b2i_R _ | exact gR_of (by omega) (by omega)) ?_ | refine And.intro (show gHas _ _ _ from by first | exact gW.has (gD.w (by assumption)) (by omega) | exact gD.has (by assumption) | exact gRu.has (gD.ru (by assumption)) | exact gGr.has (gD.gr (by assumption) _ (by omega))) ?_ | refine gCall_mk (by decide) (by decide) ?_ | refine if_yes (by first | assumption | omega | decide | exact b2i_R _ | exact gR_of (by omega) (by omega)) ?_ | refine if_no (by first | assumption | omega | decide | exact b2i_R _ | exact gR_of (by omega) (by omega)) ?_); (first | refine And.intro (show gR _ from by first | assumption | omega | decide | exact b2i_R _ | exact gR_of (by omega) (by omega)) ?_ | refine And.intro (show gHas _ _ _ from by first | exact gW.has (gD.w (by assumption)) (by omega) | exact gD.has (by assumption) | exact gRu.has (gD.ru (by assumption)) | exact gGr.has (gD.gr (by assumption) _ (by omega))) ?_ | refine gCall_mk (by decide) (by decide) ?_ | refine if_yes (by first | assumption | omega | decide | exact b2i_R _ | exact gR_of (by omega) (by omega)) ?_ | refine if_no (by first | assumption | omega | decide | exact b2i_R _ | exact gR_of (by omega) (by omega)) ?_)
    by_cases q : (codeW c).length ≤ i
    · refine if_yes (by omega) (k h ?_)
      obtain rfl : i = (codeW c).length := by omega
      rw [pf_end] at fl; exact fl
    · refine if_no (by omega) (fl.set rfl (by rw [pf_len hi]; omega) (by rw [pf_len hi]; omega) (b := (codeW c).getD i false) ?_ (fun h3 f3 => ?_))
      · rw [show ((codeW c).length : Int) - 1 - (i : Int) = (((codeW c).length - 1 - i : Nat) : Int) by omega, gShr_nat (by omega) (by omega), gAnd1_nat (Nat.lt_of_le_of_lt (Nat.div_le_self _ _) (by omega)), code_at c c i (Nat.le_refl _) h2 (by omega) (by omega)]
        rcases Nat.mod_two_eq_zero_or_one (c / 2 ^ ((codeW c).length - 1 - i)) with e | e <;> rw [e] <;> rfl
      · rw [pf_set (by omega)] at f3
        rw [show (i : Int) + 1 = ((i + 1 : Nat) : Int) by omega]
        exact r_ofCode_L21 h2 (by omega) k z (i + 1) h3 f3 (by omega) (by omega)
theorem r_ofCode_L2 {Q : Nat → gaH → Prop} {c : Nat} (h2 : 1 ≤ c) (h3 : c < 65536) (k : ∀ o h', fil h h' o (codeW c) → Q o h') : ∀ (z i : Nat), i ≤ (codeW c).length → (codeW c).length - i < z → w_X7_ofCode_L2 Q z (c : Int) (i : Int) h 1 16
  | 0, _, _, h9 => absurd h9 (Nat.not_lt_zero _)
  | z + 1, i, hi, h9 => by
    have hl : (codeW c).length ≤ 16 := codeL_len 16 c
    have hd := code_div c c (Nat.le_refl _) h2 h3
    have hc : ((c / 2 ^ i : Nat) : Int) < 65536 := by have := Nat.lt_of_le_of_lt (Nat.div_le_self c (2 ^ i)) h3; exact Int.ofNat_lt.mpr this
    have hc0 : 0 ≤ ((c / 2 ^ i : Nat) : Int) := Int.natCast_nonneg _
    unfold w_X7_ofCode_L2
    rw [gShr_nat (by omega) (by omega)]
    refine ⟨⟨Int.le_trans (by decide) hc0, Int.le_trans (Int.le_of_lt hc) (by decide)⟩, ?_⟩
    by_cases q : (codeW c).length ≤ i
    · obtain rfl : i = (codeW c).length := by omega
      refine if_yes (by rw [hd]; decide) (fil.new (n := (codeW c).length) rfl (by omega) (by decide) hl (fun o h' f => ⟨18, ?_⟩))
      exact r_ofCode_L21 h2 h3 (fun h'' f'' => k o h'' f'') 18 0 h' (by rw [pf_0]; exact f) (Nat.zero_le _) (by omega)
    · have h5 : 2 ^ (codeW c).length ≤ c := by
        have := Nat.div_mul_le_self c (2 ^ (codeW c).length)
        rw [hd] at this; omega
      have h6 : 2 ^ (i + 1) ≤ 2 ^ (codeW c).length := Nat.pow_le_pow_right (by decide) (by omega)
      have h7 : 2 ≤ c / 2 ^ i := by
        rw [Nat.le_div_iff_mul_le (Nat.pow_pos (by decide))]
        rw [Nat.pow_succ] at h6; omega
      refine if_no (fun q => absurd (Int.ofNat_le.mp q) (by omega)) ?_
      rw [show (i : Int) + 1 = ((i + 1 : Nat) : Int) by omega]
      exact r_ofCode_L2 h2 h3 k z (i + 1) (by omega) (by omega)
theorem r_ofCode {Q : Nat → gaH → Prop} {x : Int} {c : Nat} (hx : x = (c : Int)) (h2 : 1 ≤ c) (h3 : c < 65536) (k : ∀ o h', fil h h' o (codeW c) → Q o h') : w_X7_ofCode x h Q := by
  subst hx
  have hl : (codeW c).length ≤ 16 := codeL_len 16 c
  exact ⟨18, r_ofCode_L2 h2 h3 k 18 0 (Nat.zero_le _) (by omega)⟩
theorem r_image_L72 {Q : Nat → gaH → Prop} {p q : Nat} {t : List Bool} {s : Nat} {x : List Bool} (rx : mR h0 a x) (hx : x.length ≤ 1000) (ht : t.length ≤ 1000) (hst : s + x.length ≤ t.length) (hat : ∀ j, j < x.length → t.getD (s + j) false = x.getD j false) {v6 : Nat} {v7 v8 : Int} {kc ks : Nat} {K : Nat → Nat → Nat → Int → Nat → Int → Int → gaH → Nat → Nat → Prop} (k : ∀ h', fil h0 h' o (pf t (s + x.length)) → K p q o ((s + x.length : Nat) : Int) v6 v7 (v8 + 1) h' kc ks) : ∀ (z j : Nat) (h : gaH), fil h0 h o (pf t (s + j)) → j ≤ x.length → x.length - j < z → w_X7_image_L72 Q K z p q o ((s + j : Nat) : Int) v6 v7 v8 a (x.length : Int) (j : Int) h kc ks
  | 0, _, _, _, _, h9 => absurd h9 (Nat.not_lt_zero _)
  | z + 1, j, h, fl, hj, h9 => by
    unfold w_X7_image_L72
    (first | refine And.intro (show gR _ from by first | assumption | omega | decide | exact b2i_R _ | exact gR_of (by omega) (by omega)) ?_ | refine And.intro (show gHas _ _ _ from by first | exact gW.has (gD.w (by assumption)) (by omega) | exact gD.has (by assumption) | exact gRu.has (gD.ru (by assumption)) | exact gGr.has (gD.gr (by assumption) _ (by omega))) ?_ | refine gCall_mk (by decide) (by decide) ?_ | refine if_yes (by first | assumption | omega | decide | exact b2i_R _ | exact gR_of (by omega) (by omega)) ?_ | refine if_no (by first | assumption | omega | decide | exact b2i_R _ | exact gR_of (by omega) (by omega)) ?_); (first | refine And.intro (show gR _ from by first | assumption | omega | decide | exact b2i_R _ | exact gR_of (by omega) (by omega)) ?_ | refine And.intro (show gHas _ _ _ from by first | exact gW.has (gD.w (by assumption)) (by omega) | exact gD.has (by assumption) | exact gRu.has (gD.ru (by assumption)) | exact gGr.has (gD.gr (by assumption) _ (by omega))) ?_ | refine gCall_mk (by decide) (by decide) ?_ | refine if_yes (by first | assumption | omega | decide | exact b2i_R _ | exact gR_of (by omega) (by omega)) ?_ | refine if_no (by first | assumption | omega | decide | exact b2i_R _ | exact gR_of (by omega) (by omega)) ?_)
    by_cases q1 : x.length ≤ j
    · refine if_yes (by omega) ?_
      obtain rfl : j = x.length := by omega
      exact k h fl
    · refine if_no (by omega) ((rx.on fl.2.1).at rfl (by omega) (by omega) (fl.set (i := s + j) rfl (by rw [pf_len (by omega)]; omega) (by rw [pf_len (by omega)]; omega) rfl (fun h3 f3 => ?_)))
      rw [← hat j (by omega), pf_set (by omega)] at f3
      rw [show ((s + j : Nat) : Int) + 1 = ((s + (j + 1) : Nat) : Int) by omega, show (j : Int) + 1 = ((j + 1 : Nat) : Int) by omega]
      exact r_image_L72 rx hx ht hst hat k z (j + 1) h3 f3 (by omega) (by omega)
theorem r_image_L38 {Q : Nat → gaH → Prop} {p q : Nat} {x y : List Bool} (ru : mR h0 a u) (rx : mR h0 p x) (ry : mR h0 q y) (hu : u.length ≤ 1000) (hx : x.length ≤ 1000) (hy : y.length ≤ 1000) (ht : (img x y u).length ≤ 1000) (k : ∀ h', fil h0 h' o (img x y u) → Q o h') {kc ks : Nat} : ∀ (z i : Nat) (h : gaH), fil h0 h o (pf (img x y u) (img x y (u.take i)).length) → i ≤ u.length → u.length - i < z → w_X7_image_L38 Q z p q o ((img x y (u.take i)).length : Int) a (u.length : Int) (i : Int) h kc ks
  | 0, _, _, _, _, h9 => absurd h9 (Nat.not_lt_zero _)
  | z + 1, i, h, fl, hi, h9 => by
    unfold w_X7_image_L38
    (first | refine And.intro (show gR _ from by first | assumption | omega | decide | exact b2i_R _ | exact gR_of (by omega) (by omega)) ?_ | refine And.intro (show gHas _ _ _ from by first | exact gW.has (gD.w (by assumption)) (by omega) | exact gD.has (by assumption) | exact gRu.has (gD.ru (by assumption)) | exact gGr.has (gD.gr (by assumption) _ (by omega))) ?_ | refine gCall_mk (by decide) (by decide) ?_ | refine if_yes (by first | assumption | omega | decide | exact b2i_R _ | exact gR_of (by omega) (by omega)) ?_ | refine if_no (by first | assumption | omega | decide | exact b2i_R _ | exact gR_of (by omega) (by omega)) ?_); (first | refine And.intro (show gR _ from by first | assumption | omega | decide | exact b2i_R _ | exact gR_of (by omega) (by omega)) ?_ | refine And.intro (show gHas _ _ _ from by first | exact gW.has (gD.w (by assumption)) (by omega) | exact gD.has (by assumption) | exact gRu.has (gD.ru (by assumption)) | exact gGr.has (gD.gr (by assumption) _ (by omega))) ?_ | refine gCall_mk (by decide) (by decide) ?_ | refine if_yes (by first | assumption | omega | decide | exact b2i_R _ | exact gR_of (by omega) (by omega)) ?_ | refine if_no (by first | assumption | omega | decide | exact b2i_R _ | exact gR_of (by omega) (by omega)) ?_)
    by_cases q1 : u.length ≤ i
    · refine if_yes (by omega) (k h ?_)
      rw [List.take_of_length_le q1, pf_end] at fl; exact fl
    · refine if_no (by omega) ((ru.on fl.2.1).at rfl (by omega) (by omega) ⟨b2i_R _, ?_⟩)
      have e1 : u = u.take i ++ (u.getD i false :: u.drop (i + 1)) := by rw [← take_one (by omega)]; exact (List.take_append_drop i u).symm
      have e2 : u.take (i + 1) = u.take i ++ [u.getD i false] := by rw [List.take_add_one, getD_lt (by omega)]; rfl
      have go : ∀ (c : Nat) (m : List Bool), mR h0 c m → m.length ≤ 1000 → img x y [u.getD i false] = m → w_X7_image_J62 Q (w_X7_image_L38 Q z) p q o ((img x y (u.take i)).length : Int) a (u.length : Int) (i : Int) c h kc ks := by
        intro c m rm hm em
        have e3 : img x y u = img x y (u.take i) ++ (m ++ img x y (u.drop (i + 1))) := by
          conv => lhs; rw [e1]
          rw [img_app, show u.getD i false :: u.drop (i + 1) = [u.getD i false] ++ u.drop (i + 1) from rfl, img_app, em]
        have e4 : (img x y (u.take (i + 1))).length = (img x y (u.take i)).length + m.length := by rw [e2, img_app, em, List.length_append]
        have e5 : (img x y u).length = (img x y (u.take i)).length + (m.length + (img x y (u.drop (i + 1))).length) := by rw [e3]; simp
        unfold w_X7_image_J62
        refine (rm.on fl.2.1).len ⟨1002, ?_⟩
        refine r_image_L72 (s := (img x y (u.take i)).length) rm hm ht (by omega) (fun j hj => ?_) (fun h3 f3 => ?_) 1002 0 h fl (Nat.zero_le _) (by omega)
        · rw [e3, List.getD_eq_getElem?_getD, List.getElem?_append_right (by omega), Nat.add_sub_cancel_left, List.getElem?_append_left hj, ← List.getD_eq_getElem?_getD]
        · rw [← e4] at f3 ⊢
          rw [show (i : Int) + 1 = ((i + 1 : Nat) : Int) by omega]
          exact r_image_L38 ru rx ry hu hx hy ht k z (i + 1) h3 f3 (by omega) (by omega)
      generalize u.getD i false = y1 at go
      cases y1
      · exact if_yes rfl (go p x rx hx (by simp [img]))
      · exact if_no (by decide) (go q y ry hy (by simp [img]))
theorem r_image {Q : Nat → gaH → Prop} {p q : Nat} {x y : List Bool} (ru : mR h a u) (rx : mR h p x) (ry : mR h q y) (hu : u.length ≤ 1000) (hx : x.length ≤ 1000) (hy : y.length ≤ 1000) (ht : (img x y u).length ≤ 256) (k : ∀ o h', fil h h' o (img x y u) → Q o h') : w_X7_image a p q h Q := by
  have e := img_len x y u
  have l1 := ones_le u
  unfold w_X7_image
  refine ru.len (r_bs ru hu (rx.len (r_bs ru hu (ry.len (fil.new (n := (img x y u).length) ?_ (by omega) (by decide) ht (fun o h' f => (ru.on f.2.1).len ⟨1002, ?_⟩))))))
  · rw [e]; push_cast; rw [Int.ofNat_sub l1]
  · exact r_image_L38 ru rx ry hu hx hy (by omega) (fun h'' f'' => k o h'' f'') 1002 0 h' (by rw [List.take_zero]; show fil h h' o (pf _ 0); rw [pf_0]; exact f) (Nat.zero_le _) (by omega)
theorem r_standsAt_L {Q : Int → gaH → Prop} (ru : mR h a u) (rv : mR h b v) {p : Nat} (hp : p + v.length ≤ u.length) (hu : u.length ≤ 1000) : ∀ (n i : Nat), i ≤ v.length → v.length - i < n → Q (b2i (decide ((u.drop (p + i)).take (v.length - i) = v.drop i))) h → w_X7_standsAt_L13 Q n a b (p : Int) (i : Int) h
  | 0, _, _, h9, _ => absurd h9 (Nat.not_lt_zero _)
  | n + 1, i, hi, h9, k => by
    unfold w_X7_standsAt_L13
    refine rv.len ?_
    (first | refine And.intro (show gR _ from by first | assumption | omega | decide | exact b2i_R _ | exact gR_of (by omega) (by omega)) ?_ | refine And.intro (show gHas _ _ _ from by first | exact gW.has (gD.w (by assumption)) (by omega) | exact gD.has (by assumption) | exact gRu.has (gD.ru (by assumption)) | exact gGr.has (gD.gr (by assumption) _ (by omega))) ?_ | refine gCall_mk (by decide) (by decide) ?_ | refine if_yes (by first | assumption | omega | decide | exact b2i_R _ | exact gR_of (by omega) (by omega)) ?_ | refine if_no (by first | assumption | omega | decide | exact b2i_R _ | exact gR_of (by omega) (by omega)) ?_); (first | refine And.intro (show gR _ from by first | assumption | omega | decide | exact b2i_R _ | exact gR_of (by omega) (by omega)) ?_ | refine And.intro (show gHas _ _ _ from by first | exact gW.has (gD.w (by assumption)) (by omega) | exact gD.has (by assumption) | exact gRu.has (gD.ru (by assumption)) | exact gGr.has (gD.gr (by assumption) _ (by omega))) ?_ | refine gCall_mk (by decide) (by decide) ?_ | refine if_yes (by first | assumption | omega | decide | exact b2i_R _ | exact gR_of (by omega) (by omega)) ?_ | refine if_no (by first | assumption | omega | decide | exact b2i_R _ | exact gR_of (by omega) (by omega)) ?_)
    by_cases q : v.length ≤ i
    · refine if_yes (by omega) ?_
      rw [List.drop_of_length_le q, show v.length - i = 0 by omega, List.take_zero, decide_eq_true rfl] at k
      exact k
    · refine if_no (by omega) (ru.at (i := p + i) (by omega) (by omega) (by omega) (rv.at rfl (by omega) (by omega) ⟨b2i_R _, b2i_R _, ?_⟩))
      rw [show v.length - i = (v.length - (i + 1)) + 1 by omega, take_one (u := u) (i := p + i) (by omega), take_one (u := v) (i := i) (by omega), List.take_succ_cons] at k
      by_cases z : u.getD (p + i) false = v.getD i false
      · refine if_yes (congrArg b2i z) ?_
        rw [show (i : Int) + 1 = ((i + 1 : Nat) : Int) by omega]
        refine r_standsAt_L ru rv hp hu n (i + 1) (by omega) (by omega) ?_
        rw [z, show p + i + 1 = p + (i + 1) by omega] at k
        simpa using k
      · refine if_no (fun q9 => z ((b2i_eq _ _).mp q9)) ?_
        rw [decide_eq_false (fun q9 => z (List.cons.inj q9).1)] at k
        exact k
theorem r_standsAt {Q : Int → gaH → Prop} (ru : mR h a u) (rv : mR h b v) {x : Int} {p : Nat} (hx : x = (p : Int)) (hp : p ≤ 1000) (hu : u.length ≤ 1000) (hv : v.length ≤ 1000) (k : Q (b2i (stands u v p)) h) : w_X7_standsAt a b x h Q := by
  subst hx
  unfold w_X7_standsAt
  refine rv.len (ru.len ?_)
  (first | refine And.intro (show gR _ from by first | assumption | omega | decide | exact b2i_R _ | exact gR_of (by omega) (by omega)) ?_ | refine And.intro (show gHas _ _ _ from by first | exact gW.has (gD.w (by assumption)) (by omega) | exact gD.has (by assumption) | exact gRu.has (gD.ru (by assumption)) | exact gGr.has (gD.gr (by assumption) _ (by omega))) ?_ | refine gCall_mk (by decide) (by decide) ?_ | refine if_yes (by first | assumption | omega | decide | exact b2i_R _ | exact gR_of (by omega) (by omega)) ?_ | refine if_no (by first | assumption | omega | decide | exact b2i_R _ | exact gR_of (by omega) (by omega)) ?_); (first | refine And.intro (show gR _ from by first | assumption | omega | decide | exact b2i_R _ | exact gR_of (by omega) (by omega)) ?_ | refine And.intro (show gHas _ _ _ from by first | exact gW.has (gD.w (by assumption)) (by omega) | exact gD.has (by assumption) | exact gRu.has (gD.ru (by assumption)) | exact gGr.has (gD.gr (by assumption) _ (by omega))) ?_ | refine gCall_mk (by decide) (by decide) ?_ | refine if_yes (by first | assumption | omega | decide | exact b2i_R _ | exact gR_of (by omega) (by omega)) ?_ | refine if_no (by first | assumption | omega | decide | exact b2i_R _ | exact gR_of (by omega) (by omega)) ?_)
  unfold stands at k
  by_cases q : p + v.length ≤ u.length
  · refine if_yes (by omega) ⟨v.length + 1, r_standsAt_L ru rv q hu _ 0 (Nat.zero_le _) (by omega) ?_⟩
    rw [decide_eq_true q, Bool.true_and] at k
    exact k
  · refine if_no (by omega) ?_
    rw [decide_eq_false q, Bool.false_and] at k
    exact k
theorem r_areSame {Q : Int → gaH → Prop} (ru : mR h a u) (rv : mR h b v) (hu : u.length ≤ 1000) (hv : v.length ≤ 1000) (k : Q (b2i (decide (u = v))) h) : w_X7_areSame a b h Q := by
  unfold w_X7_areSame
  refine ru.len (rv.len ?_)
  (first | refine And.intro (show gR _ from by first | assumption | omega | decide | exact b2i_R _ | exact gR_of (by omega) (by omega)) ?_ | refine And.intro (show gHas _ _ _ from by first | exact gW.has (gD.w (by assumption)) (by omega) | exact gD.has (by assumption) | exact gRu.has (gD.ru (by assumption)) | exact gGr.has (gD.gr (by assumption) _ (by omega))) ?_ | refine gCall_mk (by decide) (by decide) ?_ | refine if_yes (by first | assumption | omega | decide | exact b2i_R _ | exact gR_of (by omega) (by omega)) ?_ | refine if_no (by first | assumption | omega | decide | exact b2i_R _ | exact gR_of (by omega) (by omega)) ?_); (first | refine And.intro (show gR _ from by first | assumption | omega | decide | exact b2i_R _ | exact gR_of (by omega) (by omega)) ?_ | refine And.intro (show gHas _ _ _ from by first | exact gW.has (gD.w (by assumption)) (by omega) | exact gD.has (by assumption) | exact gRu.has (gD.ru (by assumption)) | exact gGr.has (gD.gr (by assumption) _ (by omega))) ?_ | refine gCall_mk (by decide) (by decide) ?_ | refine if_yes (by first | assumption | omega | decide | exact b2i_R _ | exact gR_of (by omega) (by omega)) ?_ | refine if_no (by first | assumption | omega | decide | exact b2i_R _ | exact gR_of (by omega) (by omega)) ?_)
  by_cases q : u.length = v.length
  · refine if_yes (by omega) (r_standsAt ru rv (p := 0) rfl (by decide) hu hv ?_)
    have e : stands u v 0 = decide (u = v) := by
      unfold stands
      rw [decide_eq_true (by omega), Bool.true_and, List.drop_zero, List.take_of_length_le (by omega)]
    rw [e]
    (first | refine And.intro (show gR _ from by first | assumption | omega | decide | exact b2i_R _ | exact gR_of (by omega) (by omega)) ?_ | refine And.intro (show gHas _ _ _ from by first | exact gW.has (gD.w (by assumption)) (by omega) | exact gD.has (by assumption) | exact gRu.has (gD.ru (by assumption)) | exact gGr.has (gD.gr (by assumption) _ (by omega))) ?_ | refine gCall_mk (by decide) (by decide) ?_ | refine if_yes (by first | assumption | omega | decide | exact b2i_R _ | exact gR_of (by omega) (by omega)) ?_ | refine if_no (by first | assumption | omega | decide | exact b2i_R _ | exact gR_of (by omega) (by omega)) ?_)
    by_cases z : u = v
    · rw [decide_eq_true z] at k ⊢; exact if_no (by decide) k
    · rw [decide_eq_false z] at k ⊢; exact if_yes rfl k
  · refine if_no (by omega) ?_
    rw [decide_eq_false (fun z => q (by rw [z]))] at k
    exact k
theorem r_turned_L {Q : Nat → gaH → Prop} (ru : mR h0 a u) (hu : u.length ≤ 64) (k : ∀ h', fil h0 h' o u.reverse → Q o h') {kc ks : Nat} : ∀ (z i : Nat) (h : gaH), fil h0 h o (pf u.reverse i) → i ≤ u.length → u.length - i < z → w_X7_turned_L7 Q z a o (i : Int) h kc ks
  | 0, _, _, _, _, h9 => absurd h9 (Nat.not_lt_zero _)
  | z + 1, i, h, fl, hi, h9 => by
    have hr : u.reverse.length = u.length := List.length_reverse
    unfold w_X7_turned_L7
    have ru2 := ru.on fl.2.1
    refine ru2.len ?_
    (first | refine And.intro (show gR _ from by first | assumption | omega | decide | exact b2i_R _ | exact gR_of (by omega) (by omega)) ?_ | refine And.intro (show gHas _ _ _ from by first | exact gW.has (gD.w (by assumption)) (by omega) | exact gD.has (by assumption) | exact gRu.has (gD.ru (by assumption)) | exact gGr.has (gD.gr (by assumption) _ (by omega))) ?_ | refine gCall_mk (by decide) (by decide) ?_ | refine if_yes (by first | assumption | omega | decide | exact b2i_R _ | exact gR_of (by omega) (by omega)) ?_ | refine if_no (by first | assumption | omega | decide | exact b2i_R _ | exact gR_of (by omega) (by omega)) ?_); (first | refine And.intro (show gR _ from by first | assumption | omega | decide | exact b2i_R _ | exact gR_of (by omega) (by omega)) ?_ | refine And.intro (show gHas _ _ _ from by first | exact gW.has (gD.w (by assumption)) (by omega) | exact gD.has (by assumption) | exact gRu.has (gD.ru (by assumption)) | exact gGr.has (gD.gr (by assumption) _ (by omega))) ?_ | refine gCall_mk (by decide) (by decide) ?_ | refine if_yes (by first | assumption | omega | decide | exact b2i_R _ | exact gR_of (by omega) (by omega)) ?_ | refine if_no (by first | assumption | omega | decide | exact b2i_R _ | exact gR_of (by omega) (by omega)) ?_)
    by_cases q : u.length ≤ i
    · refine if_yes (by omega) (k h ?_)
      obtain rfl : i = u.reverse.length := by omega
      rw [pf_end] at fl; exact fl
    · refine if_no (by omega) (ru2.len (ru2.at (i := u.length - 1 - i) (by omega) (by omega) (by omega) (fl.set rfl (by rw [pf_len (by omega)]; omega) (by rw [pf_len (by omega)]; omega) rfl (fun h3 f3 => ?_))))
      have e : u.getD (u.length - 1 - i) false = u.reverse.getD i false := by
        rw [List.getD_eq_getElem?_getD, List.getD_eq_getElem?_getD, List.getElem?_reverse (by omega)]
      rw [e, pf_set (by omega)] at f3
      rw [show (i : Int) + 1 = ((i + 1 : Nat) : Int) by omega]
      exact r_turned_L ru hu k z (i + 1) h3 f3 (by omega) (by omega)
theorem r_turned {Q : Nat → gaH → Prop} (ru : mR h a u) (hu : u.length ≤ 64) (k : ∀ o h', fil h h' o u.reverse → Q o h') : w_X7_turned a h Q := by
  unfold w_X7_turned
  refine ru.len (fil.new (n := u.length) rfl (by omega) (by decide) hu (fun o h' f => ⟨66, ?_⟩))
  exact r_turned_L ru hu (fun h'' f'' => k o h'' f'') 66 0 h' (by rw [pf_0, List.length_reverse]; exact f) (Nat.zero_le _) (by omega)
end RC
/-! The reference's object, and its growths. -/
def gM (B : Nat → Nat) (h : gaH) (st : GSt) (no : Int) : Prop := ∃ s : Nat → Nat, h (B 0) = some (7, [.ref (B 1), .ref (B 2), .ref (B 3), gi (st.C 0), gi (st.C 1), gi (st.C 2), gi (st.C 3), gi no]) ∧ h (B 1) = some (112, [.ref (s 0), .ref (s 1), .ref (s 2)]) ∧ (∀ w, w < 3 → mR h (s w) (st.S w) ∧ (st.S w).length ≤ 64 ∧ ∀ i, i < 38 → s w ≠ B i) ∧ h (B 2) = some (112, [.ref (B 4), .ref (B 5)]) ∧ h (B 3) = some (102, [gi ((st.T 0).length : Int), gi ((st.T 1).length : Int)]) ∧ (∀ g, g < 2 → gOk (st.T g) ∧ ∃ row : List Int, row.length = 64 ∧ h (B (4 + g)) = some (102, row.map gi) ∧ ∀ i, i < (st.T g).length → row[i]? = ((st.T g)[i]?).map (fun t => (t : Int))) ∧ (∀ i j, i < 6 → j < 6 → B i = B j → i = j) ∧ ∀ i, i < 38 → ∃ e, h (B i) = some e
theorem gOk.take {ts : List Nat} (h : gOk ts) : ∀ (n i : Nat), ts.length - i ≤ n → gOk (ts.take i)
  | 0, i, hi => by rw [List.take_of_length_le (by omega)]; exact h
  | n + 1, i, hi => by
    by_cases q : ts.length ≤ i
    · rw [List.take_of_length_le q]; exact h
    · have ih := gOk.take h n (i + 1) (by omega)
      rw [List.take_add_one, List.getElem?_eq_getElem (by omega)] at ih
      exact gOk.pre ih
theorem take_snoc {ts : List Nat} {i : Nat} (hi : i < ts.length) : ts.take (i + 1) = ts.take i ++ [ts.getD i 0] := by
  rw [List.take_add_one, List.getD_eq_getElem?_getD, List.getElem?_eq_getElem hi]; rfl
theorem rep_at (y : List Bool) : ∀ (t j : Nat), j < t * y.length → (rep t y).getD j false = y.getD (j % y.length) false
  | 0, j, hj => by omega
  | t + 1, j, hj => by
    rw [Nat.succ_mul] at hj
    rw [rep_succ, List.getD_eq_getElem?_getD]
    by_cases q : j < t * y.length
    · rw [List.getElem?_append_left (by rw [rep_len]; exact q), ← List.getD_eq_getElem?_getD]
      exact rep_at y t j q
    · rw [List.getElem?_append_right (by rw [rep_len]; omega), rep_len, ← List.getD_eq_getElem?_getD]
      have e : j % y.length = j - t * y.length := by
        have e1 : j = (j - t * y.length) + t * y.length := by omega
        rw [e1, Nat.add_mul_mod_self_right, Nat.mod_eq_of_lt (by omega)]
        omega
      rw [e]
theorem mK.non {h h' : gaH} (k : mK h h') {o : Nat} (ho : h' o = none) : h o = none := by
  cases q : h o with
  | none => rfl
  | some e => rw [k o e q] at ho; cases ho
theorem upE {h : gaH} {a x : Nat} {f : gaE} (q : ∃ e, h x = some e) : ∃ e, gaUp h a f x = some e := by
  by_cases z : x = a
  · rw [z]; exact ⟨f, gaUp_self _ _ _⟩
  · rw [gaUp_ne _ _ z]; exact q
section RM
variable {B : Nat → Nat} {h h0 : gaH} {st : GSt} {no : Int} {a b o : Nat} {u v : List Bool} {w g : Nat}
theorem gM.kp (d : gM B h st no) {h' : gaH} (k : mK h h') : gM B h' st no := by
  obtain ⟨s, a1, a2, a3, a4, a5, a6, a7⟩ := d
  refine ⟨s, k _ _ a1, k _ _ a2, fun w hw => ⟨(a3 w hw).1.on k, (a3 w hw).2⟩, k _ _ a4, k _ _ a5, fun g hg => ?_, a7.1, fun i hi => by obtain ⟨e, q⟩ := a7.2 i hi; exact ⟨e, k _ _ q⟩⟩
  obtain ⟨b1, row, b2, b3, b4⟩ := a6 g hg
  exact ⟨b1, row, b2, k _ _ b3, b4⟩
theorem gM.has (d : gM B h st no) : gHas h (B 0) 7 := by obtain ⟨s, a1, -⟩ := d; exact ⟨_, a1⟩
theorem gM.f0 (d : gM B h st no) {K : Nat → Prop} (k : K (B 1)) : gA h (B 0) 7 0 K := by obtain ⟨s, a1, -⟩ := d; exact gA_mk a1 rfl k
theorem gM.f1 (d : gM B h st no) {K : Nat → Prop} (k : K (B 2)) : gA h (B 0) 7 1 K := by obtain ⟨s, a1, -⟩ := d; exact gA_mk a1 rfl k
theorem gM.f2 (d : gM B h st no) {K : Nat → Prop} (k : K (B 3)) : gA h (B 0) 7 2 K := by obtain ⟨s, a1, -⟩ := d; exact gA_mk a1 rfl k
theorem gM.cn (d : gM B h st no) {i f : Nat} (hf : f = 3 + i) (hi : i < 4) {K : Int → Prop} (k : K (st.C i)) : gI h (B 0) 7 f K := by
  subst hf
  obtain ⟨s, a1, -⟩ := d
  refine gI_mk a1 (x := st.C i) ?_ k
  rcases (show i = 0 ∨ i = 1 ∨ i = 2 ∨ i = 3 by omega) with rfl | rfl | rfl | rfl <;> rfl
theorem gM.nn (d : gM B h st no) {K : Int → Prop} (k : K no) : gI h (B 0) 7 7 K := by obtain ⟨s, a1, -⟩ := d; exact gI_mk a1 rfl k
theorem gM.sh (d : gM B h st no) {x : Int} (hx : x = (w : Int)) (hw : w < 3) {K : Nat → Prop} (k : ∀ a, mR h a (st.S w) → (∀ i, i < 38 → a ≠ B i) → K a) : gLA h (B 1) 112 x K := by
  subst hx
  obtain ⟨s, a1, a2, a3, -⟩ := d
  refine ⟨_, s w, a2, by omega, by omega, ?_, k _ (a3 w hw).1 (a3 w hw).2.2⟩
  rw [Int.toNat_natCast]
  rcases (show w = 0 ∨ w = 1 ∨ w = 2 by omega) with rfl | rfl | rfl <;> rfl
theorem gM.sl (d : gM B h st no) (hw : w < 3) : (st.S w).length ≤ 64 := by obtain ⟨s, a1, a2, a3, -⟩ := d; exact (a3 w hw).2.1
theorem gM.ok (d : gM B h st no) (hg : g < 2) : gOk (st.T g) := by obtain ⟨s, a1, a2, a3, a4, a5, a6, -⟩ := d; exact (a6 g hg).1
theorem gM.tr (d : gM B h st no) {x : Int} (hx : x = (g : Int)) (hg : g < 2) {K : Nat → Prop} (k : K (B (4 + g))) : gLA h (B 2) 112 x K := by
  subst hx
  obtain ⟨s, a1, a2, a3, a4, -⟩ := d
  refine ⟨_, _, a4, by omega, by omega, ?_, k⟩
  rw [Int.toNat_natCast]
  rcases (show g = 0 ∨ g = 1 by omega) with rfl | rfl <;> rfl
theorem gM.ct (d : gM B h st no) {x : Int} (hx : x = (g : Int)) (hg : g < 2) {K : Int → Prop} (k : K ((st.T g).length : Int)) : gLI h (B 3) 102 x K := by
  subst hx
  obtain ⟨s, a1, a2, a3, a4, a5, -⟩ := d
  refine gLI_mk a5 (by omega) (by omega) ?_ k
  rw [Int.toNat_natCast]
  rcases (show g = 0 ∨ g = 1 by omega) with rfl | rfl <;> rfl
theorem gM.tn (d : gM B h st no) (hg : g < 2) {x : Int} {i : Nat} (hx : x = (i : Int)) (hi : i < (st.T g).length) {K : Int → Prop} (k : K (((st.T g).getD i 0 : Nat) : Int)) : gLI h (B (4 + g)) 102 x K := by
  subst hx
  have hl := (d.ok hg).len
  obtain ⟨s, a1, a2, a3, a4, a5, a6, -⟩ := d
  obtain ⟨b1, row, b2, b3, b4⟩ := a6 g hg
  refine gLI_mk b3 (by omega) (by omega) ?_ k
  rw [Int.toNat_natCast, List.getElem?_map, b4 i hi, List.getD_eq_getElem?_getD, List.getElem?_eq_getElem hi]
  rfl
theorem gOk.tn {u' : List Nat} (hok : gOk u') {i : Nat} (hi : i < u'.length) : 1 ≤ u'.getD i 0 ∧ u'.getD i 0 ≤ 3 := by
  refine hok.1 _ ?_
  rw [List.getD_eq_getElem?_getD, List.getElem?_eq_getElem hi]
  exact List.getElem_mem _
theorem r_byCopies_L60 {Q : Nat → gaH → Prop} {K20 : Nat → Int → Int → Nat → Nat → Int → gaH → Nat → Nat → Prop} {e y : List Bool} {p q : Nat} {t : Nat} (re : mR h0 p e) (ry : mR h0 q y) (hy : 1 ≤ y.length) (hl : t * y.length + e.length ≤ 64) {v0 : Nat} {v1 v2 v5 : Int} {kc ks : Nat} (k : ∀ h', fil h0 h' o (rep t y ++ e) → K20 v0 v1 v2 q o (v5 + 1) h' kc ks) : ∀ (z i : Nat) (h : gaH), fil h0 h o (pf (rep t y ++ e) i) → i ≤ t * y.length + e.length → t * y.length + e.length - i < z → w_X7_byCopies_L60 Q K20 z v0 v1 v2 p q v5 (t : Int) o (i : Int) h kc ks
  | 0, _, _, _, _, h9 => absurd h9 (Nat.not_lt_zero _)
  | z + 1, i, h, fl, hi, h9 => by
    have hT : (rep t y ++ e).length = t * y.length + e.length := by simp [rep_len]
    have hy64 : t = 0 ∨ y.length ≤ 64 := by
      rcases Nat.eq_zero_or_pos t with q | q
      · exact Or.inl q
      · right
        have := Nat.le_mul_of_pos_left y.length q
        omega
    have em : (t : Int) * (y.length : Int) = ((t * y.length : Nat) : Int) := by push_cast; rfl
    unfold w_X7_byCopies_L60
    refine fl.2.2.len ?_
    rw [pf_len (by omega), hT]
    (first | refine And.intro (show gR _ from by first | assumption | omega | decide | exact b2i_R _ | exact gR_of (by omega) (by omega)) ?_ | refine And.intro (show gHas _ _ _ from by first | exact gW.has (gD.w (by assumption)) (by omega) | exact gD.has (by assumption) | exact gRu.has (gD.ru (by assumption)) | exact gGr.has (gD.gr (by assumption) _ (by omega))) ?_ | refine gCall_mk (by decide) (by decide) ?_ | refine if_yes (by first | assumption | omega | decide | exact b2i_R _ | exact gR_of (by omega) (by omega)) ?_ | refine if_no (by first | assumption | omega | decide | exact b2i_R _ | exact gR_of (by omega) (by omega)) ?_); (first | refine And.intro (show gR _ from by first | assumption | omega | decide | exact b2i_R _ | exact gR_of (by omega) (by omega)) ?_ | refine And.intro (show gHas _ _ _ from by first | exact gW.has (gD.w (by assumption)) (by omega) | exact gD.has (by assumption) | exact gRu.has (gD.ru (by assumption)) | exact gGr.has (gD.gr (by assumption) _ (by omega))) ?_ | refine gCall_mk (by decide) (by decide) ?_ | refine if_yes (by first | assumption | omega | decide | exact b2i_R _ | exact gR_of (by omega) (by omega)) ?_ | refine if_no (by first | assumption | omega | decide | exact b2i_R _ | exact gR_of (by omega) (by omega)) ?_)
    by_cases q1 : t * y.length + e.length ≤ i
    · refine if_yes (by omega) (k h ?_)
      obtain rfl : i = (rep t y ++ e).length := by omega
      rw [pf_end] at fl; exact fl
    · have fin : ∀ x : Int, x = b2i ((rep t y ++ e).getD i false) → w_X7_byCopies_J106 Q K20 (w_X7_byCopies_L60 Q K20 z) v0 v1 v2 p q v5 (t : Int) o (i : Int) o (i : Int) x h kc ks := fun x hx => by
        unfold w_X7_byCopies_J106
        refine fl.set rfl (by rw [pf_len (by omega)]; omega) (by rw [pf_len (by omega)]; omega) hx (fun h3 f3 => ?_)
        rw [pf_set (by omega)] at f3
        rw [show (i : Int) + 1 = ((i + 1 : Nat) : Int) by omega]
        exact r_byCopies_L60 re ry hy hl k z (i + 1) h3 f3 (by omega) (by omega)
      have re2 := re.on fl.2.1
      have ry2 := ry.on fl.2.1
      refine if_no (by omega) (ry2.len ?_)
      rw [em]
      (first | refine And.intro (show gR _ from by first | assumption | omega | decide | exact b2i_R _ | exact gR_of (by omega) (by omega)) ?_ | refine And.intro (show gHas _ _ _ from by first | exact gW.has (gD.w (by assumption)) (by omega) | exact gD.has (by assumption) | exact gRu.has (gD.ru (by assumption)) | exact gGr.has (gD.gr (by assumption) _ (by omega))) ?_ | refine gCall_mk (by decide) (by decide) ?_ | refine if_yes (by first | assumption | omega | decide | exact b2i_R _ | exact gR_of (by omega) (by omega)) ?_ | refine if_no (by first | assumption | omega | decide | exact b2i_R _ | exact gR_of (by omega) (by omega)) ?_); (first | refine And.intro (show gR _ from by first | assumption | omega | decide | exact b2i_R _ | exact gR_of (by omega) (by omega)) ?_ | refine And.intro (show gHas _ _ _ from by first | exact gW.has (gD.w (by assumption)) (by omega) | exact gD.has (by assumption) | exact gRu.has (gD.ru (by assumption)) | exact gGr.has (gD.gr (by assumption) _ (by omega))) ?_ | refine gCall_mk (by decide) (by decide) ?_ | refine if_yes (by first | assumption | omega | decide | exact b2i_R _ | exact gR_of (by omega) (by omega)) ?_ | refine if_no (by first | assumption | omega | decide | exact b2i_R _ | exact gR_of (by omega) (by omega)) ?_)
      by_cases q2 : t * y.length ≤ i
      · refine if_yes (by omega) (ry2.len ?_)
        rw [em]
        refine re2.at (i := i - t * y.length) (by omega) (by omega) (by omega) (fin _ ?_)
        rw [List.getD_eq_getElem?_getD (l := rep t y ++ e), List.getElem?_append_right (by rw [rep_len]; omega), rep_len, ← List.getD_eq_getElem?_getD]
      · have ht0 : t ≠ 0 := by rintro rfl; simp at q2
        refine if_no (by omega) (ry2.len ⟨by omega, by omega, ?_⟩)
        rw [gRem_nat (by omega) (by omega)]
        have hm := Nat.mod_lt i (show 0 < y.length by omega)
        refine ry2.at (i := i % y.length) rfl hm (by omega) (fin _ ?_)
        rw [List.getD_eq_getElem?_getD (l := rep t y ++ e), List.getElem?_append_left (by rw [rep_len]; omega), ← List.getD_eq_getElem?_getD, rep_at y t i (by omega)]
theorem r_byCopies_L20 {Q : Nat → gaH → Prop} (hg : g < 2) {m bk : Nat} (hm : m + bk = (st.T g).length) (k : ∀ h' o, mK h0 h' → h0 o = none → mR h' o (grw ((st.T g).take m)).2 → Q o h') : ∀ (n i p q : Nat) (h : gaH) (kc ks : Nat), gM B h st no → mK h0 h → h0 q = none → mR h p (grw ((st.T g).take i)).1 → mR h q (grw ((st.T g).take i)).2 → i ≤ m → m - i < n → m - i ≤ kc → 64 * (m - i) ≤ ks → w_X7_byCopies_L20 Q n (B 0) (g : Int) (bk : Int) p q (i : Int) h kc ks
  | 0, _, _, _, _, _, _, _, _, _, _, _, _, h9, _, _ => absurd h9 (Nat.not_lt_zero _)
  | n + 1, i, p, q, h, kc, ks, d, kp, nq, re, ry, hi, h9, hc, hs => by
    have hok := d.ok hg
    have hl := hok.len
    unfold w_X7_byCopies_L20
    refine d.f2 (d.ct rfl hg ?_)
    (first | refine And.intro (show gR _ from by first | assumption | omega | decide | exact b2i_R _ | exact gR_of (by omega) (by omega)) ?_ | refine And.intro (show gHas _ _ _ from by first | exact gW.has (gD.w (by assumption)) (by omega) | exact gD.has (by assumption) | exact gRu.has (gD.ru (by assumption)) | exact gGr.has (gD.gr (by assumption) _ (by omega))) ?_ | refine gCall_mk (by decide) (by decide) ?_ | refine if_yes (by first | assumption | omega | decide | exact b2i_R _ | exact gR_of (by omega) (by omega)) ?_ | refine if_no (by first | assumption | omega | decide | exact b2i_R _ | exact gR_of (by omega) (by omega)) ?_); (first | refine And.intro (show gR _ from by first | assumption | omega | decide | exact b2i_R _ | exact gR_of (by omega) (by omega)) ?_ | refine And.intro (show gHas _ _ _ from by first | exact gW.has (gD.w (by assumption)) (by omega) | exact gD.has (by assumption) | exact gRu.has (gD.ru (by assumption)) | exact gGr.has (gD.gr (by assumption) _ (by omega))) ?_ | refine gCall_mk (by decide) (by decide) ?_ | refine if_yes (by first | assumption | omega | decide | exact b2i_R _ | exact gR_of (by omega) (by omega)) ?_ | refine if_no (by first | assumption | omega | decide | exact b2i_R _ | exact gR_of (by omega) (by omega)) ?_)
    by_cases q1 : m ≤ i
    · refine if_yes (by omega) (k h q kp nq ?_)
      obtain rfl : i = m := by omega
      exact ry
    · refine if_no (by omega) (d.f1 (d.tr rfl hg (d.tn hg rfl (by omega) (ry.len (re.len ?_)))))
      have o1 := hok.take _ (i + 1) (Nat.le_refl _)
      have o0 := hok.take _ i (Nat.le_refl _)
      have ht := hok.tn (i := i) (by omega)
      rw [take_snoc (by omega)] at o1
      have e1 : (grw ((st.T g).take i ++ [(st.T g).getD i 0])).2.length = (st.T g).getD i 0 * (grw ((st.T g).take i)).2.length + (grw ((st.T g).take i)).1.length := by
        rw [grw_snoc]; simp [gstep, rep_len]
      have hlen := o1.2
      rw [e1] at hlen
      have hy1 := (grw_len _ ((st.T g).take i) rfl o0.1).1
      refine fil.new (n := (st.T g).getD i 0 * (grw ((st.T g).take i)).2.length + (grw ((st.T g).take i)).1.length) (by push_cast; rfl) (by omega) (by omega) (by omega) (fun o h1 f1 => ⟨66, ?_⟩)
      refine r_byCopies_L60 re ry (by omega) hlen (fun h' f' => ?_) 66 0 h1 (by rw [pf_0, List.length_append, rep_len]; exact f1) (Nat.zero_le _) (by omega)
      rw [show (i : Int) + 1 = ((i + 1 : Nat) : Int) by omega]
      have eg : grw ((st.T g).take (i + 1)) = ((grw ((st.T g).take i)).2, rep ((st.T g).getD i 0) (grw ((st.T g).take i)).2 ++ (grw ((st.T g).take i)).1) := by rw [take_snoc (by omega), grw_snoc]; rfl
      refine r_byCopies_L20 hg hm k n (i + 1) q o h' _ _ (d.kp f'.2.1) (kp.tr f'.2.1) (kp.non f'.1) (by rw [eg]; exact ry.on f'.2.1) (by rw [eg]; exact f'.2.2) (by omega) (by omega) (by omega) (by omega)
theorem r_byCopies {Q : Nat → gaH → Prop} (d : gM B h st no) (hg : g < 2) {x y : Int} {m bk : Nat} (hx : x = (g : Int)) (hy : y = (bk : Int)) (hm : m + bk = (st.T g).length) (k : ∀ h' o, mK h h' → h o = none → mR h' o (grw ((st.T g).take m)).2 → Q o h') : w_X7_byCopies (B 0) x y h Q := by
  subst hx; subst hy
  have hl := (d.ok hg).len
  unfold w_X7_byCopies
  refine fil.new (n := 1) rfl (by decide) (by decide) (by decide) (fun p h1 f1 => f1.set (i := 0) rfl (by decide) (by decide) (b := true) rfl (fun h2 f2 => ?_))
  refine fil.new (n := 1) rfl (by decide) (by decide) (by decide) (fun q h3 f3 => f3.set (i := 0) rfl (by decide) (by decide) (b := false) rfl (fun h4 f4 => ⟨66, ?_⟩))
  exact r_byCopies_L20 hg hm k 66 0 p q h4 _ _ (d.kp (f2.2.1.tr f4.2.1)) (f2.2.1.tr f4.2.1) (f2.2.1.non f4.1) (f2.2.2.on f4.2.1) f4.2.2 (Nat.zero_le _) (by omega) (by omega) (by omega)
/-- the elder word is the younger of the turns but the last -/
theorem grw_elder (ts : List Nat) (hne : ts ≠ []) : (grw (ts.take (ts.length - 1))).2 = (grw ts).1 := by
  obtain ⟨us, t, rfl⟩ : ∃ us t, ts = us ++ [t] := ⟨ts.dropLast, ts.getLast hne, (List.dropLast_concat_getLast _).symm⟩
  rw [grw_snoc]
  simp [gstep]
theorem r_elder {Q : Nat → gaH → Prop} (d : gM B h st no) (hg : g < 2) {x : Int} (hx : x = (g : Int)) (k : ∀ h' o, mK h h' → h o = none → mR h' o (grw (st.T g)).1 → Q o h') : w_X7_elder (B 0) x h Q := by
  subst hx
  have hl := (d.ok hg).len
  unfold w_X7_elder
  refine d.f2 (d.ct rfl hg ?_)
  refine ⟨by omega, ?_⟩
  by_cases q : st.T g = []
  · refine if_yes (by rw [q]; rfl) (fil.new (n := 1) rfl (by decide) (by decide) (by decide) (fun p h1 f1 => f1.set (i := 0) rfl (by decide) (by decide) (b := true) rfl (fun h2 f2 => k h2 p f2.2.1 f2.1 ?_)))
    rw [q]; exact f2.2.2
  · have hp : 0 < (st.T g).length := List.length_pos_iff.mpr q
    refine if_no (by omega) ⟨d.has, gCall_mk (by decide) (by decide) (r_byCopies d hg (m := (st.T g).length - 1) (bk := 1) rfl rfl (by omega) (fun h' o kp no r => k h' o kp no ?_))⟩
    rw [grw_elder _ q] at r; exact r
theorem r_word {Q : Nat → gaH → Prop} (d : gM B h st no) (hg : g < 2) {x y : Int} {b : Bool} (hx : x = (g : Int)) (hy : y = b2i b) (k : ∀ h' o, mK h h' → h o = none → mR h' o (gWd (st.T g) b) → Q o h') : w_X7_word (B 0) x y h Q := by
  subst hy
  unfold w_X7_word
  refine ⟨b2i_R _, ?_⟩
  cases b
  · refine if_yes rfl ⟨d.has, gCall_mk (by decide) (by decide) (r_byCopies d hg (m := (st.T g).length) (bk := 0) hx rfl rfl (fun h' o kp no r => k h' o kp no ?_))⟩
    rw [List.take_length] at r; exact r
  · exact if_no (by decide) ⟨d.has, gCall_mk (by decide) (by decide) (r_elder d hg hx k)⟩
end RM
/-! The reference: growths by rules and by their line; twos. -/
theorem phi_take_drop (ts : List Nat) (hok : gOk ts) (i : Nat) : (phi (ts.drop i) [false]).length ≤ 64 := by
  have h1 : (grw ts).2 = phi ts [false] := by rw [grw_phi _ ts rfl hok.1]
  have h2 := hok.2
  have h3 : phi ts [false] = phi (ts.take i) (phi (ts.drop i) [false]) := by rw [← phi_split, List.take_append_drop]
  have h4 := phi_ge (ts.take i) (fun x hx => hok.1 x (List.mem_of_mem_take hx)) (phi (ts.drop i) [false])
  rw [h1, h3] at h2
  omega
theorem phi_drop {ts : List Nat} {i : Nat} (hi : i < ts.length) (w : List Bool) : phi (ts.drop i) w = img (codeW (cf (ts.getD i 0))) (codeW 2) (phi (ts.drop (i + 1)) w) := by
  rw [List.drop_eq_getElem_cons hi, List.getD_eq_getElem?_getD, List.getElem?_eq_getElem hi]; rfl
section RL
variable {B : Nat → Nat} {h h0 : gaH} {st : GSt} {no : Int} {a b o : Nat} {u v : List Bool} {w g : Nat}
theorem r_byRules_L {Q : Nat → gaH → Prop} (hg : g < 2) (k : ∀ h' o, mK h0 h' → h0 o = none → mR h' o (grw (st.T g)).2 → Q o h') : ∀ (n i p : Nat) (h : gaH) (kc ks : Nat), gM B h st no → mK h0 h → h0 p = none → mR h p (phi ((st.T g).drop i) [false]) → i ≤ (st.T g).length → i < n → 3 * i ≤ kc → 288 * i ≤ ks → w_X7_byRules_L17 Q n (B 0) (g : Int) p ((i : Int) - 1) h kc ks
  | 0, _, _, _, _, _, _, _, _, _, _, h9, _, _ => absurd h9 (Nat.not_lt_zero _)
  | n + 1, i, p, h, kc, ks, d, kp, np, rp, hi, h9, hc, hs => by
    have hok := d.ok hg
    have hl := hok.len
    unfold w_X7_byRules_L17
    (first | refine And.intro (show gR _ from by first | assumption | omega | decide | exact b2i_R _ | exact gR_of (by omega) (by omega)) ?_ | refine And.intro (show gHas _ _ _ from by first | exact gW.has (gD.w (by assumption)) (by omega) | exact gD.has (by assumption) | exact gRu.has (gD.ru (by assumption)) | exact gGr.has (gD.gr (by assumption) _ (by omega))) ?_ | refine gCall_mk (by decide) (by decide) ?_ | refine if_yes (by first | assumption | omega | decide | exact b2i_R _ | exact gR_of (by omega) (by omega)) ?_ | refine if_no (by first | assumption | omega | decide | exact b2i_R _ | exact gR_of (by omega) (by omega)) ?_)
    by_cases q : i = 0
    · subst q
      refine if_yes (by decide) (k h p kp np ?_)
      rw [List.drop_zero] at rp
      rw [grw_phi _ (st.T g) rfl hok.1]; exact rp
    · have ht := hok.tn (i := i - 1) (by omega)
      have hw := phi_take_drop (st.T g) hok i
      have hw2 := phi_take_drop (st.T g) hok (i - 1)
      have e := phi_drop (ts := st.T g) (i := i - 1) (by omega) [false]
      rw [show i - 1 + 1 = i by omega] at e
      rw [e] at hw2
      refine if_no (by omega) (d.f1 (d.tr rfl hg (d.tn hg (i := i - 1) (by omega) (by omega) (gCall_mk (by omega) (by omega) ?_))))
      have ec : gShl 2 (((st.T g).getD (i - 1) 0 : Nat) : Int) + 1 = ((cf ((st.T g).getD (i - 1) 0) : Nat) : Int) := by
        rcases (show (st.T g).getD (i - 1) 0 = 1 ∨ (st.T g).getD (i - 1) 0 = 2 ∨ (st.T g).getD (i - 1) 0 = 3 by omega) with e | e | e <;> rw [e] <;> decide +kernel
      obtain ⟨c1, c2, -, -⟩ := cf_len ht
      have c3 : 1 ≤ cf ((st.T g).getD (i - 1) 0) := by unfold cf; split; decide; split; decide; split; decide; omega
      have c4 : (codeW (cf ((st.T g).getD (i - 1) 0))).length ≤ 16 := codeL_len 16 _
      rw [ec]
      refine r_ofCode rfl c3 c2 (fun x h1 f1 => gCall_mk (by omega) (by omega) (r_ofCode (c := 2) rfl (by decide) (by decide) (fun y h2 f2 => gCall_mk (by omega) (by omega) ?_)))
      refine r_image (rp.on (f1.2.1.tr f2.2.1)) (f1.2.2.on f2.2.1) f2.2.2 (by omega) (by omega) (by decide) (by omega) (fun z h3 f3 => ?_)
      rw [show (i : Int) - 1 + -1 = ((i - 1 : Nat) : Int) - 1 by omega]
      have kk := f1.2.1.tr (f2.2.1.tr f3.2.1)
      exact r_byRules_L hg k n (i - 1) z h3 _ _ (d.kp kk) (kp.tr kk) ((kp.tr (f1.2.1.tr f2.2.1)).non f3.1) (by rw [e]; exact f3.2.2) (by omega) (by omega) (by omega) (by omega)
theorem r_byRules {Q : Nat → gaH → Prop} (d : gM B h st no) (hg : g < 2) {x : Int} (hx : x = (g : Int)) (k : ∀ h' o, mK h h' → h o = none → mR h' o (grw (st.T g)).2 → Q o h') : w_X7_byRules (B 0) x h Q := by
  subst hx
  have hl := (d.ok hg).len
  unfold w_X7_byRules
  refine fil.new (n := 1) rfl (by decide) (by decide) (by decide) (fun p h1 f1 => f1.set (i := 0) rfl (by decide) (by decide) (b := false) rfl (fun h2 f2 => ?_))
  have d2 := d.kp f2.2.1
  refine d2.f2 (d2.ct rfl hg ⟨66, ?_⟩)
  refine r_byRules_L hg k 66 _ p h2 _ _ d2 f2.2.1 f2.1 ?_ (Nat.le_refl _) (by omega) (by omega) (by omega)
  rw [List.drop_length]; exact f2.2.2
theorem r_lineSign {Q : Int → gaH → Prop} {n p s i : Nat} (hn : 0 < n) (hb : n ≤ 1000) (hp : p ≤ 1000) (hs : s ≤ 1000) (hi : i ≤ 1000) {x1 x2 x3 x4 : Int} (h1 : x1 = (n : Int)) (h2 : x2 = (p : Int)) (h3 : x3 = (s : Int)) (h4 : x4 = (i : Int)) (k : Q (b2i (lineB n p s i)) h) : w_X7_lineSign x1 x2 x3 x4 h Q := by
  subst h1; subst h2; subst h3; subst h4
  have hm : i * p ≤ 1000 * 1000 := Nat.mul_le_mul hi hp
  have e1 : (i : Int) * (p : Int) + (s : Int) = ((i * p + s : Nat) : Int) := by push_cast; rfl
  have hr := Nat.mod_lt (i * p + s) hn
  unfold w_X7_lineSign
  rw [e1, gRem_nat (by omega) (by omega)]
  refine ⟨by omega, by omega, by omega, by omega, ?_⟩
  unfold lineB at k
  by_cases q : n ≤ (i * p + s) % n + p
  · rw [decide_eq_true q] at k
    refine if_no (by omega) ?_
    exact ⟨by decide, if_no (by decide) k⟩
  · rw [decide_eq_false q] at k
    refine if_yes (by omega) ?_
    exact ⟨by decide, if_yes rfl k⟩
def mI (h : gaH) (a : Nat) (x y : Int) : Prop := h a = some (102, [gi x, gi y])
theorem mI.a0 {x y : Int} (r : mI h a x y) {K : Int → Prop} (k : K x) : gLI h a 102 0 K := gLI_mk r (by decide) (by decide) rfl k
theorem mI.a1 {x y : Int} (r : mI h a x y) {K : Int → Prop} (k : K y) : gLI h a 102 1 K := gLI_mk r (by decide) (by decide) rfl k
theorem mI.on {h' : gaH} {x y : Int} (r : mI h a x y) (k : mK h h') : mI h' a x y := k _ _ r
theorem byL_len {ts : List Nat} (hne : ts ≠ []) (h2 : 2 ≤ (nums ts).2.2.1) : (byL ts).length = (nums ts).2.2.1 := by
  unfold byL
  rw [if_neg hne]; simp; omega
theorem r_byLine_L132 {Q : Nat → gaH → Prop} {ts : List Nat} (hg : g < 2) (e0 : ts = st.T g) (hne : ts ≠ []) {v3 : Nat} {x : Int} (h2 : 2 ≤ (nums ts).2.2.1) (h64 : (nums ts).2.2.1 ≤ 64) (hp : (nums ts).2.2.2 ≤ 64) (k : ∀ h' , fil h0 h' o (byL ts) → Q o h') (d0 : gM B h0 st no) (rv : mI h0 v3 x ((nums ts).2.2.2 : Int)) {kc ks : Nat} : ∀ (z i : Nat) (h : gaH), fil h0 h o (pf (byL ts) i) → i ≤ (nums ts).2.2.1 - 2 → (nums ts).2.2.1 - 2 - i < z → w_X7_byLine_L132 Q z (B 0) (g : Int) v3 ((nums ts).2.2.1 : Int) o (i : Int) h kc ks
  | 0, _, _, _, _, h9 => absurd h9 (Nat.not_lt_zero _)
  | z + 1, i, h, fl, hi, h9 => by
    have hT := byL_len hne h2
    have hl : ts.length ≤ 63 := by rw [e0]; exact (d0.ok hg).len
    have d := d0.kp fl.2.1
    have er : gRem ((ts.length : Nat) : Int) 2 = ((ts.length % 2 : Nat) : Int) := gRem_nat (b := 2) (by omega) (by decide)
    unfold w_X7_byLine_L132
    (first | refine And.intro (show gR _ from by first | assumption | omega | decide | exact b2i_R _ | exact gR_of (by omega) (by omega)) ?_ | refine And.intro (show gHas _ _ _ from by first | exact gW.has (gD.w (by assumption)) (by omega) | exact gD.has (by assumption) | exact gRu.has (gD.ru (by assumption)) | exact gGr.has (gD.gr (by assumption) _ (by omega))) ?_ | refine gCall_mk (by decide) (by decide) ?_ | refine if_yes (by first | assumption | omega | decide | exact b2i_R _ | exact gR_of (by omega) (by omega)) ?_ | refine if_no (by first | assumption | omega | decide | exact b2i_R _ | exact gR_of (by omega) (by omega)) ?_); (first | refine And.intro (show gR _ from by first | assumption | omega | decide | exact b2i_R _ | exact gR_of (by omega) (by omega)) ?_ | refine And.intro (show gHas _ _ _ from by first | exact gW.has (gD.w (by assumption)) (by omega) | exact gD.has (by assumption) | exact gRu.has (gD.ru (by assumption)) | exact gGr.has (gD.gr (by assumption) _ (by omega))) ?_ | refine gCall_mk (by decide) (by decide) ?_ | refine if_yes (by first | assumption | omega | decide | exact b2i_R _ | exact gR_of (by omega) (by omega)) ?_ | refine if_no (by first | assumption | omega | decide | exact b2i_R _ | exact gR_of (by omega) (by omega)) ?_)
    by_cases q : (nums ts).2.2.1 - 2 ≤ i
    · obtain rfl : i = (nums ts).2.2.1 - 2 := by omega
      refine if_yes (by omega) (d.f2 (d.ct rfl hg ?_))
      rw [← e0, er]
      have at1 : (byL ts).getD ((nums ts).2.2.1 - 2) false = decide (ts.length % 2 = 0) := by
        unfold byL
        rw [if_neg hne, List.getD_eq_getElem?_getD, List.getElem?_append_right (by simp)]
        simp
      have at2 : (byL ts).getD ((nums ts).2.2.1 - 2 + 1) false = decide (ts.length % 2 = 1) := by
        unfold byL
        rw [if_neg hne, List.getD_eq_getElem?_getD, List.getElem?_append_right (by simp)]
        simp
      have fin : ∀ c : Int, c = b2i (decide (ts.length % 2 = 0)) → w_X7_byLine_J187 Q (B 0) (g : Int) ((nums ts).2.2.1 : Int) o o (((nums ts).2.2.1 : Int) - 2) c h kc ks := by
        intro c hc
        unfold w_X7_byLine_J187
        have one : ∀ {K : Int → gaH → Prop} {c : Int} {b : Bool} {h : gaH}, c = b2i b → K (b2i b) h → w_X7_one c h K := fun {K c b h} hc k => by
          subst hc
          cases b
          · exact ⟨by decide, if_yes rfl k⟩
          · exact ⟨by decide, if_no (by decide) k⟩
        refine one hc (fl.set (i := (nums ts).2.2.1 - 2) (by omega) (by rw [pf_len (by omega)]; omega) (by rw [pf_len (by omega)]; omega) rfl (fun h3 f3 => ?_))
        rw [← at1, pf_set (by omega)] at f3
        have d3 := d0.kp f3.2.1
        refine d3.f2 (d3.ct rfl hg ?_)
        rw [← e0, er]
        have fin2 : ∀ c : Int, c = b2i (decide (ts.length % 2 = 1)) → w_X7_byLine_J213 Q o o (((nums ts).2.2.1 : Int) - 1) c h3 kc ks := by
          intro c hc
          unfold w_X7_byLine_J213
          refine one hc (f3.set (i := (nums ts).2.2.1 - 2 + 1) (by omega) (by rw [pf_len (by omega)]; omega) (by rw [pf_len (by omega)]; omega) rfl (fun h4 f4 => ?_))
          rw [← at2, pf_set (by omega)] at f4
          rw [show (nums ts).2.2.1 - 2 + 1 + 1 = (byL ts).length by omega, pf_end] at f4
          exact k h4 f4
        refine ⟨by omega, ?_⟩
        rcases Nat.mod_two_eq_zero_or_one ts.length with e | e
        · exact if_yes (by omega) (fin2 0 (by rw [e]; rfl))
        · exact if_no (by omega) (fin2 1 (by rw [e]; rfl))
      refine ⟨by omega, ?_⟩
      rcases Nat.mod_two_eq_zero_or_one ts.length with e | e
      · exact if_yes (by omega) (fin 1 (by rw [e]; rfl))
      · exact if_no (by omega) (fin 0 (by rw [e]; rfl))
    · refine if_no (by omega) ((rv.on fl.2.1).a1 (r_lineSign (n := (nums ts).2.2.1) (p := (nums ts).2.2.2) (s := 0) (i := i + 1) (by omega) (by omega) (by omega) (by omega) (by omega) rfl rfl rfl (by omega) ?_))
      have at0 : (byL ts).getD i false = lineB (nums ts).2.2.1 (nums ts).2.2.2 0 (i + 1) := by
        unfold byL
        rw [if_neg hne, List.getD_eq_getElem?_getD, List.getElem?_append_left (by simp; omega)]
        simp [show i < (nums ts).2.2.1 - 2 by omega]
      refine fl.set rfl (by rw [pf_len (by omega)]; omega) (by rw [pf_len (by omega)]; omega) rfl (fun h3 f3 => ?_)
      rw [← at0, pf_set (by omega)] at f3
      rw [show (i : Int) + 1 = ((i + 1 : Nat) : Int) by omega]
      exact r_byLine_L132 hg e0 hne h2 h64 hp k d0 rv z (i + 1) h3 f3 (by omega) (by omega)
theorem pair_new {c s : Nat} {K : Nat → gaH → Nat → Nat → Prop} (h2 : 1 ≤ c) (h3 : 2 ≤ s) (k : ∀ o, h o = none → K o (gaUp h o (102, [gi 0, gi 0])) (c - 1) (s - 2)) : gNA h 102 (gi 0) 2 c s K := gNA_mk (n := 2) rfl (by decide) h2 h3 k
theorem pair_set0 {K : gaH → Prop} {p q x : Int} (r : h o = some (102, [gi p, gi q])) (k : K (gaUp h o (102, [gi x, gi q]))) : gSI h o 102 0 (gi x) K := gSI_mk r (by decide) (by decide) (by simp) k
theorem pair_set1 {K : gaH → Prop} {p q x : Int} (r : h o = some (102, [gi p, gi q])) (k : K (gaUp h o (102, [gi p, gi x]))) : gSI h o 102 1 (gi x) K := gSI_mk r (by decide) (by decide) (by simp) k
theorem mK.up2 {h1 : gaH} (x : mK h h1) {o : Nat} (ho : h o = none) (e : gaE) : mK h (gaUp h1 o e) := x.up ho e
theorem nums_ok {ts : List Nat} (hok : gOk ts) : (nums ts).1 ≤ 64 ∧ (nums ts).2.1 ≤ 64 ∧ (nums ts).2.2.1 ≤ 64 ∧ (nums ts).2.2.2 ≤ 64 := by
  rw [nums_grw _ ts rfl]
  have h1 := hok.2
  have h2 := hok.elder
  have h3 := ones_le (grw ts).1
  have h4 := ones_le (grw ts).2
  exact ⟨h2, Nat.le_trans h3 h2, h1, Nat.le_trans h4 h1⟩
theorem r_byLine_L44 {Q : Nat → gaH → Prop} (hg : g < 2) (hne : st.T g ≠ []) (k : ∀ h' o, mK h0 h' → h0 o = none → mR h' o (byL (st.T g)) → Q o h') : ∀ (n i p q : Nat) (h : gaH) (kc ks : Nat), gM B h st no → mK h0 h → mI h p ((nums ((st.T g).take i)).1 : Int) ((nums ((st.T g).take i)).2.2.1 : Int) → mI h q ((nums ((st.T g).take i)).2.1 : Int) ((nums ((st.T g).take i)).2.2.2 : Int) → i ≤ (st.T g).length → (st.T g).length - i < n → 2 * ((st.T g).length - i) + 1 ≤ kc → 4 * ((st.T g).length - i) + 64 ≤ ks → w_X7_byLine_L44 Q n (B 0) (g : Int) p q (i : Int) h kc ks
  | 0, _, _, _, _, _, _, _, _, _, _, _, h9, _, _ => absurd h9 (Nat.not_lt_zero _)
  | n + 1, i, p, q, h, kc, ks, d, kp, rp, rq, hi, h9, hc, hs => by
    have hok := d.ok hg
    have hl := hok.len
    unfold w_X7_byLine_L44
    refine d.f2 (d.ct rfl hg ?_)
    (first | refine And.intro (show gR _ from by first | assumption | omega | decide | exact b2i_R _ | exact gR_of (by omega) (by omega)) ?_ | refine And.intro (show gHas _ _ _ from by first | exact gW.has (gD.w (by assumption)) (by omega) | exact gD.has (by assumption) | exact gRu.has (gD.ru (by assumption)) | exact gGr.has (gD.gr (by assumption) _ (by omega))) ?_ | refine gCall_mk (by decide) (by decide) ?_ | refine if_yes (by first | assumption | omega | decide | exact b2i_R _ | exact gR_of (by omega) (by omega)) ?_ | refine if_no (by first | assumption | omega | decide | exact b2i_R _ | exact gR_of (by omega) (by omega)) ?_); (first | refine And.intro (show gR _ from by first | assumption | omega | decide | exact b2i_R _ | exact gR_of (by omega) (by omega)) ?_ | refine And.intro (show gHas _ _ _ from by first | exact gW.has (gD.w (by assumption)) (by omega) | exact gD.has (by assumption) | exact gRu.has (gD.ru (by assumption)) | exact gGr.has (gD.gr (by assumption) _ (by omega))) ?_ | refine gCall_mk (by decide) (by decide) ?_ | refine if_yes (by first | assumption | omega | decide | exact b2i_R _ | exact gR_of (by omega) (by omega)) ?_ | refine if_no (by first | assumption | omega | decide | exact b2i_R _ | exact gR_of (by omega) (by omega)) ?_)
    by_cases q1 : (st.T g).length ≤ i
    · rw [List.take_of_length_le q1] at rp rq
      obtain ⟨n1, n2, n3, n4⟩ := nums_ok hok
      have hn2 : 2 ≤ (nums (st.T g)).2.2.1 := by
        rw [nums_grw _ (st.T g) rfl]
        have := (grw_len _ (st.T g) rfl hok.1).1
        have := List.length_pos_iff.mpr hne
        show 2 ≤ (grw (st.T g)).2.length
        omega
      refine if_yes (by omega) (rp.a1 (fil.new (n := (nums (st.T g)).2.2.1) rfl (by omega) (by omega) (by omega) (fun o h1 f1 => ⟨66, ?_⟩)))
      refine r_byLine_L132 hg rfl hne hn2 n3 n4 (fun h' f' => k h' o (kp.tr f'.2.1) (kp.non f'.1) f'.2.2) d rq 66 0 h1 ?_ (Nat.zero_le _) (by omega)
      rw [pf_0, byL_len hne hn2]; exact f1
    · have o0 := hok.take _ i (Nat.le_refl _)
      obtain ⟨n1, n2, n3, n4⟩ := nums_ok o0
      have ht := hok.tn (i := i) (by omega)
      have en : nums ((st.T g).take (i + 1)) = nstep (nums ((st.T g).take i)) ((st.T g).getD i 0) := by rw [take_snoc (by omega), nums_app]
      refine if_no (by omega) (d.f1 (d.tr rfl hg (d.tn hg rfl (by omega) (pair_new (by omega) (by omega) (fun o ho => ?_)))))
      have k1 : mK h (gaUp h o (102, [gi 0, gi 0])) := mK.rf.up ho _
      refine (rp.on k1).a1 (pair_set0 (gaUp_self _ _ _) ?_)
      have k2 := k1.up ho (102, [gi ((nums ((st.T g).take i)).2.2.1 : Int), gi 0])
      refine (rp.on k2).a1 ((rp.on k2).a0 (pair_set1 (gaUp_self _ _ _) ?_))
      have k3 := k2.up ho (102, [gi ((nums ((st.T g).take i)).2.2.1 : Int), gi ((((st.T g).getD i 0 : Nat) : Int) * ((nums ((st.T g).take i)).2.2.1 : Int) + ((nums ((st.T g).take i)).1 : Int))])
      have ro : mI (gaUp (gaUp (gaUp h o (102, [gi 0, gi 0])) o (102, [gi ((nums ((st.T g).take i)).2.2.1 : Int), gi 0])) o (102, [gi ((nums ((st.T g).take i)).2.2.1 : Int), gi ((((st.T g).getD i 0 : Nat) : Int) * ((nums ((st.T g).take i)).2.2.1 : Int) + ((nums ((st.T g).take i)).1 : Int))])) o _ _ := gaUp_self _ _ _
      generalize gaUp (gaUp (gaUp h o (102, [gi 0, gi 0])) o (102, [gi ((nums ((st.T g).take i)).2.2.1 : Int), gi 0])) o (102, [gi ((nums ((st.T g).take i)).2.2.1 : Int), gi ((((st.T g).getD i 0 : Nat) : Int) * ((nums ((st.T g).take i)).2.2.1 : Int) + ((nums ((st.T g).take i)).1 : Int))]) = h3 at k3 ro ⊢
      refine pair_new (by omega) (by omega) (fun o2 ho2 => ?_)
      have k4 : mK h3 (gaUp h3 o2 (102, [gi 0, gi 0])) := mK.rf.up ho2 _
      refine (rq.on (k3.tr k4)).a1 (pair_set0 (gaUp_self _ _ _) ?_)
      have k5 := k4.up ho2 (102, [gi ((nums ((st.T g).take i)).2.2.2 : Int), gi 0])
      refine (rq.on (k3.tr k5)).a1 ((rq.on (k3.tr k5)).a0 (pair_set1 (gaUp_self _ _ _) ?_))
      have k6 := k5.up ho2 (102, [gi ((nums ((st.T g).take i)).2.2.2 : Int), gi ((((st.T g).getD i 0 : Nat) : Int) * ((nums ((st.T g).take i)).2.2.2 : Int) + ((nums ((st.T g).take i)).2.1 : Int))])
      rw [show (i : Int) + 1 = ((i + 1 : Nat) : Int) by omega]
      refine r_byLine_L44 hg hne k n (i + 1) o o2 _ _ _ (d.kp (k3.tr k6)) (kp.tr (k3.tr k6)) ?_ ?_ (by omega) (by omega) (by omega) (by omega)
      · rw [en]
        have := ro.on k6
        simp only [nstep]
        push_cast
        exact this
      · rw [en]
        simp only [nstep]
        push_cast
        exact gaUp_self _ _ _
theorem r_byLine {Q : Nat → gaH → Prop} (d : gM B h st no) (hg : g < 2) {x : Int} (hx : x = (g : Int)) (k : ∀ h' o, mK h h' → h o = none → mR h' o (byL (st.T g)) → Q o h') : w_X7_byLine (B 0) x h Q := by
  subst hx
  have hl := (d.ok hg).len
  unfold w_X7_byLine
  refine d.f2 (d.ct rfl hg ⟨by omega, ?_⟩)
  by_cases q : st.T g = []
  · refine if_yes (by rw [q]; rfl) (fil.new (n := 1) rfl (by decide) (by decide) (by decide) (fun p h1 f1 => f1.set (i := 0) rfl (by decide) (by decide) (b := false) rfl (fun h2 f2 => k h2 p f2.2.1 f2.1 ?_)))
    have e : byL (st.T g) = [false] := by rw [q]; rfl
    rw [e]; exact f2.2.2
  · have hp : 0 < (st.T g).length := List.length_pos_iff.mpr q
    refine if_no (by omega) (pair_new (by decide) (by decide) (fun o ho => pair_set0 (gaUp_self _ _ _) (pair_set1 (gaUp_self _ _ _) ?_)))
    have k3 := ((mK.rf (h := h)).up ho (102, [gi 0, gi 0])).up ho (102, [gi 1, gi 0]) |>.up ho (102, [gi 1, gi 1])
    have ro : mI (gaUp (gaUp (gaUp h o (102, [gi 0, gi 0])) o (102, [gi 1, gi 0])) o (102, [gi 1, gi 1])) o 1 1 := gaUp_self _ _ _
    generalize gaUp (gaUp (gaUp h o (102, [gi 0, gi 0])) o (102, [gi 1, gi 0])) o (102, [gi 1, gi 1]) = h3 at k3 ro ⊢
    refine pair_new (by decide) (by decide) (fun o2 ho2 => pair_set0 (gaUp_self _ _ _) (pair_set1 (gaUp_self _ _ _) ⟨66, ?_⟩))
    have k6 := ((mK.rf (h := h3)).up ho2 (102, [gi 0, gi 0])).up ho2 (102, [gi 1, gi 0]) |>.up ho2 (102, [gi 1, gi 0])
    exact r_byLine_L44 hg q k 66 0 o o2 _ _ _ (d.kp (k3.tr k6)) (k3.tr k6) (ro.on k6) (gaUp_self _ _ _) (Nat.zero_le _) (by omega) (by omega) (by omega)
end RL
/-! The reference: twos, steps back, and what is read, as far as it goes through. -/
theorem twL_not : ∀ s, s < 6 → twL s ++ img [true] [false] (twL s) = twL (s + 1) := by decide +kernel
def parL : Nat → Nat → Bool → Bool
  | 0, _, b => b
  | f + 1, v, b => if v = 0 then b else parL f (v / 2) (xor b (decide (v % 2 = 1)))
theorem parL_two : ∀ i, i < 64 → parL 7 i false = (twL 6).getD i false := by decide +kernel
section RT
variable {B : Nat → Nat} {h h0 : gaH} {st : GSt} {no : Int} {a b o : Nat} {u v : List Bool} {w g : Nat}
theorem xor_rem (b : Bool) {v : Nat} (hv : v ≤ 1000) : gRem (b2i b + (v : Int)) 2 = b2i (xor b (decide (v % 2 = 1))) := by
  have e : b2i b + (v : Int) = (((if b = true then 1 else 0) + v : Nat) : Int) := by cases b <;> simp [b2i]
  have e2 : gRem (((if b = true then 1 else 0) + v : Nat) : Int) 2 = ((((if b = true then 1 else 0) + v) % 2 : Nat) : Int) := gRem_nat (b := 2) (by split <;> omega) (by decide)
  rw [e, e2]
  rcases Nat.mod_two_eq_zero_or_one v with q | q
  · rw [Nat.add_mod, q]; cases b <;> rfl
  · rw [Nat.add_mod, q]; cases b <;> rfl
theorem r_twos_L96 {Q : Nat → gaH → Prop} {K : Nat → Int → gaH → Nat → Nat → Prop} {i : Nat} {kc ks : Nat} {t : List Bool} (hi : i < t.length) (ht : t.length ≤ 1000) : ∀ (z f v : Nat) (h : gaH) (w : List Bool) (b : Bool), fil h0 h o w → w.length = t.length → w.getD i false = b → v < 2 ^ f → f < z → v ≤ 1000 → (∀ h', fil h0 h' o (w.set i (parL (f + 1) v b)) → K o ((i : Int) + 1) h' kc ks) → w_X7_twosOf_L96 Q K z o (i : Int) (v : Int) h kc ks
  | 0, _, _, _, _, _, _, _, _, _, h9, _, _ => absurd h9 (Nat.not_lt_zero _)
  | z + 1, f, v, h, w, b, fl, hw, hb, hv, h9, hv2, k => by
    unfold w_X7_twosOf_L96
    refine ⟨by omega, ?_⟩
    by_cases q : v = 0
    · refine if_yes (by omega) (k h ?_)
      have e : w.set i (parL (f + 1) v b) = w := by
        rw [parL, if_pos q, ← hb]
        refine List.ext_getElem? (fun j => ?_)
        by_cases z : j = i
        · rw [z, List.getElem?_set_self (by omega), getD_lt (by omega)]
        · rw [List.getElem?_set_ne (by omega)]
      rw [e]; exact fl
    · refine if_no (by omega) (fl.2.2.at rfl (by omega) (by omega) ?_)
      have e2 : gDiv (v : Int) 2 = ((v / 2 : Nat) : Int) := gDiv_nat (b := 2) (by omega) (by decide)
      rw [hb, xor_rem b hv2, e2]
      refine fl.set rfl (by omega) (by omega) rfl (fun h2 f2 => ?_)
      cases f with
      | zero => omega
      | succ f =>
        refine r_twos_L96 hi ht z f (v / 2) h2 _ (xor b (decide (v % 2 = 1))) f2 (by simp [hw]) (by rw [List.getD_eq_getElem?_getD, List.getElem?_set_self (by omega)]; rfl) (by rw [Nat.pow_succ] at hv; omega) (by omega) (by omega) (fun h3 f3 => k h3 ?_)
        rw [List.set_set] at f3
        rw [parL, if_neg q]; exact f3
theorem r_twos_L87 {Q : Nat → gaH → Prop} {s : Nat} (hs : s ≤ 6) (k : ∀ h', fil h0 h' o (twL s) → Q o h') {kc ks : Nat} : ∀ (z i : Nat) (h : gaH), fil h0 h o (pf (twL s) i) → i ≤ 2 ^ s → 2 ^ s - i < z → w_X7_twosOf_L87 Q z o (i : Int) h kc ks
  | 0, _, _, _, _, h9 => absurd h9 (Nat.not_lt_zero _)
  | z + 1, i, h, fl, hi, h9 => by
    have hT := twL_len s hs
    have h64 : 2 ^ s ≤ 64 := by have : 2 ^ s ≤ 2 ^ 6 := Nat.pow_le_pow_right (by decide) hs; omega
    unfold w_X7_twosOf_L87
    refine fl.2.2.len ?_
    rw [pf_len (by omega), hT]
    refine ⟨by omega, ⟨by omega, by omega⟩, ?_⟩
    by_cases q : 2 ^ s ≤ i
    · refine if_yes (by omega) (k h ?_)
      obtain rfl : i = (twL s).length := by omega
      rw [pf_end] at fl; exact fl
    · refine if_no (by omega) ⟨8, ?_⟩
      have hb : (pf (twL s) i).getD i false = false := by
        unfold pf
        rw [List.getD_eq_getElem?_getD, List.getElem?_append_right (by simp; omega)]
        simp
        by_cases q2 : (twL s).length - i = 0
        · rw [q2]; rfl
        · rw [List.getElem?_replicate]; split <;> rfl
      refine r_twos_L96 (t := twL s) (by omega) (by omega) 8 6 i h _ false fl (pf_len (by omega)) hb (by omega) (by decide) (by omega) (fun h3 f3 => ?_)
      have e : (twL s).getD i false = (twL 6).getD i false := by
        rw [twL_take s hs, List.getD_eq_getElem?_getD, List.getElem?_take_of_lt (by omega), ← List.getD_eq_getElem?_getD]
      rw [parL_two i (by omega), ← e, pf_set (by omega)] at f3
      rw [show (i : Int) + 1 = ((i + 1 : Nat) : Int) by omega]
      exact r_twos_L87 hs k z (i + 1) h3 f3 (by omega) (by omega)
theorem r_twos_L15 {Q : Nat → gaH → Prop} {s : Nat} (hs : s ≤ 6) {rd : Int} (hrd : rd = 0 ∨ rd = 1) (k : ∀ h' o, mK h0 h' → h0 o = none → mR h' o (twL s) → Q o h') : ∀ (z i p : Nat) (h : gaH) (kc ks : Nat), mK h0 h → h0 p = none → mR h p (twL i) → i ≤ s → s - i < z → 6 * (s - i) ≤ kc → 600 * (s - i) ≤ ks → w_X7_twosOf_L15 Q z (s : Int) rd p (i : Int) h kc ks
  | 0, _, _, _, _, _, _, _, _, _, h9, _, _ => absurd h9 (Nat.not_lt_zero _)
  | z + 1, i, p, h, kc, ks, kp, np, rp, hi, h9, hc, hs2 => by
    unfold w_X7_twosOf_L15
    (first | refine And.intro (show gR _ from by first | assumption | omega | decide | exact b2i_R _ | exact gR_of (by omega) (by omega)) ?_ | refine And.intro (show gHas _ _ _ from by first | exact gW.has (gD.w (by assumption)) (by omega) | exact gD.has (by assumption) | exact gRu.has (gD.ru (by assumption)) | exact gGr.has (gD.gr (by assumption) _ (by omega))) ?_ | refine gCall_mk (by decide) (by decide) ?_ | refine if_yes (by first | assumption | omega | decide | exact b2i_R _ | exact gR_of (by omega) (by omega)) ?_ | refine if_no (by first | assumption | omega | decide | exact b2i_R _ | exact gR_of (by omega) (by omega)) ?_); (first | refine And.intro (show gR _ from by first | assumption | omega | decide | exact b2i_R _ | exact gR_of (by omega) (by omega)) ?_ | refine And.intro (show gHas _ _ _ from by first | exact gW.has (gD.w (by assumption)) (by omega) | exact gD.has (by assumption) | exact gRu.has (gD.ru (by assumption)) | exact gGr.has (gD.gr (by assumption) _ (by omega))) ?_ | refine gCall_mk (by decide) (by decide) ?_ | refine if_yes (by first | assumption | omega | decide | exact b2i_R _ | exact gR_of (by omega) (by omega)) ?_ | refine if_no (by first | assumption | omega | decide | exact b2i_R _ | exact gR_of (by omega) (by omega)) ?_)
    by_cases q : s ≤ i
    · obtain rfl : i = s := by omega
      exact if_yes (by omega) (k h p kp np rp)
    · have hl := twL_len i (by omega)
      have hl2 := twL_len (i + 1) (by omega)
      have h64 : 2 ^ i ≤ 32 := by have : 2 ^ i ≤ 2 ^ 5 := Nat.pow_le_pow_right (by decide) (by omega); omega
      have h65 : 2 ^ (i + 1) ≤ 64 := by rw [Nat.pow_succ]; omega
      have en := twL_not i (by omega)
      have eln : (img [true] [false] (twL i)).length ≤ 64 := by
        have := congrArg List.length en
        rw [List.length_append] at this; omega
      refine if_no (by omega) (fil.new (n := 1) rfl (by decide) (by omega) (by omega) (fun x h1 f1 => f1.set (i := 0) rfl (by decide) (by decide) (b := true) rfl (fun h2 f2 => ?_)))
      refine fil.new (n := 1) rfl (by decide) (by omega) (by omega) (fun y h3 f3 => f3.set (i := 0) rfl (by decide) (by decide) (b := false) rfl (fun h4 f4 => gCall_mk (by omega) (by omega) ?_))
      have kk := f2.2.1.tr f4.2.1
      refine r_image (rp.on kk) (f2.2.2.on f4.2.1) f4.2.2 (by omega) (by decide) (by decide) (by show (img [true] [false] (twL i)).length ≤ 256; omega) (fun q1 h5 f5 => ?_)
      have kk5 := kk.tr f5.2.1
      refine ⟨by omega, ?_⟩
      rcases hrd with e | e
      · refine if_yes e (gCall_mk (by omega) (by omega) (r_ofCode (c := 5) rfl (by decide) (by decide) (fun c1 h6 f6 => gCall_mk (by omega) (by omega) (r_ofCode (c := 6) rfl (by decide) (by decide) (fun c2 h7 f7 => gCall_mk (by omega) (by omega) ?_)))))
        have kk7 := kk5.tr (f6.2.1.tr f7.2.1)
        have ei := twL_img i (by omega)
        refine r_image (rp.on kk7) (f6.2.2.on f7.2.1) f7.2.2 (by omega) (by decide) (by decide) (by rw [ei]; omega) (fun q2 h8 f8 => ?_)
        rw [show (i : Int) + 1 = ((i + 1 : Nat) : Int) by omega]
        refine r_twos_L15 hs (Or.inl e) k z (i + 1) q2 h8 _ _ (kp.tr (kk7.tr f8.2.1)) ((kp.tr kk7).non f8.1) (by rw [← ei]; exact f8.2.2) (by omega) (by omega) (by omega) (by omega)
      · have rp5 := rp.on kk5
        refine if_no (by omega) (rp5.len (rp5.len (gCall_mk (by omega) (by omega) ?_)))
        refine r_spliced rp5 f5.2.2 (f := (twL i).length) (t := (twL i).length) rfl rfl (Nat.le_refl _) (Nat.le_refl _) (by omega) eln (fun q2 h6 f6 => ?_)
        have r6 := f6.2.2
        rw [List.take_length, List.drop_length, List.append_nil] at r6
        rw [show (i : Int) + 1 = ((i + 1 : Nat) : Int) by omega]
        refine r_twos_L15 hs (Or.inr e) k z (i + 1) q2 h6 _ _ (kp.tr (kk5.tr f6.2.1)) ((kp.tr kk5).non f6.1) ?_ (by omega) (by omega) (by omega) (by omega)
        rw [← en]; exact r6
theorem r_twosOf {Q : Nat → gaH → Prop} {s : Nat} {x rd : Int} (hx : x = (s : Int)) (hs : s ≤ 6) (hr : gR rd) (hrd : 0 ≤ rd ∧ rd ≤ 2) (k : ∀ h' o, mK h h' → h o = none → mR h' o (twL s) → Q o h') : w_X7_twosOf x rd h Q := by
  subst hx
  have h64 : 2 ^ s ≤ 64 := by have : 2 ^ s ≤ 2 ^ 6 := Nat.pow_le_pow_right (by decide) hs; omega
  unfold w_X7_twosOf
  refine fil.new (n := 1) rfl (by decide) (by decide) (by decide) (fun x h1 f1 => f1.set (i := 0) rfl (by decide) (by decide) (b := false) rfl (fun h2 f2 => ⟨hr, ?_⟩))
  by_cases q : 2 ≤ rd
  · refine if_yes q (fil.new (n := 2 ^ s) ?_ (by omega) (by decide) (by omega) (fun y h3 f3 => ⟨66, ?_⟩))
    · have := gShl_nat (n := 1) (d := s) (by omega) (by omega)
      rw [show ((1 : Nat) : Int) = 1 from rfl] at this
      rw [this]; push_cast; omega
    · exact r_twos_L87 hs (fun h' f' => k h' y (f2.2.1.tr f'.2.1) (f2.2.1.non f'.1) f'.2.2) 66 0 h3 (by rw [pf_0, twL_len s hs]; exact f3) (Nat.zero_le _) (by omega)
  · refine if_no q ⟨8, ?_⟩
    exact r_twos_L15 hs (by omega) (fun h' o k' n' r' => k h' o k' n' r') 8 0 x h2 _ _ f2.2.1 f2.1 f2.2.2 (Nat.zero_le _) (by omega) (by omega) (by omega)
end RT
