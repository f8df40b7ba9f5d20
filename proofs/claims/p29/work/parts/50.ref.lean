/-! The reference: its rows, and what it makes of them. -/
def mK (h h' : gaH) : Prop := ∀ a e, h a = some e → h' a = some e
theorem mK.rf {h : gaH} : mK h h := fun _ _ q => q
theorem mK.tr {h h1 h2 : gaH} (x : mK h h1) (y : mK h1 h2) : mK h h2 := fun a e q => y a e (x a e q)
theorem mK.up {h h1 : gaH} (x : mK h h1) {o : Nat} (ho : h o = none) (e : gaE) : mK h (gaUp h1 o e) := fun a f q => by
  rw [gaUp_ne _ _ (new_ne q ho)]; exact x a f q
/-- a row of signs at a cell -/
def mR (h : gaH) (a : Nat) (u : List Bool) : Prop := h a = some (102, gRow u)
theorem mR.on {h h' : gaH} {a : Nat} {u : List Bool} (r : mR h a u) (x : mK h h') : mR h' a u := x _ _ r
/-- a fresh row being filled -/
def fil (h0 h : gaH) (o : Nat) (w : List Bool) : Prop := h0 o = none ∧ mK h0 h ∧ mR h o w
def pf (t : List Bool) (i : Nat) : List Bool := t.take i ++ List.replicate (t.length - i) false
theorem pf_len {t : List Bool} {i : Nat} (hi : i ≤ t.length) : (pf t i).length = t.length := by simp [pf]; omega
theorem pf_set {t : List Bool} {i : Nat} (hi : i < t.length) : (pf t i).set i (t.getD i false) = pf t (i + 1) := by
  unfold pf
  rw [List.set_append_right _ _ (by simp; omega), show t.length - i = (t.length - (i + 1)) + 1 by omega, List.replicate_succ, List.length_take, Nat.min_eq_left (by omega), Nat.sub_self, List.set_cons_zero, List.take_add_one, getD_lt hi]
  simp
theorem pf_end (t : List Bool) : pf t t.length = t := by simp [pf]
theorem pf_0 (t : List Bool) : pf t 0 = List.replicate t.length false := by simp [pf]
theorem pf_at {t : List Bool} {i j : Nat} (hj : j < i) (hi : i ≤ t.length) : (pf t i).getD j false = t.getD j false := by
  unfold pf
  rw [List.getD_eq_getElem?_getD, List.getElem?_append_left (by simp; omega), List.getElem?_take_of_lt hj, ← List.getD_eq_getElem?_getD]
theorem gRow_rep (n : Nat) : gRow (List.replicate n false) = List.replicate n (gi 0) := by simp [gRow, b2i]
section RF
variable {h h0 : gaH} {a b o : Nat} {u v w : List Bool}
theorem mR.len (r : mR h a u) {K : Int → Prop} (k : K (u.length : Int)) : gAL h a 102 K := gAL_mk r (by rw [gRow_len]) k
theorem mR.has (r : mR h a u) : gHas h a 102 := ⟨_, r⟩
theorem mR.at (r : mR h a u) {x : Int} {i : Nat} (hx : x = (i : Int)) (hi : i < u.length) (hl : u.length ≤ 100000) {K : Int → Prop} (k : K (b2i (u.getD i false))) : gLI h a 102 x K := by
  subst hx
  exact gLI_mk r (by omega) (by omega) (by rw [Int.toNat_natCast]; exact gRow_at hi) k
theorem fil.new {x : Int} {n c s : Nat} {K : Nat → gaH → Nat → Nat → Prop} (hx : x = (n : Int)) (h1 : n ≤ 100000) (h2 : 1 ≤ c) (h3 : n ≤ s) (k : ∀ o h', fil h h' o (List.replicate n false) → K o h' (c - 1) (s - n)) : gNA h 102 (gi 0) x c s K :=
  gNA_mk hx h1 h2 h3 (fun o ho => k o _ ⟨ho, mK.rf.up ho _, by unfold mR; rw [gaUp_self, gRow_rep]⟩)
theorem fil.set (f : fil h0 h o w) {x y : Int} {i : Nat} (hx : x = (i : Int)) (hi : i < w.length) (hl : w.length ≤ 100000) {b : Bool} (hy : y = b2i b) {K : gaH → Prop} (k : ∀ h', fil h0 h' o (w.set i b) → K h') : gSI h o 102 x (gi y) K := by
  subst hx; subst hy
  exact gSI_mk f.2.2 (by omega) (by omega) (by rw [Int.toNat_natCast, gRow_len]; exact hi) (k _ ⟨f.1, f.2.1.up f.1 _, by unfold mR; rw [gaUp_self, Int.toNat_natCast, gRow_set]⟩)
theorem fil.one {x : Int} {c s : Nat} {K : Nat → gaH → Nat → Nat → Prop} (hx : x = 1) {b : Bool} {y : Int} (hy : y = b2i b) (h2 : 1 ≤ c) (h3 : 1 ≤ s) (k : ∀ o h', fil h h' o [b] → K o h' (c - 1) (s - 1)) : gNA h 102 (gi 0) x c s (fun o h1 c1 s1 => gSI h1 o 102 0 (gi y) (fun h2 => K o h2 c1 s1)) :=
  fil.new (n := 1) (by omega) (by decide) h2 h3 (fun o h1 f => f.set (i := 0) rfl (by decide) (by decide) hy (fun h2 f2 => k o h2 f2))
/-- the loops that fill a row by a known word -/
theorem r_bs_L {Q : Int → gaH → Prop} (r : mR h a u) (hl : u.length ≤ 1000) : ∀ (n i c : Nat), i ≤ u.length → u.length - i < n → c ≤ i → Q ((c + ones (u.drop i) : Nat) : Int) h → w_X7_bs_L10 Q n (c : Int) a (u.length : Int) (i : Int) h
  | 0, i, c, _, h1, _, _ => absurd h1 (Nat.not_lt_zero _)
  | n + 1, i, c, hi, h1, hc, k => by
    unfold w_X7_bs_L10
    (first | refine And.intro (show gR _ from by first | assumption | omega | decide | exact b2i_R _ | exact gR_of (by omega) (by omega)) ?_ | refine And.intro (show gHas _ _ _ from by first | exact gW.has (gD.w (by assumption)) (by omega) | exact gD.has (by assumption) | exact gRu.has (gD.ru (by assumption)) | exact gGr.has (gD.gr (by assumption) _ (by omega))) ?_ | refine gCall_mk (by decide) (by decide) ?_ | refine if_yes (by first | assumption | omega | decide | exact b2i_R _ | exact gR_of (by omega) (by omega)) ?_ | refine if_no (by first | assumption | omega | decide | exact b2i_R _ | exact gR_of (by omega) (by omega)) ?_); (first | refine And.intro (show gR _ from by first | assumption | omega | decide | exact b2i_R _ | exact gR_of (by omega) (by omega)) ?_ | refine And.intro (show gHas _ _ _ from by first | exact gW.has (gD.w (by assumption)) (by omega) | exact gD.has (by assumption) | exact gRu.has (gD.ru (by assumption)) | exact gGr.has (gD.gr (by assumption) _ (by omega))) ?_ | refine gCall_mk (by decide) (by decide) ?_ | refine if_yes (by first | assumption | omega | decide | exact b2i_R _ | exact gR_of (by omega) (by omega)) ?_ | refine if_no (by first | assumption | omega | decide | exact b2i_R _ | exact gR_of (by omega) (by omega)) ?_)
    by_cases q : u.length ≤ i
    · refine if_yes (by omega) ?_
      rw [List.drop_of_length_le q] at k; exact k
    · refine if_no (by omega) (r.at rfl (by omega) (by omega) ?_)
      rw [take_one (u := u) (i := i) (by omega)] at k
      rw [show (i : Int) + 1 = ((i + 1 : Nat) : Int) by omega]
      generalize u.getD i false = y at k
      cases y
      · rw [show (c : Int) + b2i false = (c : Int) by simp [b2i]]
        exact r_bs_L r hl n (i + 1) c (by omega) (by omega) (by omega) (by simpa [ones] using k)
      · rw [show (c : Int) + b2i true = ((c + 1 : Nat) : Int) by simp [b2i]]
        refine r_bs_L r hl n (i + 1) (c + 1) (by omega) (by omega) (by omega) ?_
        have e2 : c + 1 + ones (u.drop (i + 1)) = c + ones (true :: u.drop (i + 1)) := by simp [ones]; omega
        rw [e2]; exact k
theorem r_bs {Q : Int → gaH → Prop} (r : mR h a u) (hl : u.length ≤ 1000) (k : Q (ones u : Int) h) : w_X7_bs a h Q := by
  unfold w_X7_bs
  refine r.len ⟨u.length + 1, ?_⟩
  have := r_bs_L r hl (Q := Q) (u.length + 1) 0 0 (Nat.zero_le _) (by omega) (Nat.le_refl _) (by simpa using k)
  simpa using this
theorem r_crossOf {Q : Int → gaH → Prop} (r : mR h a u) (s : mR h b v) (hl : u.length ≤ 1000) (hm : v.length ≤ 1000) (k : Q ((u.length : Int) * (ones v : Int) - (v.length : Int) * (ones u : Int)) h) : w_X7_crossOf a b h Q := by
  unfold w_X7_crossOf
  exact r.len (r_bs s hm (s.len (r_bs r hl k)))
theorem r_spliced_L {Q : Nat → gaH → Prop} (ru : mR h0 a u) (rv : mR h0 b v) {f t : Nat} (hft : f ≤ t) (ht : t ≤ u.length) (h1 : u.length ≤ 64) (h2 : v.length ≤ 64) (k : ∀ h', fil h0 h' o (u.take f ++ v ++ u.drop t) → Q o h') {kc ks : Nat} : ∀ (z i : Nat) (h : gaH), fil h0 h o (pf (u.take f ++ v ++ u.drop t) i) → i ≤ f + v.length + (u.length - t) → f + v.length + (u.length - t) - i < z → w_X7_spliced_L16 Q z a (f : Int) (t : Int) b o (i : Int) h kc ks
  | 0, _, _, _, _, h9 => absurd h9 (Nat.not_lt_zero _)
  | z + 1, i, h, fl, hi, h9 => by
    have hT : (u.take f ++ v ++ u.drop t).length = f + v.length + (u.length - t) := by simp; omega
    have hp : (pf (u.take f ++ v ++ u.drop t) i).length = f + v.length + (u.length - t) := by rw [pf_len (by omega), hT]
    unfold w_X7_spliced_L16
    refine fl.2.2.len ?_
    rw [hp]
    (first | refine And.intro (show gR _ from by first | assumption | omega | decide | exact b2i_R _ | exact gR_of (by omega) (by omega)) ?_ | refine And.intro (show gHas _ _ _ from by first | exact gW.has (gD.w (by assumption)) (by omega) | exact gD.has (by assumption) | exact gRu.has (gD.ru (by assumption)) | exact gGr.has (gD.gr (by assumption) _ (by omega))) ?_ | refine gCall_mk (by decide) (by decide) ?_ | refine if_yes (by first | assumption | omega | decide | exact b2i_R _ | exact gR_of (by omega) (by omega)) ?_ | refine if_no (by first | assumption | omega | decide | exact b2i_R _ | exact gR_of (by omega) (by omega)) ?_); (first | refine And.intro (show gR _ from by first | assumption | omega | decide | exact b2i_R _ | exact gR_of (by omega) (by omega)) ?_ | refine And.intro (show gHas _ _ _ from by first | exact gW.has (gD.w (by assumption)) (by omega) | exact gD.has (by assumption) | exact gRu.has (gD.ru (by assumption)) | exact gGr.has (gD.gr (by assumption) _ (by omega))) ?_ | refine gCall_mk (by decide) (by decide) ?_ | refine if_yes (by first | assumption | omega | decide | exact b2i_R _ | exact gR_of (by omega) (by omega)) ?_ | refine if_no (by first | assumption | omega | decide | exact b2i_R _ | exact gR_of (by omega) (by omega)) ?_)
    by_cases q : f + v.length + (u.length - t) ≤ i
    · refine if_yes (by omega) (k h ?_)
      obtain rfl : i = (u.take f ++ v ++ u.drop t).length := by omega
      rw [pf_end] at fl; exact fl
    · refine if_no (by omega) ?_
      have fin : ∀ y : Int, y = b2i ((u.take f ++ v ++ u.drop t).getD i false) → w_X7_spliced_J70 Q (w_X7_spliced_L16 Q z) a (f : Int) (t : Int) b o (i : Int) o (i : Int) y h kc ks := fun y hy => by
        unfold w_X7_spliced_J70
        refine fl.set rfl (by rw [hp]; omega) (by omega) hy (fun h3 f3 => ?_)
        rw [pf_set (by omega)] at f3
        rw [show (i : Int) + 1 = ((i + 1 : Nat) : Int) by omega]
        exact r_spliced_L ru rv hft ht h1 h2 k z (i + 1) h3 f3 (by omega) (by omega)
      have ru2 := ru.on fl.2.1
      have rv2 := rv.on fl.2.1
      (first | refine And.intro (show gR _ from by first | assumption | omega | decide | exact b2i_R _ | exact gR_of (by omega) (by omega)) ?_ | refine And.intro (show gHas _ _ _ from by first | exact gW.has (gD.w (by assumption)) (by omega) | exact gD.has (by assumption) | exact gRu.has (gD.ru (by assumption)) | exact gGr.has (gD.gr (by assumption) _ (by omega))) ?_ | refine gCall_mk (by decide) (by decide) ?_ | refine if_yes (by first | assumption | omega | decide | exact b2i_R _ | exact gR_of (by omega) (by omega)) ?_ | refine if_no (by first | assumption | omega | decide | exact b2i_R _ | exact gR_of (by omega) (by omega)) ?_); (first | refine And.intro (show gR _ from by first | assumption | omega | decide | exact b2i_R _ | exact gR_of (by omega) (by omega)) ?_ | refine And.intro (show gHas _ _ _ from by first | exact gW.has (gD.w (by assumption)) (by omega) | exact gD.has (by assumption) | exact gRu.has (gD.ru (by assumption)) | exact gGr.has (gD.gr (by assumption) _ (by omega))) ?_ | refine gCall_mk (by decide) (by decide) ?_ | refine if_yes (by first | assumption | omega | decide | exact b2i_R _ | exact gR_of (by omega) (by omega)) ?_ | refine if_no (by first | assumption | omega | decide | exact b2i_R _ | exact gR_of (by omega) (by omega)) ?_)
      by_cases q2 : f ≤ i
      · refine if_yes (by omega) (rv2.len ?_)
        (first | refine And.intro (show gR _ from by first | assumption | omega | decide | exact b2i_R _ | exact gR_of (by omega) (by omega)) ?_ | refine And.intro (show gHas _ _ _ from by first | exact gW.has (gD.w (by assumption)) (by omega) | exact gD.has (by assumption) | exact gRu.has (gD.ru (by assumption)) | exact gGr.has (gD.gr (by assumption) _ (by omega))) ?_ | refine gCall_mk (by decide) (by decide) ?_ | refine if_yes (by first | assumption | omega | decide | exact b2i_R _ | exact gR_of (by omega) (by omega)) ?_ | refine if_no (by first | assumption | omega | decide | exact b2i_R _ | exact gR_of (by omega) (by omega)) ?_); (first | refine And.intro (show gR _ from by first | assumption | omega | decide | exact b2i_R _ | exact gR_of (by omega) (by omega)) ?_ | refine And.intro (show gHas _ _ _ from by first | exact gW.has (gD.w (by assumption)) (by omega) | exact gD.has (by assumption) | exact gRu.has (gD.ru (by assumption)) | exact gGr.has (gD.gr (by assumption) _ (by omega))) ?_ | refine gCall_mk (by decide) (by decide) ?_ | refine if_yes (by first | assumption | omega | decide | exact b2i_R _ | exact gR_of (by omega) (by omega)) ?_ | refine if_no (by first | assumption | omega | decide | exact b2i_R _ | exact gR_of (by omega) (by omega)) ?_)
        by_cases q3 : f + v.length ≤ i
        · refine if_yes (by omega) (rv2.len (ru2.at (i := i - v.length + t - f) (by omega) (by omega) (by omega) (fin _ ?_)))
          rw [List.getD_eq_getElem?_getD, List.getD_eq_getElem?_getD, List.getElem?_append_right (by simp; omega), List.getElem?_drop]
          simp only [List.length_append, List.length_take]
          congr 3; omega
        · refine if_no (by omega) (rv2.at (i := i - f) (by omega) (by omega) (by omega) (fin _ ?_))
          rw [List.getD_eq_getElem?_getD, List.getD_eq_getElem?_getD, List.append_assoc, List.getElem?_append_right (by simp; omega), List.getElem?_append_left (by simp; omega)]
          simp only [List.length_take]
          congr 3; omega
      · refine if_no (by omega) (ru2.at (i := i) rfl (by omega) (by omega) (fin _ ?_))
        rw [List.getD_eq_getElem?_getD, List.getD_eq_getElem?_getD, List.append_assoc, List.getElem?_append_left (by simp; omega), List.getElem?_take_of_lt (by omega)]
theorem r_spliced {Q : Nat → gaH → Prop} (ru : mR h a u) (rv : mR h b v) {x y : Int} {f t : Nat} (hx : x = (f : Int)) (hy : y = (t : Int)) (hft : f ≤ t) (ht : t ≤ u.length) (h1 : u.length ≤ 64) (h2 : v.length ≤ 64) (k : ∀ o h', fil h h' o (u.take f ++ v ++ u.drop t) → Q o h') : w_X7_spliced a x y b h Q := by
  subst hx; subst hy
  unfold w_X7_spliced
  refine ru.len (rv.len (fil.new (n := f + v.length + (u.length - t)) (by omega) (by omega) (by decide) (by omega) (fun o h1' fl => ⟨130, ?_⟩)))
  refine r_spliced_L ru rv hft ht h1 h2 (fun h' f' => k o h' f') 130 0 h1' ?_ (Nat.zero_le _) (by omega)
  rw [pf_0, show (u.take f ++ v ++ u.drop t).length = f + v.length + (u.length - t) by simp; omega]
  exact fl
theorem unl_ge (u v : List Bool) : ∀ (f i : Nat), unl u v f i = -1 ∨ (i : Int) ≤ unl u v f i
  | 0, _ => Or.inl rfl
  | f + 1, i => by
    unfold unl
    split
    · exact Or.inl rfl
    · split
      · rcases unl_ge u v f (i + 1) with q | q
        · exact Or.inl q
        · right; omega
      · right; omega
theorem r_alikeOf_L {Q : Int → gaH → Prop} {p q : Nat} (rp : mR h p (u ++ v)) (rq : mR h q (v ++ u)) (h1 : u.length ≤ 64) (h2 : v.length ≤ 64) {kc ks : Nat} : ∀ (z i f : Nat), i ≤ (u ++ v).length → (u ++ v).length - i < z → (u ++ v).length - i < f → unl u v f i ≠ -1 → Q (unl u v f i) h → w_X7_alikeOf_L23 Q z p q (i : Int) h kc ks
  | 0, _, _, _, h9, _, _, _ => absurd h9 (Nat.not_lt_zero _)
  | z + 1, i, 0, _, _, h8, _, _ => absurd h8 (Nat.not_lt_zero _)
  | z + 1, i, f + 1, hi, h9, h8, hne, k => by
    have e1 : (u ++ v).length = u.length + v.length := by simp
    have e2 : (v ++ u).length = u.length + v.length := by simp; omega
    unfold unl at hne k
    by_cases q1 : (u ++ v).length ≤ i
    · rw [if_pos q1] at hne; exact absurd rfl hne
    · rw [if_neg q1] at hne k
      unfold w_X7_alikeOf_L23
      refine rp.at rfl (by omega) (by omega) (rq.at rfl (by omega) (by omega) ?_)
      (first | refine And.intro (show gR _ from by first | assumption | omega | decide | exact b2i_R _ | exact gR_of (by omega) (by omega)) ?_ | refine And.intro (show gHas _ _ _ from by first | exact gW.has (gD.w (by assumption)) (by omega) | exact gD.has (by assumption) | exact gRu.has (gD.ru (by assumption)) | exact gGr.has (gD.gr (by assumption) _ (by omega))) ?_ | refine gCall_mk (by decide) (by decide) ?_ | refine if_yes (by first | assumption | omega | decide | exact b2i_R _ | exact gR_of (by omega) (by omega)) ?_ | refine if_no (by first | assumption | omega | decide | exact b2i_R _ | exact gR_of (by omega) (by omega)) ?_); (first | refine And.intro (show gR _ from by first | assumption | omega | decide | exact b2i_R _ | exact gR_of (by omega) (by omega)) ?_ | refine And.intro (show gHas _ _ _ from by first | exact gW.has (gD.w (by assumption)) (by omega) | exact gD.has (by assumption) | exact gRu.has (gD.ru (by assumption)) | exact gGr.has (gD.gr (by assumption) _ (by omega))) ?_ | refine gCall_mk (by decide) (by decide) ?_ | refine if_yes (by first | assumption | omega | decide | exact b2i_R _ | exact gR_of (by omega) (by omega)) ?_ | refine if_no (by first | assumption | omega | decide | exact b2i_R _ | exact gR_of (by omega) (by omega)) ?_)
      by_cases q2 : (u ++ v).getD i false = (v ++ u).getD i false
      · rw [if_pos q2] at hne k
        refine if_yes (congrArg b2i q2) ?_
        rw [show (i : Int) + 1 = ((i + 1 : Nat) : Int) by omega]
        exact r_alikeOf_L rp rq h1 h2 z (i + 1) f (by omega) (by omega) (by omega) hne k
      · rw [if_neg q2] at k
        exact if_no (fun z => q2 ((b2i_eq _ _).mp z)) k
theorem r_alikeOf {Q : Int → gaH → Prop} (ru : mR h a u) (rv : mR h b v) (h1 : u.length ≤ 64) (h2 : v.length ≤ 64) (hne : unlike u v ≠ -1) (k : ∀ h', mK h h' → Q (unlike u v) h') : w_X7_alikeOf a b h Q := by
  unfold w_X7_alikeOf
  refine ru.len (ru.len (gCall_mk (by decide) (by decide) (r_spliced ru rv (f := u.length) (t := u.length) rfl rfl (Nat.le_refl _) (Nat.le_refl _) h1 h2 (fun p h3 f3 => ?_))))
  have ru3 := ru.on f3.2.1
  have rv3 := rv.on f3.2.1
  refine rv3.len (rv3.len (gCall_mk (by decide) (by decide) (r_spliced rv3 ru3 (f := v.length) (t := v.length) rfl rfl (Nat.le_refl _) (Nat.le_refl _) h2 h1 (fun q h4 f4 => ⟨130, ?_⟩))))
  have rp := f3.2.2.on f4.2.1
  have rq := f4.2.2
  simp only [List.take_length, List.drop_length, List.append_nil] at rp rq
  exact r_alikeOf_L rp rq h1 h2 130 0 _ (Nat.zero_le _) (by simp; omega) (by omega) hne (k h4 (f3.2.1.tr f4.2.1))
/-- words that grow are never alike both ways round -/
theorem grw_unlike : ∀ (n : Nat) (ts : List Nat), ts.length = n → (grw ts).2 ++ (grw ts).1 ≠ (grw ts).1 ++ (grw ts).2
  | 0, ts, hn => by rw [List.length_eq_zero_iff.mp hn]; decide
  | n + 1, ts, hn => by
    obtain ⟨us, t, rfl⟩ : ∃ us t, ts = us ++ [t] := ⟨ts.dropLast, ts.getLast (by intro h; rw [h] at hn; simp at hn), (List.dropLast_concat_getLast _).symm⟩
    rw [grw_snoc]
    intro q
    have ih := grw_unlike n us (by simpa using hn)
    simp only [gstep] at q
    have e : (grw us).2 ++ rep t (grw us).2 = rep t (grw us).2 ++ (grw us).2 := by
      rw [← rep_succ]; unfold rep; rw [List.replicate_succ]; rfl
    rw [← List.append_assoc (grw us).2, e, List.append_assoc, List.append_assoc] at q
    exact ih (List.append_cancel_left q).symm
theorem unl_none (u v : List Bool) : ∀ (f i : Nat), unl u v f i = -1 → (u ++ v).length - i < f → ∀ j, i ≤ j → j < (u ++ v).length → (u ++ v).getD j false = (v ++ u).getD j false
  | 0, _, _, h1 => absurd h1 (Nat.not_lt_zero _)
  | f + 1, i, e, h1 => by
    intro j hij hj
    unfold unl at e
    rw [if_neg (by omega)] at e
    by_cases q : (u ++ v).getD i false = (v ++ u).getD i false
    · rw [if_pos q] at e
      by_cases z : j = i
      · rw [z]; exact q
      · exact unl_none u v f (i + 1) e (by omega) j (by omega) hj
    · rw [if_neg q] at e; omega
theorem unlike_iff {u v : List Bool} (h : u ++ v ≠ v ++ u) : unlike u v ≠ -1 := fun e => h (by
  have hl : (u ++ v).length = (v ++ u).length := by simp; omega
  refine List.ext_getElem? (fun j => ?_)
  by_cases q : j < (u ++ v).length
  · have := unl_none u v _ 0 e (by omega) j (Nat.zero_le _) q
    rw [getD_lt q, getD_lt (by omega), this]
  · rw [List.getElem?_eq_none (by omega), List.getElem?_eq_none (by omega)])
theorem grw_alike (ts : List Nat) : unlike (grw ts).2 (grw ts).1 ≠ -1 := unlike_iff (grw_unlike _ ts rfl)
end RF
