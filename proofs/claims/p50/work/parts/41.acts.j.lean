/-! The garden's acts. -/
abbrev eI : String := "java/lang/IndexOutOfBoundsException"
abbrev eA : String := "java/lang/IllegalArgumentException"
abbrev eS : String := "java/lang/IllegalStateException"
section RG
variable {A : Nat → Nat} {h : gaH} {U : Nat → List Bool} {w v : Nat}
theorem ring_at {u : List Bool} {p : Nat} (hp : p < 2 * u.length) : u.getD (if p < u.length then p else p - u.length) false = (u ++ u).getD p false := by
  simp only [List.getD_eq_getElem?_getD, List.getElem?_append]
  split <;> rfl
theorem f_upsInPart_L (gw : gW A h U) (hw : w < 11) {a l : Nat} (hal : l = 0 ∨ (a < (U w).length ∧ l ≤ (U w).length)) (ha : a ≤ 64) (hl : l ≤ 64) {Q : Int → gaH → Prop} : ∀ (n i c : Nat), i ≤ l → l - i < n → c ≤ i → Q ((c + ones (((U w ++ U w).drop (a + i)).take (l - i)) : Nat) : Int) h → w_X1_upsInPart_L5 Q n (A w) (a : Int) (l : Int) (c : Int) ((a : Int) + (i : Int)) h
  | 0, i, _, _, h1, _, _ => absurd h1 (Nat.not_lt_zero _)
  | n + 1, i, c, hi, h1, hc, k => by
    have l1 := gw.le hw
    unfold w_X1_upsInPart_L5
    refine ⟨gR_of (by omega) (by omega), gR_of (by omega) (by omega), ?_⟩
    by_cases q : l ≤ i
    · rw [show l - i = 0 by omega, List.take_zero] at k
      exact if_yes (by omega) k
    · have e1 : (a : Int) + (i : Int) + 1 = (a : Int) + ((i + 1 : Nat) : Int) := by omega
      refine if_no (by omega) (s_onRing (p := a + i) gw hw (by omega) (by omega) ⟨b2i_R _, ?_⟩)
      rw [ring_at (show a + i < 2 * (U w).length by omega)]
      rw [show l - i = (l - (i + 1)) + 1 by omega, take_one (u := U w ++ U w) (i := a + i) (by simp; omega), List.take_succ_cons, show a + i + 1 = a + (i + 1) by omega] at k
      generalize (U w ++ U w).getD (a + i) false = y at k
      cases y
      · refine if_yes rfl ?_
        rw [e1]
        exact f_upsInPart_L gw hw hal ha hl n (i + 1) c (by omega) (by omega) (by omega) (by simpa [ones] using k)
      · refine if_no (by decide) ?_
        rw [e1, show (c : Int) + 1 = ((c + 1 : Nat) : Int) by omega]
        refine f_upsInPart_L gw hw hal ha hl n (i + 1) (c + 1) (by omega) (by omega) (by omega) ?_
        have e2 : c + 1 + ones (((U w ++ U w).drop (a + (i + 1))).take (l - (i + 1))) = c + ones (true :: ((U w ++ U w).drop (a + (i + 1))).take (l - (i + 1))) := by simp [ones]; omega
        rw [e2]; exact k
theorem f_upsInPart (gw : gW A h U) (hw : w < 11) {x y : Int} {a l : Nat} (hx : x = (a : Int)) (hy : y = (l : Int)) (hal : l = 0 ∨ (a < (U w).length ∧ l ≤ (U w).length)) (ha : a ≤ 64) (hl : l ≤ 64) {Q : Int → gaH → Prop} (k : Q (ones (((U w ++ U w).drop a).take l) : Int) h) : w_X1_upsInPart (A w) x y h Q := by
  subst hx; subst hy
  refine ⟨l + 1, ?_⟩
  have := f_upsInPart_L gw hw hal ha hl (Q := Q) (l + 1) 0 0 (Nat.zero_le _) (by omega) (Nat.le_refl _) (by simpa using k)
  rw [show (a : Int) + ((0 : Nat) : Int) = (a : Int) by omega] at this
  exact this
theorem part_in {u : List Bool} {a l : Nat} (h : a + l ≤ u.length) : ((u ++ u).drop a).take l = (u.drop a).take l := by
  rw [List.drop_append_of_le_length (by omega), List.take_append_of_le_length (by simp; omega)]
end RG
section CA
variable {A : Nat → Nat} {G : gaG} {h : gaH} {U : Nat → List Bool} {st : GSt} {X : String → gaH → Prop} {Q : Int → gaH → Prop} {w v g : Nat} {x y z : Int}
def m_write (st : GSt) (x c : Int) : Nat × (Int → Prop) × GSt :=
  if okS x then if 1 ≤ c ∧ c ≤ 65535 then done (st.sheet x.toNat (codeW c.toNat)) ((codeW c.toNat).length : Int) else bad 2 st else bad 1 st
def m_append (st : GSt) (x y : Int) : Nat × (Int → Prop) × GSt :=
  if okS x then if okS y then exch st x.toNat (st.S x.toNat).length (st.S x.toNat).length (st.S y.toNat) else bad 1 st else bad 1 st
theorem c_append (d : gD A G h U st) (hx : gR x) (hy : gR y) (k : gRes A G h [eI] X Q (m_append st x y)) : w_X5_append X (A 22) x y h Q := by
  unfold w_X5_append
  (first | refine And.intro (show gR _ from by first | assumption | omega | decide | exact b2i_R _ | exact gR_of (by omega) (by omega)) ?_ | refine And.intro (show gHas _ _ _ from by first | exact gW.has (gD.w (by assumption)) (by omega) | exact gD.has (by assumption) | exact gRu.has (gD.ru (by assumption)) | exact gGr.has (gD.gr (by assumption) _ (by omega))) ?_ | refine gCall_mk (by decide) (by decide) ?_ | refine if_yes (by first | assumption | omega | decide | exact b2i_R _ | exact gR_of (by omega) (by omega)) ?_ | refine if_no (by first | assumption | omega | decide | exact b2i_R _ | exact gR_of (by omega) (by omega)) ?_); (first | refine And.intro (show gR _ from by first | assumption | omega | decide | exact b2i_R _ | exact gR_of (by omega) (by omega)) ?_ | refine And.intro (show gHas _ _ _ from by first | exact gW.has (gD.w (by assumption)) (by omega) | exact gD.has (by assumption) | exact gRu.has (gD.ru (by assumption)) | exact gGr.has (gD.gr (by assumption) _ (by omega))) ?_ | refine gCall_mk (by decide) (by decide) ?_ | refine if_yes (by first | assumption | omega | decide | exact b2i_R _ | exact gR_of (by omega) (by omega)) ?_ | refine if_no (by first | assumption | omega | decide | exact b2i_R _ | exact gR_of (by omega) (by omega)) ?_)
  refine c_wordOf d hx (fun q => by rw [m_append, if_neg q] at k; exact k.ex d gFr.rf) (fun w hw e => ?_)
  subst e
  rw [m_append, if_pos (show okS (w : Int) by omega)] at k
  refine d.w.many (by omega) (d.w.many (by omega) ?_)
  (first | refine And.intro (show gR _ from by first | assumption | omega | decide | exact b2i_R _ | exact gR_of (by omega) (by omega)) ?_ | refine And.intro (show gHas _ _ _ from by first | exact gW.has (gD.w (by assumption)) (by omega) | exact gD.has (by assumption) | exact gRu.has (gD.ru (by assumption)) | exact gGr.has (gD.gr (by assumption) _ (by omega))) ?_ | refine gCall_mk (by decide) (by decide) ?_ | refine if_yes (by first | assumption | omega | decide | exact b2i_R _ | exact gR_of (by omega) (by omega)) ?_ | refine if_no (by first | assumption | omega | decide | exact b2i_R _ | exact gR_of (by omega) (by omega)) ?_); (first | refine And.intro (show gR _ from by first | assumption | omega | decide | exact b2i_R _ | exact gR_of (by omega) (by omega)) ?_ | refine And.intro (show gHas _ _ _ from by first | exact gW.has (gD.w (by assumption)) (by omega) | exact gD.has (by assumption) | exact gRu.has (gD.ru (by assumption)) | exact gGr.has (gD.gr (by assumption) _ (by omega))) ?_ | refine gCall_mk (by decide) (by decide) ?_ | refine if_yes (by first | assumption | omega | decide | exact b2i_R _ | exact gR_of (by omega) (by omega)) ?_ | refine if_no (by first | assumption | omega | decide | exact b2i_R _ | exact gR_of (by omega) (by omega)) ?_)
  refine c_wordOf d hy (fun q => by rw [if_neg q] at k; exact k.ex d gFr.rf) (fun v hv e => ?_)
  subst e
  rw [if_pos (show okS (v : Int) by omega), Int.toNat_natCast, Int.toNat_natCast, ← d.s v hv, ← d.s w hw] at k
  (first | refine And.intro (show gR _ from by first | assumption | omega | decide | exact b2i_R _ | exact gR_of (by omega) (by omega)) ?_ | refine And.intro (show gHas _ _ _ from by first | exact gW.has (gD.w (by assumption)) (by omega) | exact gD.has (by assumption) | exact gRu.has (gD.ru (by assumption)) | exact gGr.has (gD.gr (by assumption) _ (by omega))) ?_ | refine gCall_mk (by decide) (by decide) ?_ | refine if_yes (by first | assumption | omega | decide | exact b2i_R _ | exact gR_of (by omega) (by omega)) ?_ | refine if_no (by first | assumption | omega | decide | exact b2i_R _ | exact gR_of (by omega) (by omega)) ?_)
  exact c_exch d hw (by omega) (by omega) rfl rfl (Nat.le_refl _) (Nat.le_refl _) k
def m_insertSign (st : GSt) (x y : Int) (b : Bool) : Nat × (Int → Prop) × GSt :=
  if okS x then if 0 ≤ y ∧ y ≤ ((st.S x.toNat).length : Int) then exch st x.toNat y.toNat y.toNat [b] else bad 1 st else bad 1 st
def m_insertSheet (st : GSt) (x y z : Int) : Nat × (Int → Prop) × GSt :=
  if okS x then if okS z then if 0 ≤ y ∧ y ≤ ((st.S x.toNat).length : Int) then exch st x.toNat y.toNat y.toNat (st.S z.toNat) else bad 1 st else bad 1 st else bad 1 st
def m_setSign (st : GSt) (x y : Int) (b : Bool) : Nat × (Int → Prop) × GSt :=
  if okS x then if 0 ≤ y ∧ y < ((st.S x.toNat).length : Int) then done (st.sheet x.toNat ((st.S x.toNat).set y.toNat b)) (if (st.S x.toNat).getD y.toNat false = b then 0 else 1) else bad 1 st else bad 1 st
theorem c_setSign (d : gD A G h U st) {b : Bool} (hx : gR x) (hy : gR y) (hz : z = b2i b) (k : gRes A G h [eI] X Q (m_setSign st x y b)) : w_X5_setSign X (A 22) x y z h Q := by
  subst hz
  unfold w_X5_setSign
  (first | refine And.intro (show gR _ from by first | assumption | omega | decide | exact b2i_R _ | exact gR_of (by omega) (by omega)) ?_ | refine And.intro (show gHas _ _ _ from by first | exact gW.has (gD.w (by assumption)) (by omega) | exact gD.has (by assumption) | exact gRu.has (gD.ru (by assumption)) | exact gGr.has (gD.gr (by assumption) _ (by omega))) ?_ | refine gCall_mk (by decide) (by decide) ?_ | refine if_yes (by first | assumption | omega | decide | exact b2i_R _ | exact gR_of (by omega) (by omega)) ?_ | refine if_no (by first | assumption | omega | decide | exact b2i_R _ | exact gR_of (by omega) (by omega)) ?_); (first | refine And.intro (show gR _ from by first | assumption | omega | decide | exact b2i_R _ | exact gR_of (by omega) (by omega)) ?_ | refine And.intro (show gHas _ _ _ from by first | exact gW.has (gD.w (by assumption)) (by omega) | exact gD.has (by assumption) | exact gRu.has (gD.ru (by assumption)) | exact gGr.has (gD.gr (by assumption) _ (by omega))) ?_ | refine gCall_mk (by decide) (by decide) ?_ | refine if_yes (by first | assumption | omega | decide | exact b2i_R _ | exact gR_of (by omega) (by omega)) ?_ | refine if_no (by first | assumption | omega | decide | exact b2i_R _ | exact gR_of (by omega) (by omega)) ?_)
  refine c_wordOf d hx (fun q => by rw [m_setSign, if_neg q] at k; exact k.ex d gFr.rf) (fun w hw e => ?_)
  subst e
  have l1 := d.w.le (show w < 11 by omega)
  rw [m_setSign, if_pos (show okS (w : Int) by omega), Int.toNat_natCast, ← d.s w hw] at k
  have bd : ¬ (0 ≤ y ∧ y < ((U w).length : Int)) → w_X5_setSign_J24 X Q (A 22) y (b2i b) (A w) h 1 6 := fun q => by
    rw [if_neg q] at k
    unfold w_X5_setSign_J24 w_X5_setSign_J25
    (first | refine And.intro (show gR _ from by first | assumption | omega | decide | exact b2i_R _ | exact gR_of (by omega) (by omega)) ?_ | refine And.intro (show gHas _ _ _ from by first | exact gW.has (gD.w (by assumption)) (by omega) | exact gD.has (by assumption) | exact gRu.has (gD.ru (by assumption)) | exact gGr.has (gD.gr (by assumption) _ (by omega))) ?_ | refine gCall_mk (by decide) (by decide) ?_ | refine if_yes (by first | assumption | omega | decide | exact b2i_R _ | exact gR_of (by omega) (by omega)) ?_ | refine if_no (by first | assumption | omega | decide | exact b2i_R _ | exact gR_of (by omega) (by omega)) ?_)
    exact c_nI0 (k.ex d gFr.rf)
  (first | refine And.intro (show gR _ from by first | assumption | omega | decide | exact b2i_R _ | exact gR_of (by omega) (by omega)) ?_ | refine And.intro (show gHas _ _ _ from by first | exact gW.has (gD.w (by assumption)) (by omega) | exact gD.has (by assumption) | exact gRu.has (gD.ru (by assumption)) | exact gGr.has (gD.gr (by assumption) _ (by omega))) ?_ | refine gCall_mk (by decide) (by decide) ?_ | refine if_yes (by first | assumption | omega | decide | exact b2i_R _ | exact gR_of (by omega) (by omega)) ?_ | refine if_no (by first | assumption | omega | decide | exact b2i_R _ | exact gR_of (by omega) (by omega)) ?_)
  by_cases q1 : y < 0
  · exact if_yes q1 (bd (by omega))
  (first | refine And.intro (show gR _ from by first | assumption | omega | decide | exact b2i_R _ | exact gR_of (by omega) (by omega)) ?_ | refine And.intro (show gHas _ _ _ from by first | exact gW.has (gD.w (by assumption)) (by omega) | exact gD.has (by assumption) | exact gRu.has (gD.ru (by assumption)) | exact gGr.has (gD.gr (by assumption) _ (by omega))) ?_ | refine gCall_mk (by decide) (by decide) ?_ | refine if_yes (by first | assumption | omega | decide | exact b2i_R _ | exact gR_of (by omega) (by omega)) ?_ | refine if_no (by first | assumption | omega | decide | exact b2i_R _ | exact gR_of (by omega) (by omega)) ?_)
  refine d.w.many (by omega) ?_
  (first | refine And.intro (show gR _ from by first | assumption | omega | decide | exact b2i_R _ | exact gR_of (by omega) (by omega)) ?_ | refine And.intro (show gHas _ _ _ from by first | exact gW.has (gD.w (by assumption)) (by omega) | exact gD.has (by assumption) | exact gRu.has (gD.ru (by assumption)) | exact gGr.has (gD.gr (by assumption) _ (by omega))) ?_ | refine gCall_mk (by decide) (by decide) ?_ | refine if_yes (by first | assumption | omega | decide | exact b2i_R _ | exact gR_of (by omega) (by omega)) ?_ | refine if_no (by first | assumption | omega | decide | exact b2i_R _ | exact gR_of (by omega) (by omega)) ?_); (first | refine And.intro (show gR _ from by first | assumption | omega | decide | exact b2i_R _ | exact gR_of (by omega) (by omega)) ?_ | refine And.intro (show gHas _ _ _ from by first | exact gW.has (gD.w (by assumption)) (by omega) | exact gD.has (by assumption) | exact gRu.has (gD.ru (by assumption)) | exact gGr.has (gD.gr (by assumption) _ (by omega))) ?_ | refine gCall_mk (by decide) (by decide) ?_ | refine if_yes (by first | assumption | omega | decide | exact b2i_R _ | exact gR_of (by omega) (by omega)) ?_ | refine if_no (by first | assumption | omega | decide | exact b2i_R _ | exact gR_of (by omega) (by omega)) ?_)
  by_cases q2 : ((U w).length : Int) ≤ y
  · exact if_yes q2 (bd (by omega))
  (first | refine And.intro (show gR _ from by first | assumption | omega | decide | exact b2i_R _ | exact gR_of (by omega) (by omega)) ?_ | refine And.intro (show gHas _ _ _ from by first | exact gW.has (gD.w (by assumption)) (by omega) | exact gD.has (by assumption) | exact gRu.has (gD.ru (by assumption)) | exact gGr.has (gD.gr (by assumption) _ (by omega))) ?_ | refine gCall_mk (by decide) (by decide) ?_ | refine if_yes (by first | assumption | omega | decide | exact b2i_R _ | exact gR_of (by omega) (by omega)) ?_ | refine if_no (by first | assumption | omega | decide | exact b2i_R _ | exact gR_of (by omega) (by omega)) ?_)
  rw [if_pos ⟨by omega, by omega⟩] at k
  obtain ⟨n, rfl⟩ : ∃ n : Nat, y = n := ⟨y.toNat, by omega⟩
  rw [Int.toNat_natCast] at k
  unfold w_X5_setSign_J25
  (first | refine And.intro (show gR _ from by first | assumption | omega | decide | exact b2i_R _ | exact gR_of (by omega) (by omega)) ?_ | refine And.intro (show gHas _ _ _ from by first | exact gW.has (gD.w (by assumption)) (by omega) | exact gD.has (by assumption) | exact gRu.has (gD.ru (by assumption)) | exact gGr.has (gD.gr (by assumption) _ (by omega))) ?_ | refine gCall_mk (by decide) (by decide) ?_ | refine if_yes (by first | assumption | omega | decide | exact b2i_R _ | exact gR_of (by omega) (by omega)) ?_ | refine if_no (by first | assumption | omega | decide | exact b2i_R _ | exact gR_of (by omega) (by omega)) ?_)
  refine c_nI1 ?_
  (first | refine And.intro (show gR _ from by first | assumption | omega | decide | exact b2i_R _ | exact gR_of (by omega) (by omega)) ?_ | refine And.intro (show gHas _ _ _ from by first | exact gW.has (gD.w (by assumption)) (by omega) | exact gD.has (by assumption) | exact gRu.has (gD.ru (by assumption)) | exact gGr.has (gD.gr (by assumption) _ (by omega))) ?_ | refine gCall_mk (by decide) (by decide) ?_ | refine if_yes (by first | assumption | omega | decide | exact b2i_R _ | exact gR_of (by omega) (by omega)) ?_ | refine if_no (by first | assumption | omega | decide | exact b2i_R _ | exact gR_of (by omega) (by omega)) ?_)
  refine s_isUp d.w (by omega) rfl (by omega) ?_
  (first | refine And.intro (show gR _ from by first | assumption | omega | decide | exact b2i_R _ | exact gR_of (by omega) (by omega)) ?_ | refine And.intro (show gHas _ _ _ from by first | exact gW.has (gD.w (by assumption)) (by omega) | exact gD.has (by assumption) | exact gRu.has (gD.ru (by assumption)) | exact gGr.has (gD.gr (by assumption) _ (by omega))) ?_ | refine gCall_mk (by decide) (by decide) ?_ | refine if_yes (by first | assumption | omega | decide | exact b2i_R _ | exact gR_of (by omega) (by omega)) ?_ | refine if_no (by first | assumption | omega | decide | exact b2i_R _ | exact gR_of (by omega) (by omega)) ?_); (first | refine And.intro (show gR _ from by first | assumption | omega | decide | exact b2i_R _ | exact gR_of (by omega) (by omega)) ?_ | refine And.intro (show gHas _ _ _ from by first | exact gW.has (gD.w (by assumption)) (by omega) | exact gD.has (by assumption) | exact gRu.has (gD.ru (by assumption)) | exact gGr.has (gD.gr (by assumption) _ (by omega))) ?_ | refine gCall_mk (by decide) (by decide) ?_ | refine if_yes (by first | assumption | omega | decide | exact b2i_R _ | exact gR_of (by omega) (by omega)) ?_ | refine if_no (by first | assumption | omega | decide | exact b2i_R _ | exact gR_of (by omega) (by omega)) ?_)
  have fin : ∀ t : Int, t = (if (U w).getD n false = b then 0 else 1) → w_X5_setSign_J43 X Q (A 22) (n : Int) (b2i b) (A w) t h 0 0 := by
    intro t ht
    unfold w_X5_setSign_J43
    (first | refine And.intro (show gR _ from by first | assumption | omega | decide | exact b2i_R _ | exact gR_of (by omega) (by omega)) ?_ | refine And.intro (show gHas _ _ _ from by first | exact gW.has (gD.w (by assumption)) (by omega) | exact gD.has (by assumption) | exact gRu.has (gD.ru (by assumption)) | exact gGr.has (gD.gr (by assumption) _ (by omega))) ?_ | refine gCall_mk (by decide) (by decide) ?_ | refine if_yes (by first | assumption | omega | decide | exact b2i_R _ | exact gR_of (by omega) (by omega)) ?_ | refine if_no (by first | assumption | omega | decide | exact b2i_R _ | exact gR_of (by omega) (by omega)) ?_)
    refine s_put d.w (show w < 11 by omega) rfl (show n < (U w).length by omega) rfl (fun h1 w1 s1 => ?_)
    have d1 := d.sh hw w1 s1
    rw [← ht] at k
    unfold w_X5_oneIf
    by_cases q : (U w).getD n false = b
    · rw [if_pos q] at ht
      subst ht
      (repeat (first | refine And.intro (show gR _ from by first | assumption | omega | decide | exact b2i_R _ | exact gR_of (by omega) (by omega)) ?_ | refine And.intro (show gHas _ _ _ from by first | exact gW.has (gD.w (by assumption)) (by omega) | exact gD.has (by assumption) | exact gRu.has (gD.ru (by assumption)) | exact gGr.has (gD.gr (by assumption) _ (by omega))) ?_ | refine gCall_mk (by decide) (by decide) ?_ | refine if_yes (by first | assumption | omega | decide | exact b2i_R _ | exact gR_of (by omega) (by omega)) ?_ | refine if_no (by first | assumption | omega | decide | exact b2i_R _ | exact gR_of (by omega) (by omega)) ?_))
      exact c_end d hw w1 s1 k
    · rw [if_neg q] at ht
      subst ht
      (repeat (first | refine And.intro (show gR _ from by first | assumption | omega | decide | exact b2i_R _ | exact gR_of (by omega) (by omega)) ?_ | refine And.intro (show gHas _ _ _ from by first | exact gW.has (gD.w (by assumption)) (by omega) | exact gD.has (by assumption) | exact gRu.has (gD.ru (by assumption)) | exact gGr.has (gD.gr (by assumption) _ (by omega))) ?_ | refine gCall_mk (by decide) (by decide) ?_ | refine if_yes (by first | assumption | omega | decide | exact b2i_R _ | exact gR_of (by omega) (by omega)) ?_ | refine if_no (by first | assumption | omega | decide | exact b2i_R _ | exact gR_of (by omega) (by omega)) ?_))
      exact c_end d hw w1 s1 k
  by_cases q : (U w).getD n false = b
  · exact if_yes (congrArg b2i q) (fin 0 (by rw [if_pos q]))
  · exact if_no (fun z => q ((b2i_eq _ _).mp z)) (fin 1 (by rw [if_neg q]))
def takeOut (st : GSt) (w f t : Nat) : Nat × (Int → Prop) × GSt := done (st.sheet w ((st.S w).take f ++ (st.S w).drop t)) (ones (((st.S w).drop f).take (t - f)) : Int)
def m_removeSign (st : GSt) (x y : Int) : Nat × (Int → Prop) × GSt :=
  if okS x then if 0 ≤ y ∧ y < ((st.S x.toNat).length : Int) then takeOut st x.toNat y.toNat (y.toNat + 1) else bad 1 st else bad 1 st
abbrev okF (f t : Int) (l : Nat) : Prop := 0 ≤ f ∧ f ≤ t ∧ t ≤ (l : Int)
def m_remove (st : GSt) (x y z : Int) : Nat × (Int → Prop) × GSt :=
  if okS x then if okF y z (st.S x.toNat).length then takeOut st x.toNat y.toNat z.toNat else bad 1 st else bad 1 st
def m_replace (st : GSt) (x y z v : Int) : Nat × (Int → Prop) × GSt :=
  if okS x then if okS v then if okF y z (st.S x.toNat).length then exch st x.toNat y.toNat z.toNat (st.S v.toNat) else bad 1 st else bad 1 st else bad 1 st
end CA
/-! The garden's acts, the others. -/
section CB
variable {A : Nat → Nat} {G : gaG} {h : gaH} {U : Nat → List Bool} {st : GSt} {X : String → gaH → Prop} {Q : Int → gaH → Prop} {w v g : Nat} {x y z : Int}
def m_cutTo (st : GSt) (x y : Int) : Nat × (Int → Prop) × GSt :=
  if okS x then if 0 ≤ y ∧ y ≤ 64 then done (st.sheet x.toNat ((st.S x.toNat).take y.toNat ++ List.replicate (y.toNat - (st.S x.toNat).length) false)) ((st.S x.toNat).length : Int) else bad 2 st else bad 1 st
theorem s_cutTo_L {E : List String} (hw : w < 3) {n : Nat} (hn : n ≤ 64) {u : List Bool} {kc ks : Nat} : ∀ (z i : Nat) (h : gaH) (U : Nat → List Bool), gD A G h U st → gRes A G h E X Q (done (st.sheet w (u.take n ++ List.replicate (n - u.length) false)) (u.length : Int)) → u.length ≤ i → U w = u → u.length ≤ 64 → (n ≤ i ∨ i < n) → (65 - i < z) → U 3 = u.take n ++ List.replicate (min i n - u.length) false → (i ≤ n ∨ i = u.length) → w_X5_cutTo_L56 X Q z (A 22) (n : Int) (A w) (u.length : Int) (i : Int) h kc ks
  | 0, i, _, _, _, _, _, _, _, _, h1, _, _ => absurd h1 (Nat.not_lt_zero _)
  | z + 1, i, h, U, d, k, hi, hu, hul, hni, h1, hb, hin => by
    unfold w_X5_cutTo_L56
    (first | refine And.intro (show gR _ from by first | assumption | omega | decide | exact b2i_R _ | exact gR_of (by omega) (by omega)) ?_ | refine And.intro (show gHas _ _ _ from by first | exact gW.has (gD.w (by assumption)) (by omega) | exact gD.has (by assumption) | exact gRu.has (gD.ru (by assumption)) | exact gGr.has (gD.gr (by assumption) _ (by omega))) ?_ | refine gCall_mk (by decide) (by decide) ?_ | refine if_yes (by first | assumption | omega | decide | exact b2i_R _ | exact gR_of (by omega) (by omega)) ?_ | refine if_no (by first | assumption | omega | decide | exact b2i_R _ | exact gR_of (by omega) (by omega)) ?_); (first | refine And.intro (show gR _ from by first | assumption | omega | decide | exact b2i_R _ | exact gR_of (by omega) (by omega)) ?_ | refine And.intro (show gHas _ _ _ from by first | exact gW.has (gD.w (by assumption)) (by omega) | exact gD.has (by assumption) | exact gRu.has (gD.ru (by assumption)) | exact gGr.has (gD.gr (by assumption) _ (by omega))) ?_ | refine gCall_mk (by decide) (by decide) ?_ | refine if_yes (by first | assumption | omega | decide | exact b2i_R _ | exact gR_of (by omega) (by omega)) ?_ | refine if_no (by first | assumption | omega | decide | exact b2i_R _ | exact gR_of (by omega) (by omega)) ?_)
    by_cases q : n ≤ i
    · refine if_yes (by omega) (d.f3 ?_)
      (first | refine And.intro (show gR _ from by first | assumption | omega | decide | exact b2i_R _ | exact gR_of (by omega) (by omega)) ?_ | refine And.intro (show gHas _ _ _ from by first | exact gW.has (gD.w (by assumption)) (by omega) | exact gD.has (by assumption) | exact gRu.has (gD.ru (by assumption)) | exact gGr.has (gD.gr (by assumption) _ (by omega))) ?_ | refine gCall_mk (by decide) (by decide) ?_ | refine if_yes (by first | assumption | omega | decide | exact b2i_R _ | exact gR_of (by omega) (by omega)) ?_ | refine if_no (by first | assumption | omega | decide | exact b2i_R _ | exact gR_of (by omega) (by omega)) ?_)
      refine s_take d.w (show w < 11 by omega) (show 3 < 11 by decide) (fun h5 w5 s5 => ?_)
      have e : U 3 = u.take n ++ List.replicate (n - u.length) false := by rw [hb, Nat.min_eq_right q]
      rw [e] at w5
      have d5 := d.sh hw w5 s5
      (first | refine And.intro (show gR _ from by first | assumption | omega | decide | exact b2i_R _ | exact gR_of (by omega) (by omega)) ?_ | refine And.intro (show gHas _ _ _ from by first | exact gW.has (gD.w (by assumption)) (by omega) | exact gD.has (by assumption) | exact gRu.has (gD.ru (by assumption)) | exact gGr.has (gD.gr (by assumption) _ (by omega))) ?_ | refine gCall_mk (by decide) (by decide) ?_ | refine if_yes (by first | assumption | omega | decide | exact b2i_R _ | exact gR_of (by omega) (by omega)) ?_ | refine if_no (by first | assumption | omega | decide | exact b2i_R _ | exact gR_of (by omega) (by omega)) ?_)
      exact c_end d hw w5 s5 k
    · refine if_no (by omega) (d.f3 ?_)
      (first | refine And.intro (show gR _ from by first | assumption | omega | decide | exact b2i_R _ | exact gR_of (by omega) (by omega)) ?_ | refine And.intro (show gHas _ _ _ from by first | exact gW.has (gD.w (by assumption)) (by omega) | exact gD.has (by assumption) | exact gRu.has (gD.ru (by assumption)) | exact gGr.has (gD.gr (by assumption) _ (by omega))) ?_ | refine gCall_mk (by decide) (by decide) ?_ | refine if_yes (by first | assumption | omega | decide | exact b2i_R _ | exact gR_of (by omega) (by omega)) ?_ | refine if_no (by first | assumption | omega | decide | exact b2i_R _ | exact gR_of (by omega) (by omega)) ?_)
      refine v_add d.w (by decide) (by rw [hb]; simp; omega) (b := false) rfl (fun h1 V1 w1 s1 e1 o1 => ?_)
      have d1 := d.b w1 s1 (fun v hv => o1 _ (by omega)) (fun v h5 _ => o1 _ (by omega))
      rw [show (i : Int) + 1 = ((i + 1 : Nat) : Int) by omega]
      refine s_cutTo_L hw hn z (i + 1) h1 V1 d1 (k.on (gFr.sm s1)) (by omega) ((o1 w (by omega)).trans hu) hul (by omega) (by omega) ?_ (by omega)
      rw [e1, hb, show min (i + 1) n - u.length = (min i n - u.length) + 1 by omega, List.replicate_succ', List.append_assoc]
theorem c_cutTo (d : gD A G h U st) (hx : gR x) (hy : gR y) (k : gRes A G h [eI, eA] X Q (m_cutTo st x y)) : w_X5_cutTo X (A 22) x y h Q := by
  unfold w_X5_cutTo
  (first | refine And.intro (show gR _ from by first | assumption | omega | decide | exact b2i_R _ | exact gR_of (by omega) (by omega)) ?_ | refine And.intro (show gHas _ _ _ from by first | exact gW.has (gD.w (by assumption)) (by omega) | exact gD.has (by assumption) | exact gRu.has (gD.ru (by assumption)) | exact gGr.has (gD.gr (by assumption) _ (by omega))) ?_ | refine gCall_mk (by decide) (by decide) ?_ | refine if_yes (by first | assumption | omega | decide | exact b2i_R _ | exact gR_of (by omega) (by omega)) ?_ | refine if_no (by first | assumption | omega | decide | exact b2i_R _ | exact gR_of (by omega) (by omega)) ?_); (first | refine And.intro (show gR _ from by first | assumption | omega | decide | exact b2i_R _ | exact gR_of (by omega) (by omega)) ?_ | refine And.intro (show gHas _ _ _ from by first | exact gW.has (gD.w (by assumption)) (by omega) | exact gD.has (by assumption) | exact gRu.has (gD.ru (by assumption)) | exact gGr.has (gD.gr (by assumption) _ (by omega))) ?_ | refine gCall_mk (by decide) (by decide) ?_ | refine if_yes (by first | assumption | omega | decide | exact b2i_R _ | exact gR_of (by omega) (by omega)) ?_ | refine if_no (by first | assumption | omega | decide | exact b2i_R _ | exact gR_of (by omega) (by omega)) ?_)
  refine c_wordOf d hx (fun q => by rw [m_cutTo, if_neg q] at k; exact k.ex d gFr.rf) (fun w hw e => ?_)
  subst e
  have l1 := d.w.le (show w < 11 by omega)
  rw [m_cutTo, if_pos (show okS (w : Int) by omega), Int.toNat_natCast, ← d.s w hw] at k
  have bd : ¬ (0 ≤ y ∧ y ≤ 64) → w_X5_cutTo_J20 X Q (A 22) y (A w) h 1 6 := fun q => by
    rw [if_neg q] at k
    unfold w_X5_cutTo_J20 w_X5_cutTo_J21
    (first | refine And.intro (show gR _ from by first | assumption | omega | decide | exact b2i_R _ | exact gR_of (by omega) (by omega)) ?_ | refine And.intro (show gHas _ _ _ from by first | exact gW.has (gD.w (by assumption)) (by omega) | exact gD.has (by assumption) | exact gRu.has (gD.ru (by assumption)) | exact gGr.has (gD.gr (by assumption) _ (by omega))) ?_ | refine gCall_mk (by decide) (by decide) ?_ | refine if_yes (by first | assumption | omega | decide | exact b2i_R _ | exact gR_of (by omega) (by omega)) ?_ | refine if_no (by first | assumption | omega | decide | exact b2i_R _ | exact gR_of (by omega) (by omega)) ?_)
    exact c_nA0 (k.ex d gFr.rf)
  (first | refine And.intro (show gR _ from by first | assumption | omega | decide | exact b2i_R _ | exact gR_of (by omega) (by omega)) ?_ | refine And.intro (show gHas _ _ _ from by first | exact gW.has (gD.w (by assumption)) (by omega) | exact gD.has (by assumption) | exact gRu.has (gD.ru (by assumption)) | exact gGr.has (gD.gr (by assumption) _ (by omega))) ?_ | refine gCall_mk (by decide) (by decide) ?_ | refine if_yes (by first | assumption | omega | decide | exact b2i_R _ | exact gR_of (by omega) (by omega)) ?_ | refine if_no (by first | assumption | omega | decide | exact b2i_R _ | exact gR_of (by omega) (by omega)) ?_)
  by_cases q1 : y < 0
  · exact if_yes q1 (bd (by omega))
  (first | refine And.intro (show gR _ from by first | assumption | omega | decide | exact b2i_R _ | exact gR_of (by omega) (by omega)) ?_ | refine And.intro (show gHas _ _ _ from by first | exact gW.has (gD.w (by assumption)) (by omega) | exact gD.has (by assumption) | exact gRu.has (gD.ru (by assumption)) | exact gGr.has (gD.gr (by assumption) _ (by omega))) ?_ | refine gCall_mk (by decide) (by decide) ?_ | refine if_yes (by first | assumption | omega | decide | exact b2i_R _ | exact gR_of (by omega) (by omega)) ?_ | refine if_no (by first | assumption | omega | decide | exact b2i_R _ | exact gR_of (by omega) (by omega)) ?_); (first | refine And.intro (show gR _ from by first | assumption | omega | decide | exact b2i_R _ | exact gR_of (by omega) (by omega)) ?_ | refine And.intro (show gHas _ _ _ from by first | exact gW.has (gD.w (by assumption)) (by omega) | exact gD.has (by assumption) | exact gRu.has (gD.ru (by assumption)) | exact gGr.has (gD.gr (by assumption) _ (by omega))) ?_ | refine gCall_mk (by decide) (by decide) ?_ | refine if_yes (by first | assumption | omega | decide | exact b2i_R _ | exact gR_of (by omega) (by omega)) ?_ | refine if_no (by first | assumption | omega | decide | exact b2i_R _ | exact gR_of (by omega) (by omega)) ?_)
  by_cases q2 : 64 < y
  · exact if_yes q2 (bd (by omega))
  (first | refine And.intro (show gR _ from by first | assumption | omega | decide | exact b2i_R _ | exact gR_of (by omega) (by omega)) ?_ | refine And.intro (show gHas _ _ _ from by first | exact gW.has (gD.w (by assumption)) (by omega) | exact gD.has (by assumption) | exact gRu.has (gD.ru (by assumption)) | exact gGr.has (gD.gr (by assumption) _ (by omega))) ?_ | refine gCall_mk (by decide) (by decide) ?_ | refine if_yes (by first | assumption | omega | decide | exact b2i_R _ | exact gR_of (by omega) (by omega)) ?_ | refine if_no (by first | assumption | omega | decide | exact b2i_R _ | exact gR_of (by omega) (by omega)) ?_)
  rw [if_pos ⟨by omega, by omega⟩] at k
  obtain ⟨n, rfl⟩ : ∃ n : Nat, y = n := ⟨y.toNat, by omega⟩
  rw [Int.toNat_natCast] at k
  unfold w_X5_cutTo_J21
  (first | refine And.intro (show gR _ from by first | assumption | omega | decide | exact b2i_R _ | exact gR_of (by omega) (by omega)) ?_ | refine And.intro (show gHas _ _ _ from by first | exact gW.has (gD.w (by assumption)) (by omega) | exact gD.has (by assumption) | exact gRu.has (gD.ru (by assumption)) | exact gGr.has (gD.gr (by assumption) _ (by omega))) ?_ | refine gCall_mk (by decide) (by decide) ?_ | refine if_yes (by first | assumption | omega | decide | exact b2i_R _ | exact gR_of (by omega) (by omega)) ?_ | refine if_no (by first | assumption | omega | decide | exact b2i_R _ | exact gR_of (by omega) (by omega)) ?_)
  refine c_nA1 (d.w.many (by omega) (d.f3 ?_))
  (first | refine And.intro (show gR _ from by first | assumption | omega | decide | exact b2i_R _ | exact gR_of (by omega) (by omega)) ?_ | refine And.intro (show gHas _ _ _ from by first | exact gW.has (gD.w (by assumption)) (by omega) | exact gD.has (by assumption) | exact gRu.has (gD.ru (by assumption)) | exact gGr.has (gD.gr (by assumption) _ (by omega))) ?_ | refine gCall_mk (by decide) (by decide) ?_ | refine if_yes (by first | assumption | omega | decide | exact b2i_R _ | exact gR_of (by omega) (by omega)) ?_ | refine if_no (by first | assumption | omega | decide | exact b2i_R _ | exact gR_of (by omega) (by omega)) ?_)
  refine v_clear d.w (by decide) (fun h1 V1 w1 s1 e1 o1 => ?_)
  have d1 := d.b w1 s1 (fun v hv => o1 _ (by omega)) (fun v h5 _ => o1 _ (by omega))
  refine d1.f3 ?_
  (first | refine And.intro (show gR _ from by first | assumption | omega | decide | exact b2i_R _ | exact gR_of (by omega) (by omega)) ?_ | refine And.intro (show gHas _ _ _ from by first | exact gW.has (gD.w (by assumption)) (by omega) | exact gD.has (by assumption) | exact gRu.has (gD.ru (by assumption)) | exact gGr.has (gD.gr (by assumption) _ (by omega))) ?_ | refine gCall_mk (by decide) (by decide) ?_ | refine if_yes (by first | assumption | omega | decide | exact b2i_R _ | exact gR_of (by omega) (by omega)) ?_ | refine if_no (by first | assumption | omega | decide | exact b2i_R _ | exact gR_of (by omega) (by omega)) ?_); (first | refine And.intro (show gR _ from by first | assumption | omega | decide | exact b2i_R _ | exact gR_of (by omega) (by omega)) ?_ | refine And.intro (show gHas _ _ _ from by first | exact gW.has (gD.w (by assumption)) (by omega) | exact gD.has (by assumption) | exact gRu.has (gD.ru (by assumption)) | exact gGr.has (gD.gr (by assumption) _ (by omega))) ?_ | refine gCall_mk (by decide) (by decide) ?_ | refine if_yes (by first | assumption | omega | decide | exact b2i_R _ | exact gR_of (by omega) (by omega)) ?_ | refine if_no (by first | assumption | omega | decide | exact b2i_R _ | exact gR_of (by omega) (by omega)) ?_); (first | refine And.intro (show gR _ from by first | assumption | omega | decide | exact b2i_R _ | exact gR_of (by omega) (by omega)) ?_ | refine And.intro (show gHas _ _ _ from by first | exact gW.has (gD.w (by assumption)) (by omega) | exact gD.has (by assumption) | exact gRu.has (gD.ru (by assumption)) | exact gGr.has (gD.gr (by assumption) _ (by omega))) ?_ | refine gCall_mk (by decide) (by decide) ?_ | refine if_yes (by first | assumption | omega | decide | exact b2i_R _ | exact gR_of (by omega) (by omega)) ?_ | refine if_no (by first | assumption | omega | decide | exact b2i_R _ | exact gR_of (by omega) (by omega)) ?_)
  have a1 := o1 w (by omega)
  refine v_addPart w1 (show 3 < 11 by decide) (show w < 11 by omega) (by omega) (i := 0) (t := min (U w).length n) rfl (by omega) (Nat.zero_le _) (by rw [a1]; omega) (by rw [e1]; simp; omega) (fun h2 V2 w2 s2 e2 o2 => ⟨66, ?_⟩)
  have d2 := d1.b w2 s2 (fun v hv => o2 _ (by omega)) (fun v h5 _ => o2 _ (by omega))
  refine s_cutTo_L hw (by omega) _ (U w).length h2 V2 d2 (k.on ((gFr.sm s1).tr (gFr.sm s2))) (Nat.le_refl _) ((o2 w (by omega)).trans a1) l1 (by omega) (by omega) ?_ (Or.inr rfl)
  rw [e2, e1, a1, show min (U w).length n - (U w).length = 0 by omega]
  simp only [List.drop_zero, Nat.sub_zero, List.nil_append, List.replicate_zero, List.append_nil]
  by_cases q : (U w).length ≤ n
  · rw [Nat.min_eq_left q, List.take_of_length_le (Nat.le_refl _), List.take_of_length_le q]
  · rw [Nat.min_eq_right (by omega)]
def m_turn (st : GSt) (x : Int) : Nat × (Int → Prop) × GSt :=
  if okS x then settled st x.toNat (st.S x.toNat).reverse else bad 1 st
theorem c_turn (d : gD A G h U st) (hx : gR x) (k : gRes A G h [eI] X Q (m_turn st x)) : w_X5_turn X (A 22) x h Q := by
  unfold w_X5_turn
  (first | refine And.intro (show gR _ from by first | assumption | omega | decide | exact b2i_R _ | exact gR_of (by omega) (by omega)) ?_ | refine And.intro (show gHas _ _ _ from by first | exact gW.has (gD.w (by assumption)) (by omega) | exact gD.has (by assumption) | exact gRu.has (gD.ru (by assumption)) | exact gGr.has (gD.gr (by assumption) _ (by omega))) ?_ | refine gCall_mk (by decide) (by decide) ?_ | refine if_yes (by first | assumption | omega | decide | exact b2i_R _ | exact gR_of (by omega) (by omega)) ?_ | refine if_no (by first | assumption | omega | decide | exact b2i_R _ | exact gR_of (by omega) (by omega)) ?_); (first | refine And.intro (show gR _ from by first | assumption | omega | decide | exact b2i_R _ | exact gR_of (by omega) (by omega)) ?_ | refine And.intro (show gHas _ _ _ from by first | exact gW.has (gD.w (by assumption)) (by omega) | exact gD.has (by assumption) | exact gRu.has (gD.ru (by assumption)) | exact gGr.has (gD.gr (by assumption) _ (by omega))) ?_ | refine gCall_mk (by decide) (by decide) ?_ | refine if_yes (by first | assumption | omega | decide | exact b2i_R _ | exact gR_of (by omega) (by omega)) ?_ | refine if_no (by first | assumption | omega | decide | exact b2i_R _ | exact gR_of (by omega) (by omega)) ?_)
  refine c_wordOf d hx (fun q => by rw [m_turn, if_neg q] at k; exact k.ex d gFr.rf) (fun w hw e => ?_)
  subst e
  rw [m_turn, if_pos (show okS (w : Int) by omega), Int.toNat_natCast, ← d.s w hw] at k
  refine d.f3 ?_
  (first | refine And.intro (show gR _ from by first | assumption | omega | decide | exact b2i_R _ | exact gR_of (by omega) (by omega)) ?_ | refine And.intro (show gHas _ _ _ from by first | exact gW.has (gD.w (by assumption)) (by omega) | exact gD.has (by assumption) | exact gRu.has (gD.ru (by assumption)) | exact gGr.has (gD.gr (by assumption) _ (by omega))) ?_ | refine gCall_mk (by decide) (by decide) ?_ | refine if_yes (by first | assumption | omega | decide | exact b2i_R _ | exact gR_of (by omega) (by omega)) ?_ | refine if_no (by first | assumption | omega | decide | exact b2i_R _ | exact gR_of (by omega) (by omega)) ?_)
  refine v_takeTurned d.w (show 3 < 11 by decide) (show w < 11 by omega) (by omega) (fun h1 V1 w1 s1 e1 o1 => ?_)
  have d1 := d.b w1 s1 (fun v hv => o1 _ (by omega)) (fun v h5 _ => o1 _ (by omega))
  refine d1.f3 ?_
  (first | refine And.intro (show gR _ from by first | assumption | omega | decide | exact b2i_R _ | exact gR_of (by omega) (by omega)) ?_ | refine And.intro (show gHas _ _ _ from by first | exact gW.has (gD.w (by assumption)) (by omega) | exact gD.has (by assumption) | exact gRu.has (gD.ru (by assumption)) | exact gGr.has (gD.gr (by assumption) _ (by omega))) ?_ | refine gCall_mk (by decide) (by decide) ?_ | refine if_yes (by first | assumption | omega | decide | exact b2i_R _ | exact gR_of (by omega) (by omega)) ?_ | refine if_no (by first | assumption | omega | decide | exact b2i_R _ | exact gR_of (by omega) (by omega)) ?_)
  exact c_settle d1 hw (by decide) (by rw [e1]; exact k.on (gFr.sm s1))
def m_exchange (st : GSt) (x : Int) : Nat × (Int → Prop) × GSt :=
  if okS x then done (st.sheet x.toNat ((st.S x.toNat).map (fun b => !b))) (ones ((st.S x.toNat).map (fun b => !b)) : Int) else bad 1 st
def m_rotate (st : GSt) (x y : Int) : Nat × (Int → Prop) × GSt :=
  if okS x then if 0 ≤ y ∧ y ≤ ((st.S x.toNat).length : Int) then settled st x.toNat ((st.S x.toNat).drop y.toNat ++ (st.S x.toNat).take y.toNat) else bad 2 st else bad 1 st
theorem c_rotate (d : gD A G h U st) (hx : gR x) (hy : gR y) (k : gRes A G h [eI, eA] X Q (m_rotate st x y)) : w_X5_rotate X (A 22) x y h Q := by
  unfold w_X5_rotate
  (first | refine And.intro (show gR _ from by first | assumption | omega | decide | exact b2i_R _ | exact gR_of (by omega) (by omega)) ?_ | refine And.intro (show gHas _ _ _ from by first | exact gW.has (gD.w (by assumption)) (by omega) | exact gD.has (by assumption) | exact gRu.has (gD.ru (by assumption)) | exact gGr.has (gD.gr (by assumption) _ (by omega))) ?_ | refine gCall_mk (by decide) (by decide) ?_ | refine if_yes (by first | assumption | omega | decide | exact b2i_R _ | exact gR_of (by omega) (by omega)) ?_ | refine if_no (by first | assumption | omega | decide | exact b2i_R _ | exact gR_of (by omega) (by omega)) ?_); (first | refine And.intro (show gR _ from by first | assumption | omega | decide | exact b2i_R _ | exact gR_of (by omega) (by omega)) ?_ | refine And.intro (show gHas _ _ _ from by first | exact gW.has (gD.w (by assumption)) (by omega) | exact gD.has (by assumption) | exact gRu.has (gD.ru (by assumption)) | exact gGr.has (gD.gr (by assumption) _ (by omega))) ?_ | refine gCall_mk (by decide) (by decide) ?_ | refine if_yes (by first | assumption | omega | decide | exact b2i_R _ | exact gR_of (by omega) (by omega)) ?_ | refine if_no (by first | assumption | omega | decide | exact b2i_R _ | exact gR_of (by omega) (by omega)) ?_)
  refine c_wordOf d hx (fun q => by rw [m_rotate, if_neg q] at k; exact k.ex d gFr.rf) (fun w hw e => ?_)
  subst e
  have l1 := d.w.le (show w < 11 by omega)
  rw [m_rotate, if_pos (show okS (w : Int) by omega), Int.toNat_natCast, ← d.s w hw] at k
  have bd : ¬ (0 ≤ y ∧ y ≤ ((U w).length : Int)) → w_X5_rotate_J22 X Q (A 22) y (A w) h 1 6 := fun q => by
    rw [if_neg q] at k
    unfold w_X5_rotate_J22 w_X5_rotate_J23
    (first | refine And.intro (show gR _ from by first | assumption | omega | decide | exact b2i_R _ | exact gR_of (by omega) (by omega)) ?_ | refine And.intro (show gHas _ _ _ from by first | exact gW.has (gD.w (by assumption)) (by omega) | exact gD.has (by assumption) | exact gRu.has (gD.ru (by assumption)) | exact gGr.has (gD.gr (by assumption) _ (by omega))) ?_ | refine gCall_mk (by decide) (by decide) ?_ | refine if_yes (by first | assumption | omega | decide | exact b2i_R _ | exact gR_of (by omega) (by omega)) ?_ | refine if_no (by first | assumption | omega | decide | exact b2i_R _ | exact gR_of (by omega) (by omega)) ?_)
    exact c_nA0 (k.ex d gFr.rf)
  (first | refine And.intro (show gR _ from by first | assumption | omega | decide | exact b2i_R _ | exact gR_of (by omega) (by omega)) ?_ | refine And.intro (show gHas _ _ _ from by first | exact gW.has (gD.w (by assumption)) (by omega) | exact gD.has (by assumption) | exact gRu.has (gD.ru (by assumption)) | exact gGr.has (gD.gr (by assumption) _ (by omega))) ?_ | refine gCall_mk (by decide) (by decide) ?_ | refine if_yes (by first | assumption | omega | decide | exact b2i_R _ | exact gR_of (by omega) (by omega)) ?_ | refine if_no (by first | assumption | omega | decide | exact b2i_R _ | exact gR_of (by omega) (by omega)) ?_)
  by_cases q1 : y < 0
  · exact if_yes q1 (bd (by omega))
  (first | refine And.intro (show gR _ from by first | assumption | omega | decide | exact b2i_R _ | exact gR_of (by omega) (by omega)) ?_ | refine And.intro (show gHas _ _ _ from by first | exact gW.has (gD.w (by assumption)) (by omega) | exact gD.has (by assumption) | exact gRu.has (gD.ru (by assumption)) | exact gGr.has (gD.gr (by assumption) _ (by omega))) ?_ | refine gCall_mk (by decide) (by decide) ?_ | refine if_yes (by first | assumption | omega | decide | exact b2i_R _ | exact gR_of (by omega) (by omega)) ?_ | refine if_no (by first | assumption | omega | decide | exact b2i_R _ | exact gR_of (by omega) (by omega)) ?_)
  refine d.w.many (by omega) ?_
  (first | refine And.intro (show gR _ from by first | assumption | omega | decide | exact b2i_R _ | exact gR_of (by omega) (by omega)) ?_ | refine And.intro (show gHas _ _ _ from by first | exact gW.has (gD.w (by assumption)) (by omega) | exact gD.has (by assumption) | exact gRu.has (gD.ru (by assumption)) | exact gGr.has (gD.gr (by assumption) _ (by omega))) ?_ | refine gCall_mk (by decide) (by decide) ?_ | refine if_yes (by first | assumption | omega | decide | exact b2i_R _ | exact gR_of (by omega) (by omega)) ?_ | refine if_no (by first | assumption | omega | decide | exact b2i_R _ | exact gR_of (by omega) (by omega)) ?_); (first | refine And.intro (show gR _ from by first | assumption | omega | decide | exact b2i_R _ | exact gR_of (by omega) (by omega)) ?_ | refine And.intro (show gHas _ _ _ from by first | exact gW.has (gD.w (by assumption)) (by omega) | exact gD.has (by assumption) | exact gRu.has (gD.ru (by assumption)) | exact gGr.has (gD.gr (by assumption) _ (by omega))) ?_ | refine gCall_mk (by decide) (by decide) ?_ | refine if_yes (by first | assumption | omega | decide | exact b2i_R _ | exact gR_of (by omega) (by omega)) ?_ | refine if_no (by first | assumption | omega | decide | exact b2i_R _ | exact gR_of (by omega) (by omega)) ?_)
  by_cases q2 : ((U w).length : Int) < y
  · exact if_yes q2 (bd (by omega))
  (first | refine And.intro (show gR _ from by first | assumption | omega | decide | exact b2i_R _ | exact gR_of (by omega) (by omega)) ?_ | refine And.intro (show gHas _ _ _ from by first | exact gW.has (gD.w (by assumption)) (by omega) | exact gD.has (by assumption) | exact gRu.has (gD.ru (by assumption)) | exact gGr.has (gD.gr (by assumption) _ (by omega))) ?_ | refine gCall_mk (by decide) (by decide) ?_ | refine if_yes (by first | assumption | omega | decide | exact b2i_R _ | exact gR_of (by omega) (by omega)) ?_ | refine if_no (by first | assumption | omega | decide | exact b2i_R _ | exact gR_of (by omega) (by omega)) ?_)
  rw [if_pos ⟨by omega, by omega⟩] at k
  obtain ⟨n, rfl⟩ : ∃ n : Nat, y = n := ⟨y.toNat, by omega⟩
  rw [Int.toNat_natCast] at k
  unfold w_X5_rotate_J23
  (first | refine And.intro (show gR _ from by first | assumption | omega | decide | exact b2i_R _ | exact gR_of (by omega) (by omega)) ?_ | refine And.intro (show gHas _ _ _ from by first | exact gW.has (gD.w (by assumption)) (by omega) | exact gD.has (by assumption) | exact gRu.has (gD.ru (by assumption)) | exact gGr.has (gD.gr (by assumption) _ (by omega))) ?_ | refine gCall_mk (by decide) (by decide) ?_ | refine if_yes (by first | assumption | omega | decide | exact b2i_R _ | exact gR_of (by omega) (by omega)) ?_ | refine if_no (by first | assumption | omega | decide | exact b2i_R _ | exact gR_of (by omega) (by omega)) ?_)
  refine c_nA1 (d.f3 ?_)
  (first | refine And.intro (show gR _ from by first | assumption | omega | decide | exact b2i_R _ | exact gR_of (by omega) (by omega)) ?_ | refine And.intro (show gHas _ _ _ from by first | exact gW.has (gD.w (by assumption)) (by omega) | exact gD.has (by assumption) | exact gRu.has (gD.ru (by assumption)) | exact gGr.has (gD.gr (by assumption) _ (by omega))) ?_ | refine gCall_mk (by decide) (by decide) ?_ | refine if_yes (by first | assumption | omega | decide | exact b2i_R _ | exact gR_of (by omega) (by omega)) ?_ | refine if_no (by first | assumption | omega | decide | exact b2i_R _ | exact gR_of (by omega) (by omega)) ?_)
  refine v_clear d.w (by decide) (fun h1 V1 w1 s1 e1 o1 => ?_)
  have d1 := d.b w1 s1 (fun v hv => o1 _ (by omega)) (fun v h5 _ => o1 _ (by omega))
  have a1 := o1 w (by omega)
  refine d1.f3 (d1.w.many (show w < 11 by omega) ?_)
  rw [a1]
  (first | refine And.intro (show gR _ from by first | assumption | omega | decide | exact b2i_R _ | exact gR_of (by omega) (by omega)) ?_ | refine And.intro (show gHas _ _ _ from by first | exact gW.has (gD.w (by assumption)) (by omega) | exact gD.has (by assumption) | exact gRu.has (gD.ru (by assumption)) | exact gGr.has (gD.gr (by assumption) _ (by omega))) ?_ | refine gCall_mk (by decide) (by decide) ?_ | refine if_yes (by first | assumption | omega | decide | exact b2i_R _ | exact gR_of (by omega) (by omega)) ?_ | refine if_no (by first | assumption | omega | decide | exact b2i_R _ | exact gR_of (by omega) (by omega)) ?_)
  refine v_addPart w1 (show 3 < 11 by decide) (show w < 11 by omega) (by omega) (i := n) (t := (U w).length) rfl rfl (by omega) (by rw [a1]; omega) (by rw [e1]; simp; omega) (fun h2 V2 w2 s2 e2 o2 => ?_)
  have d2 := d1.b w2 s2 (fun v hv => o2 _ (by omega)) (fun v h5 _ => o2 _ (by omega))
  have a2 : V2 w = U w := (o2 w (by omega)).trans a1
  have e5 : V2 3 = (U w).drop n := by rw [e2, e1, a1]; simp [List.take_of_length_le]
  refine d2.f3 ?_
  (first | refine And.intro (show gR _ from by first | assumption | omega | decide | exact b2i_R _ | exact gR_of (by omega) (by omega)) ?_ | refine And.intro (show gHas _ _ _ from by first | exact gW.has (gD.w (by assumption)) (by omega) | exact gD.has (by assumption) | exact gRu.has (gD.ru (by assumption)) | exact gGr.has (gD.gr (by assumption) _ (by omega))) ?_ | refine gCall_mk (by decide) (by decide) ?_ | refine if_yes (by first | assumption | omega | decide | exact b2i_R _ | exact gR_of (by omega) (by omega)) ?_ | refine if_no (by first | assumption | omega | decide | exact b2i_R _ | exact gR_of (by omega) (by omega)) ?_)
  refine v_addPart w2 (show 3 < 11 by decide) (show w < 11 by omega) (by omega) (i := 0) (t := n) rfl rfl (by omega) (by rw [a2]; omega) (by rw [e5]; simp; omega) (fun h3 V3 w3 s3 e3 o3 => ?_)
  have d3 := d2.b w3 s3 (fun v hv => o3 _ (by omega)) (fun v h5 _ => o3 _ (by omega))
  refine d3.f3 ?_
  (first | refine And.intro (show gR _ from by first | assumption | omega | decide | exact b2i_R _ | exact gR_of (by omega) (by omega)) ?_ | refine And.intro (show gHas _ _ _ from by first | exact gW.has (gD.w (by assumption)) (by omega) | exact gD.has (by assumption) | exact gRu.has (gD.ru (by assumption)) | exact gGr.has (gD.gr (by assumption) _ (by omega))) ?_ | refine gCall_mk (by decide) (by decide) ?_ | refine if_yes (by first | assumption | omega | decide | exact b2i_R _ | exact gR_of (by omega) (by omega)) ?_ | refine if_no (by first | assumption | omega | decide | exact b2i_R _ | exact gR_of (by omega) (by omega)) ?_)
  have e6 : V3 3 = (U w).drop n ++ (U w).take n := by rw [e3, e5, a2]; simp
  exact c_settle d3 hw (by decide) (by rw [e6]; exact k.on ((gFr.sm s1).tr ((gFr.sm s2).tr (gFr.sm s3))))
def m_copy (st : GSt) (x y : Int) : Nat × (Int → Prop) × GSt :=
  if okS x then if okS y then settled st y.toNat (st.S x.toNat) else bad 1 st else bad 1 st
theorem c_copy (d : gD A G h U st) (hx : gR x) (hy : gR y) (k : gRes A G h [eI] X Q (m_copy st x y)) : w_X5_copy X (A 22) x y h Q := by
  unfold w_X5_copy
  (first | refine And.intro (show gR _ from by first | assumption | omega | decide | exact b2i_R _ | exact gR_of (by omega) (by omega)) ?_ | refine And.intro (show gHas _ _ _ from by first | exact gW.has (gD.w (by assumption)) (by omega) | exact gD.has (by assumption) | exact gRu.has (gD.ru (by assumption)) | exact gGr.has (gD.gr (by assumption) _ (by omega))) ?_ | refine gCall_mk (by decide) (by decide) ?_ | refine if_yes (by first | assumption | omega | decide | exact b2i_R _ | exact gR_of (by omega) (by omega)) ?_ | refine if_no (by first | assumption | omega | decide | exact b2i_R _ | exact gR_of (by omega) (by omega)) ?_); (first | refine And.intro (show gR _ from by first | assumption | omega | decide | exact b2i_R _ | exact gR_of (by omega) (by omega)) ?_ | refine And.intro (show gHas _ _ _ from by first | exact gW.has (gD.w (by assumption)) (by omega) | exact gD.has (by assumption) | exact gRu.has (gD.ru (by assumption)) | exact gGr.has (gD.gr (by assumption) _ (by omega))) ?_ | refine gCall_mk (by decide) (by decide) ?_ | refine if_yes (by first | assumption | omega | decide | exact b2i_R _ | exact gR_of (by omega) (by omega)) ?_ | refine if_no (by first | assumption | omega | decide | exact b2i_R _ | exact gR_of (by omega) (by omega)) ?_)
  refine c_wordOf d hx (fun q => by rw [m_copy, if_neg q] at k; exact k.ex d gFr.rf) (fun w hw e => ?_)
  subst e
  rw [m_copy, if_pos (show okS (w : Int) by omega), Int.toNat_natCast, ← d.s w hw] at k
  (first | refine And.intro (show gR _ from by first | assumption | omega | decide | exact b2i_R _ | exact gR_of (by omega) (by omega)) ?_ | refine And.intro (show gHas _ _ _ from by first | exact gW.has (gD.w (by assumption)) (by omega) | exact gD.has (by assumption) | exact gRu.has (gD.ru (by assumption)) | exact gGr.has (gD.gr (by assumption) _ (by omega))) ?_ | refine gCall_mk (by decide) (by decide) ?_ | refine if_yes (by first | assumption | omega | decide | exact b2i_R _ | exact gR_of (by omega) (by omega)) ?_ | refine if_no (by first | assumption | omega | decide | exact b2i_R _ | exact gR_of (by omega) (by omega)) ?_); (first | refine And.intro (show gR _ from by first | assumption | omega | decide | exact b2i_R _ | exact gR_of (by omega) (by omega)) ?_ | refine And.intro (show gHas _ _ _ from by first | exact gW.has (gD.w (by assumption)) (by omega) | exact gD.has (by assumption) | exact gRu.has (gD.ru (by assumption)) | exact gGr.has (gD.gr (by assumption) _ (by omega))) ?_ | refine gCall_mk (by decide) (by decide) ?_ | refine if_yes (by first | assumption | omega | decide | exact b2i_R _ | exact gR_of (by omega) (by omega)) ?_ | refine if_no (by first | assumption | omega | decide | exact b2i_R _ | exact gR_of (by omega) (by omega)) ?_)
  refine c_wordOf d hy (fun q => by rw [if_neg q] at k; exact k.ex d gFr.rf) (fun v hv e => ?_)
  subst e
  rw [if_pos (show okS (v : Int) by omega), Int.toNat_natCast] at k
  (first | refine And.intro (show gR _ from by first | assumption | omega | decide | exact b2i_R _ | exact gR_of (by omega) (by omega)) ?_ | refine And.intro (show gHas _ _ _ from by first | exact gW.has (gD.w (by assumption)) (by omega) | exact gD.has (by assumption) | exact gRu.has (gD.ru (by assumption)) | exact gGr.has (gD.gr (by assumption) _ (by omega))) ?_ | refine gCall_mk (by decide) (by decide) ?_ | refine if_yes (by first | assumption | omega | decide | exact b2i_R _ | exact gR_of (by omega) (by omega)) ?_ | refine if_no (by first | assumption | omega | decide | exact b2i_R _ | exact gR_of (by omega) (by omega)) ?_)
  exact c_settle d hv (by omega) k
theorem code_ok : ∀ n, n ≤ 31 → 2 ≤ n → 0 < (codeW n).length ∧ (codeW n).length ≤ 4 := by decide +kernel
def m_apply (st : GSt) (x y z : Int) : Nat × (Int → Prop) × GSt :=
  if okS x then if okP y z then if (img (codeW y.toNat) (codeW z.toNat) (st.S x.toNat)).length ≤ 64 then done (st.sheet x.toNat (img (codeW y.toNat) (codeW z.toNat) (st.S x.toNat))) ((img (codeW y.toNat) (codeW z.toNat) (st.S x.toNat)).length : Int) else done st.refuse (-9) else bad 2 st else bad 1 st
theorem img_le (x y : List Bool) {m : Nat} (hx : x.length ≤ m) (hy : y.length ≤ m) : ∀ u : List Bool, (img x y u).length ≤ m * u.length
  | [] => Nat.zero_le _
  | b :: t => by
    have := img_le x y hx hy t
    simp only [img, List.length_append, List.length_cons, Nat.mul_succ]
    split <;> omega
theorem c_apply (d : gD A G h U st) (hx : gR x) (hy : gR y) (hz : gR z) (k : gRes A G h [eI, eA] X Q (m_apply st x y z)) : w_X5_apply X (A 22) x y z h Q := by
  unfold w_X5_apply
  (first | refine And.intro (show gR _ from by first | assumption | omega | decide | exact b2i_R _ | exact gR_of (by omega) (by omega)) ?_ | refine And.intro (show gHas _ _ _ from by first | exact gW.has (gD.w (by assumption)) (by omega) | exact gD.has (by assumption) | exact gRu.has (gD.ru (by assumption)) | exact gGr.has (gD.gr (by assumption) _ (by omega))) ?_ | refine gCall_mk (by decide) (by decide) ?_ | refine if_yes (by first | assumption | omega | decide | exact b2i_R _ | exact gR_of (by omega) (by omega)) ?_ | refine if_no (by first | assumption | omega | decide | exact b2i_R _ | exact gR_of (by omega) (by omega)) ?_); (first | refine And.intro (show gR _ from by first | assumption | omega | decide | exact b2i_R _ | exact gR_of (by omega) (by omega)) ?_ | refine And.intro (show gHas _ _ _ from by first | exact gW.has (gD.w (by assumption)) (by omega) | exact gD.has (by assumption) | exact gRu.has (gD.ru (by assumption)) | exact gGr.has (gD.gr (by assumption) _ (by omega))) ?_ | refine gCall_mk (by decide) (by decide) ?_ | refine if_yes (by first | assumption | omega | decide | exact b2i_R _ | exact gR_of (by omega) (by omega)) ?_ | refine if_no (by first | assumption | omega | decide | exact b2i_R _ | exact gR_of (by omega) (by omega)) ?_)
  refine c_wordOf d hx (fun q => by rw [m_apply, if_neg q] at k; exact k.ex d gFr.rf) (fun w hw e => ?_)
  subst e
  have l1 := d.w.le (show w < 11 by omega)
  rw [m_apply, if_pos (show okS (w : Int) by omega), Int.toNat_natCast, ← d.s w hw] at k
  (first | refine And.intro (show gR _ from by first | assumption | omega | decide | exact b2i_R _ | exact gR_of (by omega) (by omega)) ?_ | refine And.intro (show gHas _ _ _ from by first | exact gW.has (gD.w (by assumption)) (by omega) | exact gD.has (by assumption) | exact gRu.has (gD.ru (by assumption)) | exact gGr.has (gD.gr (by assumption) _ (by omega))) ?_ | refine gCall_mk (by decide) (by decide) ?_ | refine if_yes (by first | assumption | omega | decide | exact b2i_R _ | exact gR_of (by omega) (by omega)) ?_ | refine if_no (by first | assumption | omega | decide | exact b2i_R _ | exact gR_of (by omega) (by omega)) ?_); (first | refine And.intro (show gR _ from by first | assumption | omega | decide | exact b2i_R _ | exact gR_of (by omega) (by omega)) ?_ | refine And.intro (show gHas _ _ _ from by first | exact gW.has (gD.w (by assumption)) (by omega) | exact gD.has (by assumption) | exact gRu.has (gD.ru (by assumption)) | exact gGr.has (gD.gr (by assumption) _ (by omega))) ?_ | refine gCall_mk (by decide) (by decide) ?_ | refine if_yes (by first | assumption | omega | decide | exact b2i_R _ | exact gR_of (by omega) (by omega)) ?_ | refine if_no (by first | assumption | omega | decide | exact b2i_R _ | exact gR_of (by omega) (by omega)) ?_)
  refine c_takeRule d hy hz (fun q => by rw [if_neg q] at k; exact k.ex d gFr.rf) (fun q h1 d1 s1 => ?_)
  rw [if_pos q] at k
  replace k := k.on (gFr.sm s1)
  refine d1.f2 ?_
  (first | refine And.intro (show gR _ from by first | assumption | omega | decide | exact b2i_R _ | exact gR_of (by omega) (by omega)) ?_ | refine And.intro (show gHas _ _ _ from by first | exact gW.has (gD.w (by assumption)) (by omega) | exact gD.has (by assumption) | exact gRu.has (gD.ru (by assumption)) | exact gGr.has (gD.gr (by assumption) _ (by omega))) ?_ | refine gCall_mk (by decide) (by decide) ?_ | refine if_yes (by first | assumption | omega | decide | exact b2i_R _ | exact gR_of (by omega) (by omega)) ?_ | refine if_no (by first | assumption | omega | decide | exact b2i_R _ | exact gR_of (by omega) (by omega)) ?_)
  have a1 : pu (pu U 9 (codeW y.toNat)) 10 (codeW z.toNat) w = U w := by rw [pu_ne _ _ (by omega), pu_ne _ _ (by omega)]
  have a2 : pu (pu U 9 (codeW y.toNat)) 10 (codeW z.toNat) 9 = codeW y.toNat := by rw [pu_ne _ _ (by decide), pu_self]
  have a3 : pu (pu U 9 (codeW y.toNat)) 10 (codeW z.toNat) 10 = codeW z.toNat := by rw [pu_self]
  generalize pu (pu U 9 (codeW y.toNat)) 10 (codeW z.toNat) = V at *
  refine s_imageLength d1.w d1.ru (show w < 11 by omega) ?_
  rw [a1, a2, a3]
  have b1 := img_le (codeW y.toNat) (codeW z.toNat) (m := 4) (code_ok _ (by omega) (by omega)).2 (code_ok _ (by omega) (by omega)).2 (U w)
  (first | refine And.intro (show gR _ from by first | assumption | omega | decide | exact b2i_R _ | exact gR_of (by omega) (by omega)) ?_ | refine And.intro (show gHas _ _ _ from by first | exact gW.has (gD.w (by assumption)) (by omega) | exact gD.has (by assumption) | exact gRu.has (gD.ru (by assumption)) | exact gGr.has (gD.gr (by assumption) _ (by omega))) ?_ | refine gCall_mk (by decide) (by decide) ?_ | refine if_yes (by first | assumption | omega | decide | exact b2i_R _ | exact gR_of (by omega) (by omega)) ?_ | refine if_no (by first | assumption | omega | decide | exact b2i_R _ | exact gR_of (by omega) (by omega)) ?_)
  by_cases q2 : (img (codeW y.toNat) (codeW z.toNat) (U w)).length ≤ 64
  · rw [if_pos q2] at k
    refine if_yes (by omega) (d1.f2 (d1.f3 ?_))
    (first | refine And.intro (show gR _ from by first | assumption | omega | decide | exact b2i_R _ | exact gR_of (by omega) (by omega)) ?_ | refine And.intro (show gHas _ _ _ from by first | exact gW.has (gD.w (by assumption)) (by omega) | exact gD.has (by assumption) | exact gRu.has (gD.ru (by assumption)) | exact gGr.has (gD.gr (by assumption) _ (by omega))) ?_ | refine gCall_mk (by decide) (by decide) ?_ | refine if_yes (by first | assumption | omega | decide | exact b2i_R _ | exact gR_of (by omega) (by omega)) ?_ | refine if_no (by first | assumption | omega | decide | exact b2i_R _ | exact gR_of (by omega) (by omega)) ?_)
    refine s_layImage d1.w d1.ru (show w < 11 by omega) (show 3 < 9 by decide) (by omega) (by rw [a1, a2, a3]; exact q2) (fun h2 w2 s2 => ?_)
    rw [a1, a2, a3] at w2
    have d2 := d1.b w2 s2 (fun v hv => pu_ne _ _ (by omega)) (fun v h5 _ => pu_ne _ _ (by omega))
    refine d2.f3 ?_
    (first | refine And.intro (show gR _ from by first | assumption | omega | decide | exact b2i_R _ | exact gR_of (by omega) (by omega)) ?_ | refine And.intro (show gHas _ _ _ from by first | exact gW.has (gD.w (by assumption)) (by omega) | exact gD.has (by assumption) | exact gRu.has (gD.ru (by assumption)) | exact gGr.has (gD.gr (by assumption) _ (by omega))) ?_ | refine gCall_mk (by decide) (by decide) ?_ | refine if_yes (by first | assumption | omega | decide | exact b2i_R _ | exact gR_of (by omega) (by omega)) ?_ | refine if_no (by first | assumption | omega | decide | exact b2i_R _ | exact gR_of (by omega) (by omega)) ?_)
    refine s_take w2 (show w < 11 by omega) (show 3 < 11 by decide) (fun h3 w3 s3 => ?_)
    rw [pu_self] at w3
    refine w3.many (show w < 11 by omega) ?_
    rw [pu_self]
    have d3 := d2.sh hw w3 s3
    (first | refine And.intro (show gR _ from by first | assumption | omega | decide | exact b2i_R _ | exact gR_of (by omega) (by omega)) ?_ | refine And.intro (show gHas _ _ _ from by first | exact gW.has (gD.w (by assumption)) (by omega) | exact gD.has (by assumption) | exact gRu.has (gD.ru (by assumption)) | exact gGr.has (gD.gr (by assumption) _ (by omega))) ?_ | refine gCall_mk (by decide) (by decide) ?_ | refine if_yes (by first | assumption | omega | decide | exact b2i_R _ | exact gR_of (by omega) (by omega)) ?_ | refine if_no (by first | assumption | omega | decide | exact b2i_R _ | exact gR_of (by omega) (by omega)) ?_)
    exact c_end d2 hw w3 s3 (k.on (gFr.sm s2))
  · rw [if_neg q2] at k
    refine if_no (by omega) ?_
    (first | refine And.intro (show gR _ from by first | assumption | omega | decide | exact b2i_R _ | exact gR_of (by omega) (by omega)) ?_ | refine And.intro (show gHas _ _ _ from by first | exact gW.has (gD.w (by assumption)) (by omega) | exact gD.has (by assumption) | exact gRu.has (gD.ru (by assumption)) | exact gGr.has (gD.gr (by assumption) _ (by omega))) ?_ | refine gCall_mk (by decide) (by decide) ?_ | refine if_yes (by first | assumption | omega | decide | exact b2i_R _ | exact gR_of (by omega) (by omega)) ?_ | refine if_no (by first | assumption | omega | decide | exact b2i_R _ | exact gR_of (by omega) (by omega)) ?_)
    exact c_refuse d1 k
def m_undo (st : GSt) (x y z : Int) : Nat × (Int → Prop) × GSt :=
  if okS x then if okP y z then if unlike (codeW y.toNat) (codeW z.toNat) ≠ -1 then if okR (codeW y.toNat) (codeW z.toNat) (st.S x.toNat) 0 = true then done (st.sheet x.toNat (walkR (codeW y.toNat) (codeW z.toNat) (st.S x.toNat) 0)) ((walkR (codeW y.toNat) (codeW z.toNat) (st.S x.toNat) 0).length : Int) else done st.refuse (-9) else bad 3 st else bad 2 st else bad 1 st
theorem c_undo (d : gD A G h U st) (hx : gR x) (hy : gR y) (hz : gR z) (k : gRes A G h [eI, eA, eS] X Q (m_undo st x y z)) : w_X5_undo X (A 22) x y z h Q := by
  unfold w_X5_undo
  (first | refine And.intro (show gR _ from by first | assumption | omega | decide | exact b2i_R _ | exact gR_of (by omega) (by omega)) ?_ | refine And.intro (show gHas _ _ _ from by first | exact gW.has (gD.w (by assumption)) (by omega) | exact gD.has (by assumption) | exact gRu.has (gD.ru (by assumption)) | exact gGr.has (gD.gr (by assumption) _ (by omega))) ?_ | refine gCall_mk (by decide) (by decide) ?_ | refine if_yes (by first | assumption | omega | decide | exact b2i_R _ | exact gR_of (by omega) (by omega)) ?_ | refine if_no (by first | assumption | omega | decide | exact b2i_R _ | exact gR_of (by omega) (by omega)) ?_); (first | refine And.intro (show gR _ from by first | assumption | omega | decide | exact b2i_R _ | exact gR_of (by omega) (by omega)) ?_ | refine And.intro (show gHas _ _ _ from by first | exact gW.has (gD.w (by assumption)) (by omega) | exact gD.has (by assumption) | exact gRu.has (gD.ru (by assumption)) | exact gGr.has (gD.gr (by assumption) _ (by omega))) ?_ | refine gCall_mk (by decide) (by decide) ?_ | refine if_yes (by first | assumption | omega | decide | exact b2i_R _ | exact gR_of (by omega) (by omega)) ?_ | refine if_no (by first | assumption | omega | decide | exact b2i_R _ | exact gR_of (by omega) (by omega)) ?_)
  refine c_wordOf d hx (fun q => by rw [m_undo, if_neg q] at k; exact k.ex d gFr.rf) (fun w hw e => ?_)
  subst e
  have l1 := d.w.le (show w < 11 by omega)
  rw [m_undo, if_pos (show okS (w : Int) by omega), Int.toNat_natCast, ← d.s w hw] at k
  (first | refine And.intro (show gR _ from by first | assumption | omega | decide | exact b2i_R _ | exact gR_of (by omega) (by omega)) ?_ | refine And.intro (show gHas _ _ _ from by first | exact gW.has (gD.w (by assumption)) (by omega) | exact gD.has (by assumption) | exact gRu.has (gD.ru (by assumption)) | exact gGr.has (gD.gr (by assumption) _ (by omega))) ?_ | refine gCall_mk (by decide) (by decide) ?_ | refine if_yes (by first | assumption | omega | decide | exact b2i_R _ | exact gR_of (by omega) (by omega)) ?_ | refine if_no (by first | assumption | omega | decide | exact b2i_R _ | exact gR_of (by omega) (by omega)) ?_); (first | refine And.intro (show gR _ from by first | assumption | omega | decide | exact b2i_R _ | exact gR_of (by omega) (by omega)) ?_ | refine And.intro (show gHas _ _ _ from by first | exact gW.has (gD.w (by assumption)) (by omega) | exact gD.has (by assumption) | exact gRu.has (gD.ru (by assumption)) | exact gGr.has (gD.gr (by assumption) _ (by omega))) ?_ | refine gCall_mk (by decide) (by decide) ?_ | refine if_yes (by first | assumption | omega | decide | exact b2i_R _ | exact gR_of (by omega) (by omega)) ?_ | refine if_no (by first | assumption | omega | decide | exact b2i_R _ | exact gR_of (by omega) (by omega)) ?_)
  refine c_takeRule d hy hz (fun q => by rw [if_neg q] at k; exact k.ex d gFr.rf) (fun q h1 d1 s1 => ?_)
  rw [if_pos q] at k
  replace k := k.on (gFr.sm s1)
  refine d1.f2 ?_
  (first | refine And.intro (show gR _ from by first | assumption | omega | decide | exact b2i_R _ | exact gR_of (by omega) (by omega)) ?_ | refine And.intro (show gHas _ _ _ from by first | exact gW.has (gD.w (by assumption)) (by omega) | exact gD.has (by assumption) | exact gRu.has (gD.ru (by assumption)) | exact gGr.has (gD.gr (by assumption) _ (by omega))) ?_ | refine gCall_mk (by decide) (by decide) ?_ | refine if_yes (by first | assumption | omega | decide | exact b2i_R _ | exact gR_of (by omega) (by omega)) ?_ | refine if_no (by first | assumption | omega | decide | exact b2i_R _ | exact gR_of (by omega) (by omega)) ?_)
  have a1 : pu (pu U 9 (codeW y.toNat)) 10 (codeW z.toNat) w = U w := by rw [pu_ne _ _ (by omega), pu_ne _ _ (by omega)]
  have a2 : pu (pu U 9 (codeW y.toNat)) 10 (codeW z.toNat) 9 = codeW y.toNat := by rw [pu_ne _ _ (by decide), pu_self]
  have a3 : pu (pu U 9 (codeW y.toNat)) 10 (codeW z.toNat) 10 = codeW z.toNat := by rw [pu_self]
  generalize pu (pu U 9 (codeW y.toNat)) 10 (codeW z.toNat) = V at *
  refine s_keepsApart d1.w d1.ru ?_
  rw [a2, a3]
  (first | refine And.intro (show gR _ from by first | assumption | omega | decide | exact b2i_R _ | exact gR_of (by omega) (by omega)) ?_ | refine And.intro (show gHas _ _ _ from by first | exact gW.has (gD.w (by assumption)) (by omega) | exact gD.has (by assumption) | exact gRu.has (gD.ru (by assumption)) | exact gGr.has (gD.gr (by assumption) _ (by omega))) ?_ | refine gCall_mk (by decide) (by decide) ?_ | refine if_yes (by first | assumption | omega | decide | exact b2i_R _ | exact gR_of (by omega) (by omega)) ?_ | refine if_no (by first | assumption | omega | decide | exact b2i_R _ | exact gR_of (by omega) (by omega)) ?_)
  by_cases q2 : unlike (codeW y.toNat) (codeW z.toNat) ≠ -1
  · rw [if_pos q2] at k
    rw [decide_eq_true q2]
    refine c_nS1 (d1.f2 (d1.f3 ?_))
    (first | refine And.intro (show gR _ from by first | assumption | omega | decide | exact b2i_R _ | exact gR_of (by omega) (by omega)) ?_ | refine And.intro (show gHas _ _ _ from by first | exact gW.has (gD.w (by assumption)) (by omega) | exact gD.has (by assumption) | exact gRu.has (gD.ru (by assumption)) | exact gGr.has (gD.gr (by assumption) _ (by omega))) ?_ | refine gCall_mk (by decide) (by decide) ?_ | refine if_yes (by first | assumption | omega | decide | exact b2i_R _ | exact gR_of (by omega) (by omega)) ?_ | refine if_no (by first | assumption | omega | decide | exact b2i_R _ | exact gR_of (by omega) (by omega)) ?_)
    have p1 := (code_ok y.toNat (by omega) (by omega)).1
    have p2 := (code_ok z.toNat (by omega) (by omega)).1
    refine s_layOrigin d1.w d1.ru (show w < 9 by omega) (show 3 < 9 by decide) (by omega) (by rw [a2]; exact p1) (by rw [a3]; exact p2) (fun h2 w2 s2 e => ?_) (fun h2 w2 s2 e => ?_)
    · rw [a1, a2, a3] at e
      rw [e, if_neg (by decide)] at k
      have d2 := d1.bk w2 s2 (fun v hv => rfl) (fun v h5 _ => rfl)
      (repeat (first | refine And.intro (show gR _ from by first | assumption | omega | decide | exact b2i_R _ | exact gR_of (by omega) (by omega)) ?_ | refine And.intro (show gHas _ _ _ from by first | exact gW.has (gD.w (by assumption)) (by omega) | exact gD.has (by assumption) | exact gRu.has (gD.ru (by assumption)) | exact gGr.has (gD.gr (by assumption) _ (by omega))) ?_ | refine gCall_mk (by decide) (by decide) ?_ | refine if_yes (by first | assumption | omega | decide | exact b2i_R _ | exact gR_of (by omega) (by omega)) ?_ | refine if_no (by first | assumption | omega | decide | exact b2i_R _ | exact gR_of (by omega) (by omega)) ?_))
      exact c_refuse d2 (k.on (gFr.sk s2))
    · rw [a1, a2, a3] at e
      rw [e, if_pos rfl] at k
      rw [a1, a2, a3] at w2
      have d2 := d1.bk w2 s2 (fun v hv => pu_ne _ _ (by omega)) (fun v h5 _ => pu_ne _ _ (by omega))
      (first | refine And.intro (show gR _ from by first | assumption | omega | decide | exact b2i_R _ | exact gR_of (by omega) (by omega)) ?_ | refine And.intro (show gHas _ _ _ from by first | exact gW.has (gD.w (by assumption)) (by omega) | exact gD.has (by assumption) | exact gRu.has (gD.ru (by assumption)) | exact gGr.has (gD.gr (by assumption) _ (by omega))) ?_ | refine gCall_mk (by decide) (by decide) ?_ | refine if_yes (by first | assumption | omega | decide | exact b2i_R _ | exact gR_of (by omega) (by omega)) ?_ | refine if_no (by first | assumption | omega | decide | exact b2i_R _ | exact gR_of (by omega) (by omega)) ?_); (first | refine And.intro (show gR _ from by first | assumption | omega | decide | exact b2i_R _ | exact gR_of (by omega) (by omega)) ?_ | refine And.intro (show gHas _ _ _ from by first | exact gW.has (gD.w (by assumption)) (by omega) | exact gD.has (by assumption) | exact gRu.has (gD.ru (by assumption)) | exact gGr.has (gD.gr (by assumption) _ (by omega))) ?_ | refine gCall_mk (by decide) (by decide) ?_ | refine if_yes (by first | assumption | omega | decide | exact b2i_R _ | exact gR_of (by omega) (by omega)) ?_ | refine if_no (by first | assumption | omega | decide | exact b2i_R _ | exact gR_of (by omega) (by omega)) ?_)
      refine d2.f3 ?_
      (first | refine And.intro (show gR _ from by first | assumption | omega | decide | exact b2i_R _ | exact gR_of (by omega) (by omega)) ?_ | refine And.intro (show gHas _ _ _ from by first | exact gW.has (gD.w (by assumption)) (by omega) | exact gD.has (by assumption) | exact gRu.has (gD.ru (by assumption)) | exact gGr.has (gD.gr (by assumption) _ (by omega))) ?_ | refine gCall_mk (by decide) (by decide) ?_ | refine if_yes (by first | assumption | omega | decide | exact b2i_R _ | exact gR_of (by omega) (by omega)) ?_ | refine if_no (by first | assumption | omega | decide | exact b2i_R _ | exact gR_of (by omega) (by omega)) ?_)
      refine s_take w2 (show w < 11 by omega) (show 3 < 11 by decide) (fun h3 w3 s3 => ?_)
      rw [pu_self] at w3
      refine w3.many (show w < 11 by omega) ?_
      rw [pu_self]
      have d3 := d2.sh hw w3 s3
      (first | refine And.intro (show gR _ from by first | assumption | omega | decide | exact b2i_R _ | exact gR_of (by omega) (by omega)) ?_ | refine And.intro (show gHas _ _ _ from by first | exact gW.has (gD.w (by assumption)) (by omega) | exact gD.has (by assumption) | exact gRu.has (gD.ru (by assumption)) | exact gGr.has (gD.gr (by assumption) _ (by omega))) ?_ | refine gCall_mk (by decide) (by decide) ?_ | refine if_yes (by first | assumption | omega | decide | exact b2i_R _ | exact gR_of (by omega) (by omega)) ?_ | refine if_no (by first | assumption | omega | decide | exact b2i_R _ | exact gR_of (by omega) (by omega)) ?_)
      exact c_end d2 hw w3 s3 (k.on (gFr.sk s2))
  · rw [if_neg q2] at k
    rw [decide_eq_false q2]
    exact c_nS0 (k.ex d1 gFr.rf)
end CB
