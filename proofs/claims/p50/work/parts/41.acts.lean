/-! The garden's acts. -/
abbrev eI : String := "java/lang/IndexOutOfBoundsException"
abbrev eA : String := "java/lang/IllegalArgumentException"
abbrev eS : String := "java/lang/IllegalStateException"
section RG
variable {A : Nat → Nat} {h : gaH} {U : Nat → List Bool} {w v : Nat}
theorem ring_at {u : List Bool} {p : Nat} (hp : p < 2 * u.length) : u.getD (if p < u.length then p else p - u.length) false = (u ++ u).getD p false := by
  simp only [List.getD_eq_getElem?_getD, List.getElem?_append]
  split <;> rfl
theorem f_upsInPart_L (gw : gW A h U) (hw : w < 11) {a l : Nat} (hal : l = 0 ∨ (a < (U w).length ∧ l ≤ (U w).length)) (ha : a ≤ 64) (hl : l ≤ 64) {Q : Int → gaH → Prop} : ∀ (n i c : Nat), i ≤ l → l - i < n → c ≤ i → Q ((c + ones (((U w ++ U w).drop (a + i)).take (l - i)) : Nat) : Int) h → w_X1_upsInPart_L5 Q n (A w) (a : Int) (l : Int) (c : Int) ((a : Int) + (i : Int)) h
  | 0, i, _, _, h1, _, _ => absurd h1 (Nat.not_lt_zero _)
  | n + 1, i, c, hi, h1, hc, k => by
    have l1 := gw.le hw
    unfold w_X1_upsInPart_L5
    refine ⟨gR_of (by omega) (by omega), gR_of (by omega) (by omega), ?_⟩
    by_cases q : l ≤ i
    · rw [show l - i = 0 by omega, List.take_zero] at k
      exact if_yes (by omega) k
    · have e1 : (a : Int) + (i : Int) + 1 = (a : Int) + ((i + 1 : Nat) : Int) := by omega
      refine if_no (by omega) (s_onRing (p := a + i) gw hw (by omega) (by omega) ⟨b2i_R _, ?_⟩)
      rw [ring_at (show a + i < 2 * (U w).length by omega)]
      rw [show l - i = (l - (i + 1)) + 1 by omega, take_one (u := U w ++ U w) (i := a + i) (by simp; omega), List.take_succ_cons, show a + i + 1 = a + (i + 1) by omega] at k
      generalize (U w ++ U w).getD (a + i) false = y at k
      cases y
      · refine if_yes rfl ?_
        rw [e1]
        exact f_upsInPart_L gw hw hal ha hl n (i + 1) c (by omega) (by omega) (by omega) (by simpa [ones] using k)
      · refine if_no (by decide) ?_
        rw [e1, show (c : Int) + 1 = ((c + 1 : Nat) : Int) by omega]
        refine f_upsInPart_L gw hw hal ha hl n (i + 1) (c + 1) (by omega) (by omega) (by omega) ?_
        have e2 : c + 1 + ones (((U w ++ U w).drop (a + (i + 1))).take (l - (i + 1))) = c + ones (true :: ((U w ++ U w).drop (a + (i + 1))).take (l - (i + 1))) := by simp [ones]; omega
        rw [e2]; exact k
theorem f_upsInPart (gw : gW A h U) (hw : w < 11) {x y : Int} {a l : Nat} (hx : x = (a : Int)) (hy : y = (l : Int)) (hal : l = 0 ∨ (a < (U w).length ∧ l ≤ (U w).length)) (ha : a ≤ 64) (hl : l ≤ 64) {Q : Int → gaH → Prop} (k : Q (ones (((U w ++ U w).drop a).take l) : Int) h) : w_X1_upsInPart (A w) x y h Q := by
  subst hx; subst hy
  refine ⟨l + 1, ?_⟩
  have := f_upsInPart_L gw hw hal ha hl (Q := Q) (l + 1) 0 0 (Nat.zero_le _) (by omega) (Nat.le_refl _) (by simpa using k)
  rw [show (a : Int) + ((0 : Nat) : Int) = (a : Int) by omega] at this
  exact this
theorem part_in {u : List Bool} {a l : Nat} (h : a + l ≤ u.length) : ((u ++ u).drop a).take l = (u.drop a).take l := by
  rw [List.drop_append_of_le_length (by omega), List.take_append_of_le_length (by simp; omega)]
end RG
section CA
variable {A : Nat → Nat} {G : gaG} {h : gaH} {U : Nat → List Bool} {st : GSt} {X : String → gaH → Prop} {Q : Int → gaH → Prop} {w v g : Nat} {x y z : Int}
def m_write (st : GSt) (x c : Int) : Nat × (Int → Prop) × GSt :=
  if okS x then if 1 ≤ c ∧ c ≤ 65535 then done (st.sheet x.toNat (codeW c.toNat)) ((codeW c.toNat).length : Int) else bad 2 st else bad 1 st
def m_append (st : GSt) (x y : Int) : Nat × (Int → Prop) × GSt :=
  if okS x then if okS y then exch st x.toNat (st.S x.toNat).length (st.S x.toNat).length (st.S y.toNat) else bad 1 st else bad 1 st
theorem c_append (d : gD A G h U st) (hx : gR x) (hy : gR y) (k : gRes A G h [eI] X Q (m_append st x y)) : w_X5_append X (A 22) x y h Q := by
  unfold w_X5_append
  (first | refine And.intro (show gR _ from by first | assumption | omega | decide | exact b2i_R _ | exact gR_of (by omega) (by omega)) ?_ | refine And.intro (show gHas _ _ _ from by first | exact gW.has (gD.w (by assumption)) (by omega) | exact gD.has (by assumption) | exact gRu.has (gD.ru (by assumption)) | exact gGr.has (gD.gr (by assumption) _ (by omega))) ?_ | refine gCall_mk (by decide) (by decide) ?_ | refine if_yes (by first | assumption | omega | decide | exact b2i_R _ | exact gR_of (by omega) (by omega)) ?_ | refine if_no (by first | assumption | omega | decide | exact b2i_R _ | exact gR_of (by omega) (by omega)) ?_); (first | refine And.intro (show gR _ from by first | assumption | omega | decide | exact b2i_R _ | exact gR_of (by omega) (by omega)) ?_ | refine And.intro (show gHas _ _ _ from by first | exact gW.has (gD.w (by assumption)) (by omega) | exact gD.has (by assumption) | exact gRu.has (gD.ru (by assumption)) | exact gGr.has (gD.gr (by assumption) _ (by omega))) ?_ | refine gCall_mk (by decide) (by decide) ?_ | refine if_yes (by first | assumption | omega | decide | exact b2i_R _ | exact gR_of (by omega) (by omega)) ?_ | refine if_no (by first | assumption | omega | decide | exact b2i_R _ | exact gR_of (by omega) (by omega)) ?_)
  refine c_wordOf d hx (fun q => by rw [m_append, if_neg q] at k; exact k.ex d gFr.rf) (fun w hw e => ?_)
  subst e
  rw [m_append, if_pos (show okS (w : Int) by omega)] at k
  refine d.w.many (by omega) (d.w.many (by omega) ?_)
  (first | refine And.intro (show gR _ from by first | assumption | omega | decide | exact b2i_R _ | exact gR_of (by omega) (by omega)) ?_ | refine And.intro (show gHas _ _ _ from by first | exact gW.has (gD.w (by assumption)) (by omega) | exact gD.has (by assumption) | exact gRu.has (gD.ru (by assumption)) | exact gGr.has (gD.gr (by assumption) _ (by omega))) ?_ | refine gCall_mk (by decide) (by decide) ?_ | refine if_yes (by first | assumption | omega | decide | exact b2i_R _ | exact gR_of (by omega) (by omega)) ?_ | refine if_no (by first | assumption | omega | decide | exact b2i_R _ | exact gR_of (by omega) (by omega)) ?_); (first | refine And.intro (show gR _ from by first | assumption | omega | decide | exact b2i_R _ | exact gR_of (by omega) (by omega)) ?_ | refine And.intro (show gHas _ _ _ from by first | exact gW.has (gD.w (by assumption)) (by omega) | exact gD.has (by assumption) | exact gRu.has (gD.ru (by assumption)) | exact gGr.has (gD.gr (by assumption) _ (by omega))) ?_ | refine gCall_mk (by decide) (by decide) ?_ | refine if_yes (by first | assumption | omega | decide | exact b2i_R _ | exact gR_of (by omega) (by omega)) ?_ | refine if_no (by first | assumption | omega | decide | exact b2i_R _ | exact gR_of (by omega) (by omega)) ?_)
  refine c_wordOf d hy (fun q => by rw [if_neg q] at k; exact k.ex d gFr.rf) (fun v hv e => ?_)
  subst e
  rw [if_pos (show okS (v : Int) by omega), Int.toNat_natCast, Int.toNat_natCast, ← d.s v hv, ← d.s w hw] at k
  (first | refine And.intro (show gR _ from by first | assumption | omega | decide | exact b2i_R _ | exact gR_of (by omega) (by omega)) ?_ | refine And.intro (show gHas _ _ _ from by first | exact gW.has (gD.w (by assumption)) (by omega) | exact gD.has (by assumption) | exact gRu.has (gD.ru (by assumption)) | exact gGr.has (gD.gr (by assumption) _ (by omega))) ?_ | refine gCall_mk (by decide) (by decide) ?_ | refine if_yes (by first | assumption | omega | decide | exact b2i_R _ | exact gR_of (by omega) (by omega)) ?_ | refine if_no (by first | assumption | omega | decide | exact b2i_R _ | exact gR_of (by omega) (by omega)) ?_)
  exact c_exch d hw (by omega) (by omega) rfl rfl (Nat.le_refl _) (Nat.le_refl _) k
def m_insertSign (st : GSt) (x y : Int) (b : Bool) : Nat × (Int → Prop) × GSt :=
  if okS x then if 0 ≤ y ∧ y ≤ ((st.S x.toNat).length : Int) then exch st x.toNat y.toNat y.toNat [b] else bad 1 st else bad 1 st
def m_insertSheet (st : GSt) (x y z : Int) : Nat × (Int → Prop) × GSt :=
  if okS x then if okS z then if 0 ≤ y ∧ y ≤ ((st.S x.toNat).length : Int) then exch st x.toNat y.toNat y.toNat (st.S z.toNat) else bad 1 st else bad 1 st else bad 1 st
def m_setSign (st : GSt) (x y : Int) (b : Bool) : Nat × (Int → Prop) × GSt :=
  if okS x then if 0 ≤ y ∧ y < ((st.S x.toNat).length : Int) then done (st.sheet x.toNat ((st.S x.toNat).set y.toNat b)) (if (st.S x.toNat).getD y.toNat false = b then 0 else 1) else bad 1 st else bad 1 st
theorem c_setSign (d : gD A G h U st) {b : Bool} (hx : gR x) (hy : gR y) (hz : z = b2i b) (k : gRes A G h [eI] X Q (m_setSign st x y b)) : w_X5_setSign X (A 22) x y z h Q := by
  subst hz
  unfold w_X5_setSign
  (first | refine And.intro (show gR _ from by first | assumption | omega | decide | exact b2i_R _ | exact gR_of (by omega) (by omega)) ?_ | refine And.intro (show gHas _ _ _ from by first | exact gW.has (gD.w (by assumption)) (by omega) | exact gD.has (by assumption) | exact gRu.has (gD.ru (by assumption)) | exact gGr.has (gD.gr (by assumption) _ (by omega))) ?_ | refine gCall_mk (by decide) (by decide) ?_ | refine if_yes (by first | assumption | omega | decide | exact b2i_R _ | exact gR_of (by omega) (by omega)) ?_ | refine if_no (by first | assumption | omega | decide | exact b2i_R _ | exact gR_of (by omega) (by omega)) ?_); (first | refine And.intro (show gR _ from by first | assumption | omega | decide | exact b2i_R _ | exact gR_of (by omega) (by omega)) ?_ | refine And.intro (show gHas _ _ _ from by first | exact gW.has (gD.w (by assumption)) (by omega) | exact gD.has (by assumption) | exact gRu.has (gD.ru (by assumption)) | exact gGr.has (gD.gr (by assumption) _ (by omega))) ?_ | refine gCall_mk (by decide) (by decide) ?_ | refine if_yes (by first | assumption | omega | decide | exact b2i_R _ | exact gR_of (by omega) (by omega)) ?_ | refine if_no (by first | assumption | omega | decide | exact b2i_R _ | exact gR_of (by omega) (by omega)) ?_)
  refine c_wordOf d hx (fun q => by rw [m_setSign, if_neg q] at k; exact k.ex d gFr.rf) (fun w hw e => ?_)
  subst e
  have l1 := d.w.le (show w < 11 by omega)
  rw [m_setSign, if_pos (show okS (w : Int) by omega), Int.toNat_natCast, ← d.s w hw] at k
  have bd : ¬ (0 ≤ y ∧ y < ((U w).length : Int)) → w_X5_setSign_J24 X Q (A 22) y (b2i b) (A w) h 1 6 := fun q => by
    rw [if_neg q] at k
    unfold w_X5_setSign_J24 w_X5_setSign_J25
    (first | refine And.intro (show gR _ from by first | assumption | omega | decide | exact b2i_R _ | exact gR_of (by omega) (by omega)) ?_ | refine And.intro (show gHas _ _ _ from by first | exact gW.has (gD.w (by assumption)) (by omega) | exact gD.has (by assumption) | exact gRu.has (gD.ru (by assumption)) | exact gGr.has (gD.gr (by assumption) _ (by omega))) ?_ | refine gCall_mk (by decide) (by decide) ?_ | refine if_yes (by first | assumption | omega | decide | exact b2i_R _ | exact gR_of (by omega) (by omega)) ?_ | refine if_no (by first | assumption | omega | decide | exact b2i_R _ | exact gR_of (by omega) (by omega)) ?_)
    exact c_nI0 (k.ex d gFr.rf)
  (first | refine And.intro (show gR _ from by first | assumption | omega | decide | exact b2i_R _ | exact gR_of (by omega) (by omega)) ?_ | refine And.intro (show gHas _ _ _ from by first | exact gW.has (gD.w (by assumption)) (by omega) | exact gD.has (by assumption) | exact gRu.has (gD.ru (by assumption)) | exact gGr.has (gD.gr (by assumption) _ (by omega))) ?_ | refine gCall_mk (by decide) (by decide) ?_ | refine if_yes (by first | assumption | omega | decide | exact b2i_R _ | exact gR_of (by omega) (by omega)) ?_ | refine if_no (by first | assumption | omega | decide | exact b2i_R _ | exact gR_of (by omega) (by omega)) ?_)
  by_cases q1 : y < 0
  · exact if_yes q1 (bd (by omega))
  (first | refine And.intro (show gR _ from by first | assumption | omega | decide | exact b2i_R _ | exact gR_of (by omega) (by omega)) ?_ | refine And.intro (show gHas _ _ _ from by first | exact gW.has (gD.w (by assumption)) (by omega) | exact gD.has (by assumption) | exact gRu.has (gD.ru (by assumption)) | exact gGr.has (gD.gr (by assumption) _ (by omega))) ?_ | refine gCall_mk (by decide) (by decide) ?_ | refine if_yes (by first | assumption | omega | decide | exact b2i_R _ | exact gR_of (by omega) (by omega)) ?_ | refine if_no (by first | assumption | omega | decide | exact b2i_R _ | exact gR_of (by omega) (by omega)) ?_)
  refine d.w.many (by omega) ?_
  (first | refine And.intro (show gR _ from by first | assumption | omega | decide | exact b2i_R _ | exact gR_of (by omega) (by omega)) ?_ | refine And.intro (show gHas _ _ _ from by first | exact gW.has (gD.w (by assumption)) (by omega) | exact gD.has (by assumption) | exact gRu.has (gD.ru (by assumption)) | exact gGr.has (gD.gr (by assumption) _ (by omega))) ?_ | refine gCall_mk (by decide) (by decide) ?_ | refine if_yes (by first | assumption | omega | decide | exact b2i_R _ | exact gR_of (by omega) (by omega)) ?_ | refine if_no (by first | assumption | omega | decide | exact b2i_R _ | exact gR_of (by omega) (by omega)) ?_); (first | refine And.intro (show gR _ from by first | assumption | omega | decide | exact b2i_R _ | exact gR_of (by omega) (by omega)) ?_ | refine And.intro (show gHas _ _ _ from by first | exact gW.has (gD.w (by assumption)) (by omega) | exact gD.has (by assumption) | exact gRu.has (gD.ru (by assumption)) | exact gGr.has (gD.gr (by assumption) _ (by omega))) ?_ | refine gCall_mk (by decide) (by decide) ?_ | refine if_yes (by first | assumption | omega | decide | exact b2i_R _ | exact gR_of (by omega) (by omega)) ?_ | refine if_no (by first | assumption | omega | decide | exact b2i_R _ | exact gR_of (by omega) (by omega)) ?_)
  by_cases q2 : ((U w).length : Int) ≤ y
  · exact if_yes q2 (bd (by omega))
  (first | refine And.intro (show gR _ from by first | assumption | omega | decide | exact b2i_R _ | exact gR_of (by omega) (by omega)) ?_ | refine And.intro (show gHas _ _ _ from by first | exact gW.has (gD.w (by assumption)) (by omega) | exact gD.has (by assumption) | exact gRu.has (gD.ru (by assumption)) | exact gGr.has (gD.gr (by assumption) _ (by omega))) ?_ | refine gCall_mk (by decide) (by decide) ?_ | refine if_yes (by first | assumption | omega | decide | exact b2i_R _ | exact gR_of (by omega) (by omega)) ?_ | refine if_no (by first | assumption | omega | decide | exact b2i_R _ | exact gR_of (by omega) (by omega)) ?_)
  rw [if_pos ⟨by omega, by omega⟩] at k
  obtain ⟨n, rfl⟩ : ∃ n : Nat, y = n := ⟨y.toNat, by omega⟩
  rw [Int.toNat_natCast] at k
  unfold w_X5_setSign_J25
  (first | refine And.intro (show gR _ from by first | assumption | omega | decide | exact b2i_R _ | exact gR_of (by omega) (by omega)) ?_ | refine And.intro (show gHas _ _ _ from by first | exact gW.has (gD.w (by assumption)) (by omega) | exact gD.has (by assumption) | exact gRu.has (gD.ru (by assumption)) | exact gGr.has (gD.gr (by assumption) _ (by omega))) ?_ | refine gCall_mk (by decide) (by decide) ?_ | refine if_yes (by first | assumption | omega | decide | exact b2i_R _ | exact gR_of (by omega) (by omega)) ?_ | refine if_no (by first | assumption | omega | decide | exact b2i_R _ | exact gR_of (by omega) (by omega)) ?_)
  refine c_nI1 ?_
  (first | refine And.intro (show gR _ from by first | assumption | omega | decide | exact b2i_R _ | exact gR_of (by omega) (by omega)) ?_ | refine And.intro (show gHas _ _ _ from by first | exact gW.has (gD.w (by assumption)) (by omega) | exact gD.has (by assumption) | exact gRu.has (gD.ru (by assumption)) | exact gGr.has (gD.gr (by assumption) _ (by omega))) ?_ | refine gCall_mk (by decide) (by decide) ?_ | refine if_yes (by first | assumption | omega | decide | exact b2i_R _ | exact gR_of (by omega) (by omega)) ?_ | refine if_no (by first | assumption | omega | decide | exact b2i_R _ | exact gR_of (by omega) (by omega)) ?_)
  refine s_isUp d.w (by omega) rfl (by omega) ?_
  (first | refine And.intro (show gR _ from by first | assumption | omega | decide | exact b2i_R _ | exact gR_of (by omega) (by omega)) ?_ | refine And.intro (show gHas _ _ _ from by first | exact gW.has (gD.w (by assumption)) (by omega) | exact gD.has (by assumption) | exact gRu.has (gD.ru (by assumption)) | exact gGr.has (gD.gr (by assumption) _ (by omega))) ?_ | refine gCall_mk (by decide) (by decide) ?_ | refine if_yes (by first | assumption | omega | decide | exact b2i_R _ | exact gR_of (by omega) (by omega)) ?_ | refine if_no (by first | assumption | omega | decide | exact b2i_R _ | exact gR_of (by omega) (by omega)) ?_); (first | refine And.intro (show gR _ from by first | assumption | omega | decide | exact b2i_R _ | exact gR_of (by omega) (by omega)) ?_ | refine And.intro (show gHas _ _ _ from by first | exact gW.has (gD.w (by assumption)) (by omega) | exact gD.has (by assumption) | exact gRu.has (gD.ru (by assumption)) | exact gGr.has (gD.gr (by assumption) _ (by omega))) ?_ | refine gCall_mk (by decide) (by decide) ?_ | refine if_yes (by first | assumption | omega | decide | exact b2i_R _ | exact gR_of (by omega) (by omega)) ?_ | refine if_no (by first | assumption | omega | decide | exact b2i_R _ | exact gR_of (by omega) (by omega)) ?_)
  have fin : ∀ t : Int, t = (if (U w).getD n false = b then 0 else 1) → w_X5_setSign_J43 X Q (A 22) (n : Int) (b2i b) (A w) t h 0 0 := by
    intro t ht
    unfold w_X5_setSign_J43
    (first | refine And.intro (show gR _ from by first | assumption | omega | decide | exact b2i_R _ | exact gR_of (by omega) (by omega)) ?_ | refine And.intro (show gHas _ _ _ from by first | exact gW.has (gD.w (by assumption)) (by omega) | exact gD.has (by assumption) | exact gRu.has (gD.ru (by assumption)) | exact gGr.has (gD.gr (by assumption) _ (by omega))) ?_ | refine gCall_mk (by decide) (by decide) ?_ | refine if_yes (by first | assumption | omega | decide | exact b2i_R _ | exact gR_of (by omega) (by omega)) ?_ | refine if_no (by first | assumption | omega | decide | exact b2i_R _ | exact gR_of (by omega) (by omega)) ?_)
    refine s_put d.w (show w < 11 by omega) rfl (show n < (U w).length by omega) rfl (fun h1 w1 s1 => ?_)
    have d1 := d.sh hw w1 s1
    rw [← ht] at k
    unfold w_X5_oneIf
    by_cases q : (U w).getD n false = b
    · rw [if_pos q] at ht
      subst ht
      (repeat (first | refine And.intro (show gR _ from by first | assumption | omega | decide | exact b2i_R _ | exact gR_of (by omega) (by omega)) ?_ | refine And.intro (show gHas _ _ _ from by first | exact gW.has (gD.w (by assumption)) (by omega) | exact gD.has (by assumption) | exact gRu.has (gD.ru (by assumption)) | exact gGr.has (gD.gr (by assumption) _ (by omega))) ?_ | refine gCall_mk (by decide) (by decide) ?_ | refine if_yes (by first | assumption | omega | decide | exact b2i_R _ | exact gR_of (by omega) (by omega)) ?_ | refine if_no (by first | assumption | omega | decide | exact b2i_R _ | exact gR_of (by omega) (by omega)) ?_))
      exact c_end d hw w1 s1 k
    · rw [if_neg q] at ht
      subst ht
      (repeat (first | refine And.intro (show gR _ from by first | assumption | omega | decide | exact b2i_R _ | exact gR_of (by omega) (by omega)) ?_ | refine And.intro (show gHas _ _ _ from by first | exact gW.has (gD.w (by assumption)) (by omega) | exact gD.has (by assumption) | exact gRu.has (gD.ru (by assumption)) | exact gGr.has (gD.gr (by assumption) _ (by omega))) ?_ | refine gCall_mk (by decide) (by decide) ?_ | refine if_yes (by first | assumption | omega | decide | exact b2i_R _ | exact gR_of (by omega) (by omega)) ?_ | refine if_no (by first | assumption | omega | decide | exact b2i_R _ | exact gR_of (by omega) (by omega)) ?_))
      exact c_end d hw w1 s1 k
  by_cases q : (U w).getD n false = b
  · exact if_yes (congrArg b2i q) (fin 0 (by rw [if_pos q]))
  · exact if_no (fun z => q ((b2i_eq _ _).mp z)) (fin 1 (by rw [if_neg q]))
def takeOut (st : GSt) (w f t : Nat) : Nat × (Int → Prop) × GSt := done (st.sheet w ((st.S w).take f ++ (st.S w).drop t)) (ones (((st.S w).drop f).take (t - f)) : Int)
def m_removeSign (st : GSt) (x y : Int) : Nat × (Int → Prop) × GSt :=
  if okS x then if 0 ≤ y ∧ y < ((st.S x.toNat).length : Int) then takeOut st x.toNat y.toNat (y.toNat + 1) else bad 1 st else bad 1 st
abbrev okF (f t : Int) (l : Nat) : Prop := 0 ≤ f ∧ f ≤ t ∧ t ≤ (l : Int)
def m_remove (st : GSt) (x y z : Int) : Nat × (Int → Prop) × GSt :=
  if okS x then if okF y z (st.S x.toNat).length then takeOut st x.toNat y.toNat z.toNat else bad 1 st else bad 1 st
def m_replace (st : GSt) (x y z v : Int) : Nat × (Int → Prop) × GSt :=
  if okS x then if okS v then if okF y z (st.S x.toNat).length then exch st x.toNat y.toNat z.toNat (st.S v.toNat) else bad 1 st else bad 1 st else bad 1 st
end CA
