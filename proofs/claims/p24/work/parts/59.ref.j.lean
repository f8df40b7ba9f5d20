/-! The reference's acts on growths. -/
section RG2
variable {B : Nat → Nat} {h h0 : gaH} {st : GSt} {no : Int} {a b o : Nat} {u v : List Bool} {w g : Nat} {x y z : Int} {Q : Int → gaH → Prop}
/-- these turns lie in the growth's row -/
def mT (B : Nat → Nat) (h : gaH) (g : Nat) (us : List Nat) : Prop := ∃ row : List Int, row.length = 64 ∧ h (B (4 + g)) = some (102, row.map gi) ∧ ∀ i, i < us.length → row[i]? = (us[i]?).map (fun t => (t : Int))
theorem gM.rowset (d : gM B h st no) (hg : g < 2) {t : Nat} (hx : x = ((st.T g).length : Int)) (hy : y = (t : Int)) (hl : (st.T g).length ≤ 63) {K : gaH → Prop} (k : ∀ h', gM B h' st no → mF B h h' → mT B h' g (st.T g ++ [t]) → K h') : gSI h (B (4 + g)) 102 x (gi y) K := by
  subst hx; subst hy
  obtain ⟨s, a1, a2, a3, a4, a5, a6, a7⟩ := id d
  obtain ⟨b1, row, b2, b3, b4⟩ := a6 g hg
  have ne : ∀ i, i < 6 → i ≠ 4 + g → B i ≠ B (4 + g) := fun i hi hn q => hn (a7.1 i _ hi (by omega) q)
  have er : (row.map gi).set (st.T g).length (gi (t : Int)) = (row.set (st.T g).length (t : Int)).map gi := by rw [List.map_set]
  have hr : ∀ i, i < (st.T g).length → (row.set (st.T g).length (t : Int))[i]? = ((st.T g)[i]?).map (fun t => (t : Int)) := fun i hi => by rw [List.getElem?_set_ne (by omega)]; exact b4 i hi
  refine gSI_mk b3 (by omega) (by omega) (by rw [Int.toNat_natCast]; simp; omega) ?_
  rw [Int.toNat_natCast, er]
  refine k _ ⟨s, ?_, ?_, fun w hw => ⟨?_, (a3 w hw).2⟩, ?_, ?_, fun j hj => ?_, a7.1, fun i hi => upE (a7.2 i hi)⟩ (mF.up (by omega)) ⟨_, by simpa using b2, gaUp_self _ _ _, fun i hi => ?_⟩
  · rw [gaUp_ne _ _ (ne _ (by decide) (by omega))]; exact a1
  · rw [gaUp_ne _ _ (ne _ (by decide) (by omega))]; exact a2
  · unfold mR; rw [gaUp_ne _ _ ((a3 w hw).2.2 _ (by omega))]; exact (a3 w hw).1
  · rw [gaUp_ne _ _ (ne _ (by decide) (by omega))]; exact a4
  · rw [gaUp_ne _ _ (ne _ (by decide) (by omega))]; exact a5
  · by_cases e : j = g
    · subst e
      exact ⟨b1, _, by simpa using b2, gaUp_self _ _ _, hr⟩
    · obtain ⟨c1, r2, c2, c3, c4⟩ := a6 j hj
      exact ⟨c1, r2, c2, by rw [gaUp_ne _ _ (ne _ (by omega) (by omega))]; exact c3, c4⟩
  · rw [List.length_append, List.length_singleton] at hi
    by_cases e : i = (st.T g).length
    · subst e
      rw [List.getElem?_set_self (by omega), List.getElem?_append_right (Nat.le_refl _), Nat.sub_self]; rfl
    · rw [hr i (by omega), List.getElem?_append_left (by omega)]
theorem gM.cntset (d : gM B h st no) (hg : g < 2) {us : List Nat} (hx : x = (g : Int)) (hy : y = (us.length : Int)) (hok : gOk us) (ht : mT B h g us) {K : gaH → Prop} (k : ∀ h', gM B h' (st.S, pu st.T g us, st.C) no → mF B h h' → mT B h' g us → (∀ g', g' < 2 → h' (B (4 + g')) = h (B (4 + g'))) → K h') : gSI h (B 3) 102 x (gi y) K := by
  subst hx; subst hy
  obtain ⟨s, a1, a2, a3, a4, a5, a6, a7⟩ := id d
  have ne : ∀ i, i < 6 → i ≠ 3 → B i ≠ B 3 := fun i hi hn q => hn (a7.1 i _ hi (by omega) q)
  refine gSI_mk a5 (by omega) (by omega) (by rw [Int.toNat_natCast]; simp; omega) ?_
  have rows : ∀ g', g' < 2 → gaUp h (B 3) (102, [gi ((st.T 0).length : Int), gi ((st.T 1).length : Int)].set (g : Int).toNat (gi (us.length : Int))) (B (4 + g')) = h (B (4 + g')) := fun g' hg' => gaUp_ne _ _ (ne _ (by omega) (by omega))
  have ht2 : mT B (gaUp h (B 3) (102, [gi ((st.T 0).length : Int), gi ((st.T 1).length : Int)].set (g : Int).toNat (gi (us.length : Int)))) g us := by
    obtain ⟨row, r1, r2, r3⟩ := ht
    exact ⟨row, r1, (rows g hg).trans r2, r3⟩
  refine k _ ⟨s, ?_, ?_, fun w hw => ⟨?_, (a3 w hw).2⟩, ?_, ?_, fun j hj => ?_, a7.1, fun i hi => upE (a7.2 i hi)⟩ (mF.up (by omega)) ht2 rows
  · rw [gaUp_ne _ _ (ne _ (by decide) (by omega))]; exact a1
  · rw [gaUp_ne _ _ (ne _ (by decide) (by omega))]; exact a2
  · unfold mR; rw [gaUp_ne _ _ ((a3 w hw).2.2 _ (by omega))]; exact (a3 w hw).1
  · rw [gaUp_ne _ _ (ne _ (by decide) (by omega))]; exact a4
  · rw [gaUp_self, Int.toNat_natCast]
    rcases (show g = 0 ∨ g = 1 by omega) with rfl | rfl <;> rfl
  · show gOk (pu st.T g us j) ∧ _
    by_cases e : j = g
    · subst e
      have e2 : GSt.T (st.S, pu st.T j us, st.C) j = us := pu_self _ _ _
      rw [pu_self]
      obtain ⟨row, r1, r2, r3⟩ := ht2
      exact ⟨hok, row, r1, r2, fun i hi => by rw [e2] at hi ⊢; exact r3 i hi⟩
    · have e2 : GSt.T (st.S, pu st.T g us, st.C) j = st.T j := pu_ne _ _ e
      rw [pu_ne _ _ e]
      obtain ⟨c1, r2, c2, c3, c4⟩ := a6 j hj
      exact ⟨c1, r2, c2, (rows j hj).trans c3, fun i hi => by rw [e2] at hi ⊢; exact c4 i hi⟩
theorem gM.inc2 (d : gM B h st no) {i f : Nat} (hf : f = 3 + i) (hi : i < 4) {x : Int} (hx : x = st.C i + 1) {K : gaH → Prop} (k : ∀ h', gM B h' (st.S, st.T, pu st.C i (st.C i + 1)) no → mF B h h' → (∀ j, 1 ≤ j → j < 6 → h' (B j) = h (B j)) → K h') : gPF h (B 0) 7 f (gi x) K := by
  subst hf; subst hx
  have hi2 := d.inj
  obtain ⟨s, a1, -⟩ := id d
  refine gPF_mk a1 (by simp; omega) (k _ ?_ (mF.up (by decide)) (fun j h1 h2 => gaUp_ne _ _ (fun q => by have := hi2 _ _ h2 (by decide) q; omega)))
  have := d.put (C := pu st.C i (st.C i + 1)) (no' := no)
  rcases (show i = 0 ∨ i = 1 ∨ i = 2 ∨ i = 3 by omega) with rfl | rfl | rfl | rfl <;> exact this
theorem gM.mt (d : gM B h st no) (hg : g < 2) {us : List Nat} (hl : us.length ≤ (st.T g).length) (hu : ∀ i, i < us.length → us[i]? = (st.T g)[i]?) : mT B h g us := by
  obtain ⟨s, a1, a2, a3, a4, a5, a6, a7⟩ := d
  obtain ⟨b1, row, b2, b3, b4⟩ := a6 g hg
  exact ⟨row, b2, b3, fun i hi => by rw [b4 i (by omega), hu i hi]⟩
theorem r_fresh (d : gM B h st no) (hx : gR x) (k : mRes B h Q (m_fresh st x)) : w_X7_fresh (B 0) x h Q := by
  unfold w_X7_fresh
  refine r_isNoGrowth hx ⟨d.has, r_start d rfl (by decide) (fun q h1 d1 f1 => ?_) (fun q h1 d1 f1 => ?_)⟩
  · have q1 := nd q
    rw [m_fresh, if_pos q1] at k
    obtain ⟨g, rfl⟩ : ∃ w : Nat, x = w := ⟨x.toNat, by omega⟩
    rw [Int.toNat_natCast] at k
    have hg : g < 2 := by omega
    refine ⟨by decide, if_yes rfl (d1.f2 (d1.ct rfl hg (d1.f2 (d1.cntset hg (us := []) rfl rfl gOk.nil (d1.mt hg (Nat.zero_le _) (fun i hi => absurd hi (Nat.not_lt_zero _))) (fun h2 d2 f2 t2 _ => d2.cn (i := 1) rfl (by decide) (d2.inc (i := 1) rfl (by decide) rfl (fun h3 d3 f3 => ?_)))))))⟩
    exact k.ok d3 (f1.tr (f2.tr f3)) rfl
  · rw [m_fresh, if_neg (nn q)] at k
    exact ⟨by decide, if_no (by decide) (k.ex d1 f1)⟩
theorem r_shrink (d : gM B h st no) (hx : gR x) (k : mRes B h Q (m_shrink st x)) : w_X7_shrink (B 0) x h Q := by
  unfold w_X7_shrink
  refine r_isNoGrowth hx ⟨d.has, r_start d rfl (by decide) (fun q h1 d1 f1 => ?_) (fun q h1 d1 f1 => ?_)⟩
  · have q1 := nd q
    rw [m_shrink, if_pos q1] at k
    obtain ⟨g, rfl⟩ : ∃ w : Nat, x = w := ⟨x.toNat, by omega⟩
    rw [Int.toNat_natCast] at k
    have hg : g < 2 := by omega
    have hok := d1.ok hg
    have hl := hok.len
    refine ⟨by decide, if_yes rfl (d1.f2 (d1.ct rfl hg ⟨by omega, ?_⟩))⟩
    by_cases q2 : st.T g = []
    · rw [if_pos q2] at k
      refine if_yes (by rw [q2]; rfl) ?_
      unfold w_X7_shrink_J27
      exact ⟨d1.has, r_refuse d1 (bd := true) rfl (by decide) (fun q => by cases q) (fun q h2 d2 f2 => ⟨by decide, if_no (by decide) (k.ex d2 (f1.tr f2))⟩)⟩
    · rw [if_neg q2] at k
      have hp : 0 < (st.T g).length := List.length_pos_iff.mpr q2
      refine if_no (by omega) ?_
      unfold w_X7_shrink_J27
      refine ⟨d1.has, r_refuse d1 (bd := false) rfl (by decide) (fun q => ⟨by decide, if_yes rfl ?_⟩) (fun q => by cases q)⟩
      obtain ⟨us, t, e⟩ : ∃ us t, st.T g = us ++ [t] := ⟨(st.T g).dropLast, (st.T g).getLast q2, (List.dropLast_concat_getLast _).symm⟩
      have e1 : (st.T g).dropLast = us := by rw [e, List.dropLast_concat]
      have e2 : (st.T g).getLastD 0 = t := by rw [e]; simp
      have e3 : (st.T g).length = us.length + 1 := by rw [e]; simp
      rw [e1, e2] at k
      have hus : gOk us := by rw [e] at hok; exact hok.pre
      refine d1.f2 (d1.ct rfl hg (d1.cntset hg (us := us) rfl (by omega) hus (d1.mt hg (by omega) (fun i hi => by rw [e, List.getElem?_append_left hi])) (fun h2 d2 f2 t2 keep => d2.cn (i := 1) rfl (by decide) (d2.inc2 (i := 1) rfl (by decide) rfl (fun h3 d3 f3 k3 => ?_)))))
      have kk := fun r hr => k.ok (r := r) d3 (f1.tr (f2.tr f3)) hr
      obtain ⟨s, z1, z2, z3, z4, z5, z6, z7⟩ := id d1
      obtain ⟨b1, row, b2, b3, b4⟩ := z6 g hg
      have e9 : ((pu st.T g us) g).length = us.length := by rw [pu_self]
      refine d3.f1 (d3.tr rfl hg (d3.f2 (d3.ct rfl hg ?_)))
      show gLI h3 (B (4 + g)) 102 (((pu st.T g us) g).length : Int) _
      rw [e9]
      refine gLI_mk (x := (t : Int)) ((k3 (4 + g) (by omega) (by omega)).trans ((keep g hg).trans b3)) (by omega) (by omega) ?_ (kk _ rfl)
      rw [Int.toNat_natCast, List.getElem?_map, b4 us.length (by omega), e, List.getElem?_append_right (Nat.le_refl _), Nat.sub_self]
      rfl
  · rw [m_shrink, if_neg (nn q)] at k
    exact ⟨by decide, if_no (by decide) (k.ex d1 f1)⟩
theorem r_grow (d : gM B h st no) (hx : gR x) (hy : gR y) (k : mRes B h Q (m_grow st x y)) : w_X7_grow (B 0) x y h Q := by
  unfold w_X7_grow
  refine r_isNoGrowth hx ⟨d.has, r_start d rfl (by decide) (fun q h1 d1 f1 => ?_) (fun q h1 d1 f1 => ?_)⟩
  · have q1 := nd q
    rw [m_grow, if_pos q1] at k
    refine ⟨by decide, if_yes rfl (r_isIn hy (by decide) (by decide) (sel (fun t => w_X7_grow_J27 Q (B 0) x y (B 0) t h1 133 8197) ?_))⟩
    unfold w_X7_grow_J27
    refine ⟨d1.has, r_refuse d1 rfl (by decide) (fun q => ?_) (fun q h2 d2 f2 => ?_)⟩
    · have q2 := nd q
      rw [if_pos q2] at k
      obtain ⟨g, rfl⟩ : ∃ w : Nat, x = w := ⟨x.toNat, by omega⟩
      obtain ⟨t, rfl⟩ : ∃ w : Nat, y = w := ⟨y.toNat, by omega⟩
      simp only [Int.toNat_natCast] at k
      have hg : g < 2 := by omega
      have hok := d1.ok hg
      have hl := hok.len
      have l1 := hok.2
      have l2 := hok.elder
      refine ⟨by decide, if_yes rfl ⟨d1.has, gCall_mk (by decide) (by decide) (r_byCopies d1 hg (m := (st.T g).length) (bk := 0) rfl rfl rfl (fun h2 o k2 n2 r2 => r2.len ⟨(d1.kp k2).has, gCall_mk (by decide) (by decide) (r_elder (d1.kp k2) hg rfl (fun h3 o3 k3 n3 r3 => r3.len ?_))⟩))⟩⟩
      rw [List.take_length]
      have em : (t : Int) * ((grw (st.T g)).2.length : Int) + ((grw (st.T g)).1.length : Int) = ((t * (grw (st.T g)).2.length + (grw (st.T g)).1.length : Nat) : Int) := by push_cast; rfl
      have b1 : t * (grw (st.T g)).2.length ≤ 3 * 64 := Nat.mul_le_mul (by omega) l1
      rw [em]
      have d3 := d1.kp (k2.tr k3)
      refine ⟨by omega, ?_⟩
      by_cases q3 : t * (grw (st.T g)).2.length + (grw (st.T g)).1.length ≤ 64
      · rw [if_pos q3] at k
        have hok2 := grow_ok hok (by omega) q3
        refine if_yes (by omega) (d3.f1 (d3.tr rfl hg (d3.f2 (d3.ct rfl hg (d3.rowset hg rfl rfl hl (fun h4 d4 f4 t4 => d4.f2 (d4.ct rfl hg (d4.cntset hg (us := st.T g ++ [t]) rfl (by simp) hok2 t4 (fun h5 d5 f5 t5 _ => d5.cn (i := 1) rfl (by decide) (d5.inc (i := 1) rfl (by decide) rfl (fun h6 d6 f6 => ?_)))))))))))
        refine k.ok d6 (f1.tr ((mF.kp (k2.tr k3)).tr (f4.tr (f5.tr f6)))) ?_
        rw [grw_snoc]; simp [gstep, rep_len]
      · rw [if_neg q3] at k
        exact if_no (by omega) ⟨d3.has, r_cannot d3 (fun h4 d4 f4 => k.ok d4 (f1.tr ((mF.kp (k2.tr k3)).tr f4)) rfl)⟩
    · rw [if_neg (nn q)] at k
      exact ⟨by decide, if_no (by decide) (k.ex d2 (f1.tr f2))⟩
  · rw [m_grow, if_neg (nn q)] at k
    exact ⟨by decide, if_no (by decide) (k.ex d1 f1)⟩
end RG2
/-! The reference: undo. -/
def stepv (x y u : List Bool) (j : Nat) : Int := if (stands u x j && okR x y u (j + x.length)) = true then 1 else if (stands u y j && okR x y u (j + y.length)) = true then 2 else 0
theorem stepv_pos {x y u : List Bool} (hx : 0 < x.length) (hy : 0 < y.length) {j : Nat} (hj : j < u.length) : (0 < stepv x y u j ↔ okR x y u j = true) := by
  rw [okR_at hx hy j, decide_eq_false (by omega), Bool.false_or]
  unfold stepv
  cases stands u x j && okR x y u (j + x.length) <;> cases stands u y j && okR x y u (j + y.length) <;> decide
theorem stepv_R (x y u : List Bool) (j : Nat) : 0 ≤ stepv x y u j ∧ stepv x y u j ≤ 2 := by
  unfold stepv
  split
  · decide
  · split <;> decide
theorem unl_same {u v : List Bool} (h : u ++ v = v ++ u) : ∀ f i, unl u v f i = -1
  | 0, _ => rfl
  | f + 1, i => by
    unfold unl
    rw [h]
    split
    · rfl
    · rw [if_pos rfl]; exact unl_same h f (i + 1)
theorem unlike_dec (u v : List Bool) : decide (unlike u v ≠ -1) = !decide (u ++ v = v ++ u) := by
  by_cases q : u ++ v = v ++ u
  · rw [decide_eq_true q, decide_eq_false (fun z => z (unl_same q _ _))]; rfl
  · rw [decide_eq_false q, decide_eq_true (unlike_iff q)]; rfl
def mJ (h : gaH) (a : Nat) (xs : List Int) : Prop := h a = some (102, xs.map gi)
section RU
variable {B : Nat → Nat} {h h0 : gaH} {st : GSt} {no : Int} {a b o : Nat} {u v : List Bool} {w g : Nat} {x y z : Int} {Q : Int → gaH → Prop}
theorem mJ.at {xs : List Int} (r : mJ h a xs) {i : Nat} {c : Int} (hx : x = (i : Int)) (hi : xs[i]? = some c) (hl : i ≤ 1000) {K : Int → Prop} (k : K c) : gLI h a 102 x K := by
  subst hx
  exact gLI_mk r (by omega) (by omega) (by rw [Int.toNat_natCast, List.getElem?_map, hi]; rfl) k
theorem mJ.on {xs : List Int} {h' : gaH} (r : mJ h a xs) (k : mK h h') : mJ h' a xs := k _ _ r
theorem r_isApartRule (hx : 2 ≤ x ∧ x ≤ 31) (hy : 2 ≤ y ∧ y ≤ 31) (k : ∀ h', mK h h' → Q (b2i (decide (unlike (codeW x.toNat) (codeW y.toNat) ≠ -1))) h') : w_X7_isApartRule x y h Q := by
  obtain ⟨c, rfl⟩ : ∃ w : Nat, x = w := ⟨x.toNat, by omega⟩
  obtain ⟨e, rfl⟩ : ∃ w : Nat, y = w := ⟨y.toNat, by omega⟩
  simp only [Int.toNat_natCast] at k
  have l1 := (code_ok c (by omega) (by omega)).2
  have l2 := (code_ok e (by omega) (by omega)).2
  unfold w_X7_isApartRule
  refine gCall_mk (by decide) (by decide) (r_ofCode (c := c) rfl (by omega) (by omega) (fun p h1 f1 => gCall_mk (by decide) (by decide) (r_ofCode (c := e) rfl (by omega) (by omega) (fun q h2 f2 => ?_))))
  have rp := f1.2.2.on f2.2.1
  have rq := f2.2.2
  refine rp.len (rp.len (gCall_mk (by decide) (by decide) (r_spliced rp rq rfl rfl (Nat.le_refl _) (Nat.le_refl _) (by omega) (by omega) (fun o h3 f3 => ?_))))
  have rp3 := rp.on f3.2.1
  have rq3 := rq.on f3.2.1
  refine rq3.len (rq3.len (gCall_mk (by decide) (by decide) (r_spliced rq3 rp3 rfl rfl (Nat.le_refl _) (Nat.le_refl _) (by omega) (by omega) (fun o2 h4 f4 => ?_))))
  have ra := f3.2.2.on f4.2.1
  have rb := f4.2.2
  simp only [List.take_length, List.drop_length, List.append_nil] at ra rb
  refine r_areSame ra rb (by simp; omega) (by simp; omega) ⟨b2i_R _, ?_⟩
  have kk := k h4 (f1.2.1.tr (f2.2.1.tr (f3.2.1.tr f4.2.1)))
  rw [unlike_dec] at kk
  generalize decide (codeW c ++ codeW e = codeW e ++ codeW c) = t at kk ⊢
  cases t
  · exact if_yes rfl kk
  · exact if_no (by decide) kk
theorem r_isApart (d : gM B h st no) (hx : gR x) (hy : gR y) (k : mRes B h Q (m_isApart st x y)) : w_X7_isApart (B 0) x y h Q := by
  unfold w_X7_isApart
  refine r_isNoRule hx hy ⟨d.has, r_start d rfl (by decide) (fun q h1 d1 f1 => ?_) (fun q h1 d1 f1 => ?_)⟩
  · have q1 := nd q
    rw [m_isApart, if_pos q1] at k
    refine ⟨by decide, if_yes rfl (gCall_mk (by decide) (by decide) (r_isApartRule q1.1 q1.2 (fun h2 k2 => ⟨b2i_R _, ?_⟩)))⟩
    have kk := fun r hr => k.ok (r := r) (d1.kp k2) (f1.tr (mF.kp k2)) hr
    generalize decide (unlike (codeW x.toNat) (codeW y.toNat) ≠ -1) = t at kk ⊢
    cases t
    · exact if_yes rfl (kk _ rfl)
    · exact if_no (by decide) (kk _ rfl)
  · rw [m_isApart, if_neg (nn q)] at k
    exact ⟨by decide, if_no (by decide) (k.ex d1 f1)⟩
theorem r_flag {X Y m : List Bool} {c : Nat} {xs : List Int} (ru : mR h a u) (rm : mR h c m) (ro : mJ h o xs) (hX : 0 < X.length) (hY : 0 < Y.length) (hm : 0 < m.length) (hul : u.length ≤ 64) (hml : m.length ≤ 1000) {j : Nat} (hj : j < u.length) (hxs : ∀ i, j < i → i < u.length → xs[i]? = some (stepv X Y u i)) {F0 F1 : gaH → Prop} (k1 : (stands u m j && okR X Y u (j + m.length)) = true → F1 h) (k0 : (stands u m j && okR X Y u (j + m.length)) = false → F0 h) :
    w_X7_standsAt a c (j : Int) h (fun r2 hp1 => gR r2 ∧ (if r2 = 0 then F0 hp1 else gAL hp1 c 102 (fun r3 => gAL hp1 a 102 (fun r4 => gR ((j : Int) + r3) ∧ gR r4 ∧ (if ((j : Int) + r3) = r4 then F1 hp1 else gAL hp1 c 102 (fun r5 => gLI hp1 o 102 ((j : Int) + r5) (fun r6 => gR r6 ∧ (if r6 ≤ 0 then F0 hp1 else F1 hp1)))))))) := by
  refine r_standsAt ru rm rfl (by omega) (by omega) hml ⟨b2i_R _, ?_⟩
  cases e : stands u m j
  · rw [e] at k0; exact if_yes rfl (k0 rfl)
  · rw [e, Bool.true_and] at k0 k1
    have hle := stands_le e
    refine if_no (by decide) (rm.len (ru.len ⟨by omega, by omega, ?_⟩))
    by_cases q : j + m.length = u.length
    · refine if_yes (by omega) (k1 ?_)
      rw [q, okR_at hX hY, decide_eq_true rfl, Bool.true_or]
    · have sp := stepv_pos hX hY (show j + m.length < u.length by omega)
      have sr := stepv_R X Y u (j + m.length)
      refine if_no (by omega) (rm.len (ro.at (i := j + m.length) (by omega) (hxs _ (by omega) (by omega)) (by omega) ⟨by omega, ?_⟩))
      by_cases z : stepv X Y u (j + m.length) ≤ 0
      · refine if_yes z (k0 ?_)
        cases e2 : okR X Y u (j + m.length)
        · rfl
        · exact absurd (sp.mpr e2) (by omega)
      · exact if_no z (k1 (sp.mp (by omega)))
theorem r_steps_L13 {Q : Nat → gaH → Prop} {X Y : List Bool} {p q : Nat} (ru : mR h0 a u) (rX : mR h0 p X) (rY : mR h0 q Y) (hX : 0 < X.length) (hY : 0 < Y.length) (hXl : X.length ≤ 100) (hYl : Y.length ≤ 100) (hul : u.length ≤ 64) (ho : h0 o = none) (k : ∀ h' xs, mK h0 h' → mJ h' o xs → (∀ i, i < u.length → xs[i]? = some (stepv X Y u i)) → Q o h') {kc ks : Nat} : ∀ (z j : Nat) (h : gaH) (xs : List Int), mK h0 h → mJ h o xs → xs.length = u.length + 1 → (∀ i, j ≤ i → i < u.length → xs[i]? = some (stepv X Y u i)) → j ≤ u.length → j < z → w_X7_steps_L13 Q z a p q o ((j : Int) - 1) h kc ks
  | 0, _, _, _, _, _, _, _, _, h9 => absurd h9 (Nat.not_lt_zero _)
  | z + 1, j, h, xs, kp, rx, hxl, hxs, hj, h9 => by
    unfold w_X7_steps_L13
    refine ⟨by omega, ?_⟩
    by_cases q0 : j = 0
    · subst q0
      exact if_yes (by decide) (k h xs kp rx (fun i hi => hxs i (Nat.zero_le _) hi))
    · refine if_no (by omega) ?_
      have ej : (j : Int) - 1 = ((j - 1 : Nat) : Int) := by omega
      rw [ej]
      have fin : ∀ c : Int, c = stepv X Y u (j - 1) → w_X7_steps_J114 Q (w_X7_steps_L13 Q z) a p q o ((j - 1 : Nat) : Int) o ((j - 1 : Nat) : Int) c h kc ks := by
        intro c hc
        unfold w_X7_steps_J114
        refine gSI_mk rx (by omega) (by omega) (by rw [Int.toNat_natCast]; simp; omega) ?_
        rw [Int.toNat_natCast, ← List.map_set, show ((j - 1 : Nat) : Int) + -1 = ((j - 1 : Nat) : Int) - 1 by omega]
        refine r_steps_L13 ru rX rY hX hY hXl hYl hul ho k z (j - 1) _ (xs.set (j - 1) c) (kp.up ho _) (gaUp_self _ _ _) (by simpa using hxl) (fun i h1 h2 => ?_) (by omega) (by omega)
        by_cases e : i = j - 1
        · rw [e, List.getElem?_set_self (by omega), hc]
        · rw [List.getElem?_set_ne (by omega)]; exact hxs i (by omega) h2
      have hx2 : ∀ i, j - 1 < i → i < u.length → xs[i]? = some (stepv X Y u i) := fun i h1 h2 => hxs i (by omega) h2
      have second : ∀ t : Bool, t = (stands u X (j - 1) && okR X Y u (j - 1 + X.length)) → w_X7_steps_J53 Q (w_X7_steps_L13 Q z) a p q o ((j - 1 : Nat) : Int) (b2i t) h kc ks := by
        intro t ht
        unfold w_X7_steps_J53
        refine r_flag (X := X) (Y := Y) (F0 := fun hp => w_X7_steps_J89 Q (w_X7_steps_L13 Q z) a p q o ((j - 1 : Nat) : Int) (b2i t) hp kc ks) (F1 := fun hp => w_X7_steps_J85 Q (w_X7_steps_L13 Q z) a p q o ((j - 1 : Nat) : Int) (b2i t) hp kc ks) (ru.on kp) (rY.on kp) rx hX hY hY hul (by omega) (by omega) hx2 (fun e => ?_) (fun e => ?_)
        · unfold w_X7_steps_J85 w_X7_steps_J90
          refine ⟨b2i_R _, ?_⟩
          cases t
          · refine if_yes rfl ⟨by decide, if_no (by decide) (fin 2 ?_)⟩
            unfold stepv; rw [← ht, e]; rfl
          · refine if_no (by decide) (fin 1 ?_)
            unfold stepv; rw [← ht]; rfl
        · unfold w_X7_steps_J89 w_X7_steps_J90
          refine ⟨b2i_R _, ?_⟩
          cases t
          · refine if_yes rfl ⟨by decide, if_yes rfl (fin 0 ?_)⟩
            unfold stepv; rw [← ht, e]; rfl
          · refine if_no (by decide) (fin 1 ?_)
            unfold stepv; rw [← ht]; rfl
      refine r_flag (X := X) (Y := Y) (F0 := fun hp => w_X7_steps_J52 Q (w_X7_steps_L13 Q z) a p q o ((j - 1 : Nat) : Int) hp kc ks) (F1 := fun hp => w_X7_steps_J48 Q (w_X7_steps_L13 Q z) a p q o ((j - 1 : Nat) : Int) hp kc ks) (ru.on kp) (rX.on kp) rx hX hY hX hul (by omega) (by omega) hx2 (fun e => second true e.symm) (fun e => second false e.symm)
theorem r_steps {Q : Nat → gaH → Prop} {X Y : List Bool} {p q : Nat} (ru : mR h a u) (rX : mR h p X) (rY : mR h q Y) (hX : 0 < X.length) (hY : 0 < Y.length) (hXl : X.length ≤ 100) (hYl : Y.length ≤ 100) (hul : u.length ≤ 64) (k : ∀ h' o xs, mK h h' → h o = none → mJ h' o xs → (∀ i, i < u.length → xs[i]? = some (stepv X Y u i)) → Q o h') : w_X7_steps a p q h Q := by
  unfold w_X7_steps
  refine ru.len (gNA_mk (n := u.length + 1) (by omega) (by omega) (by decide) (by omega) (fun o ho => ?_))
  have kp := (mK.rf (h := h)).up ho (102, List.replicate (u.length + 1) (gi 0))
  refine (ru.on kp).len ⟨66, ?_⟩
  exact r_steps_L13 ru rX rY hX hY hXl hYl hul ho (fun h' xs k' r' e => k h' o xs k' ho r' e) 66 u.length _ (List.replicate (u.length + 1) 0) kp (by unfold mJ; rw [gaUp_self]; simp) (by simp) (fun i h1 h2 => by omega) (Nat.le_refl _) (by omega)
end RU
/-! The reference: undo, the walk. -/
section RV
variable {B : Nat → Nat} {h h0 : gaH} {st : GSt} {no : Int} {a b o : Nat} {u v : List Bool} {w g : Nat} {x y z : Int} {Q : Int → gaH → Prop}
theorem walk_step {X Y u : List Bool} (hX : 0 < X.length) (hY : 0 < Y.length) {j : Nat} (hj : j < u.length) (hok : okR X Y u j = true) : (stepv X Y u j = 1 ∧ walkR X Y u j = false :: walkR X Y u (j + X.length) ∧ okR X Y u (j + X.length) = true ∧ j + X.length ≤ u.length) ∨ (stepv X Y u j = 2 ∧ walkR X Y u j = true :: walkR X Y u (j + Y.length) ∧ okR X Y u (j + Y.length) = true ∧ j + Y.length ≤ u.length) := by
  rw [okR_at hX hY j, decide_eq_false (by omega), Bool.false_or] at hok
  rw [walkR, dif_pos ⟨hj, hX, hY⟩]
  unfold stepv
  cases e1 : stands u X j && okR X Y u (j + X.length)
  · rw [e1, Bool.false_or] at hok
    right
    rw [if_neg (by decide), if_pos hok]
    rw [Bool.and_eq_true] at hok
    exact ⟨rfl, rfl, hok.2, stands_le hok.1⟩
  · left
    rw [Bool.and_eq_true] at e1
    exact ⟨rfl, rfl, e1.2, stands_le e1.1⟩
theorem walk_end {X Y u : List Bool} {j : Nat} (hj : u.length ≤ j) : walkR X Y u j = [] := by
  rw [walkR, dif_neg (by omega)]
theorem walk_len {X Y u : List Bool} (hX : 0 < X.length) (hY : 0 < Y.length) : ∀ (n j : Nat), u.length - j ≤ n → (walkR X Y u j).length ≤ u.length - j
  | 0, j, h => by rw [walk_end (by omega)]; exact Nat.zero_le _
  | n + 1, j, h => by
    by_cases q : u.length ≤ j
    · rw [walk_end q]; exact Nat.zero_le _
    · rw [walkR, dif_pos ⟨by omega, hX, hY⟩]
      split
      · have := walk_len (u := u) (X := X) (Y := Y) hX hY n (j + X.length) (by omega)
        rw [List.length_cons]; omega
      · have := walk_len (u := u) (X := X) (Y := Y) hX hY n (j + Y.length) (by omega)
        rw [List.length_cons]; omega
theorem r_undo_L152 {h0 : gaH} (d0 : gM B h0 st 0) (hw : w < 3) {X Y : List Bool} {p q r : Nat} {xs : List Int} (ru : mR h0 a (st.S w)) (rX : mR h0 p X) (rY : mR h0 q Y) (rs : mJ h0 r xs) (hX : 0 < X.length) (hY : 0 < Y.length) (hxs : ∀ i, i < (st.S w).length → xs[i]? = some (stepv X Y (st.S w) i)) {t : List Bool} (ht : t.length ≤ 64) (k : mRes B h0 Q (done (st.sheet w t) (t.length : Int))) {kc ks : Nat} : ∀ (z j c : Nat) (h : gaH), fil h0 h o (pf t c) → j ≤ (st.S w).length → (st.S w).length - j < z → okR X Y (st.S w) j = true → c ≤ t.length → t.drop c = walkR X Y (st.S w) j → w_X7_undo_L152 Q z (B 0) (w : Int) a p q r o (c : Int) (j : Int) h kc ks
  | 0, _, _, _, _, _, h9, _, _, _ => absurd h9 (Nat.not_lt_zero _)
  | z + 1, j, c, h, fl, hj, h9, hok, hc, hd => by
    have hl := d0.sl hw
    have d := d0.kp fl.2.1
    unfold w_X7_undo_L152
    refine (ru.on fl.2.1).len ⟨by omega, by omega, ?_⟩
    by_cases q1 : (st.S w).length ≤ j
    · rw [walk_end q1] at hd
      have hlen : t.length - c = 0 := by rw [← List.length_drop, hd]; rfl
      obtain rfl : c = t.length := by omega
      rw [pf_end] at fl
      exact if_yes (by omega) ⟨d.has, r_comes d hw rfl fl.2.2 ht (d0.new fl.1) (fun h2 d2 f2 => k.ok d2 ((mF.kp fl.2.1).tr f2) rfl)⟩
    · have hx := hxs j (by omega)
      have cl : ∀ (bb : Bool) (rest : List Bool), walkR X Y (st.S w) j = bb :: rest → c < t.length ∧ t.getD c false = bb ∧ t.drop (c + 1) = rest := fun bb rest e => by
        rw [e] at hd
        have hlen : t.length - c = rest.length + 1 := by rw [← List.length_drop, hd]; rfl
        have hc2 : c < t.length := by omega
        rw [take_one hc2] at hd
        exact ⟨hc2, (List.cons.inj hd).1, (List.cons.inj hd).2⟩
      refine if_no (by omega) ((rs.on fl.2.1).at rfl hx (by omega) ?_)
      rcases walk_step hX hY (show j < (st.S w).length by omega) hok with ⟨e1, e2, e3, e4⟩ | ⟨e1, e2, e3, e4⟩
      · obtain ⟨c1, c2, c3⟩ := cl _ _ e2
        rw [e1]
        refine fl.set (b := false) rfl (by rw [pf_len hc]; exact c1) (by rw [pf_len hc]; omega) rfl (fun h3 f3 => (rs.on f3.2.1).at rfl hx (by omega) ?_)
        rw [← c2, pf_set c1] at f3
        rw [e1]
        refine ⟨by decide, if_yes rfl ((rX.on f3.2.1).len ?_)⟩
        rw [show (c : Int) + 1 = ((c + 1 : Nat) : Int) by omega, show (j : Int) + (X.length : Int) = ((j + X.length : Nat) : Int) by omega]
        exact r_undo_L152 d0 hw ru rX rY rs hX hY hxs ht k z (j + X.length) (c + 1) h3 f3 e4 (by omega) e3 (by omega) c3
      · obtain ⟨c1, c2, c3⟩ := cl _ _ e2
        rw [e1]
        refine fl.set (b := true) rfl (by rw [pf_len hc]; exact c1) (by rw [pf_len hc]; omega) rfl (fun h3 f3 => (rs.on f3.2.1).at rfl hx (by omega) ?_)
        rw [← c2, pf_set c1] at f3
        rw [e1]
        refine ⟨by decide, if_no (by decide) ((rY.on f3.2.1).len ?_)⟩
        rw [show (c : Int) + 1 = ((c + 1 : Nat) : Int) by omega, show (j : Int) + (Y.length : Int) = ((j + Y.length : Nat) : Int) by omega]
        exact r_undo_L152 d0 hw ru rX rY rs hX hY hxs ht k z (j + Y.length) (c + 1) h3 f3 e4 (by omega) e3 (by omega) c3
theorem r_undo_L103 (d0 : gM B h st 0) (hw : w < 3) {X Y : List Bool} {p q r : Nat} {xs : List Int} (ru : mR h a (st.S w)) (rX : mR h p X) (rY : mR h q Y) (rs : mJ h r xs) (hX : 0 < X.length) (hY : 0 < Y.length) (hxs : ∀ i, i < (st.S w).length → xs[i]? = some (stepv X Y (st.S w) i)) (h0k : okR X Y (st.S w) 0 = true) (k : mRes B h Q (done (st.sheet w (walkR X Y (st.S w) 0)) ((walkR X Y (st.S w) 0).length : Int))) : ∀ (z j c : Nat), j ≤ (st.S w).length → (st.S w).length - j < z → okR X Y (st.S w) j = true → c + (walkR X Y (st.S w) j).length = (walkR X Y (st.S w) 0).length → w_X7_undo_L103 Q z (B 0) (w : Int) a p q r (c : Int) (j : Int) h 1 64
  | 0, _, _, _, h9, _, _ => absurd h9 (Nat.not_lt_zero _)
  | z + 1, j, c, hj, h9, hok, hc => by
    have hl := d0.sl hw
    have hwl := walk_len (X := X) (Y := Y) (u := st.S w) hX hY _ 0 (Nat.le_refl _)
    unfold w_X7_undo_L103
    refine ru.len ⟨by omega, by omega, ?_⟩
    by_cases q1 : (st.S w).length ≤ j
    · rw [walk_end q1, List.length_nil, Nat.add_zero] at hc
      refine if_yes (by omega) (fil.new (n := c) rfl (by omega) (by decide) (by omega) (fun o h1 f1 => ⟨66, ?_⟩))
      refine r_undo_L152 d0 hw ru rX rY rs hX hY hxs (by omega) k 66 0 0 h1 ?_ (Nat.zero_le _) (by omega) h0k (Nat.zero_le _) rfl
      rw [pf_0, ← hc]; exact f1
    · refine if_no (by omega) (rs.at rfl (hxs j (by omega)) (by omega) ?_)
      rcases walk_step hX hY (show j < (st.S w).length by omega) hok with ⟨e1, e2, e3, e4⟩ | ⟨e1, e2, e3, e4⟩
      · rw [e1]
        rw [e2, List.length_cons] at hc
        refine ⟨by decide, if_yes rfl (rX.len ?_)⟩
        rw [show (c : Int) + 1 = ((c + 1 : Nat) : Int) by omega, show (j : Int) + (X.length : Int) = ((j + X.length : Nat) : Int) by omega]
        exact r_undo_L103 d0 hw ru rX rY rs hX hY hxs h0k k z (j + X.length) (c + 1) e4 (by omega) e3 (by omega)
      · rw [e1]
        rw [e2, List.length_cons] at hc
        refine ⟨by decide, if_no (by decide) (rY.len ?_)⟩
        rw [show (c : Int) + 1 = ((c + 1 : Nat) : Int) by omega, show (j : Int) + (Y.length : Int) = ((j + Y.length : Nat) : Int) by omega]
        exact r_undo_L103 d0 hw ru rX rY rs hX hY hxs h0k k z (j + Y.length) (c + 1) e4 (by omega) e3 (by omega)
theorem r_undo (d : gM B h st no) (hx : gR x) (hy : gR y) (hz : gR z) (k : mRes B h Q (m_undo st x y z)) : w_X7_undo (B 0) x y z h Q := by
  unfold w_X7_undo
  refine r_isNoSheet hx ⟨d.has, r_start d rfl (by decide) (fun q h1 d1 f1 => ?_) (fun q h1 d1 f1 => ?_)⟩
  · have q1 := nd q
    rw [m_undo, if_pos q1] at k
    refine ⟨by decide, if_yes rfl (r_isNoRule hy hz ⟨d1.has, r_refuse d1 rfl (by decide) (fun q => ?_) (fun q h2 d2 f2 => ?_)⟩)⟩
    · have q2 := nd q
      rw [if_pos q2] at k
      refine ⟨by decide, if_yes rfl (gCall_mk (by decide) (by decide) (r_isApartRule q2.1 q2.2 (fun h2 k2 => sel (fun t => w_X7_undo_J39 Q (B 0) x y z (B 0) t h2 (8 - 4) (450 - 288)) ?_)))⟩
      have d2 := d1.kp k2
      have f2 := f1.tr (mF.kp k2)
      unfold w_X7_undo_J39
      refine ⟨d2.has, r_refuse d2 rfl (by decide) (fun q => ?_) (fun q h3 d3 f3 => ?_)⟩
      · have q3 := nd q
        rw [if_pos q3] at k
        obtain ⟨w, rfl⟩ : ∃ w : Nat, x = w := ⟨x.toNat, by omega⟩
        obtain ⟨c, rfl⟩ : ∃ w : Nat, y = w := ⟨y.toNat, by omega⟩
        obtain ⟨e, rfl⟩ : ∃ w : Nat, z = w := ⟨z.toNat, by omega⟩
        simp only [Int.toNat_natCast] at k
        have hw : w < 3 := by omega
        have hl := d2.sl hw
        have l1 := code_ok c (by omega) (by omega)
        have l2 := code_ok e (by omega) (by omega)
        refine ⟨by decide, if_yes rfl (d2.f0 (d2.sh rfl hw (fun a ra na => gCall_mk (by decide) (by decide) (r_ofCode (c := c) rfl (by omega) (by omega) (fun p h3 g3 => gCall_mk (by decide) (by decide) (r_ofCode (c := e) rfl (by omega) (by omega) (fun q h4 g4 => gCall_mk (by decide) (by decide) ?_)))))))⟩
        have k4 := g3.2.1.tr g4.2.1
        refine r_steps (ra.on k4) (g3.2.2.on g4.2.1) g4.2.2 l1.1 l2.1 (by omega) (by omega) hl (fun h5 r xs k5 n5 rs hxs => ?_)
        have k6 := k4.tr k5
        have d5 := d2.kp k6
        have ra5 := ra.on k6
        have rp5 := (g3.2.2.on g4.2.1).on k5
        have rq5 := g4.2.2.on k5
        have f5 := f2.tr (mF.kp k6)
        have go : okR (codeW c) (codeW e) (st.S w) 0 = true → w_X7_undo_L103 Q 66 (B 0) (w : Int) a p q r ((0 : Nat) : Int) ((0 : Nat) : Int) h5 1 64 := fun h0k => by
          rw [if_pos h0k] at k
          exact r_undo_L103 d5 hw ra5 rp5 rq5 rs l1.1 l2.1 hxs h0k (k.on f5) 66 0 0 (Nat.zero_le _) (by omega) h0k (Nat.zero_add _)
        refine ra5.len ⟨by omega, ?_⟩
        by_cases z0 : (st.S w).length = 0
        · refine if_yes (by omega) ⟨66, go ?_⟩
          rw [okR_at l1.1 l2.1, decide_eq_true (by omega), Bool.true_or]
        · have sp := stepv_pos (u := st.S w) l1.1 l2.1 (show 0 < (st.S w).length by omega)
          have sr := stepv_R (codeW c) (codeW e) (st.S w) 0
          refine if_no (by omega) (rs.at (i := 0) rfl (hxs 0 (by omega)) (by omega) ⟨by omega, ?_⟩)
          by_cases z1 : stepv (codeW c) (codeW e) (st.S w) 0 = 0
          · have hno : ¬ (okR (codeW c) (codeW e) (st.S w) 0 = true) := fun z2 => by have := sp.mpr z2; omega
            rw [if_neg hno] at k
            exact if_yes z1 ⟨d5.has, r_cannot d5 (fun h6 d6 f6 => k.ok d6 (f5.tr f6) rfl)⟩
          · exact if_no z1 ⟨66, go (sp.mp (by omega))⟩
      · rw [if_neg (nn q)] at k
        exact ⟨by decide, if_no (by decide) (k.ex d3 (f2.tr f3))⟩
    · rw [if_neg (nn q)] at k
      exact ⟨by decide, if_no (by decide) (k.ex d2 (f1.tr f2))⟩
  · rw [m_undo, if_neg (nn q)] at k
    exact ⟨by decide, if_no (by decide) (k.ex d1 f1)⟩
end RV
/-! What is asked of the reference: the exact ones. -/
section RQ
variable {B : Nat → Nat} {h h0 : gaH} {st : GSt} {no : Int} {a b o : Nat} {u v : List Bool} {w g : Nat} {x y z : Int} {Q : Int → gaH → Prop}
theorem r_length (d : gM B h st no) (hx : gR x) (k : mRes B h Q (m_length st x)) : w_X7_length (B 0) x h Q := by
  unfold w_X7_length
  refine r_isNoSheet hx ⟨d.has, r_start d rfl (by decide) (fun q h1 d1 f1 => ?_) (fun q h1 d1 f1 => ?_)⟩
  · have q1 := nd q
    rw [m_length, if_pos q1] at k
    obtain ⟨w, rfl⟩ : ∃ w : Nat, x = w := ⟨x.toNat, by omega⟩
    exact ⟨by decide, if_yes rfl (d1.f0 (d1.sh rfl (by omega) (fun a ra na => ra.len (k.ok d1 f1 (by rw [Int.toNat_natCast])))))⟩
  · rw [m_length, if_neg (nn q)] at k
    exact ⟨by decide, if_no (by decide) (k.ex d1 f1)⟩
theorem r_isB (d : gM B h st no) (hx : gR x) (hy : gR y) (k : mRes B h Q (m_isB st x y)) : w_X7_isB (B 0) x y h Q := by
  unfold w_X7_isB
  refine ⟨d.has, r_isNoPlace d hx hy ⟨d.has, r_start d rfl (by decide) (fun q h1 d1 f1 => ?_) (fun q h1 d1 f1 => ?_)⟩⟩
  · obtain ⟨q1, q2⟩ := nd q
    rw [m_isB, if_pos q1, if_pos q2] at k
    obtain ⟨w, rfl⟩ : ∃ w : Nat, x = w := ⟨x.toNat, by omega⟩
    obtain ⟨p, rfl⟩ : ∃ p : Nat, y = p := ⟨y.toNat, by omega⟩
    simp only [Int.toNat_natCast] at k q2
    have hl := d1.sl (show w < 3 by omega)
    refine ⟨by decide, if_yes rfl (d1.f0 (d1.sh rfl (by omega) (fun a ra na => ra.at rfl (by omega) (by omega) ⟨b2i_R _, ?_⟩)))⟩
    have kk := fun r hr => k.ok (r := r) d1 f1 hr
    generalize (st.S w).getD p false = t at kk ⊢
    cases t
    · exact if_no (by decide) (kk _ rfl)
    · exact if_yes rfl (kk _ rfl)
  · have q1 := nn q
    have e : m_isB st x y = bad 1 st := by
      unfold m_isB
      by_cases z1 : okS x
      · rw [if_pos z1, if_neg (fun z2 => q1 ⟨z1, z2⟩)]
      · rw [if_neg z1]
    rw [e] at k
    exact ⟨by decide, if_no (by decide) (k.ex d1 f1)⟩
theorem r_count {b : Bool} (d : gM B h st no) (hx : gR x) (hy : y = b2i b) (k : mRes B h Q (m_count st x b)) : w_X7_count (B 0) x y h Q := by
  subst hy
  unfold w_X7_count
  refine r_isNoSheet hx ⟨d.has, r_start d rfl (by decide) (fun q h1 d1 f1 => ?_) (fun q h1 d1 f1 => ?_)⟩
  · have q1 := nd q
    rw [m_count, if_pos q1] at k
    obtain ⟨w, rfl⟩ : ∃ w : Nat, x = w := ⟨x.toNat, by omega⟩
    rw [Int.toNat_natCast] at k
    have hl := d1.sl (show w < 3 by omega)
    refine ⟨by decide, if_yes rfl (d1.f0 (d1.sh rfl (by omega) (fun a ra na => r_bs ra (by omega) ⟨b2i_R _, ?_⟩)))⟩
    cases b
    · exact if_yes rfl (d1.f0 (d1.sh rfl (by omega) (fun c rc nc => rc.len (k.ok d1 f1 rfl))))
    · exact if_no (by decide) (k.ok d1 f1 rfl)
  · rw [m_count, if_neg (nn q)] at k
    exact ⟨by decide, if_no (by decide) (k.ex d1 f1)⟩
theorem r_size {b : Bool} (d : gM B h st no) (hx : gR x) (hy : y = b2i b) (k : mRes B h Q (m_size st x b)) : w_X7_size (B 0) x y h Q := by
  unfold w_X7_size
  refine r_isNoGrowth hx ⟨d.has, r_start d rfl (by decide) (fun q h1 d1 f1 => ?_) (fun q h1 d1 f1 => ?_)⟩
  · have q1 := nd q
    rw [m_size, if_pos q1] at k
    obtain ⟨g, rfl⟩ : ∃ w : Nat, x = w := ⟨x.toNat, by omega⟩
    rw [Int.toNat_natCast] at k
    exact ⟨by decide, if_yes rfl ⟨d1.has, gCall_mk (by decide) (by decide) (r_word d1 (show g < 2 by omega) rfl hy (fun h2 o k2 n2 r2 => r2.len (k.ok (d1.kp k2) (f1.tr (mF.kp k2)) rfl)))⟩⟩
  · rw [m_size, if_neg (nn q)] at k
    exact ⟨by decide, if_no (by decide) (k.ex d1 f1)⟩
theorem gWd_le {ts : List Nat} (hok : gOk ts) (b : Bool) : (gWd ts b).length ≤ 64 := by
  unfold gWd
  split
  · exact hok.elder
  · exact hok.2
theorem r_ups {b : Bool} (d : gM B h st no) (hx : gR x) (hy : y = b2i b) (k : mRes B h Q (m_ups st x b)) : w_X7_ups (B 0) x y h Q := by
  unfold w_X7_ups
  refine r_isNoGrowth hx ⟨d.has, r_start d rfl (by decide) (fun q h1 d1 f1 => ?_) (fun q h1 d1 f1 => ?_)⟩
  · have q1 := nd q
    rw [m_ups, if_pos q1] at k
    obtain ⟨g, rfl⟩ : ∃ w : Nat, x = w := ⟨x.toNat, by omega⟩
    rw [Int.toNat_natCast] at k
    have hl := gWd_le (d1.ok (show g < 2 by omega)) b
    exact ⟨by decide, if_yes rfl ⟨d1.has, gCall_mk (by decide) (by decide) (r_word d1 (show g < 2 by omega) rfl hy (fun h2 o k2 n2 r2 => r_bs r2 (by omega) (k.ok (d1.kp k2) (f1.tr (mF.kp k2)) rfl)))⟩⟩
  · rw [m_ups, if_neg (nn q)] at k
    exact ⟨by decide, if_no (by decide) (k.ex d1 f1)⟩
theorem r_cross (d : gM B h st no) (hx : gR x) (k : mRes B h Q (m_cross st x)) : w_X7_cross (B 0) x h Q := by
  unfold w_X7_cross
  refine r_isNoGrowth hx ⟨d.has, r_start d rfl (by decide) (fun q h1 d1 f1 => ?_) (fun q h1 d1 f1 => ?_)⟩
  · have q1 := nd q
    rw [m_cross, if_pos q1] at k
    obtain ⟨g, rfl⟩ : ∃ w : Nat, x = w := ⟨x.toNat, by omega⟩
    rw [Int.toNat_natCast] at k
    have hok := d1.ok (show g < 2 by omega)
    have l1 := hok.2
    have l2 := hok.elder
    refine ⟨by decide, if_yes rfl ⟨d1.has, gCall_mk (by decide) (by decide) (r_word (b := false) d1 (show g < 2 by omega) rfl rfl (fun h2 o k2 n2 r2 => ⟨(d1.kp k2).has, gCall_mk (by decide) (by decide) (r_word (b := true) (d1.kp k2) (show g < 2 by omega) rfl rfl (fun h3 o3 k3 n3 r3 => ?_))⟩))⟩⟩
    exact r_crossOf (u := (grw (st.T g)).2) (v := (grw (st.T g)).1) (r2.on k3) r3 (by omega) (by omega) (k.ok (d1.kp (k2.tr k3)) (f1.tr (mF.kp (k2.tr k3))) rfl)
  · rw [m_cross, if_neg (nn q)] at k
    exact ⟨by decide, if_no (by decide) (k.ex d1 f1)⟩
theorem r_alike (d : gM B h st no) (hx : gR x) (k : mRes B h Q (m_alike st x)) : w_X7_alike (B 0) x h Q := by
  unfold w_X7_alike
  refine r_isNoGrowth hx ⟨d.has, r_start d rfl (by decide) (fun q h1 d1 f1 => ?_) (fun q h1 d1 f1 => ?_)⟩
  · have q1 := nd q
    rw [m_alike, if_pos q1] at k
    obtain ⟨g, rfl⟩ : ∃ w : Nat, x = w := ⟨x.toNat, by omega⟩
    rw [Int.toNat_natCast] at k
    have hok := d1.ok (show g < 2 by omega)
    refine ⟨by decide, if_yes rfl ⟨d1.has, gCall_mk (by decide) (by decide) (r_word (b := false) d1 (show g < 2 by omega) rfl rfl (fun h2 o k2 n2 r2 => ⟨(d1.kp k2).has, gCall_mk (by decide) (by decide) (r_word (b := true) (d1.kp k2) (show g < 2 by omega) rfl rfl (fun h3 o3 k3 n3 r3 => gCall_mk (by decide) (by decide) ?_))⟩))⟩⟩
    exact r_alikeOf (u := (grw (st.T g)).2) (v := (grw (st.T g)).1) (r2.on k3) r3 hok.2 hok.elder (grw_alike _) (fun h4 k4 => k.ok (d1.kp (k2.tr (k3.tr k4))) (f1.tr (mF.kp (k2.tr (k3.tr k4)))) rfl)
  · rw [m_alike, if_neg (nn q)] at k
    exact ⟨by decide, if_no (by decide) (k.ex d1 f1)⟩
theorem r_told (d : gM B h st no) (hx : 0 ≤ x ∧ x ≤ 3) (k : Q (st.C x.toNat) h) : w_X7_told (B 0) x h Q := by
  unfold w_X7_told
  refine ⟨by omega, ?_⟩
  by_cases c0 : x = 0
  · subst c0; exact if_yes rfl (d.cn (i := 0) rfl (by decide) k)
  refine if_no c0 ⟨by omega, ?_⟩
  by_cases c1 : x = 1
  · subst c1; exact if_yes rfl (d.cn (i := 1) rfl (by decide) k)
  refine if_no c1 ⟨by omega, ?_⟩
  by_cases c2 : x = 2
  · subst c2; exact if_yes rfl (d.cn (i := 2) rfl (by decide) k)
  refine if_no c2 ?_
  obtain rfl : x = 3 := by omega
  exact d.cn (i := 3) rfl (by decide) k
theorem r_house (d : gM B h st no) (hx : gR x) (k : mRes B h Q (m_house st x)) : w_X7_house (B 0) x h Q := by
  unfold w_X7_house
  refine r_isIn hx (by decide) (by decide) (sel (fun t => w_X7_house_J15 Q (B 0) x (B 0) t h) ?_)
  unfold w_X7_house_J15
  refine ⟨d.has, r_start d rfl (by decide) (fun q h1 d1 f1 => ?_) (fun q h1 d1 f1 => ?_)⟩
  · have q1 := nd q
    rw [m_house, if_pos q1] at k
    exact ⟨by decide, if_yes rfl ⟨d1.has, r_told d1 q1 (k.ok d1 f1 rfl)⟩⟩
  · rw [m_house, if_neg (nn q)] at k
    exact ⟨by decide, if_no (by decide) (k.ex d1 f1)⟩
theorem r_order_L (rp : mR h a u) (rq : mR h b v) (hu : u.length ≤ 64) (hv : v.length ≤ 64) : ∀ (n i : Nat), i ≤ u.length → i ≤ v.length → u.length - i < n → Q (cmpL (u.drop i) (v.drop i)) h → w_X7_order_L47 Q n a b (i : Int) h
  | 0, i, _, _, h1, _ => absurd h1 (Nat.not_lt_zero _)
  | n + 1, i, hi, hj, h1, k => by
    have fin : (u.length ≤ i ∨ v.length ≤ i) → w_X7_order_J98 Q a b h := fun q => by
      unfold w_X7_order_J98
      refine rp.len (rq.len ⟨by omega, by omega, ?_⟩)
      by_cases q1 : v.length ≤ u.length
      · refine if_yes (by omega) (rp.len (rq.len ⟨by omega, by omega, ?_⟩))
        by_cases q2 : u.length ≤ v.length
        · refine if_yes (by omega) ?_
          rw [List.drop_of_length_le (show u.length ≤ i by omega), List.drop_of_length_le (show v.length ≤ i by omega)] at k
          exact k
        · refine if_no (by omega) ?_
          rw [List.drop_of_length_le (show v.length ≤ i by omega), take_one (u := u) (i := i) (by omega)] at k
          exact k
      · refine if_no (by omega) ?_
        rw [List.drop_of_length_le (show u.length ≤ i by omega), take_one (u := v) (i := i) (by omega)] at k
        exact k
    unfold w_X7_order_L47
    refine rp.len ⟨by omega, by omega, ?_⟩
    by_cases q : u.length ≤ i
    · exact if_yes (by omega) (fin (Or.inl q))
    refine if_no (by omega) (rq.len ⟨by omega, by omega, ?_⟩)
    by_cases q2 : v.length ≤ i
    · exact if_yes (by omega) (fin (Or.inr q2))
    refine if_no (by omega) (rp.at rfl (by omega) (by omega) (rq.at rfl (by omega) (by omega) ⟨b2i_R _, b2i_R _, ?_⟩))
    rw [take_one (u := u) (i := i) (by omega), take_one (u := v) (i := i) (by omega)] at k
    unfold cmpL at k
    by_cases z : u.getD i false = v.getD i false
    · rw [if_pos z] at k
      refine if_yes (congrArg b2i z) ?_
      rw [show (i : Int) + 1 = ((i + 1 : Nat) : Int) by omega]
      exact r_order_L rp rq hu hv n (i + 1) (by omega) (by omega) (by omega) k
    · rw [if_neg z] at k
      refine if_no (fun q9 => z ((b2i_eq _ _).mp q9)) (rp.at rfl (by omega) (by omega) (rq.at rfl (by omega) (by omega) ⟨b2i_R _, b2i_R _, ?_⟩))
      generalize u.getD i false = y1 at k z ⊢
      generalize v.getD i false = y2 at k z ⊢
      cases y1 <;> cases y2
      · exact absurd rfl z
      · exact if_no (by decide) k
      · exact if_yes (by decide) k
      · exact absurd rfl z
theorem r_order (d : gM B h st no) (hx : gR x) (hy : gR y) (k : mRes B h Q (m_order st x y)) : w_X7_order (B 0) x y h Q := by
  have bd : ¬ (okS x ∧ okS y) → w_X7_order_J20 Q (B 0) x y (B 0) 1 h := fun q => by
    have e : m_order st x y = bad 1 st := by
      unfold m_order
      by_cases q1 : okS x
      · rw [if_pos q1, if_neg (fun q2 => q ⟨q1, q2⟩)]
      · rw [if_neg q1]
    rw [e] at k
    unfold w_X7_order_J20
    exact ⟨d.has, r_start d (bd := true) rfl (by decide) (fun q => by cases q) (fun q h1 d1 f1 => ⟨by decide, if_no (by decide) (k.ex d1 f1)⟩)⟩
  unfold w_X7_order
  refine r_isNoSheet hx ⟨b2i_R _, ?_⟩
  by_cases q1 : okS x
  · rw [decide_eq_true q1]
    refine if_yes rfl (r_isNoSheet hy ⟨b2i_R _, ?_⟩)
    by_cases q2 : okS y
    · rw [decide_eq_true q2]
      refine if_yes rfl ?_
      rw [m_order, if_pos q1, if_pos q2] at k
      unfold w_X7_order_J20
      refine ⟨d.has, r_start d (bd := false) rfl (by decide) (fun q h1 d1 f1 => ⟨by decide, if_yes rfl ?_⟩) (fun q => by cases q)⟩
      obtain ⟨w, rfl⟩ : ∃ w : Nat, x = w := ⟨x.toNat, by omega⟩
      obtain ⟨v, rfl⟩ : ∃ v : Nat, y = v := ⟨y.toNat, by omega⟩
      rw [Int.toNat_natCast, Int.toNat_natCast] at k
      have l1 := d1.sl (show w < 3 by omega)
      have l2 := d1.sl (show v < 3 by omega)
      exact d1.f0 (d1.sh rfl (by omega) (fun a ra na => d1.f0 (d1.sh rfl (by omega) (fun c rc nc => ⟨66, r_order_L ra rc l1 l2 66 0 (Nat.zero_le _) (Nat.zero_le _) (by omega) (k.ok d1 f1 rfl)⟩))))
    · rw [decide_eq_false q2]
      exact if_no (by decide) (bd (fun z => q2 z.2))
  · rw [decide_eq_false q1]
    exact if_no (by decide) (bd (fun z => q1 z.1))
end RQ
/-! What is asked of the reference: as far as it goes through. -/
section RW2
variable {B : Nat → Nat} {h h0 : gaH} {st : GSt} {no : Int} {a b o : Nat} {u v : List Bool} {w g : Nat} {x y z : Int} {Q : Int → gaH → Prop}
theorem r_areLike_L (r : mR h a u) (hl : u.length ≤ 64) {p q l : Nat} (hp : p ≤ 500) (hq : q ≤ 500) (hll : l ≤ 500) (h0 : l = 0 ∨ 0 < u.length) (k : ∀ b : Bool, Q (b2i b) h) : ∀ (n i : Nat), i ≤ l → l - i < n → w_X7_areLike_L3 Q n a (p : Int) (q : Int) (l : Int) (i : Int) h
  | 0, _, _, h9 => absurd h9 (Nat.not_lt_zero _)
  | n + 1, i, hi, h9 => by
    unfold w_X7_areLike_L3
    refine ⟨by omega, by omega, ?_⟩
    by_cases q1 : l ≤ i
    · exact if_yes (by omega) (k true)
    · have e1 : gRem ((p : Int) + (i : Int)) (u.length : Int) = (((p + i) % u.length : Nat) : Int) := by
        have := gRem_nat (a := p + i) (b := u.length) (by omega) (by omega)
        rw [← this]; congr 1
      have e2 : gRem ((q : Int) + (i : Int)) (u.length : Int) = (((q + i) % u.length : Nat) : Int) := by
        have := gRem_nat (a := q + i) (b := u.length) (by omega) (by omega)
        rw [← this]; congr 1
      refine if_no (by omega) (r.len ⟨by omega, by omega, ?_⟩)
      rw [e1]
      refine r.at rfl (Nat.mod_lt _ (by omega)) (by omega) (r.len ⟨by omega, by omega, ?_⟩)
      rw [e2]
      refine r.at rfl (Nat.mod_lt _ (by omega)) (by omega) ⟨b2i_R _, b2i_R _, ite_both (fun _ => ?_) (fun _ => k false)⟩
      rw [show (i : Int) + 1 = ((i + 1 : Nat) : Int) by omega]
      exact r_areLike_L r hl hp hq hll h0 k n (i + 1) (by omega) (by omega)
theorem r_areLike (r : mR h a u) (hl : u.length ≤ 64) {p q l : Nat} (hx : x = (p : Int)) (hy : y = (q : Int)) (hz : z = (l : Int)) (hp : p ≤ 500) (hq : q ≤ 500) (hll : l ≤ 500) (h0 : l = 0 ∨ 0 < u.length) (k : ∀ b : Bool, Q (b2i b) h) : w_X7_areLike a x y z h Q := by
  subst hx; subst hy; subst hz
  exact ⟨l + 1, r_areLike_L r hl hp hq hll h0 k _ 0 (Nat.zero_le _) (by omega)⟩
theorem r_isMir_L (r : mR h a u) (hl : u.length ≤ 64) {f t : Nat} (hf : f ≤ t) (ht : t ≤ u.length) (k : ∀ b : Bool, Q (b2i b) h) : ∀ (n i : Nat), i ≤ t - f → t - f - i < n → w_X7_isMirrored_L2 Q n a (f : Int) (t : Int) (i : Int) h
  | 0, _, _, h9 => absurd h9 (Nat.not_lt_zero _)
  | n + 1, i, hi, h9 => by
    unfold w_X7_isMirrored_L2
    refine ⟨by omega, by omega, ?_⟩
    by_cases q1 : t - f ≤ i
    · exact if_yes (by omega) (k true)
    · refine if_no (by omega) (r.at (i := f + i) (by omega) (by omega) (by omega) (r.at (i := t - 1 - i) (by omega) (by omega) (by omega) ⟨b2i_R _, b2i_R _, ite_both (fun _ => ?_) (fun _ => k false)⟩))
      rw [show (i : Int) + 1 = ((i + 1 : Nat) : Int) by omega]
      exact r_isMir_L r hl hf ht k n (i + 1) (by omega) (by omega)
theorem r_isMir (r : mR h a u) (hl : u.length ≤ 64) {f t : Nat} (hx : x = (f : Int)) (hy : y = (t : Int)) (hf : f ≤ t) (ht : t ≤ u.length) (k : ∀ b : Bool, Q (b2i b) h) : w_X7_isMirrored a x y h Q := by
  subst hx; subst hy
  exact ⟨t + 1, r_isMir_L r hl hf ht k _ 0 (Nat.zero_le _) (by omega)⟩
theorem bb {c : Bool} {F1 F0 : Prop} (k1 : F1) (k0 : F0) : gR (b2i c) ∧ (if b2i c = 0 then F0 else F1) := ⟨b2i_R _, ite_both (fun _ => k0) (fun _ => k1)⟩
theorem r_times_L23 {K4 : Nat → Int → Int → gaH → Prop} {K12 : Nat → Int → Int → Int → gaH → Prop} (r : mR h a u) (hl : u.length ≤ 64) {s p : Nat} (hp : 1 ≤ p ∧ p ≤ 64) (hs : s ≤ 64) (k : ∀ m : Nat, m ≤ 65 → K12 a (m : Int) (s : Int) ((p : Int) + 1) h) : ∀ (n c m : Nat), 1 ≤ c → c ≤ 64 → 65 - c < n → m ≤ 65 → s + c * p ≤ u.length → w_X7_timesOf_L23 Q K4 K12 n a (m : Int) (s : Int) (p : Int) (c : Int) h
  | 0, _, _, _, _, h9, _, _ => absurd h9 (Nat.not_lt_zero _)
  | n + 1, c, m, h1, h2, h9, hm, hc => by
    have em : ((c : Int) + 1) * (p : Int) = (((c + 1) * p : Nat) : Int) := by push_cast; rfl
    have em2 : (c : Int) * (p : Int) = ((c * p : Nat) : Int) := by push_cast; rfl
    have b1 : (c + 1) * p ≤ 65 * 64 := Nat.mul_le_mul (by omega) hp.2
    have b2 : c + 1 ≤ (c + 1) * p := Nat.le_mul_of_pos_right _ hp.1
    have j : w_X7_timesOf_J57 Q K4 K12 a (m : Int) (s : Int) (p : Int) (c : Int) h := by
      unfold w_X7_timesOf_J57
      refine ⟨by omega, by omega, ?_⟩
      rw [show max (m : Int) (c : Int) = ((max m c : Nat) : Int) by omega]
      exact k _ (by omega)
    unfold w_X7_timesOf_L23
    rw [em, em2]
    refine r.len ⟨by omega, by omega, ?_⟩
    by_cases q : u.length < s + (c + 1) * p
    · exact if_yes (by omega) j
    · refine if_no (by omega) (r_areLike r hl rfl (show (s : Int) + ((c * p : Nat) : Int) = ((s + c * p : Nat) : Int) by omega) rfl (by omega) (by omega) (by omega) (by omega) (fun t => bb ?_ j))
      rw [show (c : Int) + 1 = ((c + 1 : Nat) : Int) by omega]
      exact r_times_L23 r hl hp hs k n (c + 1) m (by omega) (by omega) (by omega) hm (by omega)
theorem r_times_L12 {K4 : Nat → Int → Int → gaH → Prop} (r : mR h a u) (hl : u.length ≤ 64) {s : Nat} (hs : s ≤ 64) (k : ∀ m : Nat, m ≤ 65 → K4 a (m : Int) ((s : Int) + 1) h) : ∀ (n p m : Nat), 1 ≤ p → p ≤ 65 → 66 - p < n → m ≤ 65 → w_X7_timesOf_L12 Q K4 n a (m : Int) (s : Int) (p : Int) h
  | 0, _, _, _, _, h9, _ => absurd h9 (Nat.not_lt_zero _)
  | n + 1, p, m, h1, h2, h9, hm => by
    unfold w_X7_timesOf_L12
    refine r.len ⟨by omega, by omega, ?_⟩
    by_cases q : u.length < s + p
    · exact if_yes (by omega) (k m hm)
    · refine if_no (by omega) ⟨66, r_times_L23 (p := p) r hl ⟨h1, by omega⟩ hs (fun m' hm' => ?_) 66 1 m (by decide) (by decide) (by decide) hm (by omega)⟩
      rw [show (p : Int) + 1 = ((p + 1 : Nat) : Int) by omega]
      exact r_times_L12 r hl hs k n (p + 1) m' (by omega) (by omega) (by omega) hm'
theorem r_times_L4 (r : mR h a u) (hl : u.length ≤ 64) (k : ∀ r : Int, Q r h) : ∀ (n s m : Nat), s ≤ u.length → u.length - s < n → m ≤ 65 → w_X7_timesOf_L4 Q n a (m : Int) (s : Int) h
  | 0, _, _, _, h9, _ => absurd h9 (Nat.not_lt_zero _)
  | n + 1, s, m, h1, h9, hm => by
    unfold w_X7_timesOf_L4
    refine r.len ⟨by omega, by omega, ?_⟩
    by_cases q : u.length ≤ s
    · exact if_yes (by omega) (k _)
    · refine if_no (by omega) ⟨67, r_times_L12 r hl (by omega) (fun m' hm' => ?_) 67 1 m (by decide) (by decide) (by decide) hm⟩
      rw [show (s : Int) + 1 = ((s + 1 : Nat) : Int) by omega]
      exact r_times_L4 r hl k n (s + 1) m' (by omega) (by omega) hm'
theorem r_timesOf (r : mR h a u) (hl : u.length ≤ 64) (k : ∀ r : Int, Q r h) : w_X7_timesOf a h Q :=
  ⟨65, r_times_L4 r hl k 65 0 0 (Nat.zero_le _) (by omega) (Nat.zero_le _)⟩
theorem r_over_L12 {K4 : Nat → Int → Int → gaH → Prop} (r : mR h a u) (hl : u.length ≤ 64) {s : Nat} (hs : s ≤ 64) (k : ∀ m : Int, K4 a m ((s : Int) + 1) h) : ∀ (n p : Nat) (m : Int), p ≤ 65 → 66 - p < n → w_X7_overlapsOf_L12 Q K4 n a m (s : Int) (p : Int) h
  | 0, _, _, _, h9 => absurd h9 (Nat.not_lt_zero _)
  | n + 1, p, m, h2, h9 => by
    unfold w_X7_overlapsOf_L12
    refine r.len ⟨by omega, by omega, ?_⟩
    by_cases q : u.length ≤ s + 2 * p
    · exact if_yes (by omega) (k m)
    · refine if_no (by omega) (r_areLike r hl rfl (show (s : Int) + (p : Int) = ((s + p : Nat) : Int) by omega) (show (p : Int) + 1 = ((p + 1 : Nat) : Int) by omega) (by omega) (by omega) (by omega) (by omega) (fun t => r_one rfl ?_))
      rw [show (p : Int) + 1 = ((p + 1 : Nat) : Int) by omega]
      exact r_over_L12 r hl hs k n (p + 1) _ (by omega) (by omega)
theorem r_over_L4 (r : mR h a u) (hl : u.length ≤ 64) (k : ∀ r : Int, Q r h) : ∀ (n s : Nat) (m : Int), s ≤ u.length → u.length - s < n → w_X7_overlapsOf_L4 Q n a m (s : Int) h
  | 0, _, _, _, h9 => absurd h9 (Nat.not_lt_zero _)
  | n + 1, s, m, h1, h9 => by
    unfold w_X7_overlapsOf_L4
    refine r.len ⟨by omega, by omega, ?_⟩
    by_cases q : u.length ≤ s
    · exact if_yes (by omega) (k _)
    · refine if_no (by omega) ⟨67, r_over_L12 r hl (by omega) (fun m' => ?_) 67 1 m (by decide) (by decide)⟩
      rw [show (s : Int) + 1 = ((s + 1 : Nat) : Int) by omega]
      exact r_over_L4 r hl k n (s + 1) m' (by omega) (by omega)
theorem r_overlapsOf (r : mR h a u) (hl : u.length ≤ 64) (k : ∀ r : Int, Q r h) : w_X7_overlapsOf a h Q :=
  ⟨65, r_over_L4 r hl k 65 0 0 (Nat.zero_le _) (by omega)⟩
theorem r_folds_L4 (r : mR h a u) (hl : u.length ≤ 64) (k : ∀ r : Int, Q r h) : ∀ (n s : Nat) (m : Int), s ≤ u.length → u.length - s < n → w_X7_foldsOf_L4 Q n a m (s : Int) h
  | 0, _, _, _, h9 => absurd h9 (Nat.not_lt_zero _)
  | n + 1, s, m, h1, h9 => by
    unfold w_X7_foldsOf_L4
    refine r.len ⟨by omega, by omega, ?_⟩
    by_cases q : u.length ≤ s
    · exact if_yes (by omega) (k _)
    · have go : ∀ c : Bool, w_X7_foldsOf_J35 Q (w_X7_foldsOf_L4 Q n) a (s : Int) m (b2i c) h := fun c => by
        unfold w_X7_foldsOf_J35
        refine r_one rfl ?_
        rw [show (s : Int) + 1 = ((s + 1 : Nat) : Int) by omega]
        exact r_folds_L4 r hl k n (s + 1) _ (by omega) (by omega)
      have g0 : w_X7_foldsOf_J34 Q (w_X7_foldsOf_L4 Q n) a (s : Int) m h := go false
      refine if_no (by omega) (r_isMir (f := 0) (t := s) r hl rfl rfl (Nat.zero_le _) (by omega) (fun t => bb (r.len (r_isMir (f := s) (t := u.length) r hl rfl rfl (by omega) (Nat.le_refl _) (fun t2 => bb (go true) g0))) g0))
theorem r_foldsOf (r : mR h a u) (hl : u.length ≤ 64) (k : ∀ r : Int, Q r h) : w_X7_foldsOf a h Q :=
  ⟨65, r_folds_L4 r hl k 65 0 0 (Nat.zero_le _) (by omega)⟩
theorem r_least_L12 {K4 : Nat → Int → Int → gaH → Prop} (r : mR h a u) (hl : u.length ≤ 64) {m s : Nat} (hm : m ≤ 64) (hs : s ≤ 64) (k : ∀ m' : Nat, m' ≤ 64 → K4 a (m' : Int) ((s : Int) + 1) h) : ∀ (n i : Nat), i ≤ u.length → u.length - i < n → w_X7_leastOf_L12 Q K4 n a (m : Int) (s : Int) (i : Int) h
  | 0, _, _, h9 => absurd h9 (Nat.not_lt_zero _)
  | n + 1, i, h1, h9 => by
    have e2 : 0 < u.length → gRem ((s : Int) + (i : Int)) (u.length : Int) = (((s + i) % u.length : Nat) : Int) := fun hp => by
      have := gRem_nat (a := s + i) (b := u.length) (by omega) (by omega)
      rw [← this]; congr 1
    have e1 : 0 < u.length → gRem ((m : Int) + (i : Int)) (u.length : Int) = (((m + i) % u.length : Nat) : Int) := fun hp => by
      have := gRem_nat (a := m + i) (b := u.length) (by omega) (by omega)
      rw [← this]; congr 1
    have j : w_X7_leastOf_J43 Q K4 a (m : Int) (s : Int) (i : Int) h := by
      unfold w_X7_leastOf_J43
      refine r.len ⟨by omega, by omega, ?_⟩
      by_cases q : u.length ≤ i
      · exact if_yes (by omega) (k m hm)
      · refine if_no (by omega) (r.len ⟨by omega, by omega, ?_⟩)
        rw [e2 (by omega)]
        exact r.at rfl (Nat.mod_lt _ (by omega)) (by omega) ⟨b2i_R _, ite_both (fun _ => k s hs) (fun _ => k m hm)⟩
    unfold w_X7_leastOf_L12
    refine r.len ⟨by omega, by omega, ?_⟩
    by_cases q : u.length ≤ i
    · exact if_yes (by omega) j
    · refine if_no (by omega) (r.len ⟨by omega, by omega, ?_⟩)
      rw [e1 (by omega)]
      refine r.at rfl (Nat.mod_lt _ (by omega)) (by omega) (r.len ⟨by omega, by omega, ?_⟩)
      rw [e2 (by omega)]
      refine r.at rfl (Nat.mod_lt _ (by omega)) (by omega) ⟨b2i_R _, b2i_R _, ite_both (fun _ => ?_) (fun _ => j)⟩
      rw [show (i : Int) + 1 = ((i + 1 : Nat) : Int) by omega]
      exact r_least_L12 r hl hm hs k n (i + 1) (by omega) (by omega)
theorem r_least_L4 (r : mR h a u) (hl : u.length ≤ 64) (k : ∀ r : Int, Q r h) : ∀ (n s m : Nat), s ≤ 65 → 66 - s < n → m ≤ 64 → w_X7_leastOf_L4 Q n a (m : Int) (s : Int) h
  | 0, _, _, _, h9, _ => absurd h9 (Nat.not_lt_zero _)
  | n + 1, s, m, h1, h9, hm => by
    unfold w_X7_leastOf_L4
    refine r.len ⟨by omega, by omega, ?_⟩
    by_cases q : u.length ≤ s
    · exact if_yes (by omega) (k _)
    · refine if_no (by omega) ⟨66, r_least_L12 r hl hm (by omega) (fun m' hm' => ?_) 66 0 (Nat.zero_le _) (by omega)⟩
      rw [show (s : Int) + 1 = ((s + 1 : Nat) : Int) by omega]
      exact r_least_L4 r hl k n (s + 1) m' (by omega) (by omega) hm'
theorem r_leastOf (r : mR h a u) (hl : u.length ≤ 64) (k : ∀ r : Int, Q r h) : w_X7_leastOf a h Q :=
  ⟨67, r_least_L4 r hl k 67 1 0 (by decide) (by decide) (Nat.zero_le _)⟩
end RW2
