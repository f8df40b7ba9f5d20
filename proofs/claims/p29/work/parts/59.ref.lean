/-! The reference's acts on growths. -/
section RG2
variable {B : Nat → Nat} {h h0 : gaH} {st : GSt} {no : Int} {a b o : Nat} {u v : List Bool} {w g : Nat} {x y z : Int} {Q : Int → gaH → Prop}
/-- these turns lie in the growth's row -/
def mT (B : Nat → Nat) (h : gaH) (g : Nat) (us : List Nat) : Prop := ∃ row : List Int, row.length = 64 ∧ h (B (4 + g)) = some (102, row.map gi) ∧ ∀ i, i < us.length → row[i]? = (us[i]?).map (fun t => (t : Int))
theorem gM.rowset (d : gM B h st no) (hg : g < 2) {t : Nat} (hx : x = ((st.T g).length : Int)) (hy : y = (t : Int)) (hl : (st.T g).length ≤ 63) {K : gaH → Prop} (k : ∀ h', gM B h' st no → mF B h h' → mT B h' g (st.T g ++ [t]) → K h') : gSI h (B (4 + g)) 102 x (gi y) K := by
  subst hx; subst hy
  obtain ⟨s, a1, a2, a3, a4, a5, a6, a7⟩ := id d
  obtain ⟨b1, row, b2, b3, b4⟩ := a6 g hg
  have ne : ∀ i, i < 6 → i ≠ 4 + g → B i ≠ B (4 + g) := fun i hi hn q => hn (a7.1 i _ hi (by omega) q)
  have er : (row.map gi).set (st.T g).length (gi (t : Int)) = (row.set (st.T g).length (t : Int)).map gi := by rw [List.map_set]
  have hr : ∀ i, i < (st.T g).length → (row.set (st.T g).length (t : Int))[i]? = ((st.T g)[i]?).map (fun t => (t : Int)) := fun i hi => by rw [List.getElem?_set_ne (by omega)]; exact b4 i hi
  refine gSI_mk b3 (by omega) (by omega) (by rw [Int.toNat_natCast]; simp; omega) ?_
  rw [Int.toNat_natCast, er]
  refine k _ ⟨s, ?_, ?_, fun w hw => ⟨?_, (a3 w hw).2⟩, ?_, ?_, fun j hj => ?_, a7.1, fun i hi => upE (a7.2 i hi)⟩ (mF.up (by omega)) ⟨_, by simpa using b2, gaUp_self _ _ _, fun i hi => ?_⟩
  · rw [gaUp_ne _ _ (ne _ (by decide) (by omega))]; exact a1
  · rw [gaUp_ne _ _ (ne _ (by decide) (by omega))]; exact a2
  · unfold mR; rw [gaUp_ne _ _ ((a3 w hw).2.2 _ (by omega))]; exact (a3 w hw).1
  · rw [gaUp_ne _ _ (ne _ (by decide) (by omega))]; exact a4
  · rw [gaUp_ne _ _ (ne _ (by decide) (by omega))]; exact a5
  · by_cases e : j = g
    · subst e
      exact ⟨b1, _, by simpa using b2, gaUp_self _ _ _, hr⟩
    · obtain ⟨c1, r2, c2, c3, c4⟩ := a6 j hj
      exact ⟨c1, r2, c2, by rw [gaUp_ne _ _ (ne _ (by omega) (by omega))]; exact c3, c4⟩
  · rw [List.length_append, List.length_singleton] at hi
    by_cases e : i = (st.T g).length
    · subst e
      rw [List.getElem?_set_self (by omega), List.getElem?_append_right (Nat.le_refl _), Nat.sub_self]; rfl
    · rw [hr i (by omega), List.getElem?_append_left (by omega)]
theorem gM.cntset (d : gM B h st no) (hg : g < 2) {us : List Nat} (hx : x = (g : Int)) (hy : y = (us.length : Int)) (hok : gOk us) (ht : mT B h g us) {K : gaH → Prop} (k : ∀ h', gM B h' (st.S, pu st.T g us, st.C) no → mF B h h' → mT B h' g us → (∀ g', g' < 2 → h' (B (4 + g')) = h (B (4 + g'))) → K h') : gSI h (B 3) 102 x (gi y) K := by
  subst hx; subst hy
  obtain ⟨s, a1, a2, a3, a4, a5, a6, a7⟩ := id d
  have ne : ∀ i, i < 6 → i ≠ 3 → B i ≠ B 3 := fun i hi hn q => hn (a7.1 i _ hi (by omega) q)
  refine gSI_mk a5 (by omega) (by omega) (by rw [Int.toNat_natCast]; simp; omega) ?_
  have rows : ∀ g', g' < 2 → gaUp h (B 3) (102, [gi ((st.T 0).length : Int), gi ((st.T 1).length : Int)].set (g : Int).toNat (gi (us.length : Int))) (B (4 + g')) = h (B (4 + g')) := fun g' hg' => gaUp_ne _ _ (ne _ (by omega) (by omega))
  have ht2 : mT B (gaUp h (B 3) (102, [gi ((st.T 0).length : Int), gi ((st.T 1).length : Int)].set (g : Int).toNat (gi (us.length : Int)))) g us := by
    obtain ⟨row, r1, r2, r3⟩ := ht
    exact ⟨row, r1, (rows g hg).trans r2, r3⟩
  refine k _ ⟨s, ?_, ?_, fun w hw => ⟨?_, (a3 w hw).2⟩, ?_, ?_, fun j hj => ?_, a7.1, fun i hi => upE (a7.2 i hi)⟩ (mF.up (by omega)) ht2 rows
  · rw [gaUp_ne _ _ (ne _ (by decide) (by omega))]; exact a1
  · rw [gaUp_ne _ _ (ne _ (by decide) (by omega))]; exact a2
  · unfold mR; rw [gaUp_ne _ _ ((a3 w hw).2.2 _ (by omega))]; exact (a3 w hw).1
  · rw [gaUp_ne _ _ (ne _ (by decide) (by omega))]; exact a4
  · rw [gaUp_self, Int.toNat_natCast]
    rcases (show g = 0 ∨ g = 1 by omega) with rfl | rfl <;> rfl
  · show gOk (pu st.T g us j) ∧ _
    by_cases e : j = g
    · subst e
      have e2 : GSt.T (st.S, pu st.T j us, st.C) j = us := pu_self _ _ _
      rw [pu_self]
      obtain ⟨row, r1, r2, r3⟩ := ht2
      exact ⟨hok, row, r1, r2, fun i hi => by rw [e2] at hi ⊢; exact r3 i hi⟩
    · have e2 : GSt.T (st.S, pu st.T g us, st.C) j = st.T j := pu_ne _ _ e
      rw [pu_ne _ _ e]
      obtain ⟨c1, r2, c2, c3, c4⟩ := a6 j hj
      exact ⟨c1, r2, c2, (rows j hj).trans c3, fun i hi => by rw [e2] at hi ⊢; exact c4 i hi⟩
theorem gM.inc2 (d : gM B h st no) {i f : Nat} (hf : f = 3 + i) (hi : i < 4) {x : Int} (hx : x = st.C i + 1) {K : gaH → Prop} (k : ∀ h', gM B h' (st.S, st.T, pu st.C i (st.C i + 1)) no → mF B h h' → (∀ j, 1 ≤ j → j < 6 → h' (B j) = h (B j)) → K h') : gPF h (B 0) 7 f (gi x) K := by
  subst hf; subst hx
  have hi2 := d.inj
  obtain ⟨s, a1, -⟩ := id d
  refine gPF_mk a1 (by simp; omega) (k _ ?_ (mF.up (by decide)) (fun j h1 h2 => gaUp_ne _ _ (fun q => by have := hi2 _ _ h2 (by decide) q; omega)))
  have := d.put (C := pu st.C i (st.C i + 1)) (no' := no)
  rcases (show i = 0 ∨ i = 1 ∨ i = 2 ∨ i = 3 by omega) with rfl | rfl | rfl | rfl <;> exact this
theorem gM.mt (d : gM B h st no) (hg : g < 2) {us : List Nat} (hl : us.length ≤ (st.T g).length) (hu : ∀ i, i < us.length → us[i]? = (st.T g)[i]?) : mT B h g us := by
  obtain ⟨s, a1, a2, a3, a4, a5, a6, a7⟩ := d
  obtain ⟨b1, row, b2, b3, b4⟩ := a6 g hg
  exact ⟨row, b2, b3, fun i hi => by rw [b4 i (by omega), hu i hi]⟩
theorem r_fresh (d : gM B h st no) (hx : gR x) (k : mRes B h Q (m_fresh st x)) : w_X7_fresh (B 0) x h Q := by
  unfold w_X7_fresh
  refine r_isNoGrowth hx ⟨d.has, r_start d rfl (by decide) (fun q h1 d1 f1 => ?_) (fun q h1 d1 f1 => ?_)⟩
  · have q1 := nd q
    rw [m_fresh, if_pos q1] at k
    obtain ⟨g, rfl⟩ : ∃ w : Nat, x = w := ⟨x.toNat, by omega⟩
    rw [Int.toNat_natCast] at k
    have hg : g < 2 := by omega
    refine ⟨by decide, if_yes rfl (d1.f2 (d1.ct rfl hg (d1.f2 (d1.cntset hg (us := []) rfl rfl gOk.nil (d1.mt hg (Nat.zero_le _) (fun i hi => absurd hi (Nat.not_lt_zero _))) (fun h2 d2 f2 t2 _ => d2.cn (i := 1) rfl (by decide) (d2.inc (i := 1) rfl (by decide) rfl (fun h3 d3 f3 => ?_)))))))⟩
    exact k.ok d3 (f1.tr (f2.tr f3)) rfl
  · rw [m_fresh, if_neg (nn q)] at k
    exact ⟨by decide, if_no (by decide) (k.ex d1 f1)⟩
theorem r_shrink (d : gM B h st no) (hx : gR x) (k : mRes B h Q (m_shrink st x)) : w_X7_shrink (B 0) x h Q := by
  unfold w_X7_shrink
  refine r_isNoGrowth hx ⟨d.has, r_start d rfl (by decide) (fun q h1 d1 f1 => ?_) (fun q h1 d1 f1 => ?_)⟩
  · have q1 := nd q
    rw [m_shrink, if_pos q1] at k
    obtain ⟨g, rfl⟩ : ∃ w : Nat, x = w := ⟨x.toNat, by omega⟩
    rw [Int.toNat_natCast] at k
    have hg : g < 2 := by omega
    have hok := d1.ok hg
    have hl := hok.len
    refine ⟨by decide, if_yes rfl (d1.f2 (d1.ct rfl hg ⟨by omega, ?_⟩))⟩
    by_cases q2 : st.T g = []
    · rw [if_pos q2] at k
      refine if_yes (by rw [q2]; rfl) ?_
      unfold w_X7_shrink_J27
      exact ⟨d1.has, r_refuse d1 (bd := true) rfl (by decide) (fun q => by cases q) (fun q h2 d2 f2 => ⟨by decide, if_no (by decide) (k.ex d2 (f1.tr f2))⟩)⟩
    · rw [if_neg q2] at k
      have hp : 0 < (st.T g).length := List.length_pos_iff.mpr q2
      refine if_no (by omega) ?_
      unfold w_X7_shrink_J27
      refine ⟨d1.has, r_refuse d1 (bd := false) rfl (by decide) (fun q => ⟨by decide, if_yes rfl ?_⟩) (fun q => by cases q)⟩
      obtain ⟨us, t, e⟩ : ∃ us t, st.T g = us ++ [t] := ⟨(st.T g).dropLast, (st.T g).getLast q2, (List.dropLast_concat_getLast _).symm⟩
      have e1 : (st.T g).dropLast = us := by rw [e, List.dropLast_concat]
      have e2 : (st.T g).getLastD 0 = t := by rw [e]; simp
      have e3 : (st.T g).length = us.length + 1 := by rw [e]; simp
      rw [e1, e2] at k
      have hus : gOk us := by rw [e] at hok; exact hok.pre
      refine d1.f2 (d1.ct rfl hg (d1.cntset hg (us := us) rfl (by omega) hus (d1.mt hg (by omega) (fun i hi => by rw [e, List.getElem?_append_left hi])) (fun h2 d2 f2 t2 keep => d2.cn (i := 1) rfl (by decide) (d2.inc2 (i := 1) rfl (by decide) rfl (fun h3 d3 f3 k3 => ?_)))))
      have kk := fun r hr => k.ok (r := r) d3 (f1.tr (f2.tr f3)) hr
      obtain ⟨s, z1, z2, z3, z4, z5, z6, z7⟩ := id d1
      obtain ⟨b1, row, b2, b3, b4⟩ := z6 g hg
      have e9 : ((pu st.T g us) g).length = us.length := by rw [pu_self]
      refine d3.f1 (d3.tr rfl hg (d3.f2 (d3.ct rfl hg ?_)))
      show gLI h3 (B (4 + g)) 102 (((pu st.T g us) g).length : Int) _
      rw [e9]
      refine gLI_mk (x := (t : Int)) ((k3 (4 + g) (by omega) (by omega)).trans ((keep g hg).trans b3)) (by omega) (by omega) ?_ (kk _ rfl)
      rw [Int.toNat_natCast, List.getElem?_map, b4 us.length (by omega), e, List.getElem?_append_right (Nat.le_refl _), Nat.sub_self]
      rfl
  · rw [m_shrink, if_neg (nn q)] at k
    exact ⟨by decide, if_no (by decide) (k.ex d1 f1)⟩
theorem r_grow (d : gM B h st no) (hx : gR x) (hy : gR y) (k : mRes B h Q (m_grow st x y)) : w_X7_grow (B 0) x y h Q := by
  unfold w_X7_grow
  refine r_isNoGrowth hx ⟨d.has, r_start d rfl (by decide) (fun q h1 d1 f1 => ?_) (fun q h1 d1 f1 => ?_)⟩
  · have q1 := nd q
    rw [m_grow, if_pos q1] at k
    refine ⟨by decide, if_yes rfl (r_isIn hy (by decide) (by decide) (sel (fun t => w_X7_grow_J27 Q (B 0) x y (B 0) t h1 133 8197) ?_))⟩
    unfold w_X7_grow_J27
    refine ⟨d1.has, r_refuse d1 rfl (by decide) (fun q => ?_) (fun q h2 d2 f2 => ?_)⟩
    · have q2 := nd q
      rw [if_pos q2] at k
      obtain ⟨g, rfl⟩ : ∃ w : Nat, x = w := ⟨x.toNat, by omega⟩
      obtain ⟨t, rfl⟩ : ∃ w : Nat, y = w := ⟨y.toNat, by omega⟩
      simp only [Int.toNat_natCast] at k
      have hg : g < 2 := by omega
      have hok := d1.ok hg
      have hl := hok.len
      have l1 := hok.2
      have l2 := hok.elder
      refine ⟨by decide, if_yes rfl ⟨d1.has, gCall_mk (by decide) (by decide) (r_byCopies d1 hg (m := (st.T g).length) (bk := 0) rfl rfl rfl (fun h2 o k2 n2 r2 => r2.len ⟨(d1.kp k2).has, gCall_mk (by decide) (by decide) (r_elder (d1.kp k2) hg rfl (fun h3 o3 k3 n3 r3 => r3.len ?_))⟩))⟩⟩
      rw [List.take_length]
      have em : (t : Int) * ((grw (st.T g)).2.length : Int) + ((grw (st.T g)).1.length : Int) = ((t * (grw (st.T g)).2.length + (grw (st.T g)).1.length : Nat) : Int) := by push_cast; rfl
      have b1 : t * (grw (st.T g)).2.length ≤ 3 * 64 := Nat.mul_le_mul (by omega) l1
      rw [em]
      have d3 := d1.kp (k2.tr k3)
      refine ⟨by omega, ?_⟩
      by_cases q3 : t * (grw (st.T g)).2.length + (grw (st.T g)).1.length ≤ 64
      · rw [if_pos q3] at k
        have hok2 := grow_ok hok (by omega) q3
        refine if_yes (by omega) (d3.f1 (d3.tr rfl hg (d3.f2 (d3.ct rfl hg (d3.rowset hg rfl rfl hl (fun h4 d4 f4 t4 => d4.f2 (d4.ct rfl hg (d4.cntset hg (us := st.T g ++ [t]) rfl (by simp) hok2 t4 (fun h5 d5 f5 t5 _ => d5.cn (i := 1) rfl (by decide) (d5.inc (i := 1) rfl (by decide) rfl (fun h6 d6 f6 => ?_)))))))))))
        refine k.ok d6 (f1.tr ((mF.kp (k2.tr k3)).tr (f4.tr (f5.tr f6)))) ?_
        rw [grw_snoc]; simp [gstep, rep_len]
      · rw [if_neg q3] at k
        exact if_no (by omega) ⟨d3.has, r_cannot d3 (fun h4 d4 f4 => k.ok d4 (f1.tr ((mF.kp (k2.tr k3)).tr f4)) rfl)⟩
    · rw [if_neg (nn q)] at k
      exact ⟨by decide, if_no (by decide) (k.ex d2 (f1.tr f2))⟩
  · rw [m_grow, if_neg (nn q)] at k
    exact ⟨by decide, if_no (by decide) (k.ex d1 f1)⟩
end RG2
