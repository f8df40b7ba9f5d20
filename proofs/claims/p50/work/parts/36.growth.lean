/-! Growths: what their methods do. -/
def gGr (A : Nat → Nat) (h : gaH) (g : Nat) (ts : List Nat) : Prop := h (A (26 + g)) = some (2, [.ref (A (28 + g)), gi (ts.length : Int), .ref (A (5 + 2 * g)), .ref (A (6 + 2 * g))]) ∧ ∃ row : List Int, row.length = 64 ∧ ts.length ≤ 63 ∧ h (A (28 + g)) = some (102, row.map gi) ∧ ∀ i, i < ts.length → row[i]? = (ts[i]?).map (fun t => (t : Int))
/-- nothing but words and this growth has changed -/
def gSg (A : Nat → Nat) (g : Nat) (h h' : gaH) : Prop := ∀ b, (∀ w, w < 22 → b ≠ A w) → b ≠ A (26 + g) → b ≠ A (28 + g) → h' b = h b
theorem gSg.of {A : Nat → Nat} {g : Nat} {h h' : gaH} (x : gSm A h h') : gSg A g h h' := fun b hb _ _ => x b hb
theorem gSg.tr {A : Nat → Nat} {g : Nat} {h h1 h2 : gaH} (x : gSg A g h h1) (y : gSg A g h1 h2) : gSg A g h h2 := fun b hb hc hd => (y b hb hc hd).trans (x b hb hc hd)
theorem gSg.at {A : Nat → Nat} {g : Nat} {h h' : gaH} (x : gSg A g h h') (hA : gInj A) (hg : g < 2) {i : Nat} (h1 : 22 ≤ i) (h2 : i < 31) (h3 : i ≠ 26 + g) (h4 : i ≠ 28 + g) : h' (A i) = h (A i) := x _ (fun w hw q => by
  have := hA i w (by omega) (by omega) q
  omega) (fun q => h3 (hA i _ h2 (by omega) q)) (fun q => h4 (hA i _ h2 (by omega) q))
section PG
variable {A : Nat → Nat} {h : gaH} {U : Nat → List Bool} {w v g : Nat} {ts : List Nat} {G : gaG}
theorem gW.off (gw : gW A h U) {i : Nat} (h1 : 22 ≤ i) (h2 : i < 30) (e : gaE) : gW A (gaUp h (A i) e) U := by
  obtain ⟨R, N, x, y⟩ := gw
  refine ⟨R, N, ⟨x.1, fun z hz => ?_, ?_⟩, y⟩
  · obtain ⟨a1, a2, a3, a4⟩ := x.2.1 z hz
    exact ⟨a1, a2, by rw [gaUp_ne _ _ (x.ne (by omega) (by omega) (by omega))]; exact a3, by rw [gaUp_ne _ _ (x.ne (by omega) (by omega) (by omega))]; exact a4⟩
  · obtain ⟨m, m1, m2⟩ := x.2.2
    exact ⟨m, m1, by rw [gaUp_ne _ _ (x.ne (by omega) (by omega) (by omega))]; exact m2⟩
theorem gGr.has (gr : gGr A h g ts) : gHas h (A (26 + g)) 2 := ⟨_, gr.1⟩
theorem gGr.on (gr : gGr A h g ts) (hA : gInj A) (hg : g < 2) {h' : gaH} (s : gSm A h h') : gGr A h' g ts := by
  obtain ⟨x, row, a, b, c, d⟩ := gr
  exact ⟨(s.at hA (by omega) (by omega)).trans x, row, a, b, (s.at hA (by omega) (by omega)).trans c, d⟩
theorem gGr.onk (gr : gGr A h g ts) (hA : gInj A) (hg : g < 2) {h' : gaH} (s : gSk A h h') : gGr A h' g ts := by
  obtain ⟨x, row, a, b, c, d⟩ := gr
  exact ⟨(s.at hA (by omega) (by omega)).trans x, row, a, b, (s.at hA (by omega) (by omega)).trans c, d⟩
theorem gGr.el (gr : gGr A h g ts) {K : Nat → Prop} (k : K (A (5 + 2 * g))) : gA h (A (26 + g)) 2 2 K := gA_mk gr.1 rfl k
theorem gGr.yo (gr : gGr A h g ts) {K : Nat → Prop} (k : K (A (6 + 2 * g))) : gA h (A (26 + g)) 2 3 K := gA_mk gr.1 rfl k
theorem gGr.ct (gr : gGr A h g ts) {K : Int → Prop} (k : K (ts.length : Int)) : gI h (A (26 + g)) 2 1 K := gI_mk gr.1 rfl k
theorem s_turnAt (gr : gGr A h g ts) {x : Int} {p : Nat} (hx : x = (p : Int)) (hp : p < ts.length) {Q : Int → gaH → Prop} (k : Q ((ts.getD p 0 : Nat) : Int) h) : w_X0_turnAt (A (26 + g)) x h Q := by
  subst hx
  obtain ⟨a0, row, a1, a2, a3, a4⟩ := gr
  unfold w_X0_turnAt
  refine ⟨gR_of (by omega) (by omega), if_no (by omega) (gA_mk a0 rfl (gAL_mk a3 (by rw [List.length_map, a1]) ⟨gR_of (by omega) (by omega), gR_of (by decide) (by decide), if_no (by omega) (gA_mk a0 rfl (gLI_mk (x := ((ts.getD p 0 : Nat) : Int)) a3 (by omega) (by omega) ?_ k))⟩))⟩
  rw [Int.toNat_natCast, List.getElem?_map, a4 p hp, List.getD_eq_getElem?_getD, List.getElem?_eq_getElem hp]
  rfl
theorem s_wordBy (gr : gGr A h g ts) {x : Int} (hx : x = 0 ∨ x = 1) {Q : Nat → gaH → Prop} (k0 : x = 0 → Q (A (6 + 2 * g)) h) (k1 : x = 1 → Q (A (5 + 2 * g)) h) : w_X0_wordBy (A (26 + g)) x h Q := by
  unfold w_X0_wordBy
  refine ⟨gR_of (by omega) (by omega), ?_⟩
  by_cases q : x = 0
  · exact if_yes q (gr.yo (k0 q))
  · exact if_no q (gr.el (k1 (by omega)))
/-- the count of turns is set -/
theorem gGr.setC (gr : gGr A h g ts) (gw : gW A h U) (hg : g < 2) {x : Int} {us : List Nat} (hx : x = (us.length : Int)) (hl : us.length ≤ ts.length) (hu : ∀ i, i < us.length → us[i]? = ts[i]?) {K : gaH → Prop} (k : ∀ h', gW A h' U → gGr A h' g us → gSg A g h h' → K h') : gPF h (A (26 + g)) 2 1 (gi x) K := by
  subst hx
  obtain ⟨a0, row, a1, a2, a3, a4⟩ := gr
  have hA := gw.inj
  refine gPF_mk a0 (show 1 < 4 by decide) (k _ (gw.off (by omega) (by omega) _) ⟨gaUp_self _ _ _, row, a1, by omega, ?_, fun i hi => by rw [a4 i (by omega), hu i hi]⟩ (fun b _ hb _ => gaUp_ne _ _ hb))
  rw [gaUp_ne _ _ (fun q => by have := hA _ _ (by omega) (by omega) q; omega)]
  exact a3
theorem s_begin (gr : gGr A h g ts) (gw : gW A h U) (hg : g < 2) {Q : gaH → Prop} (k : ∀ h', gW A h' (pu (pu U (5 + 2 * g) [true]) (6 + 2 * g) [false]) → gGr A h' g [] → gSg A g h h' → Q h') : w_X0_begin (A (26 + g)) h Q := by
  unfold w_X0_begin
  refine gr.setC gw hg (us := []) rfl (Nat.zero_le _) (fun i hi => absurd hi (Nat.not_lt_zero _)) (fun h1 w1 r1 s1 => ?_)
  have hA := gw.inj
  refine r1.el ⟨w1.has (show 5 + 2 * g < 11 by omega), s_clear w1 (show 5 + 2 * g < 11 by omega) (fun h2 w2 s2 => ?_)⟩
  have r2 := r1.on hA hg s2
  refine r2.el ⟨w2.has (show 5 + 2 * g < 11 by omega), s_add w2 (show 5 + 2 * g < 11 by omega) (by rw [pu_self]; decide) (b := true) rfl (fun h3 w3 s3 => ?_)⟩
  have r3 := r2.on hA hg s3
  refine r3.yo ⟨w3.has (show 6 + 2 * g < 11 by omega), s_clear w3 (show 6 + 2 * g < 11 by omega) (fun h4 w4 s4 => ?_)⟩
  have r4 := r3.on hA hg s4
  refine r4.yo ⟨w4.has (show 6 + 2 * g < 11 by omega), s_add w4 (show 6 + 2 * g < 11 by omega) (by rw [pu_self]; decide) (b := false) rfl (fun h5 w5 s5 => k h5 (w5.eq (fun x _ => ?_)) (r4.on hA hg s5) (s1.tr ((gSg.of s2).tr ((gSg.of s3).tr ((gSg.of s4).tr (gSg.of s5))))))⟩
  by_cases e : x = 6 + 2 * g
  · subst e
    simp only [pu_self]; rfl
  · simp only [pu_ne _ _ e]
    by_cases e2 : x = 5 + 2 * g
    · subst e2; simp only [pu_self]; rfl
    · simp only [pu_ne _ _ e2]
theorem s_goOn_L (hg : g < 2) {t : Nat} (ht : t ≤ 3) {Q : Int → gaH → Prop} : ∀ (n i : Nat) (h : gaH) (U : Nat → List Bool), gW A h U → gGr A h g ts → ts.length < 63 → i ≤ t → t - i < n → U 3 = rep i (U (6 + 2 * g)) → t * (U (6 + 2 * g)).length + (U (5 + 2 * g)).length ≤ 64 →
    (∀ h', gW A h' (pu (pu (pu U 3 (rep t (U (6 + 2 * g)) ++ U (5 + 2 * g))) (5 + 2 * g) (U (6 + 2 * g))) (6 + 2 * g) (rep t (U (6 + 2 * g)) ++ U (5 + 2 * g))) → gGr A h' g (ts ++ [t]) → gSg A g h h' → Q 1 h') → w_X0_goOn_L60 Q n (A (26 + g)) (t : Int) (A 3) (i : Int) h
  | 0, i, h, U, _, _, _, _, h1, _, _, _ => absurd h1 (Nat.not_lt_zero _)
  | n + 1, i, h, U, gw, gr, hts, hi, h1, h3, hl, k => by
    have hA := gw.inj
    have hm : i * (U (6 + 2 * g)).length ≤ t * (U (6 + 2 * g)).length := Nat.mul_le_mul_right _ hi
    have e3 : (U 3).length = i * (U (6 + 2 * g)).length := by rw [h3, rep_len]
    unfold w_X0_goOn_L60
    refine ⟨gR_of (by omega) (by omega), gR_of (by omega) (by omega), ?_⟩
    by_cases q : i = t
    · subst q
      refine if_yes (Int.le_refl _) (gr.el (gr.el (gw.many (show 5 + 2 * g < 11 by omega) ⟨gw.has (w := 3) (by decide), s_addPart (i := 0) gw (w := 3) (by decide) (show 5 + 2 * g < 11 by omega) (by omega) rfl rfl (Nat.zero_le _) (Nat.le_refl _) (by omega) (fun h2 w2 s2 => ?_)⟩)))
      have r2 := gr.on hA hg s2
      refine r2.el (r2.yo ⟨w2.has (show 5 + 2 * g < 11 by omega), s_take w2 (show 5 + 2 * g < 11 by omega) (show 6 + 2 * g < 11 by omega) (fun h3' w3 s3 => ?_)⟩)
      have r3 := r2.on hA hg s3
      refine r3.yo ⟨w3.has (show 6 + 2 * g < 11 by omega), s_take w3 (show 6 + 2 * g < 11 by omega) (show 3 < 11 by decide) (fun h4 w4 s4 => ?_)⟩
      have r4 := r3.on hA hg s4
      obtain ⟨a0, row, a1, a2, a3, a4⟩ := id r4
      refine gA_mk a0 rfl (r4.ct (gSI_mk a3 (by omega) (by omega) (by rw [List.length_map, a1, Int.toNat_natCast]; omega) ?_))
      have a0' : (gaUp h4 (A (28 + g)) (102, (row.map gi).set ((ts.length : Int)).toNat (gi (i : Int)))) (A (26 + g)) = some (2, [.ref (A (28 + g)), gi (ts.length : Int), .ref (A (5 + 2 * g)), .ref (A (6 + 2 * g))]) := by
        rw [gaUp_ne _ _ (fun q => by have := hA _ _ (by omega) (by omega) q; omega)]; exact a0
      refine gI_mk a0' rfl (gPF_mk a0' (show 1 < 4 by decide) (k _ (((w4.off (i := 28 + g) (by omega) (by omega) _).off (i := 26 + g) (by omega) (by omega) _).eq (fun x hx => ?_)) ⟨?_, row.set ts.length (i : Int), by rw [List.length_set]; exact a1, by rw [List.length_append]; simp; omega, ?_, fun j hj => ?_⟩ ?_))
      · have f0 : ∀ x, x ≠ 3 → pu U 3 (U 3 ++ List.take ((U (5 + 2 * g)).length - 0) (List.drop 0 (U (5 + 2 * g)))) x = U x := fun x hx => pu_ne _ _ hx
        by_cases e6 : x = 6 + 2 * g
        · subst e6
          simp only [pu_self]
          rw [pu_ne _ _ (show 3 ≠ 5 + 2 * g by omega), pu_self, h3, List.drop_zero, Nat.sub_zero, List.take_length]
        · simp only [pu_ne _ _ e6]
          by_cases e5 : x = 5 + 2 * g
          · subst e5
            simp only [pu_self]
            rw [f0 _ (by omega)]
          · simp only [pu_ne _ _ e5]
            by_cases e33 : x = 3
            · subst e33
              simp only [pu_self]
              rw [h3, List.drop_zero, Nat.sub_zero, List.take_length]
            · simp only [pu_ne _ _ e33]
      · rw [gaUp_self, List.length_append]
        simp only [List.length_cons, List.length_nil, List.set_cons_succ, List.set_cons_zero, Int.natCast_add, Int.natCast_one]
        rfl
      · rw [gaUp_ne _ _ (fun q => by have := hA _ _ (by omega) (by omega) q; omega), gaUp_self, Int.toNat_natCast, List.map_set]
      · rw [List.length_append] at hj
        simp only [List.length_cons, List.length_nil] at hj
        by_cases z : j = ts.length
        · subst z
          rw [List.getElem?_set_self (by omega), List.getElem?_append_right (Nat.le_refl _), Nat.sub_self]
          rfl
        · rw [List.getElem?_set_ne (fun q => z q.symm), List.getElem?_append_left (by omega)]
          exact a4 j (by omega)
      · intro b b1 b2 b3
        rw [gaUp_ne _ _ b2, gaUp_ne _ _ b3]
        exact ((gSg.of (g := g) s2).tr ((gSg.of s3).tr (gSg.of s4))) b b1 b2 b3
    · have hm2 : (i + 1) * (U (6 + 2 * g)).length ≤ t * (U (6 + 2 * g)).length := Nat.mul_le_mul_right _ (by omega)
      rw [Nat.succ_mul] at hm2
      refine if_no (by omega) (gr.yo (gr.yo (gw.many (show 6 + 2 * g < 11 by omega) ⟨gw.has (w := 3) (by decide), s_addPart (i := 0) gw (w := 3) (by decide) (show 6 + 2 * g < 11 by omega) (by omega) rfl rfl (Nat.zero_le _) (Nat.le_refl _) (by omega) (fun h2 w2 s2 => ?_)⟩)))
      have n1 : ∀ x, x ≠ 3 → pu U 3 (U 3 ++ List.take ((U (6 + 2 * g)).length - 0) (List.drop 0 (U (6 + 2 * g)))) x = U x := fun x hx => pu_ne _ _ hx
      rw [show (i : Int) + 1 = ((i + 1 : Nat) : Int) by omega]
      refine s_goOn_L hg ht n (i + 1) h2 _ w2 (gr.on hA hg s2) hts (by omega) (by omega) ?_ (by rw [n1 _ (by omega), n1 _ (by omega)]; exact hl) (fun h' w' r' s' => k h' (w'.eq (fun x hx => ?_)) r' ((gSg.of s2).tr s'))
      · rw [pu_self, n1 _ (by omega), List.drop_zero, Nat.sub_zero, List.take_length, h3, rep_succ]
      · rw [n1 (6 + 2 * g) (by omega), n1 (5 + 2 * g) (by omega)]
        by_cases e6 : x = 6 + 2 * g
        · subst e6; simp only [pu_self]
        · simp only [pu_ne _ _ e6]
          by_cases e5 : x = 5 + 2 * g
          · subst e5; simp only [pu_self]
          · simp only [pu_ne _ _ e5]
            by_cases e33 : x = 3
            · subst e33; simp only [pu_self]
            · simp only [pu_ne _ _ e33]
theorem s_goOn (hg : g < 2) (gw : gW A h U) (gr : gGr A h g ts) (hok : gOk ts) (hu : U (5 + 2 * g) = (grw ts).1 ∧ U (6 + 2 * g) = (grw ts).2) {x : Int} {t : Nat} (hx : x = (t : Int)) (ht : 1 ≤ t ∧ t ≤ 3) {Q : Int → gaH → Prop}
    (k0 : (t * (grw ts).2.length + (grw ts).1.length > 64) → Q 0 h)
    (k1 : ∀ h', t * (grw ts).2.length + (grw ts).1.length ≤ 64 → gW A h' (pu (pu (pu U 3 (grw (ts ++ [t])).2) (5 + 2 * g) (grw (ts ++ [t])).1) (6 + 2 * g) (grw (ts ++ [t])).2) → gGr A h' g (ts ++ [t]) → gSg A g h h' → Q 1 h') : w_X0_goOn (A (26 + g)) x (A 3) h Q := by
  subst hx
  have hA := gw.inj
  have hl := hok.len
  obtain ⟨a0, row, a1, a2, a3, a4⟩ := id gr
  have hy := gw.le (show 6 + 2 * g < 11 by omega)
  have he := gw.le (show 5 + 2 * g < 11 by omega)
  have hm : t * (U (6 + 2 * g)).length ≤ 3 * 64 := Nat.mul_le_mul ht.2 hy
  unfold w_X0_goOn
  refine gr.ct ⟨gR_of (by omega) (by omega), if_no (by omega) (gr.ct (gA_mk a0 rfl (gAL_mk a3 (by rw [List.length_map, a1]) ⟨gR_of (by omega) (by omega), gR_of (by decide) (by decide), if_no (by omega) ?_⟩)))⟩
  unfold w_X0_goOn_J24
  refine ⟨gR_of (by decide) (by decide), if_no (by decide) (gr.yo (gw.many (show 6 + 2 * g < 11 by omega) (gr.el (gw.many (show 5 + 2 * g < 11 by omega) ?_))))⟩
  rw [show (t : Int) * ((U (6 + 2 * g)).length : Int) + ((U (5 + 2 * g)).length : Int) = ((t * (U (6 + 2 * g)).length + (U (5 + 2 * g)).length : Nat) : Int) by rw [Int.natCast_add, Int.natCast_mul]]
  refine ⟨gR_of (by omega) (by omega), ?_⟩
  by_cases q : t * (U (6 + 2 * g)).length + (U (5 + 2 * g)).length ≤ 64
  · refine if_yes (by omega) ⟨gw.has (w := 3) (by decide), s_clear gw (w := 3) (by decide) (fun h1 w1 s1 => ⟨4, ?_⟩)⟩
    have n1 : ∀ x, x ≠ 3 → pu U 3 [] x = U x := fun x hx => pu_ne _ _ hx
    have hlt : ts.length < 63 := by
      have h2 := (grw_len _ ts rfl hok.1)
      rw [hu.1, hu.2] at q
      have : 1 * (grw ts).2.length ≤ t * (grw ts).2.length := Nat.mul_le_mul_right _ ht.1
      omega
    refine s_goOn_L hg ht.2 4 0 h1 _ w1 (gr.on hA hg s1) hlt (Nat.zero_le _) (by omega) (by rw [pu_self]; rfl) (by rw [n1 _ (by omega), n1 _ (by omega)]; exact q) (fun h' w' r' s' => k1 h' (by rw [← hu.1, ← hu.2]; exact q) (w'.eq (fun x hx => ?_)) r' ((gSg.of s1).tr s'))
    rw [n1 (6 + 2 * g) (by omega), n1 (5 + 2 * g) (by omega), grw_snoc, hu.1, hu.2]
    simp only [gstep]
    by_cases e6 : x = 6 + 2 * g
    · subst e6; simp only [pu_self]
    · simp only [pu_ne _ _ e6]
      by_cases e5 : x = 5 + 2 * g
      · subst e5; simp only [pu_self]
      · simp only [pu_ne _ _ e5]
        by_cases e33 : x = 3
        · subst e33; simp only [pu_self]
        · simp only [pu_ne _ _ e33]
  · exact if_no (by omega) (k0 (by rw [← hu.1, ← hu.2]; omega))
end PG
