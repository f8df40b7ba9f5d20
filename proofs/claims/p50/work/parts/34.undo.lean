/-! The way back through a rule. -/
/-- is what stands from i on the image of some word? -/
def okR (x y u : List Bool) (i : Nat) : Bool :=
  if h : i < u.length ∧ 0 < x.length ∧ 0 < y.length then (stands u x i && okR x y u (i + x.length)) || (stands u y i && okR x y u (i + y.length)) else decide (i = u.length)
termination_by u.length - i
decreasing_by all_goals omega
/-- that word -/
def walkR (x y u : List Bool) (i : Nat) : List Bool :=
  if h : i < u.length ∧ 0 < x.length ∧ 0 < y.length then (if (stands u x i && okR x y u (i + x.length)) = true then false :: walkR x y u (i + x.length) else true :: walkR x y u (i + y.length)) else []
termination_by u.length - i
decreasing_by all_goals omega
theorem stands_le {u v : List Bool} {i : Nat} (h : stands u v i = true) : i + v.length ≤ u.length := by
  unfold stands at h
  rw [Bool.and_eq_true, decide_eq_true_eq] at h
  exact h.1
/-- nothing but words and the rule's marks has changed -/
def gSk (A : Nat → Nat) (h h' : gaH) : Prop := ∀ b, (∀ w, w < 22 → b ≠ A w) → b ≠ A 30 → h' b = h b
theorem gSk.of {A : Nat → Nat} {h h' : gaH} (x : gSm A h h') : gSk A h h' := fun b hb _ => x b hb
theorem gSk.tr {A : Nat → Nat} {h h1 h2 : gaH} (x : gSk A h h1) (y : gSk A h1 h2) : gSk A h h2 := fun b hb hc => (y b hb hc).trans (x b hb hc)
theorem gSk.at {A : Nat → Nat} {h h' : gaH} (x : gSk A h h') (hA : gInj A) {i : Nat} (h1 : 22 ≤ i) (h2 : i < 30) : h' (A i) = h (A i) := x _ (fun w hw q => by
  have := hA i w (by omega) (by omega) q
  omega) (fun q => by
  have := hA i 30 (by omega) (by omega) q
  omega)
theorem gRu.onk {A : Nat → Nat} {h h' : gaH} (r : gRu A h) (hA : gInj A) (s : gSk A h h') : gRu A h' := (s.at hA (by decide) (by decide)).trans r
section PM
variable {A : Nat → Nat} {h : gaH} {U : Nat → List Bool} {w v : Nat} {m : List Bool}
theorem gW.setM (g : gW A h U) (hm : h (A 30) = some (100, gRow m)) (hl : m.length = 65) {i : Nat} (hi : i < 65) {x : Int} (hx : x = (i : Int)) {b : Bool} {K : gaH → Prop} (k : ∀ h', gW A h' U → gSk A h h' → h' (A 30) = some (100, gRow (m.set i b)) → K h') : gSI h (A 30) 100 x (gi (b2i b)) K := by
  subst hx
  obtain ⟨R, N, g, e⟩ := g
  have hu : gaUp h (A 30) (100, (gRow m).set (i : Int).toNat (gi (b2i b))) (A 30) = some (100, gRow (m.set i b)) := by rw [gaUp_self, gRow_set, Int.toNat_natCast]
  refine gSI_mk hm (by omega) (by omega) (by rw [gRow_len, hl]; omega) (k _ ⟨R, N, ⟨g.1, fun x hx => ?_, m.set i b, by rw [List.length_set]; exact hl, hu⟩, e⟩ (fun b _ hb => gaUp_ne _ _ hb) hu)
  obtain ⟨a1, a2, a3, a4⟩ := g.2.1 x hx
  exact ⟨a1, a2, by rw [gaUp_ne _ _ (g.ne (by omega) (by omega) (by omega))]; exact a3, by rw [gaUp_ne _ _ (g.ne (by omega) (by omega) (by omega))]; exact a4⟩
theorem gW.marks (g : gW A h U) : ∃ m : List Bool, m.length = 65 ∧ h (A 30) = some (100, gRow m) := by obtain ⟨R, N, g, -⟩ := g; exact g.2.2
theorem s_isMarked (r : gRu A h) (hm : h (A 30) = some (100, gRow m)) (hl : m.length = 65) {x : Int} {p : Nat} (hx : x = (p : Int)) (hp : p < 65) {Q : Int → gaH → Prop} (k : Q (b2i (m.getD p false)) h) : w_X2_isMarked (A 25) x h Q := by
  subst hx
  unfold w_X2_isMarked
  refine ⟨gR_of (by omega) (by omega), if_no (by omega) (gA_mk r rfl (gAL_mk hm (by rw [gRow_len, hl]) ⟨gR_of (by omega) (by omega), gR_of (by decide) (by decide), if_no (by omega) (gA_mk r rfl (gLI_mk hm (by omega) (by omega) (by rw [Int.toNat_natCast]; exact gRow_at (by rw [hl]; exact hp)) ⟨b2i_R _, ?_⟩))⟩))⟩
  generalize m.getD p false = z at k
  cases z
  · exact if_yes rfl k
  · exact if_no (by decide) k
theorem s_goesOn (g : gW A h U) (r : gRu A h) (hm : h (A 30) = some (100, gRow m)) (hl : m.length = 65) (hw : w < 11) {q : Nat} (hq : q < 11) {x : Int} {p : Nat} (hx : x = (p : Int)) (hp : p ≤ 64) {Q : Int → gaH → Prop} (k : Q (b2i (stands (U w) (U q) p && m.getD (p + (U q).length) false)) h) : w_X2_goesOn (A 25) (A w) x (A q) h Q := by
  have hle := g.le hw
  unfold w_X2_goesOn
  refine s_standsAt g hw hq hx (by omega) ⟨b2i_R _, ?_⟩
  cases hz : stands (U w) (U q) p
  · rw [hz, Bool.false_and] at k
    exact if_yes rfl k
  · have h1 := stands_le hz
    rw [hz, Bool.true_and] at k
    refine if_no (by decide) (g.many hq ⟨r.has, s_isMarked (p := p + (U q).length) r hm hl (by subst hx; omega) (by omega) ⟨b2i_R _, ?_⟩⟩)
    generalize m.getD (p + (U q).length) false = z at k
    cases z
    · exact if_yes rfl k
    · exact if_no (by decide) k
theorem okR_at {x y u : List Bool} (hx : 0 < x.length) (hy : 0 < y.length) (i : Nat) : okR x y u i = (decide (i = u.length) || ((stands u x i && okR x y u (i + x.length)) || (stands u y i && okR x y u (i + y.length)))) := by
  rw [okR]
  by_cases h1 : i < u.length
  · rw [dif_pos ⟨h1, hx, hy⟩, decide_eq_false (by omega), Bool.false_or]
  · rw [dif_neg (fun z => h1 z.1)]
    have s1 : stands u x i = false := by
      cases hz : stands u x i
      · rfl
      · have := stands_le hz; omega
    have s2 : stands u y i = false := by
      cases hz : stands u y i
      · rfl
      · have := stands_le hz; omega
    rw [s1, s2, Bool.false_and, Bool.false_and, Bool.or_false, Bool.or_false]
theorem s_markImages_L (hA : gInj A) (hw : w < 11) (hw2 : w ≠ 9) {Q : gaH → Prop} (p1 : 0 < (U 9).length) (p2 : 0 < (U 10).length) : ∀ (n i : Nat) (h : gaH) (m : List Bool), gW A h U → gRu A h → h (A 30) = some (100, gRow m) → m.length = 65 → i ≤ 65 → i < n → (∀ j, i ≤ j → j < 65 → m.getD j false = okR (U 9) (U 10) (U w) j) →
    (∀ h' m', gW A h' U → gSk A h h' → h' (A 30) = some (100, gRow m') → m'.length = 65 → (∀ j, j < 65 → m'.getD j false = okR (U 9) (U 10) (U w) j) → Q h') → w_X2_markImages_L8 Q n (A 25) (A w) ((i : Int) - 1) h
  | 0, i, h, m, _, _, _, _, _, h1, _, _ => absurd h1 (Nat.not_lt_zero _)
  | n + 1, i, h, m, g, r, hm, hl, hi, h1, hj, k => by
    have hle := g.le hw
    unfold w_X2_markImages_L8
    refine ⟨gR_of (by omega) (by omega), ?_⟩
    cases i with
    | zero => exact if_yes (by omega) (k h m g (fun _ _ _ => rfl) hm hl (fun j hj2 => hj j (Nat.zero_le _) hj2))
    | succ i =>
      have e1 : ((i + 1 : Nat) : Int) - 1 = (i : Int) := by omega
      rw [e1]
      have fin : ∀ b : Bool, b = okR (U 9) (U 10) (U w) i → w_X2_markImages_J56 Q (w_X2_markImages_L8 Q n) (A 25) (A w) (i : Int) (A 30) (i : Int) (b2i b) h := by
        intro b hb
        unfold w_X2_markImages_J56
        refine ⟨b2i_nar b, g.setM hm hl (i := i) (by omega) rfl (fun h' g' s hm' => ?_)⟩
        rw [show (i : Int) + -1 = (i : Int) - 1 by omega]
        refine s_markImages_L hA hw hw2 p1 p2 n i h' _ g' (r.onk hA s) hm' (by rw [List.length_set]; exact hl) (by omega) (by omega) (fun j q1 q2 => ?_) (fun h2 m2 g2 s2 t1 t2 t3 => k h2 m2 g2 (s.tr s2) t1 t2 t3)
        by_cases q : j = i
        · subst q
          rw [List.getD_eq_getElem?_getD, List.getElem?_set_self (by omega)]
          exact hb
        · rw [List.getD_eq_getElem?_getD, List.getElem?_set_ne (fun z => q z.symm), ← List.getD_eq_getElem?_getD]
          exact hj j (by omega) q2
      have hok := okR_at (x := U 9) (y := U 10) (u := U w) p1 p2 i
      have mk : ∀ q, 0 < (U q).length → (stands (U w) (U q) i && m.getD (i + (U q).length) false) = (stands (U w) (U q) i && okR (U 9) (U 10) (U w) (i + (U q).length)) := by
        intro q hq
        cases hz : stands (U w) (U q) i
        · rfl
        · have := stands_le hz
          rw [hj _ (by omega) (by omega)]
      refine if_no (by omega) (gA_mk r rfl (g.many hw ⟨gR_of (by omega) (by omega), gR_of (by omega) (by omega), ?_⟩))
      by_cases z : i = (U w).length
      · refine if_yes (by omega) ?_
        unfold w_X2_markImages_J51
        refine fin true ?_
        rw [hok, decide_eq_true z, Bool.true_or]
      · rw [decide_eq_false z, Bool.false_or] at hok
        refine if_no (by omega) (gA_mk r rfl ⟨r.has, s_goesOn g r hm hl hw (q := 9) (by decide) rfl (by omega) ⟨b2i_R _, ?_⟩⟩)
        rw [mk 9 p1]
        cases hz : (stands (U w) (U 9) i && okR (U 9) (U 10) (U w) (i + (U 9).length))
        · rw [hz, Bool.false_or] at hok
          refine if_yes rfl (gA_mk r rfl ⟨r.has, s_goesOn g r hm hl hw (q := 10) (by decide) rfl (by omega) ⟨b2i_R _, ?_⟩⟩)
          rw [mk 10 p2, ← hok]
          cases hy : okR (U 9) (U 10) (U w) i
          · exact if_yes rfl (fin false hy.symm)
          · refine if_no (by decide) ?_
            unfold w_X2_markImages_J51
            exact fin true hy.symm
        · rw [hz, Bool.true_or] at hok
          refine if_no (by decide) ?_
          unfold w_X2_markImages_J51
          exact fin true hok.symm
theorem s_layOrigin_L (hA : gInj A) (hw : w < 9) (hv : v < 9) (hne : v ≠ w) {Q : Int → gaH → Prop} : ∀ (n i nx : Nat) (h : gaH) (U : Nat → List Bool), gW A h U → gRu A h → 0 < (U 9).length → 0 < (U 10).length → h (A 30) = some (100, gRow m) → m.length = 65 → (∀ j, j < 65 → m.getD j false = okR (U 9) (U 10) (U w) j) → i ≤ (U w).length → i ≤ nx → nx ≤ (U w).length → (U w).length - i < n →
    okR (U 9) (U 10) (U w) nx = true → (U v).length ≤ i →
    (∀ h', gW A h' (pu U v (U v ++ walkR (U 9) (U 10) (U w) nx)) → gSm A h h' → Q 1 h') → w_X2_layOrigin_L24 Q n (A 25) (A w) (A v) (nx : Int) (i : Int) h
  | 0, i, nx, h, U, _, _, _, _, _, _, _, _, _, _, h1, _, _, _ => absurd h1 (Nat.not_lt_zero _)
  | n + 1, i, nx, h, U, g, r, p1, p2, hm, hl, hj, hi, hn, hn2, h1, hok, hc, k => by
    have hle := g.le (show w < 11 by omega)
    unfold w_X2_layOrigin_L24
    refine g.many (show w < 11 by omega) ⟨gR_of (by omega) (by omega), gR_of (by omega) (by omega), ?_⟩
    by_cases q : i = (U w).length
    · have e : nx = (U w).length := by omega
      refine if_yes (by omega) (k h (g.eq (fun x _ => ?_)) gSm.rf)
      by_cases z : x = v
      · rw [z, pu_self, walkR, dif_neg (by omega), List.append_nil]
      · exact pu_ne _ _ z
    · refine if_no (by omega) ⟨gR_of (by omega) (by omega), gR_of (by omega) (by omega), ?_⟩
      by_cases z : i = nx
      · subst z
        have hlt : i < (U w).length := by omega
        have mk : (stands (U w) (U 9) i && m.getD (i + (U 9).length) false) = (stands (U w) (U 9) i && okR (U 9) (U 10) (U w) (i + (U 9).length)) := by
          cases hz : stands (U w) (U 9) i
          · rfl
          · have := stands_le hz
            rw [hj _ (by omega)]
        have hw1 : walkR (U 9) (U 10) (U w) i = (if (stands (U w) (U 9) i && okR (U 9) (U 10) (U w) (i + (U 9).length)) = true then false :: walkR (U 9) (U 10) (U w) (i + (U 9).length) else true :: walkR (U 9) (U 10) (U w) (i + (U 10).length)) := by
          rw [walkR, dif_pos ⟨hlt, p1, p2⟩]
        -- the sign b is laid, by the word of q
        have fin : ∀ (b : Bool) (q : Nat), q = (if b = true then 10 else 9) → (stands (U w) (U q) i && okR (U 9) (U 10) (U w) (i + (U q).length)) = true → walkR (U 9) (U 10) (U w) i = b :: walkR (U 9) (U 10) (U w) (i + (U q).length) → w_X2_layOrigin_J58 Q (w_X2_layOrigin_L24 Q n) (A 25) (A w) (A v) (i : Int) (b2i b) h := by
          intro b q hq hs hwk
          rw [Bool.and_eq_true] at hs
          have hst := stands_le hs.1
          unfold w_X2_layOrigin_J58
          refine ⟨g.has (show v < 11 by omega), s_add g (show v < 11 by omega) (by omega) rfl (fun h' g' s => ⟨b2i_R _, ?_⟩)⟩
          have n1 : ∀ x, x ≠ v → pu U v (U v ++ [b]) x = U x := fun x hx => pu_ne _ _ hx
          have goon : ∀ (hm2 : h' (A 30) = some (100, gRow m)), w_X2_layOrigin_L24 Q n (A 25) (A w) (A v) ((i : Int) + ((U q).length : Int)) ((i : Int) + 1) h' := by
            intro hm2
            rw [show (i : Int) + ((U q).length : Int) = ((i + (U q).length : Nat) : Int) by omega, show (i : Int) + 1 = ((i + 1 : Nat) : Int) by omega]
            have hq0 : 0 < (U q).length := by rw [hq]; cases b <;> simp <;> assumption
            refine s_layOrigin_L hA hw hv hne n (i + 1) (i + (U q).length) h' _ g' (r.on hA s) (by rw [n1 9 (by omega)]; exact p1) (by rw [n1 10 (by omega)]; exact p2) hm2 hl (by rw [n1 9 (by omega), n1 10 (by omega), n1 w hne.symm]; exact hj) (by rw [n1 w hne.symm]; omega) (by omega) (by rw [n1 w hne.symm]; exact hst) (by rw [n1 w hne.symm]; omega) (by rw [n1 9 (by omega), n1 10 (by omega), n1 w hne.symm]; exact hs.2) (by rw [pu_self, List.length_append]; simp only [List.length_cons, List.length_nil]; omega) (fun h2 g2 s2 => k h2 (g2.eq (fun x _ => ?_)) (s.tr s2))
            by_cases e : x = v
            · subst e
              rw [pu_self, pu_self, pu_self, n1 9 (by omega), n1 10 (by omega), n1 w hne.symm, hwk, List.append_assoc]
              rfl
            · rw [pu_ne _ _ e, pu_ne _ _ e, n1 x e]
          have hm2 : h' (A 30) = some (100, gRow m) := (s.at hA (by decide) (by decide)).trans hm
          have r' := r.on hA s
          subst hq
          cases b
          · refine if_yes rfl (gA_mk r' rfl ?_)
            refine g'.many (w := 9) (by decide) ?_
            rw [n1 9 (by omega)]
            exact goon hm2
          · refine if_no (by decide) (gA_mk r' rfl ?_)
            refine g'.many (w := 10) (by decide) ?_
            rw [n1 10 (by omega)]
            exact goon hm2
        refine if_yes rfl (gA_mk r rfl ⟨r.has, s_goesOn g r hm hl (show w < 11 by omega) (q := 9) (by decide) rfl (by omega) ⟨b2i_R _, ?_⟩⟩)
        rw [mk]
        cases hz : (stands (U w) (U 9) i && okR (U 9) (U 10) (U w) (i + (U 9).length))
        · have h2 := okR_at (x := U 9) (y := U 10) (u := U w) p1 p2 i
          rw [hok, decide_eq_false (by omega), hz, Bool.false_or, Bool.false_or] at h2
          exact if_yes rfl (fin true 10 rfl h2.symm (by rw [hw1, hz]; rfl))
        · exact if_no (by decide) (fin false 9 rfl hz (by rw [hw1, hz]; rfl))
      · refine if_no (by omega) ?_
        rw [show (i : Int) + 1 = ((i + 1 : Nat) : Int) by omega]
        exact s_layOrigin_L hA hw hv hne n (i + 1) nx h U g r p1 p2 hm hl hj (by omega) (by omega) hn2 (by omega) hok (by omega) k
/-- the word whose image is told, if there is one -/
theorem s_layOrigin (g : gW A h U) (r : gRu A h) (hw : w < 9) (hv : v < 9) (hne : v ≠ w) (p1 : 0 < (U 9).length) (p2 : 0 < (U 10).length) {Q : Int → gaH → Prop}
    (k0 : ∀ h', gW A h' U → gSk A h h' → okR (U 9) (U 10) (U w) 0 = false → Q 0 h') (k1 : ∀ h', gW A h' (pu U v (walkR (U 9) (U 10) (U w) 0)) → gSk A h h' → okR (U 9) (U 10) (U w) 0 = true → Q 1 h') : w_X2_layOrigin (A 25) (A w) (A v) h Q := by
  have hA := g.inj
  have hle := g.le (show w < 11 by omega)
  obtain ⟨m, hl, hm⟩ := g.marks
  unfold w_X2_layOrigin w_X2_markImages
  refine ⟨r.has, gA_mk r rfl (gAL_mk hm (by rw [gRow_len, hl]) ⟨66, ?_⟩)⟩
  refine s_markImages_L hA (show w < 11 by omega) (by omega) p1 p2 66 65 h m g r hm hl (Nat.le_refl _) (by decide) (fun j q1 q2 => by omega) (fun h1 m1 g1 s1 hm1 hl1 hj1 => ?_)
  have r1 := r.onk hA s1
  refine ⟨r1.has, s_isMarked (p := 0) r1 hm1 hl1 rfl (by decide) ⟨b2i_R _, ?_⟩⟩
  rw [hj1 0 (by decide)]
  cases hok : okR (U 9) (U 10) (U w) 0
  · exact if_yes rfl (k0 h1 g1 s1 hok)
  · refine if_no (by decide) ⟨g1.has (show v < 11 by omega), s_clear g1 (show v < 11 by omega) (fun h2 g2 s2 => ⟨65, ?_⟩)⟩
    have n1 : ∀ x, x ≠ v → pu U v [] x = U x := fun x hx => pu_ne _ _ hx
    refine s_layOrigin_L (m := m1) hA hw hv hne 65 0 0 h2 _ g2 (r1.on hA s2) (by rw [n1 9 (by omega)]; exact p1) (by rw [n1 10 (by omega)]; exact p2) ((s2.at hA (by decide) (by decide)).trans hm1) hl1 (by rw [n1 9 (by omega), n1 10 (by omega), n1 w hne.symm]; exact hj1) (Nat.zero_le _) (Nat.le_refl _) (Nat.zero_le _) (by rw [n1 w hne.symm]; omega) (by rw [n1 9 (by omega), n1 10 (by omega), n1 w hne.symm]; exact hok) (by rw [pu_self]; exact Nat.le_refl _) (fun h3 g3 s3 => k1 h3 (g3.eq (fun x _ => ?_)) (s1.tr ((gSk.of s2).tr (gSk.of s3))) hok)
    by_cases e : x = v
    · subst e
      rw [pu_self, pu_self, pu_self, n1 9 (by omega), n1 10 (by omega), n1 w hne.symm]; rfl
    · rw [pu_ne _ _ e, pu_ne _ _ e, n1 x e]
end PM
