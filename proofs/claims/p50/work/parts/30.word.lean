/-! WORDS, pure. Eleven words of a garden lie at A 0 .. A 10, their rows at A 11 .. A 21; R: the rows, N: how many signs count; U: the words. -/
def b2i (b : Bool) : Int := if b = true then 1 else 0
theorem b2i_nar (b : Bool) : narrow .boolean (gi (b2i b)) = gi (b2i b) := by cases b <;> rfl
theorem b2i_R (b : Bool) : gR (b2i b) := by cases b <;> exact ⟨by decide, by decide⟩
theorem gR_of {x : Int} (h1 : -1000000 ≤ x) (h2 : x ≤ 1000000) : gR x := ⟨by omega, by omega⟩
def gRow (row : List Bool) : List Value := row.map (fun b => gi (b2i b))
def pu {α : Type} (U : Nat → α) (w : Nat) (x : α) : Nat → α := fun v => if v = w then x else U v
theorem pu_self {α : Type} (U : Nat → α) (w : Nat) (x : α) : pu U w x w = x := if_pos rfl
theorem pu_ne {α : Type} (U : Nat → α) {w v : Nat} (x : α) (h : v ≠ w) : pu U w x v = U v := if_neg h
def gInj (A : Nat → Nat) : Prop := ∀ i j, i < 31 → j < 31 → A i = A j → i = j
def gWR (A : Nat → Nat) (h : gaH) (R : Nat → List Bool) (N : Nat → Nat) : Prop := gInj A ∧ (∀ w, w < 11 → (R w).length = 64 ∧ N w ≤ 64 ∧ h (A w) = some (4, [.ref (A (11 + w)), gi (N w : Int)]) ∧ h (A (11 + w)) = some (100, gRow (R w))) ∧ ∃ m : List Bool, m.length = 65 ∧ h (A 30) = some (100, gRow m)
def gW (A : Nat → Nat) (h : gaH) (U : Nat → List Bool) : Prop := ∃ (R : Nat → List Bool) (N : Nat → Nat), gWR A h R N ∧ ∀ w, w < 11 → U w = (R w).take (N w)
/-- nothing but words has changed -/
def gSm (A : Nat → Nat) (h h' : gaH) : Prop := ∀ b, (∀ w, w < 22 → b ≠ A w) → h' b = h b
theorem gSm.rf {A : Nat → Nat} {h : gaH} : gSm A h h := fun _ _ => rfl
theorem gSm.tr {A : Nat → Nat} {h h1 h2 : gaH} (x : gSm A h h1) (y : gSm A h1 h2) : gSm A h h2 := fun b hb => (y b hb).trans (x b hb)
theorem gSm.up {A : Nat → Nat} {h h1 : gaH} (x : gSm A h h1) {w : Nat} (hw : w < 22) (e : gaE) : gSm A h (gaUp h1 (A w) e) := fun b hb => by rw [gaUp_ne _ _ (hb w hw)]; exact x b hb
theorem gSm.at {A : Nat → Nat} {h h' : gaH} (x : gSm A h h') (hA : gInj A) {i : Nat} (h1 : 22 ≤ i) (h2 : i < 31) : h' (A i) = h (A i) := x _ (fun w hw q => by
  have := hA i w (by omega) (by omega) q
  omega)
theorem gI_mk {h : gaH} {a ci f : Nat} {K : Int → Prop} {fs : List Value} {x : Int} (ha : h a = some (ci, fs)) (hv : fs[f]? = some (gi x)) (k : K x) : gI h a ci f K := ⟨fs, x, ha, hv, k⟩
theorem gA_mk {h : gaH} {a ci f : Nat} {K : Nat → Prop} {fs : List Value} {x : Nat} (ha : h a = some (ci, fs)) (hv : fs[f]? = some (.ref x)) (k : K x) : gA h a ci f K := ⟨fs, x, ha, hv, k⟩
theorem gPF_mk {h : gaH} {a ci f : Nat} {v : Value} {K : gaH → Prop} {fs : List Value} (ha : h a = some (ci, fs)) (hf : f < fs.length) (k : K (gaUp h a (ci, fs.set f v))) : gPF h a ci f v K := ⟨fs, ha, hf, k⟩
theorem gAL_mk {h : gaH} {a t : Nat} {K : Int → Prop} {vs : List Value} {x : Int} (ha : h a = some (t, vs)) (hx : (vs.length : Int) = x) (k : K x) : gAL h a t K := ⟨t, vs, ha, Or.inl rfl, by rw [hx]; exact k⟩
theorem gLI_mk {h : gaH} {a t : Nat} {i : Int} {K : Int → Prop} {vs : List Value} {x : Int} (ha : h a = some (t, vs)) (h0 : 0 ≤ i) (h9 : i ≤ 2147483647) (hv : vs[i.toNat]? = some (gi x)) (k : K x) : gLI h a t i K := ⟨t, vs, x, ha, Or.inl rfl, h0, h9, hv, k⟩
theorem gSI_mk {h : gaH} {a t : Nat} {i : Int} {v : Value} {K : gaH → Prop} {vs : List Value} (ha : h a = some (t, vs)) (h0 : 0 ≤ i) (h9 : i ≤ 2147483647) (hi : i.toNat < vs.length) (k : K (gaUp h a (t, vs.set i.toNat v))) : gSI h a t i v K := ⟨vs, ha, h0, h9, hi, k⟩
theorem if_yes {c : Prop} [Decidable c] {X Y : Prop} (hc : c) (k : X) : (if c then X else Y) := by rw [if_pos hc]; exact k
theorem if_no {c : Prop} [Decidable c] {X Y : Prop} (hc : ¬ c) (k : Y) : (if c then X else Y) := by rw [if_neg hc]; exact k
theorem gRow_len (r : List Bool) : (gRow r).length = r.length := by simp [gRow]
theorem gRow_at {r : List Bool} {i : Nat} (hi : i < r.length) : (gRow r)[i]? = some (gi (b2i (r.getD i false))) := by
  simp [gRow, List.getElem?_map, List.getElem?_eq_getElem hi, List.getD_eq_getElem?_getD]
theorem gRow_set (r : List Bool) (i : Nat) (b : Bool) : (gRow r).set i (gi (b2i b)) = gRow (r.set i b) := by simp [gRow, List.map_set]
section PW
variable {A : Nat → Nat} {h : gaH} {R : Nat → List Bool} {N : Nat → Nat} {U : Nat → List Bool} {w v : Nat}
theorem gWR.ne (g : gWR A h R N) {i j : Nat} (hi : i < 31) (hj : j < 31) (hn : i ≠ j) : A i ≠ A j := fun q => hn (g.1 i j hi hj q)
theorem gWR.has (g : gWR A h R N) (hw : w < 11) : gHas h (A w) 4 := ⟨_, (g.2.1 w hw).2.2.1⟩
theorem gWR.len (g : gWR A h R N) (hw : w < 11) : (R w).length = 64 := (g.2.1 w hw).1
theorem gWR.many (g : gWR A h R N) (hw : w < 11) {K : Int → Prop} (k : K (N w : Int)) : gI h (A w) 4 1 K := gI_mk (g.2.1 w hw).2.2.1 rfl k
theorem gWR.row (g : gWR A h R N) (hw : w < 11) {K : Nat → Prop} (k : K (A (11 + w))) : gA h (A w) 4 0 K := gA_mk (g.2.1 w hw).2.2.1 rfl k
theorem gWR.al (g : gWR A h R N) (hw : w < 11) {K : Int → Prop} (k : K 64) : gAL h (A (11 + w)) 100 K := gAL_mk (g.2.1 w hw).2.2.2 (by rw [gRow_len, (g.2.1 w hw).1]; rfl) k
/-- how many signs count is set -/
theorem gWR.setN (g : gWR A h R N) (hw : w < 11) {n : Nat} (hn : n ≤ 64) {x : Int} (hx : x = (n : Int)) {K : gaH → Prop} (k : ∀ h', gWR A h' R (pu N w n) → gSm A h h' → K h') : gPF h (A w) 4 1 (gi x) K := by
  subst hx
  refine gPF_mk (g.2.1 w hw).2.2.1 (show 1 < 2 by decide) (k _ ⟨g.1, fun v hv => ?_, by obtain ⟨m, m1, m2⟩ := g.2.2; exact ⟨m, m1, by rw [gaUp_ne _ _ (g.ne (by omega) (by omega) (by omega))]; exact m2⟩⟩ (gSm.rf.up (by omega) _))
  obtain ⟨a1, a2, a3, a4⟩ := g.2.1 v hv
  refine ⟨a1, ?_, ?_, ?_⟩
  · by_cases e : v = w
    · rw [e, pu_self]; exact hn
    · rw [pu_ne _ _ e]; exact a2
  · by_cases e : v = w
    · rw [e, pu_self, gaUp_self]; rfl
    · rw [pu_ne _ _ e, gaUp_ne _ _ (g.ne (by omega) (by omega) e)]; exact a3
  · rw [gaUp_ne _ _ (g.ne (by omega) (by omega) (by omega))]; exact a4
/-- a sign is set -/
theorem gWR.setR (g : gWR A h R N) (hw : w < 11) {i : Nat} (hi : i < 64) {x : Int} (hx : x = (i : Int)) {b : Bool} {K : gaH → Prop} (k : ∀ h', gWR A h' (pu R w ((R w).set i b)) N → gSm A h h' → K h') : gSI h (A (11 + w)) 100 x (gi (b2i b)) K := by
  subst hx
  have hl := g.len hw
  refine gSI_mk (g.2.1 w hw).2.2.2 (by omega) (by omega) (by rw [gRow_len, hl]; omega) (k _ ⟨g.1, fun v hv => ?_, by obtain ⟨m, m1, m2⟩ := g.2.2; exact ⟨m, m1, by rw [gaUp_ne _ _ (g.ne (by omega) (by omega) (by omega))]; exact m2⟩⟩ (gSm.rf.up (by omega) _))
  obtain ⟨a1, a2, a3, a4⟩ := g.2.1 v hv
  refine ⟨?_, a2, ?_, ?_⟩
  · by_cases e : v = w
    · rw [e, pu_self, List.length_set]; exact hl
    · rw [pu_ne _ _ e]; exact a1
  · rw [gaUp_ne _ _ (g.ne (by omega) (by omega) (by omega))]; exact a3
  · by_cases e : v = w
    · rw [e, pu_self, gaUp_self, gRow_set, Int.toNat_natCast]
    · rw [pu_ne _ _ e, gaUp_ne _ _ (g.ne (by omega) (by omega) (by omega))]; exact a4
theorem sr_isUp (g : gWR A h R N) (hw : w < 11) {p : Int} {i : Nat} (hp : p = (i : Int)) (hi : i < 64) {Q : Int → gaH → Prop} (k : Q (b2i ((R w).getD i false)) h) : w_X4_isUp (A w) p h Q := by
  subst hp
  unfold w_X4_isUp
  refine ⟨gR_of (by omega) (by omega), if_no (by omega) (g.row hw (g.al hw ⟨gR_of (by omega) (by omega), gR_of (by decide) (by decide), if_no (by omega) (g.row hw ?_)⟩))⟩
  refine gLI_mk (g.2.1 w hw).2.2.2 (by omega) (by omega) (by rw [Int.toNat_natCast]; exact gRow_at (by rw [g.len hw]; exact hi)) ⟨b2i_R _, ?_⟩
  generalize (R w).getD i false = z at k
  cases z
  · exact if_yes rfl k
  · exact if_no (by decide) k
theorem sr_clear (g : gWR A h R N) (hw : w < 11) {Q : gaH → Prop} (k : ∀ h', gWR A h' R (pu N w 0) → gSm A h h' → Q h') : w_X4_clear (A w) h Q := g.setN hw (by decide) rfl k
theorem sr_add (g : gWR A h R N) (hw : w < 11) (hn : N w < 64) {b : Bool} {Q : gaH → Prop} (k : ∀ h', gWR A h' (pu R w ((R w).set (N w) b)) (pu N w (N w + 1)) → gSm A h h' → Q h') : w_X4_add (A w) (b2i b) h Q := by
  unfold w_X4_add
  refine g.many hw ⟨gR_of (by omega) (by omega), if_no (by omega) (g.many hw (g.row hw (g.al hw ⟨gR_of (by omega) (by omega), gR_of (by decide) (by decide), if_no (by omega) (g.row hw (g.many hw ⟨b2i_nar b, ?_⟩))⟩)))⟩
  refine g.setR hw hn rfl (fun h1 g1 s1 => g1.many hw (g1.setN hw (by omega) (by push_cast; rfl) (fun h2 g2 s2 => k h2 g2 (s1.tr s2))))
theorem sr_put (g : gWR A h R N) (hw : w < 11) {p : Int} {i : Nat} (hp : p = (i : Int)) (hi : i < 64) {b : Bool} {Q : gaH → Prop} (k : ∀ h', gWR A h' (pu R w ((R w).set i b)) N → gSm A h h' → Q h') : w_X4_put (A w) p (b2i b) h Q := by
  subst hp
  unfold w_X4_put
  refine ⟨gR_of (by omega) (by omega), if_no (by omega) (g.row hw (g.al hw ⟨gR_of (by omega) (by omega), gR_of (by decide) (by decide), if_no (by omega) (g.row hw ⟨b2i_nar b, ?_⟩)⟩))⟩
  exact g.setR hw hi rfl k
-- words
theorem gW.le (g : gW A h U) (hw : w < 11) : (U w).length ≤ 64 := by
  obtain ⟨R, N, g, e⟩ := g
  rw [e w hw, List.length_take]
  have := (g.2.1 w hw).2.1
  omega
theorem gW.many (g : gW A h U) (hw : w < 11) {K : Int → Prop} (k : K ((U w).length : Int)) : gI h (A w) 4 1 K := by
  obtain ⟨R, N, g, e⟩ := g
  refine g.many hw ?_
  have : (U w).length = N w := by
    rw [e w hw, List.length_take, g.len hw]
    have := (g.2.1 w hw).2.1
    omega
  rw [← this]
  exact k
theorem gW.has (g : gW A h U) (hw : w < 11) : gHas h (A w) 4 := by
  obtain ⟨R, N, g, e⟩ := g
  exact g.has hw
theorem gWR.wd (g : gWR A h R N) : gW A h (fun w => (R w).take (N w)) := ⟨R, N, g, fun _ _ => rfl⟩
theorem gW.eq (g : gW A h U) {V : Nat → List Bool} (e : ∀ w, w < 11 → V w = U w) : gW A h V := by
  obtain ⟨R, N, g, e2⟩ := g
  exact ⟨R, N, g, fun w hw => (e w hw).trans (e2 w hw)⟩
theorem s_isUp (g : gW A h U) (hw : w < 11) {p : Int} {i : Nat} (hp : p = (i : Int)) (hi : i < (U w).length) {Q : Int → gaH → Prop} (k : Q (b2i ((U w).getD i false)) h) : w_X4_isUp (A w) p h Q := by
  have hle := g.le hw
  obtain ⟨R, N, g, e⟩ := g
  refine sr_isUp g hw hp (by omega) ?_
  have hi2 := hi
  rw [e w hw] at k hi2
  rw [List.length_take] at hi2
  have : ((R w).take (N w)).getD i false = (R w).getD i false := by
    rw [List.getD_eq_getElem?_getD, List.getD_eq_getElem?_getD, List.getElem?_take_of_lt (by omega)]
  rw [this] at k
  exact k
theorem s_clear (g : gW A h U) (hw : w < 11) {Q : gaH → Prop} (k : ∀ h', gW A h' (pu U w []) → gSm A h h' → Q h') : w_X4_clear (A w) h Q := by
  obtain ⟨R, N, g, e⟩ := g
  refine sr_clear g hw (fun h' g' s => k h' ⟨R, _, g', fun v hv => ?_⟩ s)
  by_cases q : v = w
  · subst q; rw [pu_self, pu_self, List.take_zero]
  · rw [pu_ne _ _ q, pu_ne _ _ q]; exact e v hv
theorem s_add (g : gW A h U) (hw : w < 11) (hl : (U w).length < 64) {x : Int} {b : Bool} (hx : x = b2i b) {Q : gaH → Prop} (k : ∀ h', gW A h' (pu U w (U w ++ [b])) → gSm A h h' → Q h') : w_X4_add (A w) x h Q := by
  subst hx
  obtain ⟨R, N, g, e⟩ := g
  have hN : (U w).length = N w := by
    rw [e w hw, List.length_take, g.len hw]
    have := (g.2.1 w hw).2.1
    omega
  refine sr_add g hw (by omega) (fun h' g' s => k h' ⟨_, _, g', fun v hv => ?_⟩ s)
  by_cases q : v = w
  · subst q
    rw [pu_self, pu_self, pu_self, e v hw]
    have hlt : N v < (R v).length := by rw [g.len hw]; omega
    rw [List.take_succ, List.take_set_of_le (by omega), List.getElem?_set_self hlt]
    rfl
  · rw [pu_ne _ _ q, pu_ne _ _ q, pu_ne _ _ q]; exact e v hv
theorem s_put (g : gW A h U) (hw : w < 11) {p x : Int} {i : Nat} (hp : p = (i : Int)) (hi : i < (U w).length) {b : Bool} (hx : x = b2i b) {Q : gaH → Prop} (k : ∀ h', gW A h' (pu U w ((U w).set i b)) → gSm A h h' → Q h') : w_X4_put (A w) p x h Q := by
  subst hx
  have hle := g.le hw
  obtain ⟨R, N, g, e⟩ := g
  refine sr_put g hw hp (by omega) (fun h' g' s => k h' ⟨_, _, g', fun v hv => ?_⟩ s)
  by_cases q : v = w
  · subst q
    rw [pu_self, pu_self, e v hw, List.take_set]
  · rw [pu_ne _ _ q, pu_ne _ _ q]; exact e v hv
theorem s_take_L (hw : w < 11) (hv : v < 11) {u : List Bool} (hu : u.length ≤ 64) {Q : gaH → Prop} : ∀ (n i : Nat) (h : gaH) (R : Nat → List Bool), gWR A h R N → u.length = N v → i ≤ u.length → u.length - i < n → (∀ j, j < i → (R w)[j]? = u[j]?) → (∀ j, i ≤ j → j < u.length → (R v)[j]? = u[j]?) →
    (∀ h' R', gWR A h' R' (pu N w u.length) → (R' w).take u.length = u → (∀ x, x ≠ w → R' x = R x) → gSm A h h' → Q h') → w_X4_take_L2 Q n (A w) (A v) (i : Int) h
  | 0, i, h, R, _, _, _, h1, _, _, _ => absurd h1 (Nat.not_lt_zero _)
  | n + 1, i, h, R, g, hN, hi, h1, p1, p2, k => by
    unfold w_X4_take_L2
    refine g.many hv ⟨gR_of (by omega) (by omega), gR_of (by omega) (by omega), ?_⟩
    by_cases q : i = u.length
    · refine if_yes (by omega) (g.many hv (g.setN hw hu (by omega) (fun h' g' s => k h' R g' ?_ (fun _ _ => rfl) s)))
      apply List.ext_getElem?
      intro j
      by_cases hj : j < u.length
      · rw [List.getElem?_take_of_lt hj]; exact p1 j (by omega)
      · rw [List.getElem?_eq_none (by rw [List.length_take]; omega), List.getElem?_eq_none (by omega)]
    · refine if_no (by omega) ⟨g.has hv, sr_isUp g hv rfl (by omega) ⟨g.has hw, sr_put g hw rfl (by omega) (fun h' g' s => ?_)⟩⟩
      have e1 : (R v).getD i false = u.getD i false := by rw [List.getD_eq_getElem?_getD, List.getD_eq_getElem?_getD, p2 i (Nat.le_refl _) (by omega)]
      have e2 : u[i]? = some (u.getD i false) := by rw [List.getD_eq_getElem?_getD, List.getElem?_eq_getElem (by omega)]; rfl
      refine s_take_L hw hv hu n (i + 1) h' _ g' hN (by omega) (by omega) (fun j hj => ?_) (fun j h2 h3 => ?_) (fun h2 R2 g2 t2 f2 s2 => k h2 R2 g2 t2 (fun x hx => by rw [f2 x hx, pu_ne _ _ hx]) (s.tr s2))
      · rw [pu_self]
        by_cases hji : j = i
        · subst hji
          rw [List.getElem?_set_self (by rw [g.len hw]; omega), e1, e2]
        · rw [List.getElem?_set_ne (fun q => hji q.symm)]; exact p1 j (by omega)
      · by_cases hvw : v = w
        · subst hvw
          rw [pu_self, List.getElem?_set_ne (by omega)]
          exact p2 j (by omega) h3
        · rw [pu_ne _ _ hvw]; exact p2 j (by omega) h3
theorem s_take (g : gW A h U) (hw : w < 11) (hv : v < 11) {Q : gaH → Prop} (k : ∀ h', gW A h' (pu U w (U v)) → gSm A h h' → Q h') : w_X4_take (A w) (A v) h Q := by
  have hle := g.le hv
  obtain ⟨R, N, g, e⟩ := g
  have hN : (U v).length = N v := by
    rw [e v hv, List.length_take, g.len hv]
    have := (g.2.1 v hv).2.1
    omega
  refine ⟨65, ?_⟩
  refine s_take_L (u := U v) hw hv hle 65 0 h R g hN (Nat.zero_le _) (by omega) (fun j hj => absurd hj (Nat.not_lt_zero _)) (fun j _ hj => ?_) (fun h' R' g' t f s => k h' ⟨R', _, g', fun x hx => ?_⟩ s)
  · rw [e v hv, List.getElem?_take_of_lt (by omega)]
  · by_cases q : x = w
    · subst q; rw [pu_self, pu_self, t]
    · rw [pu_ne _ _ q, pu_ne _ _ q, f x q]; exact e x hx
end PW
