/-! WORDS, pure. Eleven words of a garden lie at A 0 .. A 10, their rows at A 11 .. A 21; R: the rows, N: how many signs count; U: the words. -/
def b2i (b : Bool) : Int := if b = true then 1 else 0
theorem b2i_nar (b : Bool) : narrow .boolean (gi (b2i b)) = gi (b2i b) := by cases b <;> rfl
theorem b2i_R (b : Bool) : gR (b2i b) := by cases b <;> exact ⟨by decide, by decide⟩
theorem gR_of {x : Int} (h1 : -1000000 ≤ x) (h2 : x ≤ 1000000) : gR x := ⟨by omega, by omega⟩
def gRow (row : List Bool) : List Value := row.map (fun b => gi (b2i b))
def pu {α : Type} (U : Nat → α) (w : Nat) (x : α) : Nat → α := fun v => if v = w then x else U v
theorem pu_self {α : Type} (U : Nat → α) (w : Nat) (x : α) : pu U w x w = x := if_pos rfl
theorem pu_ne {α : Type} (U : Nat → α) {w v : Nat} (x : α) (h : v ≠ w) : pu U w x v = U v := if_neg h
def gInj (A : Nat → Nat) : Prop := ∀ i j, i < 31 → j < 31 → A i = A j → i = j
def gWR (A : Nat → Nat) (h : gaH) (R : Nat → List Bool) (N : Nat → Nat) : Prop := gInj A ∧ (∀ w, w < 11 → (R w).length = 64 ∧ N w ≤ 64 ∧ h (A w) = some (4, [.ref (A (11 + w)), gi (N w : Int)]) ∧ h (A (11 + w)) = some (100, gRow (R w))) ∧ ∃ m : List Bool, m.length = 65 ∧ h (A 30) = some (100, gRow m)
def gW (A : Nat → Nat) (h : gaH) (U : Nat → List Bool) : Prop := ∃ (R : Nat → List Bool) (N : Nat → Nat), gWR A h R N ∧ ∀ w, w < 11 → U w = (R w).take (N w)
/-- nothing but words has changed -/
def gSm (A : Nat → Nat) (h h' : gaH) : Prop := ∀ b, (∀ w, w < 22 → b ≠ A w) → h' b = h b
theorem gSm.rf {A : Nat → Nat} {h : gaH} : gSm A h h := fun _ _ => rfl
theorem gSm.tr {A : Nat → Nat} {h h1 h2 : gaH} (x : gSm A h h1) (y : gSm A h1 h2) : gSm A h h2 := fun b hb => (y b hb).trans (x b hb)
theorem gSm.up {A : Nat → Nat} {h h1 : gaH} (x : gSm A h h1) {w : Nat} (hw : w < 22) (e : gaE) : gSm A h (gaUp h1 (A w) e) := fun b hb => by rw [gaUp_ne _ _ (hb w hw)]; exact x b hb
theorem gSm.at {A : Nat → Nat} {h h' : gaH} (x : gSm A h h') (hA : gInj A) {i : Nat} (h1 : 22 ≤ i) (h2 : i < 31) : h' (A i) = h (A i) := x _ (fun w hw q => by
  have := hA i w (by omega) (by omega) q
  omega)
theorem gI_mk {h : gaH} {a ci f : Nat} {K : Int → Prop} {fs : List Value} {x : Int} (ha : h a = some (ci, fs)) (hv : fs[f]? = some (gi x)) (k : K x) : gI h a ci f K := ⟨fs, x, ha, hv, k⟩
theorem gA_mk {h : gaH} {a ci f : Nat} {K : Nat → Prop} {fs : List Value} {x : Nat} (ha : h a = some (ci, fs)) (hv : fs[f]? = some (.ref x)) (k : K x) : gA h a ci f K := ⟨fs, x, ha, hv, k⟩
theorem gPF_mk {h : gaH} {a ci f : Nat} {v : Value} {K : gaH → Prop} {fs : List Value} (ha : h a = some (ci, fs)) (hf : f < fs.length) (k : K (gaUp h a (ci, fs.set f v))) : gPF h a ci f v K := ⟨fs, ha, hf, k⟩
theorem gAL_mk {h : gaH} {a t : Nat} {K : Int → Prop} {vs : List Value} {x : Int} (ha : h a = some (t, vs)) (hx : (vs.length : Int) = x) (k : K x) : gAL h a t K := ⟨t, vs, ha, Or.inl rfl, by rw [hx]; exact k⟩
theorem gLI_mk {h : gaH} {a t : Nat} {i : Int} {K : Int → Prop} {vs : List Value} {x : Int} (ha : h a = some (t, vs)) (h0 : 0 ≤ i) (h9 : i ≤ 2147483647) (hv : vs[i.toNat]? = some (gi x)) (k : K x) : gLI h a t i K := ⟨t, vs, x, ha, Or.inl rfl, h0, h9, hv, k⟩
theorem gSI_mk {h : gaH} {a t : Nat} {i : Int} {v : Value} {K : gaH → Prop} {vs : List Value} (ha : h a = some (t, vs)) (h0 : 0 ≤ i) (h9 : i ≤ 2147483647) (hi : i.toNat < vs.length) (k : K (gaUp h a (t, vs.set i.toNat v))) : gSI h a t i v K := ⟨vs, ha, h0, h9, hi, k⟩
theorem if_yes {c : Prop} [Decidable c] {X Y : Prop} (hc : c) (k : X) : (if c then X else Y) := by rw [if_pos hc]; exact k
theorem if_no {c : Prop} [Decidable c] {X Y : Prop} (hc : ¬ c) (k : Y) : (if c then X else Y) := by rw [if_neg hc]; exact k
theorem gRow_len (r : List Bool) : (gRow r).length = r.length := by simp [gRow]
theorem gRow_at {r : List Bool} {i : Nat} (hi : i < r.length) : (gRow r)[i]? = some (gi (b2i (r.getD i false))) := by
  simp [gRow, List.getElem?_map, List.getElem?_eq_getElem hi, List.getD_eq_getElem?_getD]
theorem gRow_set (r : List Bool) (i : Nat) (b : Bool) : (gRow r).set i (gi (b2i b)) = gRow (r.set i b) := by simp [gRow, List.map_set]
section PW
variable {A : Nat → Nat} {h : gaH} {R : Nat → List Bool} {N : Nat → Nat} {U : Nat → List Bool} {w v : Nat}
theorem gWR.ne (g : gWR A h R N) {i j : Nat} (hi : i < 31) (hj : j < 31) (hn : i ≠ j) : A i ≠ A j := fun q => hn (g.1 i j hi hj q)
theorem gWR.has (g : gWR A h R N) (hw : w < 11) : gHas h (A w) 4 := ⟨_, (g.2.1 w hw).2.2.1⟩
theorem gWR.len (g : gWR A h R N) (hw : w < 11) : (R w).length = 64 := (g.2.1 w hw).1
theorem gWR.many (g : gWR A h R N) (hw : w < 11) {K : Int → Prop} (k : K (N w : Int)) : gI h (A w) 4 1 K := gI_mk (g.2.1 w hw).2.2.1 rfl k
theorem gWR.row (g : gWR A h R N) (hw : w < 11) {K : Nat → Prop} (k : K (A (11 + w))) : gA h (A w) 4 0 K := gA_mk (g.2.1 w hw).2.2.1 rfl k
theorem gWR.al (g : gWR A h R N) (hw : w < 11) {K : Int → Prop} (k : K 64) : gAL h (A (11 + w)) 100 K := gAL_mk (g.2.1 w hw).2.2.2 (by rw [gRow_len, (g.2.1 w hw).1]; rfl) k
/-- how many signs count is set -/
theorem gWR.setN (g : gWR A h R N) (hw : w < 11) {n : Nat} (hn : n ≤ 64) {x : Int} (hx : x = (n : Int)) {K : gaH → Prop} (k : ∀ h', gWR A h' R (pu N w n) → gSm A h h' → K h') : gPF h (A w) 4 1 (gi x) K := by
  subst hx
  refine gPF_mk (g.2.1 w hw).2.2.1 (show 1 < 2 by decide) (k _ ⟨g.1, fun v hv => ?_, by obtain ⟨m, m1, m2⟩ := g.2.2; exact ⟨m, m1, by rw [gaUp_ne _ _ (g.ne (by omega) (by omega) (by omega))]; exact m2⟩⟩ (gSm.rf.up (by omega) _))
  obtain ⟨a1, a2, a3, a4⟩ := g.2.1 v hv
  refine ⟨a1, ?_, ?_, ?_⟩
  · by_cases e : v = w
    · rw [e, pu_self]; exact hn
    · rw [pu_ne _ _ e]; exact a2
  · by_cases e : v = w
    · rw [e, pu_self, gaUp_self]; rfl
    · rw [pu_ne _ _ e, gaUp_ne _ _ (g.ne (by omega) (by omega) e)]; exact a3
  · rw [gaUp_ne _ _ (g.ne (by omega) (by omega) (by omega))]; exact a4
/-- a sign is set -/
theorem gWR.setR (g : gWR A h R N) (hw : w < 11) {i : Nat} (hi : i < 64) {x : Int} (hx : x = (i : Int)) {b : Bool} {K : gaH → Prop} (k : ∀ h', gWR A h' (pu R w ((R w).set i b)) N → gSm A h h' → K h') : gSI h (A (11 + w)) 100 x (gi (b2i b)) K := by
  subst hx
  have hl := g.len hw
  refine gSI_mk (g.2.1 w hw).2.2.2 (by omega) (by omega) (by rw [gRow_len, hl]; omega) (k _ ⟨g.1, fun v hv => ?_, by obtain ⟨m, m1, m2⟩ := g.2.2; exact ⟨m, m1, by rw [gaUp_ne _ _ (g.ne (by omega) (by omega) (by omega))]; exact m2⟩⟩ (gSm.rf.up (by omega) _))
  obtain ⟨a1, a2, a3, a4⟩ := g.2.1 v hv
  refine ⟨?_, a2, ?_, ?_⟩
  · by_cases e : v = w
    · rw [e, pu_self, List.length_set]; exact hl
    · rw [pu_ne _ _ e]; exact a1
  · rw [gaUp_ne _ _ (g.ne (by omega) (by omega) (by omega))]; exact a3
  · by_cases e : v = w
    · rw [e, pu_self, gaUp_self, gRow_set, Int.toNat_natCast]
    · rw [pu_ne _ _ e, gaUp_ne _ _ (g.ne (by omega) (by omega) (by omega))]; exact a4
theorem sr_isUp (g : gWR A h R N) (hw : w < 11) {p : Int} {i : Nat} (hp : p = (i : Int)) (hi : i < 64) {Q : Int → gaH → Prop} (k : Q (b2i ((R w).getD i false)) h) : w_X4_isUp (A w) p h Q := by
  subst hp
  unfold w_X4_isUp
  refine ⟨gR_of (by omega) (by omega), if_no (by omega) (g.row hw (g.al hw ⟨gR_of (by omega) (by omega), gR_of (by decide) (by decide), if_no (by omega) (g.row hw ?_)⟩))⟩
  refine gLI_mk (g.2.1 w hw).2.2.2 (by omega) (by omega) (by rw [Int.toNat_natCast]; exact gRow_at (by rw [g.len hw]; exact hi)) ⟨b2i_R _, ?_⟩
  generalize (R w).getD i false = z at k
  cases z
  · exact if_yes rfl k
  · exact if_no (by decide) k
theorem sr_clear (g : gWR A h R N) (hw : w < 11) {Q : gaH → Prop} (k : ∀ h', gWR A h' R (pu N w 0) → gSm A h h' → Q h') : w_X4_clear (A w) h Q := g.setN hw (by decide) rfl k
theorem sr_add (g : gWR A h R N) (hw : w < 11) (hn : N w < 64) {b : Bool} {Q : gaH → Prop} (k : ∀ h', gWR A h' (pu R w ((R w).set (N w) b)) (pu N w (N w + 1)) → gSm A h h' → Q h') : w_X4_add (A w) (b2i b) h Q := by
  unfold w_X4_add
  refine g.many hw ⟨gR_of (by omega) (by omega), if_no (by omega) (g.many hw (g.row hw (g.al hw ⟨gR_of (by omega) (by omega), gR_of (by decide) (by decide), if_no (by omega) (g.row hw (g.many hw ⟨b2i_nar b, ?_⟩))⟩)))⟩
  refine g.setR hw hn rfl (fun h1 g1 s1 => g1.many hw (g1.setN hw (by omega) (by push_cast; rfl) (fun h2 g2 s2 => k h2 g2 (s1.tr s2))))
theorem sr_put (g : gWR A h R N) (hw : w < 11) {p : Int} {i : Nat} (hp : p = (i : Int)) (hi : i < 64) {b : Bool} {Q : gaH → Prop} (k : ∀ h', gWR A h' (pu R w ((R w).set i b)) N → gSm A h h' → Q h') : w_X4_put (A w) p (b2i b) h Q := by
  subst hp
  unfold w_X4_put
  refine ⟨gR_of (by omega) (by omega), if_no (by omega) (g.row hw (g.al hw ⟨gR_of (by omega) (by omega), gR_of (by decide) (by decide), if_no (by omega) (g.row hw ⟨b2i_nar b, ?_⟩)⟩))⟩
  exact g.setR hw hi rfl k
-- words
theorem gW.le (g : gW A h U) (hw : w < 11) : (U w).length ≤ 64 := by
  obtain ⟨R, N, g, e⟩ := g
  rw [e w hw, List.length_take]
  have := (g.2.1 w hw).2.1
  omega
theorem gW.many (g : gW A h U) (hw : w < 11) {K : Int → Prop} (k : K ((U w).length : Int)) : gI h (A w) 4 1 K := by
  obtain ⟨R, N, g, e⟩ := g
  refine g.many hw ?_
  have : (U w).length = N w := by
    rw [e w hw, List.length_take, g.len hw]
    have := (g.2.1 w hw).2.1
    omega
  rw [← this]
  exact k
theorem gW.has (g : gW A h U) (hw : w < 11) : gHas h (A w) 4 := by
  obtain ⟨R, N, g, e⟩ := g
  exact g.has hw
theorem gWR.wd (g : gWR A h R N) : gW A h (fun w => (R w).take (N w)) := ⟨R, N, g, fun _ _ => rfl⟩
theorem gW.eq (g : gW A h U) {V : Nat → List Bool} (e : ∀ w, w < 11 → V w = U w) : gW A h V := by
  obtain ⟨R, N, g, e2⟩ := g
  exact ⟨R, N, g, fun w hw => (e w hw).trans (e2 w hw)⟩
theorem s_isUp (g : gW A h U) (hw : w < 11) {p : Int} {i : Nat} (hp : p = (i : Int)) (hi : i < (U w).length) {Q : Int → gaH → Prop} (k : Q (b2i ((U w).getD i false)) h) : w_X4_isUp (A w) p h Q := by
  have hle := g.le hw
  obtain ⟨R, N, g, e⟩ := g
  refine sr_isUp g hw hp (by omega) ?_
  have hi2 := hi
  rw [e w hw] at k hi2
  rw [List.length_take] at hi2
  have : ((R w).take (N w)).getD i false = (R w).getD i false := by
    rw [List.getD_eq_getElem?_getD, List.getD_eq_getElem?_getD, List.getElem?_take_of_lt (by omega)]
  rw [this] at k
  exact k
theorem s_clear (g : gW A h U) (hw : w < 11) {Q : gaH → Prop} (k : ∀ h', gW A h' (pu U w []) → gSm A h h' → Q h') : w_X4_clear (A w) h Q := by
  obtain ⟨R, N, g, e⟩ := g
  refine sr_clear g hw (fun h' g' s => k h' ⟨R, _, g', fun v hv => ?_⟩ s)
  by_cases q : v = w
  · subst q; rw [pu_self, pu_self, List.take_zero]
  · rw [pu_ne _ _ q, pu_ne _ _ q]; exact e v hv
theorem s_add (g : gW A h U) (hw : w < 11) (hl : (U w).length < 64) {x : Int} {b : Bool} (hx : x = b2i b) {Q : gaH → Prop} (k : ∀ h', gW A h' (pu U w (U w ++ [b])) → gSm A h h' → Q h') : w_X4_add (A w) x h Q := by
  subst hx
  obtain ⟨R, N, g, e⟩ := g
  have hN : (U w).length = N w := by
    rw [e w hw, List.length_take, g.len hw]
    have := (g.2.1 w hw).2.1
    omega
  refine sr_add g hw (by omega) (fun h' g' s => k h' ⟨_, _, g', fun v hv => ?_⟩ s)
  by_cases q : v = w
  · subst q
    rw [pu_self, pu_self, pu_self, e v hw]
    have hlt : N v < (R v).length := by rw [g.len hw]; omega
    rw [List.take_succ, List.take_set_of_le (by omega), List.getElem?_set_self hlt]
    rfl
  · rw [pu_ne _ _ q, pu_ne _ _ q, pu_ne _ _ q]; exact e v hv
theorem s_put (g : gW A h U) (hw : w < 11) {p x : Int} {i : Nat} (hp : p = (i : Int)) (hi : i < (U w).length) {b : Bool} (hx : x = b2i b) {Q : gaH → Prop} (k : ∀ h', gW A h' (pu U w ((U w).set i b)) → gSm A h h' → Q h') : w_X4_put (A w) p x h Q := by
  subst hx
  have hle := g.le hw
  obtain ⟨R, N, g, e⟩ := g
  refine sr_put g hw hp (by omega) (fun h' g' s => k h' ⟨_, _, g', fun v hv => ?_⟩ s)
  by_cases q : v = w
  · subst q
    rw [pu_self, pu_self, e v hw, List.take_set]
  · rw [pu_ne _ _ q, pu_ne _ _ q]; exact e v hv
theorem s_take_L (hw : w < 11) (hv : v < 11) {u : List Bool} (hu : u.length ≤ 64) {Q : gaH → Prop} : ∀ (n i : Nat) (h : gaH) (R : Nat → List Bool), gWR A h R N → u.length = N v → i ≤ u.length → u.length - i < n → (∀ j, j < i → (R w)[j]? = u[j]?) → (∀ j, i ≤ j → j < u.length → (R v)[j]? = u[j]?) →
    (∀ h' R', gWR A h' R' (pu N w u.length) → (R' w).take u.length = u → (∀ x, x ≠ w → R' x = R x) → gSm A h h' → Q h') → w_X4_take_L2 Q n (A w) (A v) (i : Int) h
  | 0, i, h, R, _, _, _, h1, _, _, _ => absurd h1 (Nat.not_lt_zero _)
  | n + 1, i, h, R, g, hN, hi, h1, p1, p2, k => by
    unfold w_X4_take_L2
    refine g.many hv ⟨gR_of (by omega) (by omega), gR_of (by omega) (by omega), ?_⟩
    by_cases q : i = u.length
    · refine if_yes (by omega) (g.many hv (g.setN hw hu (by omega) (fun h' g' s => k h' R g' ?_ (fun _ _ => rfl) s)))
      apply List.ext_getElem?
      intro j
      by_cases hj : j < u.length
      · rw [List.getElem?_take_of_lt hj]; exact p1 j (by omega)
      · rw [List.getElem?_eq_none (by rw [List.length_take]; omega), List.getElem?_eq_none (by omega)]
    · refine if_no (by omega) ⟨g.has hv, sr_isUp g hv rfl (by omega) ⟨g.has hw, sr_put g hw rfl (by omega) (fun h' g' s => ?_)⟩⟩
      have e1 : (R v).getD i false = u.getD i false := by rw [List.getD_eq_getElem?_getD, List.getD_eq_getElem?_getD, p2 i (Nat.le_refl _) (by omega)]
      have e2 : u[i]? = some (u.getD i false) := by rw [List.getD_eq_getElem?_getD, List.getElem?_eq_getElem (by omega)]; rfl
      refine s_take_L hw hv hu n (i + 1) h' _ g' hN (by omega) (by omega) (fun j hj => ?_) (fun j h2 h3 => ?_) (fun h2 R2 g2 t2 f2 s2 => k h2 R2 g2 t2 (fun x hx => by rw [f2 x hx, pu_ne _ _ hx]) (s.tr s2))
      · rw [pu_self]
        by_cases hji : j = i
        · subst hji
          rw [List.getElem?_set_self (by rw [g.len hw]; omega), e1, e2]
        · rw [List.getElem?_set_ne (fun q => hji q.symm)]; exact p1 j (by omega)
      · by_cases hvw : v = w
        · subst hvw
          rw [pu_self, List.getElem?_set_ne (by omega)]
          exact p2 j (by omega) h3
        · rw [pu_ne _ _ hvw]; exact p2 j (by omega) h3
theorem s_take (g : gW A h U) (hw : w < 11) (hv : v < 11) {Q : gaH → Prop} (k : ∀ h', gW A h' (pu U w (U v)) → gSm A h h' → Q h') : w_X4_take (A w) (A v) h Q := by
  have hle := g.le hv
  obtain ⟨R, N, g, e⟩ := g
  have hN : (U v).length = N v := by
    rw [e v hv, List.length_take, g.len hv]
    have := (g.2.1 v hv).2.1
    omega
  refine ⟨65, ?_⟩
  refine s_take_L (u := U v) hw hv hle 65 0 h R g hN (Nat.zero_le _) (by omega) (fun j hj => absurd hj (Nat.not_lt_zero _)) (fun j _ hj => ?_) (fun h' R' g' t f s => k h' ⟨R', _, g', fun x hx => ?_⟩ s)
  · rw [e v hv, List.getElem?_take_of_lt (by omega)]
  · by_cases q : x = w
    · subst q; rw [pu_self, pu_self, t]
    · rw [pu_ne _ _ q, pu_ne _ _ q, f x q]; exact e x hx
end PW
/-! Bits, quotients and remainders of small numbers. -/
theorem ar_n (n : Nat) : Int32.ofInt (n : Int) = nI n := gi_len n ▸ rfl
theorem ar_toInt {n : Nat} (h : n < 2147483648) : (nI n).toInt = (n : Int) := Int32.toInt_ofNat_of_lt (by omega)
theorem ar_sh : ∀ d, d < 32 → ((nI d &&& 31).toBitVec.smod 32).toNat = d := by decide +kernel
theorem gShr_nat {n d : Nat} (hn : n < 2147483648) (hd : d < 32) : gShr (n : Int) (d : Int) = ((n / 2 ^ d : Nat) : Int) := by
  unfold gShr
  rw [ar_n, ar_n, pk_shrN (by omega) _ d (ar_sh d hd)]
  exact ar_toInt (Nat.lt_of_le_of_lt (Nat.div_le_self _ _) hn)
theorem gShl_nat {n d : Nat} (hn : n * 2 ^ d < 2147483648) (hd : d < 32) : gShl (n : Int) (d : Int) = ((n * 2 ^ d : Nat) : Int) := by
  unfold gShl
  rw [ar_n, ar_n, pk_shlN _ d (ar_sh d hd) (by omega)]
  exact ar_toInt hn
theorem ar_and (a b : Nat) : nI a &&& nI b = nI (a &&& b) := by
  apply Int32.toBitVec_inj.1
  show BitVec.ofNat 32 a &&& BitVec.ofNat 32 b = BitVec.ofNat 32 (a &&& b)
  apply BitVec.eq_of_getLsbD_eq
  intro i hi
  simp [hi]
theorem gAnd1_nat {n : Nat} (hn : n < 2147483648) : gAnd (n : Int) 1 = ((n % 2 : Nat) : Int) := by
  unfold gAnd
  rw [ar_n, show (1 : Int) = ((1 : Nat) : Int) from rfl, ar_n, ar_and, show n &&& 1 = n % 2 from Nat.and_one_is_mod n]
  exact ar_toInt (by omega)
theorem gAnd_bit (a b : Bool) : gAnd (b2i a) (b2i b) = b2i (a && b) := by cases a <;> cases b <;> decide
theorem gAnd63 (x : Int) : 0 ≤ gAnd x 63 ∧ gAnd x 63 ≤ 63 := by
  unfold gAnd
  have hb : ((Int32.ofInt x &&& Int32.ofInt 63).toBitVec).toNat ≤ 63 := by
    show ((Int32.ofInt x).toBitVec &&& (Int32.ofInt 63).toBitVec).toNat ≤ 63
    rw [BitVec.toNat_and]
    exact Nat.le_trans Nat.and_le_right (by decide)
  have e : (Int32.ofInt x &&& Int32.ofInt 63).toInt = (((Int32.ofInt x &&& Int32.ofInt 63).toBitVec).toNat : Int) := BitVec.toInt_eq_toNat_of_lt (by omega)
  rw [e]
  omega
theorem gDiv_nat {a b : Nat} (ha : a < 2147483648) (hb : b < 2147483648) : gDiv (a : Int) (b : Int) = ((a / b : Nat) : Int) := by
  unfold gDiv
  rw [ar_n, ar_n]
  show (Int32.ofNat a / Int32.ofNat b).toInt = _
  rw [← Int32.ofNat_div (by omega) (by omega)]
  exact ar_toInt (Nat.lt_of_le_of_lt (Nat.div_le_self _ _) ha)
theorem gRem_nat {a b : Nat} (ha : a < 2147483648) (hb : b < 2147483648) : gRem (a : Int) (b : Int) = ((a % b : Nat) : Int) := by
  unfold gRem
  rw [ar_n, ar_n]
  show (Int32.ofNat a - Int32.ofNat a / Int32.ofNat b * Int32.ofNat b).toInt = _
  have h1 : a / b * b ≤ a := Nat.div_mul_le_self a b
  rw [← Int32.ofNat_div (by omega) (by omega), ← Int32.ofNat_mul, ← Int32.ofNat_sub _ _ h1]
  have h2 : a - a / b * b = a % b := by
    have := Nat.div_add_mod a b
    rw [Nat.mul_comm] at this
    omega
  rw [h2]
  exact ar_toInt (Nat.lt_of_le_of_lt (Nat.mod_le _ _) ha)
/-! More of words: parts, turned words, words of codes; joined words; rules. -/
section PR
variable {A : Nat → Nat} {h : gaH} {U : Nat → List Bool} {w v : Nat}
theorem gW.inj (g : gW A h U) : gInj A := by obtain ⟨R, N, g, -⟩ := g; exact g.1
theorem getD_lt {u : List Bool} {i : Nat} (hi : i < u.length) : u[i]? = some (u.getD i false) := by
  rw [List.getD_eq_getElem?_getD, List.getElem?_eq_getElem hi]; rfl
theorem take_one {u : List Bool} {i : Nat} (hi : i < u.length) : u.drop i = u.getD i false :: u.drop (i + 1) := by
  rw [List.drop_eq_getElem_cons hi, List.getD_eq_getElem?_getD, List.getElem?_eq_getElem hi]; rfl
theorem s_addPart_L (hw : w < 11) (hv : v < 11) (hne : v ≠ w) {t : Nat} {Q : gaH → Prop} : ∀ (n i : Nat) (h : gaH) (U : Nat → List Bool), gW A h U → i ≤ t → t ≤ (U v).length → t - i < n → (U w).length + (t - i) ≤ 64 →
    (∀ h', gW A h' (pu U w (U w ++ ((U v).drop i).take (t - i))) → gSm A h h' → Q h') → w_X4_addPart_L3 Q n (A w) (A v) (t : Int) (i : Int) h
  | 0, i, h, U, _, _, _, h1, _, _ => absurd h1 (Nat.not_lt_zero _)
  | n + 1, i, h, U, g, hi, ht, h1, hl, k => by
    have hle := g.le hv
    unfold w_X4_addPart_L3
    refine ⟨gR_of (by omega) (by omega), gR_of (by omega) (by omega), ?_⟩
    by_cases q : i = t
    · subst q
      refine if_yes (Int.le_refl _) (k h ?_ gSm.rf)
      refine g.eq (fun x _ => ?_)
      by_cases e : x = w
      · rw [e, pu_self, Nat.sub_self, List.take_zero, List.append_nil]
      · exact pu_ne _ _ e
    · refine if_no (by omega) ⟨g.has hv, s_isUp g hv rfl (by omega) ⟨g.has hw, s_add g hw (by omega) rfl (fun h' g' s => ?_)⟩⟩
      refine s_addPart_L hw hv hne n (i + 1) h' _ g' (by omega) (by rw [pu_ne _ _ hne]; exact ht) (by omega) (by rw [pu_self, List.length_append]; simp only [List.length_cons, List.length_nil]; omega) (fun h2 g2 s2 => k h2 (g2.eq (fun x _ => ?_)) (s.tr s2))
      by_cases e : x = w
      · subst e
        rw [pu_self, pu_self, pu_self, pu_ne _ _ hne, take_one (u := U v) (i := i) (by omega), show t - i = (t - (i + 1)) + 1 by omega, List.take_succ_cons, List.append_assoc]
        rfl
      · rw [pu_ne _ _ e, pu_ne _ _ e, pu_ne _ _ e]
theorem s_addPart (g : gW A h U) (hw : w < 11) (hv : v < 11) (hne : v ≠ w) {x y : Int} {i t : Nat} (hx : x = (i : Int)) (hy : y = (t : Int)) (hi : i ≤ t) (ht : t ≤ (U v).length) (hl : (U w).length + (t - i) ≤ 64) {Q : gaH → Prop}
    (k : ∀ h', gW A h' (pu U w (U w ++ ((U v).drop i).take (t - i))) → gSm A h h' → Q h') : w_X4_addPart (A w) (A v) x y h Q := by
  subst hx; subst hy
  exact ⟨t - i + 1, s_addPart_L hw hv hne _ i h U g hi ht (by omega) hl k⟩
theorem s_takeTurned_L (hw : w < 11) (hv : v < 11) (hne : v ≠ w) {Q : gaH → Prop} : ∀ (n i : Nat) (h : gaH) (U : Nat → List Bool), gW A h U → i ≤ (U v).length → i < n → (U w).length + i ≤ 64 →
    (∀ h', gW A h' (pu U w (U w ++ ((U v).take i).reverse)) → gSm A h h' → Q h') → w_X4_takeTurned_L11 Q n (A w) (A v) ((i : Int) - 1) h
  | 0, i, h, U, _, _, h1, _, _ => absurd h1 (Nat.not_lt_zero _)
  | n + 1, i, h, U, g, hi, h1, hl, k => by
    have hle := g.le hv
    unfold w_X4_takeTurned_L11
    refine ⟨gR_of (by omega) (by omega), ?_⟩
    cases i with
    | zero =>
      refine if_yes (by omega) (k h ?_ gSm.rf)
      refine g.eq (fun x _ => ?_)
      by_cases e : x = w
      · rw [e, pu_self, List.take_zero, List.reverse_nil, List.append_nil]
      · exact pu_ne _ _ e
    | succ i =>
      refine if_no (by omega) ⟨g.has hv, s_isUp (i := i) g hv (by omega) (by omega) ⟨g.has hw, s_add g hw (by omega) rfl (fun h' g' s => ?_)⟩⟩
      rw [show ((i + 1 : Nat) : Int) - 1 + -1 = (i : Int) - 1 by omega]
      refine s_takeTurned_L hw hv hne n i h' _ g' (by rw [pu_ne _ _ hne]; omega) (by omega) (by rw [pu_self, List.length_append]; simp only [List.length_cons, List.length_nil]; omega) (fun h2 g2 s2 => k h2 (g2.eq (fun x _ => ?_)) (s.tr s2))
      by_cases e : x = w
      · subst e
        rw [pu_self, pu_self, pu_self, pu_ne _ _ hne, List.take_succ, getD_lt (u := U v) (i := i) (by omega)]
        simp
      · rw [pu_ne _ _ e, pu_ne _ _ e, pu_ne _ _ e]
theorem s_takeTurned (g : gW A h U) (hw : w < 11) (hv : v < 11) (hne : v ≠ w) {Q : gaH → Prop} (k : ∀ h', gW A h' (pu U w (U v).reverse) → gSm A h h' → Q h') : w_X4_takeTurned (A w) (A v) h Q := by
  unfold w_X4_takeTurned
  refine ⟨g.has hw, s_clear g hw (fun h' g' s => ?_)⟩
  refine g'.many hv ⟨65, ?_⟩
  have hle := g.le hv
  have e0 : pu U w [] v = U v := pu_ne _ _ hne
  refine s_takeTurned_L hw hv hne 65 _ h' _ g' (Nat.le_refl _) (by rw [e0]; omega) (by rw [pu_self, e0]; simpa using hle) (fun h2 g2 s2 => k h2 (g2.eq (fun x _ => ?_)) (s.tr s2))
  by_cases e : x = w
  · subst e; rw [pu_self, pu_self, pu_self, e0, List.take_length]; rfl
  · rw [pu_ne _ _ e, pu_ne _ _ e, pu_ne _ _ e]
/-- the word of a code -/
def codeL : Nat → Nat → List Bool
  | 0, _ => []
  | f + 1, n => if n ≤ 1 then [] else codeL f (n / 2) ++ [decide (n % 2 = 1)]
theorem codeL_fuel : ∀ (f g n : Nat), n < 2 ^ f → n < 2 ^ g → codeL f n = codeL g n
  | 0, g, n, h1, h2 => by
    have : n = 0 := by simpa using h1
    subst this
    cases g <;> simp [codeL]
  | f + 1, 0, n, h1, h2 => by
    have : n = 0 := by simpa using h2
    subst this
    simp [codeL]
  | f + 1, g + 1, n, h1, h2 => by
    unfold codeL
    rw [codeL_fuel f g (n / 2) (by rw [Nat.pow_succ] at h1; omega) (by rw [Nat.pow_succ] at h2; omega)]
/-- the word of a code of at most 16 digits -/
abbrev codeW (n : Nat) : List Bool := codeL 16 n
theorem codeW_step {n : Nat} (hn : n < 65536) : codeW n = if n ≤ 1 then [] else codeW (n / 2) ++ [decide (n % 2 = 1)] := by
  show codeL 16 n = _
  rw [codeL, codeL_fuel 15 16 (n / 2) (by omega) (by omega)]
theorem codeL_len : ∀ (f n : Nat), (codeL f n).length ≤ f
  | 0, _ => Nat.zero_le _
  | f + 1, n => by
    unfold codeL
    split
    · simp
    · have := codeL_len f (n / 2)
      simp; omega
theorem s_takeCode_L (hw : w < 11) {c : Nat} (hc : c < 65536) {Q : gaH → Prop} : ∀ (n d : Nat) (h : gaH) (U : Nat → List Bool) (f : Int), gW A h U → d ≤ 16 → d < n → f = b2i (decide (1 ≤ c / 2 ^ d)) → U w = codeW (c / 2 ^ d) →
    (∀ h', gW A h' (pu U w (codeW c)) → gSm A h h' → Q h') → w_X4_takeCode_L9 Q n (A w) (c : Int) f ((d : Int) - 1) h
  | 0, d, h, U, f, _, _, h1, _, _, _ => absurd h1 (Nat.not_lt_zero _)
  | n + 1, d, h, U, f, g, hd, h1, hf, hu, k => by
    unfold w_X4_takeCode_L9
    refine ⟨gR_of (by omega) (by omega), ?_⟩
    cases d with
    | zero =>
      refine if_yes (by omega) (k h ?_ gSm.rf)
      refine g.eq (fun x _ => ?_)
      by_cases e : x = w
      · rw [e, pu_self, hu, Nat.pow_zero, Nat.div_one]
      · exact pu_ne _ _ e
    | succ d =>
      have e1 : ((d + 1 : Nat) : Int) - 1 = (d : Int) := by omega
      have hs : gShr (c : Int) (((d + 1 : Nat) : Int) - 1) = ((c / 2 ^ d : Nat) : Int) := by rw [e1]; exact gShr_nat (by omega) (by omega)
      have hle : c / 2 ^ d ≤ c := Nat.div_le_self _ _
      have ha : gAnd (gShr (c : Int) (((d + 1 : Nat) : Int) - 1)) 1 = ((c / 2 ^ d % 2 : Nat) : Int) := by rw [hs]; exact gAnd1_nat (by omega)
      have hh : c / 2 ^ d / 2 = c / 2 ^ (d + 1) := by rw [Nat.div_div_eq_div_mul, Nat.pow_succ]
      have hst := codeW_step (n := c / 2 ^ d) (by omega)
      rw [hh] at hst
      have hlen : (U w).length ≤ 16 := by rw [hu]; exact codeL_len 16 _
      -- what goes on behind the sign
      have next : ∀ (h' : gaH) (V : Nat → List Bool) (f' : Int), gW A h' V → gSm A h h' → (∀ x, x ≠ w → V x = U x) → f' = b2i (decide (1 ≤ c / 2 ^ d)) → V w = codeW (c / 2 ^ d) → w_X4_takeCode_L9 Q n (A w) (c : Int) f' (((d + 1 : Nat) : Int) - 1 + -1) h' := by
        intro h' V f' g' s hV hf' hw'
        rw [e1, show (d : Int) + -1 = (d : Int) - 1 by omega]
        refine s_takeCode_L hw hc n d h' V f' g' (by omega) (by omega) hf' hw' (fun h2 g2 s2 => k h2 (g2.eq (fun x _ => ?_)) (s.tr s2))
        by_cases e : x = w
        · rw [e, pu_self, pu_self]
        · rw [pu_ne _ _ e, pu_ne _ _ e, hV x e]
      have bit : ∀ t : Int, t = b2i (decide (c / 2 ^ d % 2 = 1)) → w_X4_takeCode_J27 Q (w_X4_takeCode_L9 Q n) (A w) (c : Int) f (((d + 1 : Nat) : Int) - 1) t h := by
        intro t ht
        unfold w_X4_takeCode_J27
        rw [hf]
        refine ⟨b2i_R _, ?_⟩
        by_cases q : 1 ≤ c / 2 ^ (d + 1)
        · have q2 : 1 ≤ c / 2 ^ d := by omega
          rw [decide_eq_true q]
          refine if_no (by decide) ⟨g.has hw, s_add g hw (by omega) ht (fun h' g' s => ?_)⟩
          unfold w_X4_takeCode_J39
          refine ⟨gR_of (by decide) (by decide), if_no (by decide) ?_⟩
          unfold w_X4_takeCode_J48
          refine next h' _ 1 g' s (fun x hx => pu_ne _ _ hx) (by rw [decide_eq_true q2]; rfl) ?_
          rw [pu_self, hst, if_neg (by omega), hu]
        · have q0 : c / 2 ^ (d + 1) = 0 := Nat.lt_one_iff.mp (Nat.not_le.mp q)
          have q1 : c / 2 ^ d ≤ 1 := by omega
          rw [decide_eq_false q]
          refine if_yes rfl ?_
          unfold w_X4_takeCode_J39
          refine ⟨gR_of (by decide) (by decide), if_yes rfl ?_⟩
          have hu0 : U w = codeW (c / 2 ^ d) := by
            rw [hst, if_pos q1, hu, q0]
            rfl
          rw [ht]
          refine ⟨b2i_R _, ?_⟩
          by_cases z : c / 2 ^ d % 2 = 1
          · rw [decide_eq_true z]
            refine if_no (by decide) ?_
            unfold w_X4_takeCode_J48
            exact next h U 1 g gSm.rf (fun _ _ => rfl) (by rw [decide_eq_true (by omega)]; rfl) hu0
          · rw [decide_eq_false z]
            refine if_yes rfl ?_
            exact next h U 0 g gSm.rf (fun _ _ => rfl) (by rw [decide_eq_false (by omega)]; rfl) hu0
      refine if_no (by omega) ?_
      rw [ha]
      refine ⟨gR_of (by omega) (by omega), ?_⟩
      by_cases z : c / 2 ^ d % 2 = 1
      · exact if_yes (by omega) (bit 1 (by rw [decide_eq_true z]; rfl))
      · exact if_no (by omega) (bit 0 (by rw [decide_eq_false z]; rfl))
theorem s_takeCode (g : gW A h U) (hw : w < 11) {x : Int} {c : Nat} (hx : x = (c : Int)) (hc : c < 65536) {Q : gaH → Prop} (k : ∀ h', gW A h' (pu U w (codeW c)) → gSm A h h' → Q h') : w_X4_takeCode (A w) x h Q := by
  subst hx
  unfold w_X4_takeCode
  refine ⟨g.has hw, s_clear g hw (fun h' g' s => ⟨17, ?_⟩)⟩
  have e : c / 2 ^ 16 = 0 := Nat.div_eq_of_lt (by omega)
  refine s_takeCode_L hw hc 17 16 h' _ 0 g' (Nat.le_refl _) (by decide) (by rw [e]; rfl) (by rw [pu_self, e]; rfl) (fun h2 g2 s2 => k h2 (g2.eq (fun x _ => ?_)) (s.tr s2))
  by_cases q : x = w
  · subst q; rw [pu_self, pu_self]
  · rw [pu_ne _ _ q, pu_ne _ _ q, pu_ne _ _ q]
end PR
/-! Rules: how many b's, parts, joined words, images. -/
def ones : List Bool → Nat
  | [] => 0
  | b :: t => (if b = true then 1 else 0) + ones t
theorem ones_app : ∀ (u v : List Bool), ones (u ++ v) = ones u + ones v
  | [], v => by simp [ones]
  | b :: t, v => by simp only [List.cons_append, ones, ones_app t v]; omega
theorem ones_le : ∀ u : List Bool, ones u ≤ u.length
  | [] => Nat.le_refl _
  | b :: t => by
    have := ones_le t
    simp only [ones, List.length_cons]
    split <;> omega
def img (x y : List Bool) : List Bool → List Bool
  | [] => []
  | b :: t => (if b = true then y else x) ++ img x y t
theorem img_app (x y : List Bool) : ∀ (u v : List Bool), img x y (u ++ v) = img x y u ++ img x y v
  | [], v => by simp [img]
  | b :: t, v => by simp only [List.cons_append, img, img_app x y t v, List.append_assoc]
theorem img_len (x y : List Bool) : ∀ u : List Bool, (img x y u).length = (u.length - ones u) * x.length + ones u * y.length
  | [] => by simp [img, ones]
  | b :: t => by
    have h1 := ones_le t
    simp only [img, ones, List.length_append, List.length_cons, img_len x y t]
    cases b
    · simp only [Bool.false_eq_true, if_false, Nat.zero_add]
      rw [show t.length + 1 - ones t = (t.length - ones t) + 1 by omega, Nat.add_mul, Nat.one_mul]
      omega
    · simp only [if_true]
      rw [show t.length + 1 - (1 + ones t) = t.length - ones t by omega, Nat.add_mul, Nat.one_mul]
      omega
/-- the first place at which two words joined both ways are unlike -/
def unl (u v : List Bool) : Nat → Nat → Int
  | 0, _ => -1
  | f + 1, i => if (u ++ v).length ≤ i then -1 else if (u ++ v).getD i false = (v ++ u).getD i false then unl u v f (i + 1) else (i : Int)
def unlike (u v : List Bool) : Int := unl u v ((u ++ v).length + 1) 0
section PU
variable {A : Nat → Nat} {h : gaH} {U : Nat → List Bool} {w v : Nat}
theorem b2i_eq (a b : Bool) : (b2i a = b2i b) = (a = b) := by cases a <;> cases b <;> simp [b2i]
theorem s_upsOf_L (g : gW A h U) (hw : w < 11) {Q : Int → gaH → Prop} : ∀ (n i c : Nat), i ≤ (U w).length → (U w).length - i < n → c ≤ i → Q ((c + ones ((U w).drop i) : Nat) : Int) h → w_X1_upsOf_L4 Q n (A w) (c : Int) (i : Int) h
  | 0, i, c, _, h1, _, _ => absurd h1 (Nat.not_lt_zero _)
  | n + 1, i, c, hi, h1, hc, k => by
    have hle := g.le hw
    unfold w_X1_upsOf_L4
    refine g.many hw ⟨gR_of (by omega) (by omega), gR_of (by omega) (by omega), ?_⟩
    by_cases q : i = (U w).length
    · rw [q, List.drop_length] at k
      exact if_yes (by omega) k
    · rw [take_one (show i < (U w).length by omega)] at k
      refine if_no (by omega) ⟨g.has hw, s_isUp g hw rfl (by omega) ⟨b2i_R _, ?_⟩⟩
      generalize (U w).getD i false = z at k
      cases z
      · refine if_yes rfl (s_upsOf_L g hw n (i + 1) c (by omega) (by omega) (by omega) ?_)
        simpa [ones] using k
      · refine if_no (by decide) ?_
        rw [show (c : Int) + 1 = ((c + 1 : Nat) : Int) by omega]
        refine s_upsOf_L g hw n (i + 1) (c + 1) (by omega) (by omega) (by omega) ?_
        simp only [ones, if_true] at k
        rw [show c + 1 + ones ((U w).drop (i + 1)) = c + (1 + ones ((U w).drop (i + 1))) by omega]
        exact k
theorem s_upsOf (g : gW A h U) (hw : w < 11) {Q : Int → gaH → Prop} (k : Q (ones (U w) : Int) h) : w_X1_upsOf (A w) h Q := by
  refine ⟨(U w).length + 1, s_upsOf_L g hw _ 0 0 (Nat.zero_le _) (by omega) (Nat.le_refl _) ?_⟩
  rw [List.drop_zero, Nat.zero_add]
  exact k
/-- v stands in w at a place -/
def stands (u v : List Bool) (i : Nat) : Bool := decide (i + v.length ≤ u.length) && decide ((u.drop i).take v.length = v)
theorem s_standsAt_L (g : gW A h U) (hw : w < 11) (hv : v < 11) {p : Nat} (hp : p + (U v).length ≤ (U w).length) {Q : Int → gaH → Prop} : ∀ (n i : Nat), i ≤ (U v).length → (U v).length - i < n → Q (b2i (decide (((U w).drop (p + i)).take ((U v).length - i) = (U v).drop i))) h → w_X1_standsAt_L17 Q n (A w) (p : Int) (A v) (i : Int) h
  | 0, i, _, h1, _ => absurd h1 (Nat.not_lt_zero _)
  | n + 1, i, hi, h1, k => by
    have hle := g.le hw
    unfold w_X1_standsAt_L17
    refine g.many hv ⟨gR_of (by omega) (by omega), gR_of (by omega) (by omega), ?_⟩
    by_cases q : i = (U v).length
    · refine if_yes (by omega) ?_
      rw [q, List.drop_length, Nat.sub_self, List.take_zero, decide_eq_true rfl] at k
      exact k
    · refine if_no (by omega) ⟨g.has hw, s_isUp (i := p + i) g hw (by omega) (by omega) ⟨g.has hv, s_isUp g hv rfl (by omega) ⟨b2i_R _, b2i_R _, ?_⟩⟩⟩
      rw [take_one (u := U w) (i := p + i) (by omega), take_one (u := U v) (i := i) (by omega), show (U v).length - i = ((U v).length - (i + 1)) + 1 by omega, List.take_succ_cons] at k
      by_cases z : (U w).getD (p + i) false = (U v).getD i false
      · refine if_yes (congrArg b2i z) ?_
        rw [show (i : Int) + 1 = ((i + 1 : Nat) : Int) by omega]
        refine s_standsAt_L g hw hv hp n (i + 1) (by omega) (by omega) ?_
        rw [z] at k
        simp only [List.cons.injEq, true_and] at k
        exact k
      · refine if_no (fun q9 => z ((b2i_eq _ _).mp q9)) ?_
        rw [decide_eq_false (by intro e; exact z (List.cons.inj e).1)] at k
        exact k
theorem s_standsAt (g : gW A h U) (hw : w < 11) (hv : v < 11) {x : Int} {p : Nat} (hx : x = (p : Int)) (hp : p ≤ 1000) {Q : Int → gaH → Prop} (k : Q (b2i (stands (U w) (U v) p)) h) : w_X1_standsAt (A w) x (A v) h Q := by
  subst hx
  have h1 := g.le hw
  have h2 := g.le hv
  unfold w_X1_standsAt
  refine g.many hv (g.many hw ⟨gR_of (by omega) (by omega), gR_of (by omega) (by omega), ?_⟩)
  by_cases q : p + (U v).length ≤ (U w).length
  · refine if_yes (by omega) ⟨(U v).length + 1, s_standsAt_L g hw hv q _ 0 (Nat.zero_le _) (by omega) ?_⟩
    unfold stands at k
    rw [decide_eq_true q, Bool.true_and] at k
    simpa using k
  · refine if_no (by omega) ?_
    unfold stands at k
    rw [decide_eq_false q, Bool.false_and] at k
    exact k
theorem s_isUpJoined (g : gW A h U) (hw : w < 11) (hv : v < 11) {x : Int} {p : Nat} (hx : x = (p : Int)) (hp : p < (U w ++ U v).length) {Q : Int → gaH → Prop} (k : Q (b2i ((U w ++ U v).getD p false)) h) : w_X1_isUpJoined (A w) (A v) x h Q := by
  subst hx
  have h1 := g.le hw
  have h2 := g.le hv
  rw [List.length_append] at hp
  unfold w_X1_isUpJoined
  refine g.many hw ⟨gR_of (by omega) (by omega), gR_of (by omega) (by omega), ?_⟩
  by_cases q : (U w).length ≤ p
  · refine if_yes (by omega) (g.many hw ⟨g.has hv, s_isUp (i := p - (U w).length) g hv (by omega) (by omega) ⟨b2i_nar _, ?_⟩⟩)
    rw [List.getD_eq_getElem?_getD, List.getElem?_append_right q, ← List.getD_eq_getElem?_getD] at k
    exact k
  · refine if_no (by omega) ⟨g.has hw, s_isUp g hw rfl (by omega) ⟨b2i_nar _, ?_⟩⟩
    rw [List.getD_eq_getElem?_getD, List.getElem?_append_left (by omega), ← List.getD_eq_getElem?_getD] at k
    exact k
theorem s_unlike_L (g : gW A h U) (hw : w < 11) (hv : v < 11) {Q : Int → gaH → Prop} : ∀ (n i f : Nat), i ≤ (U w ++ U v).length → (U w ++ U v).length - i < n → (U w ++ U v).length - i < f → Q (unl (U w) (U v) f i) h → w_X1_firstUnlikeJoined_L2 Q n (A w) (A v) (i : Int) h
  | 0, i, f, _, h1, _, _ => absurd h1 (Nat.not_lt_zero _)
  | n + 1, i, 0, _, _, h1, _ => absurd h1 (Nat.not_lt_zero _)
  | n + 1, i, f + 1, hi, h1, h2, k => by
    have l1 := g.le hw
    have l2 := g.le hv
    have e1 : (U w ++ U v).length = (U w).length + (U v).length := List.length_append
    have e2 : (U v ++ U w).length = (U v).length + (U w).length := List.length_append
    unfold w_X1_firstUnlikeJoined_L2
    refine g.many hw (g.many hv ⟨gR_of (by omega) (by omega), gR_of (by omega) (by omega), ?_⟩)
    unfold unl at k
    by_cases q : (U w ++ U v).length ≤ i
    · rw [if_pos q] at k
      exact if_yes (by omega) k
    · rw [if_neg q] at k
      refine if_no (by omega) (s_isUpJoined g hw hv rfl (by omega) (s_isUpJoined g hv hw rfl (by omega) ⟨b2i_R _, b2i_R _, ?_⟩))
      by_cases z : (U w ++ U v).getD i false = (U v ++ U w).getD i false
      · rw [if_pos z] at k
        refine if_yes (congrArg b2i z) ?_
        rw [show (i : Int) + 1 = ((i + 1 : Nat) : Int) by omega]
        exact s_unlike_L g hw hv n (i + 1) f (by omega) (by omega) (by omega) k
      · rw [if_neg z] at k
        exact if_no (fun q9 => z ((b2i_eq _ _).mp q9)) k
theorem s_unlike (g : gW A h U) (hw : w < 11) (hv : v < 11) {Q : Int → gaH → Prop} (k : Q (unlike (U w) (U v)) h) : w_X1_firstUnlikeJoined (A w) (A v) h Q :=
  ⟨(U w ++ U v).length + 1, s_unlike_L g hw hv _ 0 _ (Nat.zero_le _) (by omega) (by omega) k⟩
theorem unl_R (u v : List Bool) : ∀ (f i : Nat), f + i ≤ 1000 → -1 ≤ unl u v f i ∧ unl u v f i ≤ 1000
  | 0, i, _ => by unfold unl; omega
  | f + 1, i, hf => by
    unfold unl
    split
    · omega
    · split
      · exact unl_R u v f (i + 1) (by omega)
      · omega
/-- the object of the rule -/
def gRu (A : Nat → Nat) (h : gaH) : Prop := h (A 25) = some (3, [.ref (A 9), .ref (A 10), .ref (A 30)])
theorem gRu.on (r : gRu A h) (hA : gInj A) {h' : gaH} (s : gSm A h h') : gRu A h' := (s.at hA (by decide) (by decide)).trans r
theorem gRu.has (r : gRu A h) : gHas h (A 25) 3 := ⟨_, r⟩
theorem s_keepsApart (g : gW A h U) (r : gRu A h) {Q : Int → gaH → Prop} (k : Q (b2i (decide (unlike (U 9) (U 10) ≠ -1))) h) : w_X2_keepsApart (A 25) h Q := by
  have h1 := g.le (w := 9) (by decide)
  have h2 := g.le (w := 10) (by decide)
  unfold w_X2_keepsApart
  refine gA_mk r rfl (gA_mk r rfl (s_unlike g (w := 9) (v := 10) (by decide) (by decide) ?_))
  have := unl_R (U 9) (U 10) ((U 9 ++ U 10).length + 1) 0 (by rw [List.length_append]; omega)
  unfold unlike at k ⊢
  refine ⟨gR_of (by omega) (by omega), ?_⟩
  by_cases q : unl (U 9) (U 10) ((U 9 ++ U 10).length + 1) 0 = -1
  · rw [decide_eq_false (fun z => z q)] at k
    exact if_yes q k
  · rw [decide_eq_true q] at k
    exact if_no q k
theorem s_ruleTake (g : gW A h U) (r : gRu A h) {x y : Int} {c d : Nat} (hx : x = (c : Int)) (hy : y = (d : Int)) (hc : c < 65536) (hd : d < 65536) {Q : gaH → Prop} (k : ∀ h', gW A h' (pu (pu U 9 (codeW c)) 10 (codeW d)) → gSm A h h' → Q h') : w_X2_take (A 25) x y h Q := by
  unfold w_X2_take
  refine gA_mk r rfl ⟨g.has (w := 9) (by decide), s_takeCode g (w := 9) (by decide) hx hc (fun h1 g1 s1 => ?_)⟩
  refine gA_mk (r.on g.inj s1) rfl ⟨g1.has (w := 10) (by decide), s_takeCode g1 (w := 10) (by decide) hy hd (fun h2 g2 s2 => k h2 g2 (s1.tr s2))⟩
theorem s_imageLength (g : gW A h U) (r : gRu A h) (hw : w < 11) {Q : Int → gaH → Prop} (k : Q ((img (U 9) (U 10) (U w)).length : Int) h) : w_X2_imageLength (A 25) (A w) h Q := by
  unfold w_X2_imageLength
  refine s_upsOf g hw (g.many hw (gA_mk r rfl (g.many (w := 9) (by decide) (gA_mk r rfl (g.many (w := 10) (by decide) ?_)))))
  have e := img_len (U 9) (U 10) (U w)
  have h1 := ones_le (U w)
  rw [e] at k
  rw [show (((U w).length : Int) - (ones (U w) : Int)) = (((U w).length - ones (U w) : Nat) : Int) by omega]
  rw [← Int.natCast_mul, ← Int.natCast_mul, ← Int.natCast_add]
  exact k
theorem s_layImage_L (r0 : gInj A) (hw : w < 11) (hv : v < 9) (hne : v ≠ w) {Q : gaH → Prop} : ∀ (n i : Nat) (h : gaH) (U : Nat → List Bool), gW A h U → gRu A h → i ≤ (U w).length → (U w).length - i < n → (U v).length + (img (U 9) (U 10) ((U w).drop i)).length ≤ 64 →
    (∀ h', gW A h' (pu U v (U v ++ img (U 9) (U 10) ((U w).drop i))) → gSm A h h' → Q h') → w_X2_layImage_L6 Q n (A 25) (A w) (A v) (i : Int) h
  | 0, i, h, U, _, _, _, h1, _, _ => absurd h1 (Nat.not_lt_zero _)
  | n + 1, i, h, U, g, r, hi, h1, hl, k => by
    have hle := g.le hw
    unfold w_X2_layImage_L6
    refine g.many hw ⟨gR_of (by omega) (by omega), gR_of (by omega) (by omega), ?_⟩
    by_cases q : i = (U w).length
    · refine if_yes (by omega) (k h (g.eq (fun x _ => ?_)) gSm.rf)
      by_cases e : x = v
      · rw [e, pu_self, q, List.drop_length]; simp [img]
      · exact pu_ne _ _ e
    · refine if_no (by omega) ⟨g.has hw, s_isUp g hw rfl (by omega) ⟨b2i_R _, ?_⟩⟩
      have hd := take_one (u := U w) (i := i) (by omega)
      -- with the sign's part p
      have part : ∀ p : Nat, (p = 9 ∨ p = 10) → (if (U w).getD i false = true then U 10 else U 9) = U p → w_X2_layImage_J33 Q (w_X2_layImage_L6 Q n) (A 25) (A w) (A v) (i : Int) (A p) h := by
        intro p hp he
        have e3 : img (U 9) (U 10) ((U w).drop i) = U p ++ img (U 9) (U 10) ((U w).drop (i + 1)) := by rw [hd, img, he]
        rw [e3] at hl k
        rw [List.length_append] at hl
        unfold w_X2_layImage_J33
        refine g.many (w := p) (by omega) ⟨g.has (show v < 11 by omega), s_addPart (i := 0) g (show v < 11 by omega) (show p < 11 by omega) (by omega) rfl rfl (Nat.zero_le _) (Nat.le_refl _) (by omega) (fun h' g' s => ?_)⟩
        have n1 : ∀ x, x ≠ v → pu U v (U v ++ ((U p).drop 0).take ((U p).length - 0)) x = U x := fun x hx => pu_ne _ _ hx
        have n2 : pu U v (U v ++ ((U p).drop 0).take ((U p).length - 0)) v = U v ++ U p := by rw [pu_self, List.drop_zero, Nat.sub_zero, List.take_length]
        rw [show (i : Int) + 1 = ((i + 1 : Nat) : Int) by omega]
        refine s_layImage_L r0 hw hv hne n (i + 1) h' _ g' (r.on r0 s) (by rw [n1 w hne.symm]; omega) (by rw [n1 w hne.symm]; omega) (by rw [n2, n1 w hne.symm, n1 9 (by omega), n1 10 (by omega), List.length_append]; omega) (fun h2 g2 s2 => k h2 (g2.eq (fun x _ => ?_)) (s.tr s2))
        by_cases e : x = v
        · subst e
          rw [pu_self, pu_self, n2, n1 w hne.symm, n1 9 (by omega), n1 10 (by omega), List.append_assoc]
        · rw [pu_ne _ _ e, pu_ne _ _ e, n1 x e]
      cases hz : (U w).getD i false
      · exact if_yes rfl (gA_mk r rfl (part 9 (Or.inl rfl) (by rw [hz]; rfl)))
      · exact if_no (by decide) (gA_mk r rfl (part 10 (Or.inr rfl) (by rw [hz]; rfl)))
theorem s_layImage (g : gW A h U) (r : gRu A h) (hw : w < 11) (hv : v < 9) (hne : v ≠ w) (hl : (img (U 9) (U 10) (U w)).length ≤ 64) {Q : gaH → Prop} (k : ∀ h', gW A h' (pu U v (img (U 9) (U 10) (U w))) → gSm A h h' → Q h') : w_X2_layImage (A 25) (A w) (A v) h Q := by
  unfold w_X2_layImage
  refine ⟨g.has (show v < 11 by omega), s_clear g (show v < 11 by omega) (fun h1 g1 s1 => ⟨65, ?_⟩)⟩
  have hle := g.le hw
  have n1 : ∀ x, x ≠ v → pu U v [] x = U x := fun x hx => pu_ne _ _ hx
  refine s_layImage_L g.inj hw hv hne 65 0 h1 _ g1 (r.on g.inj s1) (Nat.zero_le _) (by rw [n1 w hne.symm]; omega) (by rw [pu_self, n1 w hne.symm, n1 9 (by omega), n1 10 (by omega), List.drop_zero]; simpa using hl) (fun h2 g2 s2 => k h2 (g2.eq (fun x _ => ?_)) (s1.tr s2))
  by_cases e : x = v
  · subst e
    rw [pu_self, pu_self, pu_self, n1 w hne.symm, n1 9 (by omega), n1 10 (by omega), List.drop_zero]; rfl
  · rw [pu_ne _ _ e, pu_ne _ _ e, n1 x e]
end PU
/-! The way back through a rule. -/
/-- is what stands from i on the image of some word? -/
def okR (x y u : List Bool) (i : Nat) : Bool :=
  if h : i < u.length ∧ 0 < x.length ∧ 0 < y.length then (stands u x i && okR x y u (i + x.length)) || (stands u y i && okR x y u (i + y.length)) else decide (i = u.length)
termination_by u.length - i
decreasing_by all_goals omega
/-- that word -/
def walkR (x y u : List Bool) (i : Nat) : List Bool :=
  if h : i < u.length ∧ 0 < x.length ∧ 0 < y.length then (if (stands u x i && okR x y u (i + x.length)) = true then false :: walkR x y u (i + x.length) else true :: walkR x y u (i + y.length)) else []
termination_by u.length - i
decreasing_by all_goals omega
theorem stands_le {u v : List Bool} {i : Nat} (h : stands u v i = true) : i + v.length ≤ u.length := by
  unfold stands at h
  rw [Bool.and_eq_true, decide_eq_true_eq] at h
  exact h.1
/-- nothing but words and the rule's marks has changed -/
def gSk (A : Nat → Nat) (h h' : gaH) : Prop := ∀ b, (∀ w, w < 22 → b ≠ A w) → b ≠ A 30 → h' b = h b
theorem gSk.of {A : Nat → Nat} {h h' : gaH} (x : gSm A h h') : gSk A h h' := fun b hb _ => x b hb
theorem gSk.tr {A : Nat → Nat} {h h1 h2 : gaH} (x : gSk A h h1) (y : gSk A h1 h2) : gSk A h h2 := fun b hb hc => (y b hb hc).trans (x b hb hc)
theorem gSk.at {A : Nat → Nat} {h h' : gaH} (x : gSk A h h') (hA : gInj A) {i : Nat} (h1 : 22 ≤ i) (h2 : i < 30) : h' (A i) = h (A i) := x _ (fun w hw q => by
  have := hA i w (by omega) (by omega) q
  omega) (fun q => by
  have := hA i 30 (by omega) (by omega) q
  omega)
theorem gRu.onk {A : Nat → Nat} {h h' : gaH} (r : gRu A h) (hA : gInj A) (s : gSk A h h') : gRu A h' := (s.at hA (by decide) (by decide)).trans r
section PM
variable {A : Nat → Nat} {h : gaH} {U : Nat → List Bool} {w v : Nat} {m : List Bool}
theorem gW.setM (g : gW A h U) (hm : h (A 30) = some (100, gRow m)) (hl : m.length = 65) {i : Nat} (hi : i < 65) {x : Int} (hx : x = (i : Int)) {b : Bool} {K : gaH → Prop} (k : ∀ h', gW A h' U → gSk A h h' → h' (A 30) = some (100, gRow (m.set i b)) → K h') : gSI h (A 30) 100 x (gi (b2i b)) K := by
  subst hx
  obtain ⟨R, N, g, e⟩ := g
  have hu : gaUp h (A 30) (100, (gRow m).set (i : Int).toNat (gi (b2i b))) (A 30) = some (100, gRow (m.set i b)) := by rw [gaUp_self, gRow_set, Int.toNat_natCast]
  refine gSI_mk hm (by omega) (by omega) (by rw [gRow_len, hl]; omega) (k _ ⟨R, N, ⟨g.1, fun x hx => ?_, m.set i b, by rw [List.length_set]; exact hl, hu⟩, e⟩ (fun b _ hb => gaUp_ne _ _ hb) hu)
  obtain ⟨a1, a2, a3, a4⟩ := g.2.1 x hx
  exact ⟨a1, a2, by rw [gaUp_ne _ _ (g.ne (by omega) (by omega) (by omega))]; exact a3, by rw [gaUp_ne _ _ (g.ne (by omega) (by omega) (by omega))]; exact a4⟩
theorem gW.marks (g : gW A h U) : ∃ m : List Bool, m.length = 65 ∧ h (A 30) = some (100, gRow m) := by obtain ⟨R, N, g, -⟩ := g; exact g.2.2
theorem s_isMarked (r : gRu A h) (hm : h (A 30) = some (100, gRow m)) (hl : m.length = 65) {x : Int} {p : Nat} (hx : x = (p : Int)) (hp : p < 65) {Q : Int → gaH → Prop} (k : Q (b2i (m.getD p false)) h) : w_X2_isMarked (A 25) x h Q := by
  subst hx
  unfold w_X2_isMarked
  refine ⟨gR_of (by omega) (by omega), if_no (by omega) (gA_mk r rfl (gAL_mk hm (by rw [gRow_len, hl]) ⟨gR_of (by omega) (by omega), gR_of (by decide) (by decide), if_no (by omega) (gA_mk r rfl (gLI_mk hm (by omega) (by omega) (by rw [Int.toNat_natCast]; exact gRow_at (by rw [hl]; exact hp)) ⟨b2i_R _, ?_⟩))⟩))⟩
  generalize m.getD p false = z at k
  cases z
  · exact if_yes rfl k
  · exact if_no (by decide) k
theorem s_goesOn (g : gW A h U) (r : gRu A h) (hm : h (A 30) = some (100, gRow m)) (hl : m.length = 65) (hw : w < 11) {q : Nat} (hq : q < 11) {x : Int} {p : Nat} (hx : x = (p : Int)) (hp : p ≤ 64) {Q : Int → gaH → Prop} (k : Q (b2i (stands (U w) (U q) p && m.getD (p + (U q).length) false)) h) : w_X2_goesOn (A 25) (A w) x (A q) h Q := by
  have hle := g.le hw
  unfold w_X2_goesOn
  refine s_standsAt g hw hq hx (by omega) ⟨b2i_R _, ?_⟩
  cases hz : stands (U w) (U q) p
  · rw [hz, Bool.false_and] at k
    exact if_yes rfl k
  · have h1 := stands_le hz
    rw [hz, Bool.true_and] at k
    refine if_no (by decide) (g.many hq ⟨r.has, s_isMarked (p := p + (U q).length) r hm hl (by subst hx; omega) (by omega) ⟨b2i_R _, ?_⟩⟩)
    generalize m.getD (p + (U q).length) false = z at k
    cases z
    · exact if_yes rfl k
    · exact if_no (by decide) k
theorem okR_at {x y u : List Bool} (hx : 0 < x.length) (hy : 0 < y.length) (i : Nat) : okR x y u i = (decide (i = u.length) || ((stands u x i && okR x y u (i + x.length)) || (stands u y i && okR x y u (i + y.length)))) := by
  rw [okR]
  by_cases h1 : i < u.length
  · rw [dif_pos ⟨h1, hx, hy⟩, decide_eq_false (by omega), Bool.false_or]
  · rw [dif_neg (fun z => h1 z.1)]
    have s1 : stands u x i = false := by
      cases hz : stands u x i
      · rfl
      · have := stands_le hz; omega
    have s2 : stands u y i = false := by
      cases hz : stands u y i
      · rfl
      · have := stands_le hz; omega
    rw [s1, s2, Bool.false_and, Bool.false_and, Bool.or_false, Bool.or_false]
theorem s_markImages_L (hA : gInj A) (hw : w < 11) (hw2 : w ≠ 9) {Q : gaH → Prop} (p1 : 0 < (U 9).length) (p2 : 0 < (U 10).length) : ∀ (n i : Nat) (h : gaH) (m : List Bool), gW A h U → gRu A h → h (A 30) = some (100, gRow m) → m.length = 65 → i ≤ 65 → i < n → (∀ j, i ≤ j → j < 65 → m.getD j false = okR (U 9) (U 10) (U w) j) →
    (∀ h' m', gW A h' U → gSk A h h' → h' (A 30) = some (100, gRow m') → m'.length = 65 → (∀ j, j < 65 → m'.getD j false = okR (U 9) (U 10) (U w) j) → Q h') → w_X2_markImages_L8 Q n (A 25) (A w) ((i : Int) - 1) h
  | 0, i, h, m, _, _, _, _, _, h1, _, _ => absurd h1 (Nat.not_lt_zero _)
  | n + 1, i, h, m, g, r, hm, hl, hi, h1, hj, k => by
    have hle := g.le hw
    unfold w_X2_markImages_L8
    refine ⟨gR_of (by omega) (by omega), ?_⟩
    cases i with
    | zero => exact if_yes (by omega) (k h m g (fun _ _ _ => rfl) hm hl (fun j hj2 => hj j (Nat.zero_le _) hj2))
    | succ i =>
      have e1 : ((i + 1 : Nat) : Int) - 1 = (i : Int) := by omega
      rw [e1]
      have fin : ∀ b : Bool, b = okR (U 9) (U 10) (U w) i → w_X2_markImages_J56 Q (w_X2_markImages_L8 Q n) (A 25) (A w) (i : Int) (A 30) (i : Int) (b2i b) h := by
        intro b hb
        unfold w_X2_markImages_J56
        refine ⟨b2i_nar b, g.setM hm hl (i := i) (by omega) rfl (fun h' g' s hm' => ?_)⟩
        rw [show (i : Int) + -1 = (i : Int) - 1 by omega]
        refine s_markImages_L hA hw hw2 p1 p2 n i h' _ g' (r.onk hA s) hm' (by rw [List.length_set]; exact hl) (by omega) (by omega) (fun j q1 q2 => ?_) (fun h2 m2 g2 s2 t1 t2 t3 => k h2 m2 g2 (s.tr s2) t1 t2 t3)
        by_cases q : j = i
        · subst q
          rw [List.getD_eq_getElem?_getD, List.getElem?_set_self (by omega)]
          exact hb
        · rw [List.getD_eq_getElem?_getD, List.getElem?_set_ne (fun z => q z.symm), ← List.getD_eq_getElem?_getD]
          exact hj j (by omega) q2
      have hok := okR_at (x := U 9) (y := U 10) (u := U w) p1 p2 i
      have mk : ∀ q, 0 < (U q).length → (stands (U w) (U q) i && m.getD (i + (U q).length) false) = (stands (U w) (U q) i && okR (U 9) (U 10) (U w) (i + (U q).length)) := by
        intro q hq
        cases hz : stands (U w) (U q) i
        · rfl
        · have := stands_le hz
          rw [hj _ (by omega) (by omega)]
      refine if_no (by omega) (gA_mk r rfl (g.many hw ⟨gR_of (by omega) (by omega), gR_of (by omega) (by omega), ?_⟩))
      by_cases z : i = (U w).length
      · refine if_yes (by omega) ?_
        unfold w_X2_markImages_J51
        refine fin true ?_
        rw [hok, decide_eq_true z, Bool.true_or]
      · rw [decide_eq_false z, Bool.false_or] at hok
        refine if_no (by omega) (gA_mk r rfl ⟨r.has, s_goesOn g r hm hl hw (q := 9) (by decide) rfl (by omega) ⟨b2i_R _, ?_⟩⟩)
        rw [mk 9 p1]
        cases hz : (stands (U w) (U 9) i && okR (U 9) (U 10) (U w) (i + (U 9).length))
        · rw [hz, Bool.false_or] at hok
          refine if_yes rfl (gA_mk r rfl ⟨r.has, s_goesOn g r hm hl hw (q := 10) (by decide) rfl (by omega) ⟨b2i_R _, ?_⟩⟩)
          rw [mk 10 p2, ← hok]
          cases hy : okR (U 9) (U 10) (U w) i
          · exact if_yes rfl (fin false hy.symm)
          · refine if_no (by decide) ?_
            unfold w_X2_markImages_J51
            exact fin true hy.symm
        · rw [hz, Bool.true_or] at hok
          refine if_no (by decide) ?_
          unfold w_X2_markImages_J51
          exact fin true hok.symm
theorem s_layOrigin_L (hA : gInj A) (hw : w < 9) (hv : v < 9) (hne : v ≠ w) {Q : Int → gaH → Prop} : ∀ (n i nx : Nat) (h : gaH) (U : Nat → List Bool), gW A h U → gRu A h → 0 < (U 9).length → 0 < (U 10).length → h (A 30) = some (100, gRow m) → m.length = 65 → (∀ j, j < 65 → m.getD j false = okR (U 9) (U 10) (U w) j) → i ≤ (U w).length → i ≤ nx → nx ≤ (U w).length → (U w).length - i < n →
    okR (U 9) (U 10) (U w) nx = true → (U v).length ≤ i →
    (∀ h', gW A h' (pu U v (U v ++ walkR (U 9) (U 10) (U w) nx)) → gSm A h h' → Q 1 h') → w_X2_layOrigin_L24 Q n (A 25) (A w) (A v) (nx : Int) (i : Int) h
  | 0, i, nx, h, U, _, _, _, _, _, _, _, _, _, _, h1, _, _, _ => absurd h1 (Nat.not_lt_zero _)
  | n + 1, i, nx, h, U, g, r, p1, p2, hm, hl, hj, hi, hn, hn2, h1, hok, hc, k => by
    have hle := g.le (show w < 11 by omega)
    unfold w_X2_layOrigin_L24
    refine g.many (show w < 11 by omega) ⟨gR_of (by omega) (by omega), gR_of (by omega) (by omega), ?_⟩
    by_cases q : i = (U w).length
    · have e : nx = (U w).length := by omega
      refine if_yes (by omega) (k h (g.eq (fun x _ => ?_)) gSm.rf)
      by_cases z : x = v
      · rw [z, pu_self, walkR, dif_neg (by omega), List.append_nil]
      · exact pu_ne _ _ z
    · refine if_no (by omega) ⟨gR_of (by omega) (by omega), gR_of (by omega) (by omega), ?_⟩
      by_cases z : i = nx
      · subst z
        have hlt : i < (U w).length := by omega
        have mk : (stands (U w) (U 9) i && m.getD (i + (U 9).length) false) = (stands (U w) (U 9) i && okR (U 9) (U 10) (U w) (i + (U 9).length)) := by
          cases hz : stands (U w) (U 9) i
          · rfl
          · have := stands_le hz
            rw [hj _ (by omega)]
        have hw1 : walkR (U 9) (U 10) (U w) i = (if (stands (U w) (U 9) i && okR (U 9) (U 10) (U w) (i + (U 9).length)) = true then false :: walkR (U 9) (U 10) (U w) (i + (U 9).length) else true :: walkR (U 9) (U 10) (U w) (i + (U 10).length)) := by
          rw [walkR, dif_pos ⟨hlt, p1, p2⟩]
        -- the sign b is laid, by the word of q
        have fin : ∀ (b : Bool) (q : Nat), q = (if b = true then 10 else 9) → (stands (U w) (U q) i && okR (U 9) (U 10) (U w) (i + (U q).length)) = true → walkR (U 9) (U 10) (U w) i = b :: walkR (U 9) (U 10) (U w) (i + (U q).length) → w_X2_layOrigin_J58 Q (w_X2_layOrigin_L24 Q n) (A 25) (A w) (A v) (i : Int) (b2i b) h := by
          intro b q hq hs hwk
          rw [Bool.and_eq_true] at hs
          have hst := stands_le hs.1
          unfold w_X2_layOrigin_J58
          refine ⟨g.has (show v < 11 by omega), s_add g (show v < 11 by omega) (by omega) rfl (fun h' g' s => ⟨b2i_R _, ?_⟩)⟩
          have n1 : ∀ x, x ≠ v → pu U v (U v ++ [b]) x = U x := fun x hx => pu_ne _ _ hx
          have goon : ∀ (hm2 : h' (A 30) = some (100, gRow m)), w_X2_layOrigin_L24 Q n (A 25) (A w) (A v) ((i : Int) + ((U q).length : Int)) ((i : Int) + 1) h' := by
            intro hm2
            rw [show (i : Int) + ((U q).length : Int) = ((i + (U q).length : Nat) : Int) by omega, show (i : Int) + 1 = ((i + 1 : Nat) : Int) by omega]
            have hq0 : 0 < (U q).length := by rw [hq]; cases b <;> simp <;> assumption
            refine s_layOrigin_L hA hw hv hne n (i + 1) (i + (U q).length) h' _ g' (r.on hA s) (by rw [n1 9 (by omega)]; exact p1) (by rw [n1 10 (by omega)]; exact p2) hm2 hl (by rw [n1 9 (by omega), n1 10 (by omega), n1 w hne.symm]; exact hj) (by rw [n1 w hne.symm]; omega) (by omega) (by rw [n1 w hne.symm]; exact hst) (by rw [n1 w hne.symm]; omega) (by rw [n1 9 (by omega), n1 10 (by omega), n1 w hne.symm]; exact hs.2) (by rw [pu_self, List.length_append]; simp only [List.length_cons, List.length_nil]; omega) (fun h2 g2 s2 => k h2 (g2.eq (fun x _ => ?_)) (s.tr s2))
            by_cases e : x = v
            · subst e
              rw [pu_self, pu_self, pu_self, n1 9 (by omega), n1 10 (by omega), n1 w hne.symm, hwk, List.append_assoc]
              rfl
            · rw [pu_ne _ _ e, pu_ne _ _ e, n1 x e]
          have hm2 : h' (A 30) = some (100, gRow m) := (s.at hA (by decide) (by decide)).trans hm
          have r' := r.on hA s
          subst hq
          cases b
          · refine if_yes rfl (gA_mk r' rfl ?_)
            refine g'.many (w := 9) (by decide) ?_
            rw [n1 9 (by omega)]
            exact goon hm2
          · refine if_no (by decide) (gA_mk r' rfl ?_)
            refine g'.many (w := 10) (by decide) ?_
            rw [n1 10 (by omega)]
            exact goon hm2
        refine if_yes rfl (gA_mk r rfl ⟨r.has, s_goesOn g r hm hl (show w < 11 by omega) (q := 9) (by decide) rfl (by omega) ⟨b2i_R _, ?_⟩⟩)
        rw [mk]
        cases hz : (stands (U w) (U 9) i && okR (U 9) (U 10) (U w) (i + (U 9).length))
        · have h2 := okR_at (x := U 9) (y := U 10) (u := U w) p1 p2 i
          rw [hok, decide_eq_false (by omega), hz, Bool.false_or, Bool.false_or] at h2
          exact if_yes rfl (fin true 10 rfl h2.symm (by rw [hw1, hz]; rfl))
        · exact if_no (by decide) (fin false 9 rfl hz (by rw [hw1, hz]; rfl))
      · refine if_no (by omega) ?_
        rw [show (i : Int) + 1 = ((i + 1 : Nat) : Int) by omega]
        exact s_layOrigin_L hA hw hv hne n (i + 1) nx h U g r p1 p2 hm hl hj (by omega) (by omega) hn2 (by omega) hok (by omega) k
/-- the word whose image is told, if there is one -/
theorem s_layOrigin (g : gW A h U) (r : gRu A h) (hw : w < 9) (hv : v < 9) (hne : v ≠ w) (p1 : 0 < (U 9).length) (p2 : 0 < (U 10).length) {Q : Int → gaH → Prop}
    (k0 : ∀ h', gW A h' U → gSk A h h' → okR (U 9) (U 10) (U w) 0 = false → Q 0 h') (k1 : ∀ h', gW A h' (pu U v (walkR (U 9) (U 10) (U w) 0)) → gSk A h h' → okR (U 9) (U 10) (U w) 0 = true → Q 1 h') : w_X2_layOrigin (A 25) (A w) (A v) h Q := by
  have hA := g.inj
  have hle := g.le (show w < 11 by omega)
  obtain ⟨m, hl, hm⟩ := g.marks
  unfold w_X2_layOrigin w_X2_markImages
  refine ⟨r.has, gA_mk r rfl (gAL_mk hm (by rw [gRow_len, hl]) ⟨66, ?_⟩)⟩
  refine s_markImages_L hA (show w < 11 by omega) (by omega) p1 p2 66 65 h m g r hm hl (Nat.le_refl _) (by decide) (fun j q1 q2 => by omega) (fun h1 m1 g1 s1 hm1 hl1 hj1 => ?_)
  have r1 := r.onk hA s1
  refine ⟨r1.has, s_isMarked (p := 0) r1 hm1 hl1 rfl (by decide) ⟨b2i_R _, ?_⟩⟩
  rw [hj1 0 (by decide)]
  cases hok : okR (U 9) (U 10) (U w) 0
  · exact if_yes rfl (k0 h1 g1 s1 hok)
  · refine if_no (by decide) ⟨g1.has (show v < 11 by omega), s_clear g1 (show v < 11 by omega) (fun h2 g2 s2 => ⟨65, ?_⟩)⟩
    have n1 : ∀ x, x ≠ v → pu U v [] x = U x := fun x hx => pu_ne _ _ hx
    refine s_layOrigin_L (m := m1) hA hw hv hne 65 0 0 h2 _ g2 (r1.on hA s2) (by rw [n1 9 (by omega)]; exact p1) (by rw [n1 10 (by omega)]; exact p2) ((s2.at hA (by decide) (by decide)).trans hm1) hl1 (by rw [n1 9 (by omega), n1 10 (by omega), n1 w hne.symm]; exact hj1) (Nat.zero_le _) (Nat.le_refl _) (Nat.zero_le _) (by rw [n1 w hne.symm]; omega) (by rw [n1 9 (by omega), n1 10 (by omega), n1 w hne.symm]; exact hok) (by rw [pu_self]; exact Nat.le_refl _) (fun h3 g3 s3 => k1 h3 (g3.eq (fun x _ => ?_)) (s1.tr ((gSk.of s2).tr (gSk.of s3))) hok)
    by_cases e : x = v
    · subst e
      rw [pu_self, pu_self, pu_self, n1 9 (by omega), n1 10 (by omega), n1 w hne.symm]; rfl
    · rw [pu_ne _ _ e, pu_ne _ _ e, n1 x e]
end PM
/-! Growths: their words by copies, by rules, by their line. -/
def rep (t : Nat) (y : List Bool) : List Bool := (List.replicate t y).flatten
theorem rep_succ (t : Nat) (y : List Bool) : rep (t + 1) y = rep t y ++ y := by
  unfold rep
  rw [List.replicate_succ']
  simp
theorem rep_len (t : Nat) (y : List Bool) : (rep t y).length = t * y.length := by simp [rep]
/-- elder and younger -/
def gstep (p : List Bool × List Bool) (t : Nat) : List Bool × List Bool := (p.2, rep t p.2 ++ p.1)
def grw (ts : List Nat) : List Bool × List Bool := ts.foldl gstep ([true], [false])
theorem grw_snoc (ts : List Nat) (t : Nat) : grw (ts ++ [t]) = gstep (grw ts) t := by simp [grw]
def cf (t : Nat) : Nat := if t = 1 then 5 else if t = 2 then 9 else if t = 3 then 17 else 0
def phi (ts : List Nat) (w : List Bool) : List Bool := ts.foldr (fun t w => img (codeW (cf t)) (codeW 2) w) w
def tOk (ts : List Nat) : Prop := ∀ t ∈ ts, 1 ≤ t ∧ t ≤ 3
theorem tOk.snoc {ts : List Nat} {t : Nat} (h : tOk (ts ++ [t])) : tOk ts ∧ (1 ≤ t ∧ t ≤ 3) := ⟨fun x hx => h x (List.mem_append_left _ hx), h t (by simp)⟩
theorem phi_app (ts : List Nat) : ∀ (u v : List Bool), phi ts (u ++ v) = phi ts u ++ phi ts v := by
  induction ts with
  | nil => intro u v; rfl
  | cons t ts ih => intro u v; show img _ _ (phi ts (u ++ v)) = _; rw [ih, img_app]; rfl
theorem phi_rep (ts : List Nat) (u : List Bool) : ∀ n, phi ts (rep n u) = rep n (phi ts u)
  | 0 => by
    show phi ts [] = []
    induction ts with
    | nil => rfl
    | cons t ts ih => show img _ _ (phi ts []) = []; rw [ih]; rfl
  | n + 1 => by rw [rep_succ, phi_app, phi_rep ts u n, rep_succ]
theorem phi_snoc (ts : List Nat) (t : Nat) (w : List Bool) : phi (ts ++ [t]) w = phi ts (img (codeW (cf t)) (codeW 2) w) := by simp [phi]
theorem cf_len {t : Nat} (h : 1 ≤ t ∧ t ≤ 3) : 1 ≤ (codeW (cf t)).length ∧ cf t < 65536 ∧ codeW (cf t) = rep t [false] ++ [true] ∧ codeW 2 = [false] := by
  obtain ⟨h1, h2⟩ := h
  rcases (show t = 1 ∨ t = 2 ∨ t = 3 by omega) with rfl | rfl | rfl <;> decide
theorem grw_phi : ∀ (n : Nat) (ts : List Nat), ts.length = n → tOk ts → grw ts = (phi ts [true], phi ts [false])
  | 0, ts, hn, _ => by
    rw [List.length_eq_zero_iff.mp hn]; rfl
  | n + 1, ts, hn, hok => by
    obtain ⟨us, t, rfl⟩ : ∃ us t, ts = us ++ [t] := ⟨ts.dropLast, ts.getLast (by intro h; rw [h] at hn; simp at hn), (List.dropLast_concat_getLast _).symm⟩
    obtain ⟨h1, h2⟩ := hok.snoc
    obtain ⟨-, -, c1, c2⟩ := cf_len h2
    have e1 : img (codeW (cf t)) (codeW 2) [true] = [false] := by rw [c2]; rfl
    have e2 : img (codeW (cf t)) (codeW 2) [false] = rep t [false] ++ [true] := by rw [c1]; simp [img]
    rw [grw_snoc, grw_phi n us (by simpa using hn) h1, phi_snoc, phi_snoc, e1, e2, phi_app, phi_rep]
    rfl
theorem img_ge (x y : List Bool) (hx : 1 ≤ x.length) (hy : 1 ≤ y.length) : ∀ u : List Bool, u.length ≤ (img x y u).length
  | [] => Nat.zero_le _
  | b :: t => by
    have := img_ge x y hx hy t
    simp only [img, List.length_append, List.length_cons]
    split <;> omega
theorem phi_ge (ts : List Nat) (hok : tOk ts) (w : List Bool) : w.length ≤ (phi ts w).length := by
  induction ts with
  | nil => exact Nat.le_refl _
  | cons t ts ih =>
    have h1 := ih (fun x hx => hok x (List.mem_cons_of_mem _ hx))
    obtain ⟨c0, -, c1, c2⟩ := cf_len (hok t List.mem_cons_self)
    exact Nat.le_trans h1 (img_ge _ _ c0 (by rw [c2]; decide) _)
theorem phi_split (ts us : List Nat) (w : List Bool) : phi (ts ++ us) w = phi ts (phi us w) := by simp [phi]
/-- the younger word's length is that of the turns and one at least -/
theorem grw_len : ∀ (n : Nat) (ts : List Nat), ts.length = n → tOk ts → n + 1 ≤ (grw ts).2.length ∧ 1 ≤ (grw ts).1.length
  | 0, ts, hn, _ => by rw [List.length_eq_zero_iff.mp hn]; decide
  | n + 1, ts, hn, hok => by
    obtain ⟨us, t, rfl⟩ : ∃ us t, ts = us ++ [t] := ⟨ts.dropLast, ts.getLast (by intro h; rw [h] at hn; simp at hn), (List.dropLast_concat_getLast _).symm⟩
    obtain ⟨h1, h2⟩ := hok.snoc
    obtain ⟨a1, a2⟩ := grw_len n us (by simpa using hn) h1
    rw [grw_snoc]
    show n + 1 + 1 ≤ (rep t (grw us).2 ++ (grw us).1).length ∧ 1 ≤ (grw us).2.length
    rw [List.length_append, rep_len]
    have : 1 * (grw us).2.length ≤ t * (grw us).2.length := Nat.mul_le_mul_right _ h2.1
    omega
theorem grw_mono (ts : List Nat) (t : Nat) (h2 : 1 ≤ t ∧ t ≤ 3) : (grw ts).2.length ≤ (grw (ts ++ [t])).2.length := by
  rw [grw_snoc]
  show _ ≤ (rep t (grw ts).2 ++ (grw ts).1).length
  rw [List.length_append, rep_len]
  have : 1 * (grw ts).2.length ≤ t * (grw ts).2.length := Nat.mul_le_mul_right _ h2.1
  omega
def gOk (ts : List Nat) : Prop := tOk ts ∧ (grw ts).2.length ≤ 64
theorem gOk.len {ts : List Nat} (h : gOk ts) : ts.length ≤ 63 := by
  have := (grw_len _ ts rfl h.1).1
  have := h.2
  omega
theorem gOk.pre {ts : List Nat} {t : Nat} (h : gOk (ts ++ [t])) : gOk ts := ⟨h.1.snoc.1, Nat.le_trans (grw_mono ts t h.1.snoc.2) h.2⟩
theorem gOk.elder {ts : List Nat} (h : gOk ts) : (grw ts).1.length ≤ 64 := by
  by_cases hn : ts = []
  · rw [hn]; decide
  · obtain ⟨us, t, rfl⟩ : ∃ us t, ts = us ++ [t] := ⟨ts.dropLast, ts.getLast hn, (List.dropLast_concat_getLast _).symm⟩
    rw [grw_snoc]
    exact h.pre.2
/-- lengths and b's by the numbers alone: elder's length, b's, younger's length, b's -/
def nstep (p : Nat × Nat × Nat × Nat) (t : Nat) : Nat × Nat × Nat × Nat := (p.2.2.1, p.2.2.2, t * p.2.2.1 + p.1, t * p.2.2.2 + p.2.1)
def nums (ts : List Nat) : Nat × Nat × Nat × Nat := ts.foldl nstep (1, 1, 1, 0)
theorem rep_ones (t : Nat) (y : List Bool) : ones (rep t y) = t * ones y := by
  induction t with
  | zero => simp [rep, ones]
  | succ t ih => rw [rep_succ, ones_app, ih, Nat.succ_mul]
theorem nums_grw : ∀ (n : Nat) (ts : List Nat), ts.length = n → nums ts = ((grw ts).1.length, ones (grw ts).1, (grw ts).2.length, ones (grw ts).2)
  | 0, ts, hn => by rw [List.length_eq_zero_iff.mp hn]; rfl
  | n + 1, ts, hn => by
    obtain ⟨us, t, rfl⟩ : ∃ us t, ts = us ++ [t] := ⟨ts.dropLast, ts.getLast (by intro h; rw [h] at hn; simp at hn), (List.dropLast_concat_getLast _).symm⟩
    have ih := nums_grw n us (by simpa using hn)
    rw [grw_snoc, show nums (us ++ [t]) = nstep (nums us) t by simp [nums], ih]
    simp only [nstep, gstep, List.length_append, rep_len, ones_app, rep_ones]
/-- a sign of a line -/
def lineB (n p s i : Nat) : Bool := decide (n ≤ (i * p + s) % n + p)
/-- the younger word by its line -/
def byL (ts : List Nat) : List Bool :=
  if ts = [] then [false] else (List.range ((nums ts).2.2.1 - 2)).map (fun j => lineB (nums ts).2.2.1 (nums ts).2.2.2 0 (j + 1)) ++ [decide (ts.length % 2 = 0), decide (ts.length % 2 = 1)]
theorem s_lineB {n p s i : Nat} (hn : 0 < n) (hb : n ≤ 1000) (hp : p ≤ 1000) (hs : s ≤ 1000) (hi : i ≤ 1000) {x1 x2 x3 x4 : Int} (h1 : x1 = (n : Int)) (h2 : x2 = (p : Int)) (h3 : x3 = (s : Int)) (h4 : x4 = (i : Int)) {h : gaH} {Q : Int → gaH → Prop} (k : Q (b2i (lineB n p s i)) h) : w_X5_isUpOnLine x1 x2 x3 x4 h Q := by
  subst h1; subst h2; subst h3; subst h4
  unfold w_X5_isUpOnLine
  have hm : i * p ≤ 1000 * 1000 := Nat.mul_le_mul hi hp
  have e1 : ((i : Int) * (p : Int) + (s : Int)) = ((i * p + s : Nat) : Int) := by rw [Int.natCast_add, Int.natCast_mul]
  have e2 : gRem ((i : Int) * (p : Int) + (s : Int)) (n : Int) = (((i * p + s) % n : Nat) : Int) := by rw [e1]; exact gRem_nat (by omega) (by omega)
  have hr : (i * p + s) % n < n := Nat.mod_lt _ hn
  refine ⟨gR_of (by omega) (by omega), ?_⟩
  refine if_no (by omega) ⟨gR_of (by omega) (by omega), by omega, ?_⟩
  rw [e2]
  refine ⟨gR_of (by omega) (by omega), gR_of (by omega) (by omega), ?_⟩
  unfold lineB at k
  by_cases q : n ≤ (i * p + s) % n + p
  · rw [decide_eq_true q] at k
    exact if_no (by omega) k
  · rw [decide_eq_false q] at k
    exact if_yes (by omega) k
/-! Growths: what their methods do. -/
def gGr (A : Nat → Nat) (h : gaH) (g : Nat) (ts : List Nat) : Prop := h (A (26 + g)) = some (2, [.ref (A (28 + g)), gi (ts.length : Int), .ref (A (5 + 2 * g)), .ref (A (6 + 2 * g))]) ∧ ∃ row : List Int, row.length = 64 ∧ ts.length ≤ 63 ∧ h (A (28 + g)) = some (102, row.map gi) ∧ ∀ i, i < ts.length → row[i]? = (ts[i]?).map (fun t => (t : Int))
/-- nothing but words and this growth has changed -/
def gSg (A : Nat → Nat) (g : Nat) (h h' : gaH) : Prop := ∀ b, (∀ w, w < 22 → b ≠ A w) → b ≠ A (26 + g) → b ≠ A (28 + g) → h' b = h b
theorem gSg.of {A : Nat → Nat} {g : Nat} {h h' : gaH} (x : gSm A h h') : gSg A g h h' := fun b hb _ _ => x b hb
theorem gSg.tr {A : Nat → Nat} {g : Nat} {h h1 h2 : gaH} (x : gSg A g h h1) (y : gSg A g h1 h2) : gSg A g h h2 := fun b hb hc hd => (y b hb hc hd).trans (x b hb hc hd)
theorem gSg.at {A : Nat → Nat} {g : Nat} {h h' : gaH} (x : gSg A g h h') (hA : gInj A) (hg : g < 2) {i : Nat} (h1 : 22 ≤ i) (h2 : i < 31) (h3 : i ≠ 26 + g) (h4 : i ≠ 28 + g) : h' (A i) = h (A i) := x _ (fun w hw q => by
  have := hA i w (by omega) (by omega) q
  omega) (fun q => h3 (hA i _ h2 (by omega) q)) (fun q => h4 (hA i _ h2 (by omega) q))
section PG
variable {A : Nat → Nat} {h : gaH} {U : Nat → List Bool} {w v g : Nat} {ts : List Nat} {G : gaG}
theorem gW.off (gw : gW A h U) {i : Nat} (h1 : 22 ≤ i) (h2 : i < 30) (e : gaE) : gW A (gaUp h (A i) e) U := by
  obtain ⟨R, N, x, y⟩ := gw
  refine ⟨R, N, ⟨x.1, fun z hz => ?_, ?_⟩, y⟩
  · obtain ⟨a1, a2, a3, a4⟩ := x.2.1 z hz
    exact ⟨a1, a2, by rw [gaUp_ne _ _ (x.ne (by omega) (by omega) (by omega))]; exact a3, by rw [gaUp_ne _ _ (x.ne (by omega) (by omega) (by omega))]; exact a4⟩
  · obtain ⟨m, m1, m2⟩ := x.2.2
    exact ⟨m, m1, by rw [gaUp_ne _ _ (x.ne (by omega) (by omega) (by omega))]; exact m2⟩
theorem gGr.has (gr : gGr A h g ts) : gHas h (A (26 + g)) 2 := ⟨_, gr.1⟩
theorem gGr.on (gr : gGr A h g ts) (hA : gInj A) (hg : g < 2) {h' : gaH} (s : gSm A h h') : gGr A h' g ts := by
  obtain ⟨x, row, a, b, c, d⟩ := gr
  exact ⟨(s.at hA (by omega) (by omega)).trans x, row, a, b, (s.at hA (by omega) (by omega)).trans c, d⟩
theorem gGr.onk (gr : gGr A h g ts) (hA : gInj A) (hg : g < 2) {h' : gaH} (s : gSk A h h') : gGr A h' g ts := by
  obtain ⟨x, row, a, b, c, d⟩ := gr
  exact ⟨(s.at hA (by omega) (by omega)).trans x, row, a, b, (s.at hA (by omega) (by omega)).trans c, d⟩
theorem gGr.el (gr : gGr A h g ts) {K : Nat → Prop} (k : K (A (5 + 2 * g))) : gA h (A (26 + g)) 2 2 K := gA_mk gr.1 rfl k
theorem gGr.yo (gr : gGr A h g ts) {K : Nat → Prop} (k : K (A (6 + 2 * g))) : gA h (A (26 + g)) 2 3 K := gA_mk gr.1 rfl k
theorem gGr.ct (gr : gGr A h g ts) {K : Int → Prop} (k : K (ts.length : Int)) : gI h (A (26 + g)) 2 1 K := gI_mk gr.1 rfl k
theorem s_turnAt (gr : gGr A h g ts) {x : Int} {p : Nat} (hx : x = (p : Int)) (hp : p < ts.length) {Q : Int → gaH → Prop} (k : Q ((ts.getD p 0 : Nat) : Int) h) : w_X0_turnAt (A (26 + g)) x h Q := by
  subst hx
  obtain ⟨a0, row, a1, a2, a3, a4⟩ := gr
  unfold w_X0_turnAt
  refine ⟨gR_of (by omega) (by omega), if_no (by omega) (gA_mk a0 rfl (gAL_mk a3 (by rw [List.length_map, a1]) ⟨gR_of (by omega) (by omega), gR_of (by decide) (by decide), if_no (by omega) (gA_mk a0 rfl (gLI_mk (x := ((ts.getD p 0 : Nat) : Int)) a3 (by omega) (by omega) ?_ k))⟩))⟩
  rw [Int.toNat_natCast, List.getElem?_map, a4 p hp, List.getD_eq_getElem?_getD, List.getElem?_eq_getElem hp]
  rfl
theorem s_wordBy (gr : gGr A h g ts) {x : Int} (hx : x = 0 ∨ x = 1) {Q : Nat → gaH → Prop} (k0 : x = 0 → Q (A (6 + 2 * g)) h) (k1 : x = 1 → Q (A (5 + 2 * g)) h) : w_X0_wordBy (A (26 + g)) x h Q := by
  unfold w_X0_wordBy
  refine ⟨gR_of (by omega) (by omega), ?_⟩
  by_cases q : x = 0
  · exact if_yes q (gr.yo (k0 q))
  · exact if_no q (gr.el (k1 (by omega)))
/-- the count of turns is set -/
theorem gGr.setC (gr : gGr A h g ts) (gw : gW A h U) (hg : g < 2) {x : Int} {us : List Nat} (hx : x = (us.length : Int)) (hl : us.length ≤ ts.length) (hu : ∀ i, i < us.length → us[i]? = ts[i]?) {K : gaH → Prop} (k : ∀ h', gW A h' U → gGr A h' g us → gSg A g h h' → K h') : gPF h (A (26 + g)) 2 1 (gi x) K := by
  subst hx
  obtain ⟨a0, row, a1, a2, a3, a4⟩ := gr
  have hA := gw.inj
  refine gPF_mk a0 (show 1 < 4 by decide) (k _ (gw.off (by omega) (by omega) _) ⟨gaUp_self _ _ _, row, a1, by omega, ?_, fun i hi => by rw [a4 i (by omega), hu i hi]⟩ (fun b _ hb _ => gaUp_ne _ _ hb))
  rw [gaUp_ne _ _ (fun q => by have := hA _ _ (by omega) (by omega) q; omega)]
  exact a3
theorem s_begin (gr : gGr A h g ts) (gw : gW A h U) (hg : g < 2) {Q : gaH → Prop} (k : ∀ h', gW A h' (pu (pu U (5 + 2 * g) [true]) (6 + 2 * g) [false]) → gGr A h' g [] → gSg A g h h' → Q h') : w_X0_begin (A (26 + g)) h Q := by
  unfold w_X0_begin
  refine gr.setC gw hg (us := []) rfl (Nat.zero_le _) (fun i hi => absurd hi (Nat.not_lt_zero _)) (fun h1 w1 r1 s1 => ?_)
  have hA := gw.inj
  refine r1.el ⟨w1.has (show 5 + 2 * g < 11 by omega), s_clear w1 (show 5 + 2 * g < 11 by omega) (fun h2 w2 s2 => ?_)⟩
  have r2 := r1.on hA hg s2
  refine r2.el ⟨w2.has (show 5 + 2 * g < 11 by omega), s_add w2 (show 5 + 2 * g < 11 by omega) (by rw [pu_self]; decide) (b := true) rfl (fun h3 w3 s3 => ?_)⟩
  have r3 := r2.on hA hg s3
  refine r3.yo ⟨w3.has (show 6 + 2 * g < 11 by omega), s_clear w3 (show 6 + 2 * g < 11 by omega) (fun h4 w4 s4 => ?_)⟩
  have r4 := r3.on hA hg s4
  refine r4.yo ⟨w4.has (show 6 + 2 * g < 11 by omega), s_add w4 (show 6 + 2 * g < 11 by omega) (by rw [pu_self]; decide) (b := false) rfl (fun h5 w5 s5 => k h5 (w5.eq (fun x _ => ?_)) (r4.on hA hg s5) (s1.tr ((gSg.of s2).tr ((gSg.of s3).tr ((gSg.of s4).tr (gSg.of s5))))))⟩
  by_cases e : x = 6 + 2 * g
  · subst e
    simp only [pu_self]; rfl
  · simp only [pu_ne _ _ e]
    by_cases e2 : x = 5 + 2 * g
    · subst e2; simp only [pu_self]; rfl
    · simp only [pu_ne _ _ e2]
theorem s_goOn_L (hg : g < 2) {t : Nat} (ht : t ≤ 3) {Q : Int → gaH → Prop} : ∀ (n i : Nat) (h : gaH) (U : Nat → List Bool), gW A h U → gGr A h g ts → ts.length < 63 → i ≤ t → t - i < n → U 3 = rep i (U (6 + 2 * g)) → t * (U (6 + 2 * g)).length + (U (5 + 2 * g)).length ≤ 64 →
    (∀ h', gW A h' (pu (pu (pu U 3 (rep t (U (6 + 2 * g)) ++ U (5 + 2 * g))) (5 + 2 * g) (U (6 + 2 * g))) (6 + 2 * g) (rep t (U (6 + 2 * g)) ++ U (5 + 2 * g))) → gGr A h' g (ts ++ [t]) → gSg A g h h' → Q 1 h') → w_X0_goOn_L60 Q n (A (26 + g)) (t : Int) (A 3) (i : Int) h
  | 0, i, h, U, _, _, _, _, h1, _, _, _ => absurd h1 (Nat.not_lt_zero _)
  | n + 1, i, h, U, gw, gr, hts, hi, h1, h3, hl, k => by
    have hA := gw.inj
    have hm : i * (U (6 + 2 * g)).length ≤ t * (U (6 + 2 * g)).length := Nat.mul_le_mul_right _ hi
    have e3 : (U 3).length = i * (U (6 + 2 * g)).length := by rw [h3, rep_len]
    unfold w_X0_goOn_L60
    refine ⟨gR_of (by omega) (by omega), gR_of (by omega) (by omega), ?_⟩
    by_cases q : i = t
    · subst q
      refine if_yes (Int.le_refl _) (gr.el (gr.el (gw.many (show 5 + 2 * g < 11 by omega) ⟨gw.has (w := 3) (by decide), s_addPart (i := 0) gw (w := 3) (by decide) (show 5 + 2 * g < 11 by omega) (by omega) rfl rfl (Nat.zero_le _) (Nat.le_refl _) (by omega) (fun h2 w2 s2 => ?_)⟩)))
      have r2 := gr.on hA hg s2
      refine r2.el (r2.yo ⟨w2.has (show 5 + 2 * g < 11 by omega), s_take w2 (show 5 + 2 * g < 11 by omega) (show 6 + 2 * g < 11 by omega) (fun h3' w3 s3 => ?_)⟩)
      have r3 := r2.on hA hg s3
      refine r3.yo ⟨w3.has (show 6 + 2 * g < 11 by omega), s_take w3 (show 6 + 2 * g < 11 by omega) (show 3 < 11 by decide) (fun h4 w4 s4 => ?_)⟩
      have r4 := r3.on hA hg s4
      obtain ⟨a0, row, a1, a2, a3, a4⟩ := id r4
      refine gA_mk a0 rfl (r4.ct (gSI_mk a3 (by omega) (by omega) (by rw [List.length_map, a1, Int.toNat_natCast]; omega) ?_))
      have a0' : (gaUp h4 (A (28 + g)) (102, (row.map gi).set ((ts.length : Int)).toNat (gi (i : Int)))) (A (26 + g)) = some (2, [.ref (A (28 + g)), gi (ts.length : Int), .ref (A (5 + 2 * g)), .ref (A (6 + 2 * g))]) := by
        rw [gaUp_ne _ _ (fun q => by have := hA _ _ (by omega) (by omega) q; omega)]; exact a0
      refine gI_mk a0' rfl (gPF_mk a0' (show 1 < 4 by decide) (k _ (((w4.off (i := 28 + g) (by omega) (by omega) _).off (i := 26 + g) (by omega) (by omega) _).eq (fun x hx => ?_)) ⟨?_, row.set ts.length (i : Int), by rw [List.length_set]; exact a1, by rw [List.length_append]; simp; omega, ?_, fun j hj => ?_⟩ ?_))
      · have f0 : ∀ x, x ≠ 3 → pu U 3 (U 3 ++ List.take ((U (5 + 2 * g)).length - 0) (List.drop 0 (U (5 + 2 * g)))) x = U x := fun x hx => pu_ne _ _ hx
        by_cases e6 : x = 6 + 2 * g
        · subst e6
          simp only [pu_self]
          rw [pu_ne _ _ (show 3 ≠ 5 + 2 * g by omega), pu_self, h3, List.drop_zero, Nat.sub_zero, List.take_length]
        · simp only [pu_ne _ _ e6]
          by_cases e5 : x = 5 + 2 * g
          · subst e5
            simp only [pu_self]
            rw [f0 _ (by omega)]
          · simp only [pu_ne _ _ e5]
            by_cases e33 : x = 3
            · subst e33
              simp only [pu_self]
              rw [h3, List.drop_zero, Nat.sub_zero, List.take_length]
            · simp only [pu_ne _ _ e33]
      · rw [gaUp_self, List.length_append]
        simp only [List.length_cons, List.length_nil, List.set_cons_succ, List.set_cons_zero, Int.natCast_add, Int.natCast_one]
        rfl
      · rw [gaUp_ne _ _ (fun q => by have := hA _ _ (by omega) (by omega) q; omega), gaUp_self, Int.toNat_natCast, List.map_set]
      · rw [List.length_append] at hj
        simp only [List.length_cons, List.length_nil] at hj
        by_cases z : j = ts.length
        · subst z
          rw [List.getElem?_set_self (by omega), List.getElem?_append_right (Nat.le_refl _), Nat.sub_self]
          rfl
        · rw [List.getElem?_set_ne (fun q => z q.symm), List.getElem?_append_left (by omega)]
          exact a4 j (by omega)
      · intro b b1 b2 b3
        rw [gaUp_ne _ _ b2, gaUp_ne _ _ b3]
        exact ((gSg.of (g := g) s2).tr ((gSg.of s3).tr (gSg.of s4))) b b1 b2 b3
    · have hm2 : (i + 1) * (U (6 + 2 * g)).length ≤ t * (U (6 + 2 * g)).length := Nat.mul_le_mul_right _ (by omega)
      rw [Nat.succ_mul] at hm2
      refine if_no (by omega) (gr.yo (gr.yo (gw.many (show 6 + 2 * g < 11 by omega) ⟨gw.has (w := 3) (by decide), s_addPart (i := 0) gw (w := 3) (by decide) (show 6 + 2 * g < 11 by omega) (by omega) rfl rfl (Nat.zero_le _) (Nat.le_refl _) (by omega) (fun h2 w2 s2 => ?_)⟩)))
      have n1 : ∀ x, x ≠ 3 → pu U 3 (U 3 ++ List.take ((U (6 + 2 * g)).length - 0) (List.drop 0 (U (6 + 2 * g)))) x = U x := fun x hx => pu_ne _ _ hx
      rw [show (i : Int) + 1 = ((i + 1 : Nat) : Int) by omega]
      refine s_goOn_L hg ht n (i + 1) h2 _ w2 (gr.on hA hg s2) hts (by omega) (by omega) ?_ (by rw [n1 _ (by omega), n1 _ (by omega)]; exact hl) (fun h' w' r' s' => k h' (w'.eq (fun x hx => ?_)) r' ((gSg.of s2).tr s'))
      · rw [pu_self, n1 _ (by omega), List.drop_zero, Nat.sub_zero, List.take_length, h3, rep_succ]
      · rw [n1 (6 + 2 * g) (by omega), n1 (5 + 2 * g) (by omega)]
        by_cases e6 : x = 6 + 2 * g
        · subst e6; simp only [pu_self]
        · simp only [pu_ne _ _ e6]
          by_cases e5 : x = 5 + 2 * g
          · subst e5; simp only [pu_self]
          · simp only [pu_ne _ _ e5]
            by_cases e33 : x = 3
            · subst e33; simp only [pu_self]
            · simp only [pu_ne _ _ e33]
theorem s_goOn (hg : g < 2) (gw : gW A h U) (gr : gGr A h g ts) (hok : gOk ts) (hu : U (5 + 2 * g) = (grw ts).1 ∧ U (6 + 2 * g) = (grw ts).2) {x : Int} {t : Nat} (hx : x = (t : Int)) (ht : 1 ≤ t ∧ t ≤ 3) {Q : Int → gaH → Prop}
    (k0 : (t * (grw ts).2.length + (grw ts).1.length > 64) → Q 0 h)
    (k1 : ∀ h', t * (grw ts).2.length + (grw ts).1.length ≤ 64 → gW A h' (pu (pu (pu U 3 (grw (ts ++ [t])).2) (5 + 2 * g) (grw (ts ++ [t])).1) (6 + 2 * g) (grw (ts ++ [t])).2) → gGr A h' g (ts ++ [t]) → gSg A g h h' → Q 1 h') : w_X0_goOn (A (26 + g)) x (A 3) h Q := by
  subst hx
  have hA := gw.inj
  have hl := hok.len
  obtain ⟨a0, row, a1, a2, a3, a4⟩ := id gr
  have hy := gw.le (show 6 + 2 * g < 11 by omega)
  have he := gw.le (show 5 + 2 * g < 11 by omega)
  have hm : t * (U (6 + 2 * g)).length ≤ 3 * 64 := Nat.mul_le_mul ht.2 hy
  unfold w_X0_goOn
  refine gr.ct ⟨gR_of (by omega) (by omega), if_no (by omega) (gr.ct (gA_mk a0 rfl (gAL_mk a3 (by rw [List.length_map, a1]) ⟨gR_of (by omega) (by omega), gR_of (by decide) (by decide), if_no (by omega) ?_⟩)))⟩
  unfold w_X0_goOn_J24
  refine ⟨gR_of (by decide) (by decide), if_no (by decide) (gr.yo (gw.many (show 6 + 2 * g < 11 by omega) (gr.el (gw.many (show 5 + 2 * g < 11 by omega) ?_))))⟩
  rw [show (t : Int) * ((U (6 + 2 * g)).length : Int) + ((U (5 + 2 * g)).length : Int) = ((t * (U (6 + 2 * g)).length + (U (5 + 2 * g)).length : Nat) : Int) by rw [Int.natCast_add, Int.natCast_mul]]
  refine ⟨gR_of (by omega) (by omega), ?_⟩
  by_cases q : t * (U (6 + 2 * g)).length + (U (5 + 2 * g)).length ≤ 64
  · refine if_yes (by omega) ⟨gw.has (w := 3) (by decide), s_clear gw (w := 3) (by decide) (fun h1 w1 s1 => ⟨4, ?_⟩)⟩
    have n1 : ∀ x, x ≠ 3 → pu U 3 [] x = U x := fun x hx => pu_ne _ _ hx
    have hlt : ts.length < 63 := by
      have h2 := (grw_len _ ts rfl hok.1)
      rw [hu.1, hu.2] at q
      have : 1 * (grw ts).2.length ≤ t * (grw ts).2.length := Nat.mul_le_mul_right _ ht.1
      omega
    refine s_goOn_L hg ht.2 4 0 h1 _ w1 (gr.on hA hg s1) hlt (Nat.zero_le _) (by omega) (by rw [pu_self]; rfl) (by rw [n1 _ (by omega), n1 _ (by omega)]; exact q) (fun h' w' r' s' => k1 h' (by rw [← hu.1, ← hu.2]; exact q) (w'.eq (fun x hx => ?_)) r' ((gSg.of s1).tr s'))
    rw [n1 (6 + 2 * g) (by omega), n1 (5 + 2 * g) (by omega), grw_snoc, hu.1, hu.2]
    simp only [gstep]
    by_cases e6 : x = 6 + 2 * g
    · subst e6; simp only [pu_self]
    · simp only [pu_ne _ _ e6]
      by_cases e5 : x = 5 + 2 * g
      · subst e5; simp only [pu_self]
      · simp only [pu_ne _ _ e5]
        by_cases e33 : x = 3
        · subst e33; simp only [pu_self]
        · simp only [pu_ne _ _ e33]
  · exact if_no (by omega) (k0 (by rw [← hu.1, ← hu.2]; omega))
end PG
/-! Growths: back, by rules, by their line. -/
section PH
variable {A : Nat → Nat} {h : gaH} {U : Nat → List Bool} {w v g : Nat} {ts : List Nat} {G : gaG}
theorem s_goBack {us : List Nat} {t : Nat} (hg : g < 2) (gw : gW A h U) (gr : gGr A h g (us ++ [t])) (hok : gOk (us ++ [t])) (hu : U (5 + 2 * g) = (grw (us ++ [t])).1 ∧ U (6 + 2 * g) = (grw (us ++ [t])).2) {Q : Int → gaH → Prop}
    (k : ∀ h', gW A h' (pu (pu (pu U 3 (grw us).1) (6 + 2 * g) (grw us).2) (5 + 2 * g) (grw us).1) → gGr A h' g us → gSg A g h h' → Q (t : Int) h') : w_X0_goBack (A (26 + g)) (A 3) h Q := by
  have hA := gw.inj
  have hl := hok.len
  have e0 : (us ++ [t]).length = us.length + 1 := by simp
  have hy := gw.le (show 6 + 2 * g < 11 by omega)
  have he := gw.le (show 5 + 2 * g < 11 by omega)
  have ey : U (6 + 2 * g) = rep t (grw us).2 ++ (grw us).1 := by rw [hu.2, grw_snoc]; rfl
  have ee : U (5 + 2 * g) = (grw us).2 := by rw [hu.1, grw_snoc]; rfl
  have ly : (U (6 + 2 * g)).length = t * (U (5 + 2 * g)).length + (grw us).1.length := by rw [ey, ee, List.length_append, rep_len]
  unfold w_X0_goBack
  refine gr.ct ⟨gr.has, s_turnAt (p := us.length) gr (by rw [e0]; omega) (by rw [e0]; omega) ?_⟩
  rw [show (us ++ [t]).getD us.length 0 = t by rw [List.getD_eq_getElem?_getD, List.getElem?_append_right (Nat.le_refl _), Nat.sub_self]; rfl]
  refine ⟨gw.has (w := 3) (by decide), s_clear gw (w := 3) (by decide) (fun h1 w1 s1 => ?_)⟩
  have n1 : ∀ x, x ≠ 3 → pu U 3 [] x = U x := fun x hx => pu_ne _ _ hx
  have r1 := gr.on hA hg s1
  refine r1.yo (r1.el (w1.many (show 5 + 2 * g < 11 by omega) (r1.yo (w1.many (show 6 + 2 * g < 11 by omega) ⟨w1.has (w := 3) (by decide), ?_⟩))))
  rw [n1 (5 + 2 * g) (by omega), n1 (6 + 2 * g) (by omega)]
  refine s_addPart (i := t * (U (5 + 2 * g)).length) w1 (w := 3) (by decide) (show 6 + 2 * g < 11 by omega) (by omega) (by rw [Int.natCast_mul]) rfl (by omega) (by rw [n1 _ (by omega)]; exact Nat.le_refl _) (by rw [pu_self]; simp only [List.length_nil]; omega) (fun h2 w2 s2 => ?_)
  have r2 := r1.on hA hg s2
  refine r2.yo (r2.el ⟨w2.has (show 6 + 2 * g < 11 by omega), s_take w2 (show 6 + 2 * g < 11 by omega) (show 5 + 2 * g < 11 by omega) (fun h3 w3 s3 => ?_)⟩)
  have r3 := r2.on hA hg s3
  refine r3.el ⟨w3.has (show 5 + 2 * g < 11 by omega), s_take w3 (show 5 + 2 * g < 11 by omega) (show 3 < 11 by decide) (fun h4 w4 s4 => ?_)⟩
  have r4 := r3.on hA hg s4
  refine r4.ct (r4.setC w4 hg (us := us) (by rw [e0]; omega) (by rw [e0]; omega) (fun i hi => by rw [List.getElem?_append_left hi]) (fun h5 w5 r5 s5 => k h5 (w5.eq (fun x hx => ?_)) r5 ((gSg.of s1).tr ((gSg.of s2).tr ((gSg.of s3).tr ((gSg.of s4).tr s5))))))
  have eb : List.take ((U (6 + 2 * g)).length - t * (U (5 + 2 * g)).length) (List.drop (t * (U (5 + 2 * g)).length) (U (6 + 2 * g))) = (grw us).1 := by
    have hr : t * (U (5 + 2 * g)).length = (rep t (grw us).2).length := by rw [ee, rep_len]
    rw [ly, ey, hr, List.drop_left, Nat.add_sub_cancel_left, List.take_length]
  by_cases e5 : x = 5 + 2 * g
  · subst e5
    simp only [pu_self]
    rw [pu_ne _ _ (show 3 ≠ 6 + 2 * g by omega)]
    simp only [pu_self]
    rw [n1 (6 + 2 * g) (by omega), eb]
    rfl
  · simp only [pu_ne _ _ e5]
    by_cases e6 : x = 6 + 2 * g
    · subst e6
      simp only [pu_self]
      rw [pu_ne _ _ (show 5 + 2 * g ≠ 3 by omega), n1 (5 + 2 * g) (by omega), ee]
    · simp only [pu_ne _ _ e6]
      by_cases e3 : x = 3
      · subst e3
        simp only [pu_self]
        rw [n1 (6 + 2 * g) (by omega), eb]
        rfl
      · simp only [pu_ne _ _ e3]
theorem s_codeForA (m2 : h (G.2.2.2 0) = some (1102, gaCodes)) {x : Int} {t : Nat} (hx : x = (t : Int)) (ht : t ≤ 3) {Q : Int → gaH → Prop} (k : Q ((cf t : Nat) : Int) h) : w_X0_codeForA G x h Q := by
  subst hx
  unfold w_X0_codeForA
  refine ⟨gR_of (by omega) (by omega), if_no (by omega) ⟨1102, gaCodes, m2, Or.inr rfl, ⟨gR_of (by omega) (by omega), gR_of (by decide) (by decide), if_no (show ¬ ((gaCodes.length : Nat) : Int) ≤ (t : Int) by show ¬ ((4 : Nat) : Int) ≤ _; omega) ⟨1102, gaCodes, ((cf t : Nat) : Int), m2, Or.inr rfl, by omega, by omega, ?_, k⟩⟩⟩⟩
  rw [Int.toNat_natCast]
  rcases (show t = 0 ∨ t = 1 ∨ t = 2 ∨ t = 3 by omega) with rfl | rfl | rfl | rfl <;> rfl
theorem gSm.pc {h' : gaH} {a : Nat} {e : gaE} (s : gSm A h h') (hne : ∀ i, i < 31 → a ≠ A i) (ha : h a = some e) : h' a = some e := (s a (fun w hw => hne w (by omega))).trans ha
theorem s_layByRules_L (hg : g < 2) (hok : gOk ts) (hne : ∀ i, i < 31 → G.2.2.2 0 ≠ A i) (hw : w < 11) (hw3 : w ≠ 3) (hw9 : w < 9) {Q : gaH → Prop} : ∀ (n i : Nat) (h : gaH) (U : Nat → List Bool), gW A h U → gGr A h g ts → gRu A h → h (G.2.2.2 0) = some (1102, gaCodes) → i ≤ ts.length → i < n → U w = phi (ts.drop i) [false] →
    (∀ h' V, gW A h' V → (∀ x, x ≠ w → x ≠ 3 → x ≠ 9 → x ≠ 10 → V x = U x) → V w = phi ts [false] → gSm A h h' → Q h') → w_X0_layByRules_L17 G Q n (A (26 + g)) (A w) (A 3) (A 25) ((i : Int) - 1) h
  | 0, i, h, U, _, _, _, _, _, h1, _, _ => absurd h1 (Nat.not_lt_zero _)
  | n + 1, i, h, U, gw, gr, ru, mc, hi, h1, hu, k => by
    have hA := gw.inj
    have hl := hok.len
    unfold w_X0_layByRules_L17
    refine ⟨gR_of (by omega) (by omega), ?_⟩
    cases i with
    | zero => exact if_yes (by omega) (k h U gw (fun _ _ _ _ _ => rfl) (by rw [hu, List.drop_zero]) gSm.rf)
    | succ i =>
      have e1 : ((i + 1 : Nat) : Int) - 1 = (i : Int) := by omega
      rw [e1]
      have hmem : ts.getD i 0 ∈ ts := by
        rw [List.getD_eq_getElem?_getD, List.getElem?_eq_getElem (by omega)]
        exact List.getElem_mem _
      have ht := hok.1 _ hmem
      obtain ⟨c0, c1, c2, c3⟩ := cf_len ht
      have hd : ts.drop i = ts.getD i 0 :: ts.drop (i + 1) := by
        rw [List.drop_eq_getElem_cons (by omega), List.getD_eq_getElem?_getD, List.getElem?_eq_getElem (by omega)]; rfl
      have hphi : phi (ts.drop i) [false] = img (codeW (cf (ts.getD i 0))) (codeW 2) (U w) := by rw [hd, hu]; rfl
      have hle : (phi (ts.drop i) [false]).length ≤ 64 := by
        have h2 := phi_ge (ts.take i) (fun x hx => hok.1 x (List.mem_of_mem_take hx)) (phi (ts.drop i) [false])
        rw [← phi_split, List.take_append_drop] at h2
        have h3 : (grw ts).2 = phi ts [false] := by rw [grw_phi _ ts rfl hok.1]
        have h4 := hok.2
        rw [h3] at h4
        omega
      refine if_no (by omega) ⟨gr.has, s_turnAt gr rfl (by omega) (s_codeForA mc rfl ht.2 ⟨ru.has, s_ruleTake gw ru rfl (d := 2) rfl c1 (by decide) (fun h1 w1 s1 => ?_)⟩)⟩
      have ru1 := ru.on hA s1
      have n1 : ∀ x, x ≠ 9 → x ≠ 10 → pu (pu U 9 (codeW (cf (ts.getD i 0)))) 10 (codeW 2) x = U x := fun x h9 h10 => by rw [pu_ne _ _ h10, pu_ne _ _ h9]
      have n9 : pu (pu U 9 (codeW (cf (ts.getD i 0)))) 10 (codeW 2) 9 = codeW (cf (ts.getD i 0)) := by rw [pu_ne _ _ (by decide), pu_self]
      have n10 : pu (pu U 9 (codeW (cf (ts.getD i 0)))) 10 (codeW 2) 10 = codeW 2 := pu_self _ _ _
      have hi2 : img (pu (pu U 9 (codeW (cf (ts.getD i 0)))) 10 (codeW 2) 9) (pu (pu U 9 (codeW (cf (ts.getD i 0)))) 10 (codeW 2) 10) (pu (pu U 9 (codeW (cf (ts.getD i 0)))) 10 (codeW 2) w) = phi (ts.drop i) [false] := by rw [n9, n10, n1 w (by omega) (by omega), hphi]
      refine ⟨ru1.has, s_layImage w1 ru1 hw (v := 3) (by decide) (fun q => hw3 q.symm) (by rw [hi2]; exact hle) (fun h2 w2 s2 => ⟨w2.has hw, s_take w2 hw (v := 3) (by decide) (fun h3 w3 s3 => ?_)⟩)⟩
      rw [hi2] at w2 w3
      rw [show (i : Int) + -1 = (i : Int) - 1 by omega]
      have s13 := s1.tr (s2.tr s3)
      refine s_layByRules_L hg hok hne hw hw3 hw9 n i h3 _ w3 (gr.on hA hg s13) (ru.on hA s13) (s13.pc hne mc) (by omega) (by omega) (by rw [pu_self, pu_self]) (fun h' V wV hV e s' => k h' V wV (fun x x1 x2 x3 x4 => ?_) e (s13.tr s'))
      rw [hV x x1 x2 x3 x4, pu_ne _ _ x1, pu_ne _ _ x2, n1 x x3 x4]
theorem s_layByRules (hg : g < 2) (gw : gW A h U) (gr : gGr A h g ts) (ru : gRu A h) (hok : gOk ts) (hne : ∀ i, i < 31 → G.2.2.2 0 ≠ A i) (mc : h (G.2.2.2 0) = some (1102, gaCodes)) (hw3 : w ≠ 3) (hw : w < 9) (hwg : w < 5) {Q : gaH → Prop}
    (k : ∀ h' V, gW A h' V → (∀ x, x ≠ w → x ≠ 3 → x ≠ 9 → x ≠ 10 → V x = U x) → V w = (grw ts).2 → gSm A h h' → Q h') : w_X0_layByRules G (A (26 + g)) (A w) (A 3) (A 25) h Q := by
  have hA := gw.inj
  have h3 : (grw ts).2 = phi ts [false] := by rw [grw_phi _ ts rfl hok.1]
  have hl := hok.len
  unfold w_X0_layByRules
  refine ⟨gw.has (show w < 11 by omega), s_clear gw (show w < 11 by omega) (fun h1 w1 s1 => ⟨w1.has (show w < 11 by omega), s_add w1 (show w < 11 by omega) (by rw [pu_self]; decide) (b := false) rfl (fun h2 w2 s2 => ?_)⟩)⟩
  have s12 := s1.tr s2
  refine (gr.on hA hg s12).ct ⟨65, ?_⟩
  refine s_layByRules_L hg hok hne (show w < 11 by omega) hw3 hw 65 ts.length h2 _ w2 (gr.on hA hg s12) (ru.on hA s12) (s12.pc hne mc) (Nat.le_refl _) (by omega) (by rw [pu_self, pu_self, List.drop_length]; rfl) (fun h' V wV hV e s' => k h' V wV (fun x x1 x2 x3 x4 => by rw [hV x x1 x2 x3 x4, pu_ne _ _ x1, pu_ne _ _ x1]) (by rw [e, h3]) (s12.tr s'))
theorem s_addLineEnd (hg : g < 2) (gw : gW A h U) (gr : gGr A h g ts) (hw : w < 11) (hl : (U w).length + 2 ≤ 64) {Q : gaH → Prop}
    (k : ∀ h', gW A h' (pu U w (U w ++ (if ts = [] then [false] else [decide (ts.length % 2 = 0), decide (ts.length % 2 = 1)]))) → gSm A h h' → Q h') : w_X0_addLineEnd (A (26 + g)) (A w) h Q := by
  have hA := gw.inj
  have hts : ts.length ≤ 63 := by obtain ⟨-, row, -, q, -⟩ := gr; exact q
  have em : gRem (ts.length : Int) 2 = ((ts.length % 2 : Nat) : Int) := gRem_nat (b := 2) (by omega) (by decide)
  unfold w_X0_addLineEnd
  refine gr.ct ?_
  rw [em]
  refine ⟨gR_of (by omega) (by omega), ?_⟩
  have body : ∀ b : Bool, b = decide (ts.length % 2 = 1) → w_X0_addLineEnd_J15 Q (A (26 + g)) (A w) (b2i b) h := by
    intro b hb
    unfold w_X0_addLineEnd_J15
    refine gr.ct ⟨gR_of (by omega) (by omega), ?_⟩
    by_cases q : ts = []
    · rw [if_pos q] at k
      refine if_yes (by rw [q]; decide) ?_
      unfold w_X0_addLineEnd_J36
      have hb0 : b = false := by rw [hb, q]; rfl
      refine ⟨gw.has hw, s_add gw hw (by omega) rfl (fun h1 w1 s1 => k h1 ?_ s1)⟩
      rw [hb0] at w1
      exact w1
    · have hp : 0 < ts.length := List.length_pos_iff.mpr q
      rw [if_neg q] at k
      refine if_no (by omega) ⟨b2i_R _, ?_⟩
      have tail : ∀ c : Bool, c = !b → w_X0_addLineEnd_J33 Q (A w) (b2i b) (A w) (b2i c) h := by
        intro c hc
        unfold w_X0_addLineEnd_J33
        refine ⟨gw.has hw, s_add gw hw (by omega) rfl (fun h1 w1 s1 => ?_)⟩
        unfold w_X0_addLineEnd_J36
        refine ⟨w1.has hw, s_add w1 hw (by rw [pu_self, List.length_append]; simp only [List.length_cons, List.length_nil]; omega) rfl (fun h2 w2 s2 => k h2 (w2.eq (fun x _ => ?_)) (s1.tr s2))⟩
        by_cases e : x = w
        · subst e
          have hc2 : c = decide (ts.length % 2 = 0) := by
            rw [hc, hb]
            rcases (show ts.length % 2 = 0 ∨ ts.length % 2 = 1 by omega) with z | z <;> rw [z] <;> rfl
          rw [pu_self, pu_self, pu_self, List.append_assoc, hc2, hb]
          rfl
        · rw [pu_ne _ _ e, pu_ne _ _ e, pu_ne _ _ e]
      cases b
      · exact if_yes rfl (tail true rfl)
      · exact if_no (by decide) (tail false rfl)
  by_cases z : ts.length % 2 = 1
  · exact if_yes (by omega) (body true (by rw [decide_eq_true z]))
  · exact if_no (by omega) (body false (by rw [decide_eq_false z]))
theorem range_snoc {α : Type} (f : Nat → α) (n : Nat) : (List.range (n + 1)).map f = (List.range n).map f ++ [f n] := by rw [List.range_succ, List.map_append]; rfl
theorem s_layByLine_L2 (hg : g < 2) (hw : w < 11) {N P : Nat} (hN : 1 ≤ N ∧ N ≤ 64) (hP : P ≤ 64) {Q : gaH → Prop} : ∀ (n i : Nat) (h : gaH) (U : Nat → List Bool), gW A h U → gGr A h g ts → i ≤ N - 2 → (N - 2) - i < n → U w = (List.range i).map (fun j => lineB N P 0 (j + 1)) →
    (∀ h', gW A h' (pu U w ((List.range (N - 2)).map (fun j => lineB N P 0 (j + 1)) ++ (if ts = [] then [false] else [decide (ts.length % 2 = 0), decide (ts.length % 2 = 1)]))) → gSm A h h' → Q h') → w_X0_layByLine_L75 Q n (A (26 + g)) (A w) (N : Int) (P : Int) ((i : Int) + 1) h
  | 0, i, h, U, _, _, _, h1, _, _ => absurd h1 (Nat.not_lt_zero _)
  | n + 1, i, h, U, gw, gr, hi, h1, hu, k => by
    have hA := gw.inj
    have hul : (U w).length = i := by rw [hu, List.length_map, List.length_range]
    unfold w_X0_layByLine_L75
    refine ⟨gR_of (by omega) (by omega), gR_of (by omega) (by omega), ?_⟩
    by_cases q : i = N - 2
    · refine if_yes (by omega) ⟨gr.has, s_addLineEnd hg gw gr hw (by omega) (fun h' w' s' => k h' (w'.eq (fun x _ => ?_)) s')⟩
      by_cases e : x = w
      · subst e; rw [pu_self, pu_self, hu, q]
      · rw [pu_ne _ _ e, pu_ne _ _ e]
    · refine if_no (by omega) (s_lineB (n := N) (p := P) (s := 0) (i := i + 1) (by omega) (by omega) (by omega) (by decide) (by omega) rfl rfl rfl (by omega) ⟨gw.has hw, s_add gw hw (by omega) rfl (fun h1 w1 s1 => ?_)⟩)
      rw [show (i : Int) + 1 + 1 = ((i + 1 : Nat) : Int) + 1 by omega]
      refine s_layByLine_L2 hg hw hN hP n (i + 1) h1 _ w1 (gr.on hA hg s1) (by omega) (by omega) (by rw [pu_self, hu, range_snoc]) (fun h' w' s' => k h' (w'.eq (fun x _ => ?_)) (s1.tr s'))
      by_cases e : x = w
      · subst e; rw [pu_self, pu_self]
      · rw [pu_ne _ _ e, pu_ne _ _ e, pu_ne _ _ e]
theorem nums_app (ts : List Nat) (t : Nat) : nums (ts ++ [t]) = nstep (nums ts) t := by simp [nums]
theorem s_layByLine_L1 (hg : g < 2) (hw : w < 11) (hok : gOk ts) (gw : gW A h U) (gr : gGr A h g ts) {Q : gaH → Prop} : ∀ (n i : Nat), i ≤ ts.length → ts.length - i < n →
    (∀ h', gW A h' (pu U w (byL ts)) → gSm A h h' → Q h') → w_X0_layByLine_L13 Q n (A (26 + g)) (A w) ((nums (ts.take i)).1 : Int) ((nums (ts.take i)).2.1 : Int) ((nums (ts.take i)).2.2.1 : Int) ((nums (ts.take i)).2.2.2 : Int) (i : Int) h
  | 0, i, _, h1, _ => absurd h1 (Nat.not_lt_zero _)
  | n + 1, i, hi, h1, k => by
    have hA := gw.inj
    have hl := hok.len
    unfold w_X0_layByLine_L13
    refine gr.ct ⟨gR_of (by omega) (by omega), gR_of (by omega) (by omega), ?_⟩
    by_cases q : i = ts.length
    · subst q
      have hn := nums_grw _ ts rfl
      have h2 := grw_len _ ts rfl hok.1
      have h3 := hok.2
      have h4 := ones_le (grw ts).2
      rw [List.take_length]
      refine if_yes (Int.le_refl _) ⟨gw.has hw, s_clear gw hw (fun h1 w1 s1 => ⟨65, ?_⟩)⟩
      have e1 : (nums ts).2.2.1 = (grw ts).2.length := by rw [hn]
      have e2 : (nums ts).2.2.2 = ones (grw ts).2 := by rw [hn]
      refine s_layByLine_L2 (N := (nums ts).2.2.1) (P := (nums ts).2.2.2) hg hw (by omega) (by omega) 65 0 h1 _ w1 (gr.on hA hg s1) (Nat.zero_le _) (by omega) (by rw [pu_self]; rfl) (fun h' w' s' => k h' (w'.eq (fun x _ => ?_)) (s1.tr s'))
      by_cases e : x = w
      · subst e
        rw [pu_self, pu_self]
        unfold byL
        by_cases z : ts = []
        · rw [if_pos z, if_pos z, z]; rfl
        · rw [if_neg z, if_neg z]
      · rw [pu_ne _ _ e, pu_ne _ _ e, pu_ne _ _ e]
    · have htk : ts.take (i + 1) = ts.take i ++ [ts.getD i 0] := by
        rw [List.take_succ, List.getD_eq_getElem?_getD, List.getElem?_eq_getElem (by omega)]; rfl
      refine if_no (by omega) ⟨gr.has, s_turnAt gr rfl (by omega) ?_⟩
      have key := s_layByLine_L1 hg hw hok gw gr n (i + 1) (by omega) (by omega) k
      rw [htk, nums_app] at key
      simp only [nstep] at key
      rw [Int.natCast_add, Int.natCast_mul, Int.natCast_add, Int.natCast_mul, Int.natCast_add] at key
      exact key
theorem s_layByLine (hg : g < 2) (hw : w < 11) (hok : gOk ts) (gw : gW A h U) (gr : gGr A h g ts) {Q : gaH → Prop} (k : ∀ h', gW A h' (pu U w (byL ts)) → gSm A h h' → Q h') : w_X0_layByLine (A (26 + g)) (A w) h Q :=
  ⟨ts.length + 1, s_layByLine_L1 hg hw hok gw gr _ 0 (Nat.zero_le _) (by omega) k⟩
end PH
/-! Twos; and what is read from words, as far as its bounds. -/
def twL : Nat → List Bool
  | 0 => [false]
  | s + 1 => twL s ++ (twL s).map (fun b => !b)
theorem twL_len : ∀ s, s ≤ 6 → (twL s).length = 2 ^ s := by decide +kernel
theorem twL_img : ∀ s, s < 6 → img (codeW 5) (codeW 6) (twL s) = twL (s + 1) := by decide +kernel
theorem twL_take : ∀ s, s ≤ 6 → twL s = (twL 6).take (2 ^ s) := by decide +kernel
def bcE (a0 : Int) : Int := gAnd (((gAnd (((gAnd (a0 - (gAnd (gUshr a0 1) 1431655765)) 858993459) + (gAnd (gUshr (a0 - (gAnd (gUshr a0 1) 1431655765)) 2) 858993459)) + (gUshr ((gAnd (a0 - (gAnd (gUshr a0 1) 1431655765)) 858993459) + (gAnd (gUshr (a0 - (gAnd (gUshr a0 1) 1431655765)) 2) 858993459)) 4)) 252645135) + (gUshr (gAnd (((gAnd (a0 - (gAnd (gUshr a0 1) 1431655765)) 858993459) + (gAnd (gUshr (a0 - (gAnd (gUshr a0 1) 1431655765)) 2) 858993459)) + (gUshr ((gAnd (a0 - (gAnd (gUshr a0 1) 1431655765)) 858993459) + (gAnd (gUshr (a0 - (gAnd (gUshr a0 1) 1431655765)) 2) 858993459)) 4)) 252645135) 8)) + (gUshr ((gAnd (((gAnd (a0 - (gAnd (gUshr a0 1) 1431655765)) 858993459) + (gAnd (gUshr (a0 - (gAnd (gUshr a0 1) 1431655765)) 2) 858993459)) + (gUshr ((gAnd (a0 - (gAnd (gUshr a0 1) 1431655765)) 858993459) + (gAnd (gUshr (a0 - (gAnd (gUshr a0 1) 1431655765)) 2) 858993459)) 4)) 252645135) + (gUshr (gAnd (((gAnd (a0 - (gAnd (gUshr a0 1) 1431655765)) 858993459) + (gAnd (gUshr (a0 - (gAnd (gUshr a0 1) 1431655765)) 2) 858993459)) + (gUshr ((gAnd (a0 - (gAnd (gUshr a0 1) 1431655765)) 858993459) + (gAnd (gUshr (a0 - (gAnd (gUshr a0 1) 1431655765)) 2) 858993459)) 4)) 252645135) 8)) 16)) 63
theorem s_bitCount {x : Int} {h : gaH} {Q : Int → gaH → Prop} (k : Q (bcE x) h) : w_J6_bitCount_0f7a4 x h Q := k
theorem bcE_par : ∀ i : Nat, i < 64 → gAnd (bcE (i : Int)) 1 = b2i ((twL 6).getD i false) := by decide +kernel
theorem getD_take {u : List Bool} {n i : Nat} (hi : i < n) : (u.take n).getD i false = u.getD i false := by rw [List.getD_eq_getElem?_getD, List.getElem?_take_of_lt hi, ← List.getD_eq_getElem?_getD]
section PT
variable {A : Nat → Nat} {h : gaH} {U : Nat → List Bool} {w v g : Nat} {G : gaG}
theorem s_layByRule_L (hw : w < 9) (hw3 : w ≠ 3) {s : Nat} (hs : s ≤ 6) {Q : gaH → Prop} : ∀ (n i : Nat) (h : gaH) (U : Nat → List Bool), gW A h U → gRu A h → U 9 = codeW 5 → U 10 = codeW 6 → i ≤ s → s - i < n → U w = twL i →
    (∀ h' V, gW A h' V → (∀ x, x ≠ w → x ≠ 3 → x ≠ 9 → x ≠ 10 → V x = U x) → V w = twL s → gSm A h h' → Q h') → w_X3_layByRule_L19 Q n (s : Int) (A w) (A 3) (A 25) (i : Int) h
  | 0, i, h, U, _, _, _, _, _, h1, _, _ => absurd h1 (Nat.not_lt_zero _)
  | n + 1, i, h, U, gw, ru, u9, u10, hi, h1, hu, k => by
    have hA := gw.inj
    unfold w_X3_layByRule_L19
    refine ⟨gR_of (by omega) (by omega), gR_of (by omega) (by omega), ?_⟩
    by_cases q : i = s
    · exact if_yes (by omega) (k h U gw (fun _ _ _ _ _ => rfl) (by rw [hu, q]) gSm.rf)
    · have hi2 : img (U 9) (U 10) (U w) = twL (i + 1) := by rw [u9, u10, hu, twL_img i (by omega)]
      have hl : (twL (i + 1)).length ≤ 64 := by
        rw [twL_len (i + 1) (by omega)]
        exact Nat.pow_le_pow_right (by decide) (show i + 1 ≤ 6 by omega)
      refine if_no (by omega) ⟨ru.has, s_layImage gw ru (show w < 11 by omega) (v := 3) (by decide) (fun q => hw3 q.symm) (by rw [hi2]; exact hl) (fun h2 w2 s2 => ⟨w2.has (show w < 11 by omega), s_take w2 (show w < 11 by omega) (v := 3) (by decide) (fun h3 w3 s3 => ?_)⟩)⟩
      rw [hi2] at w2 w3
      rw [show (i : Int) + 1 = ((i + 1 : Nat) : Int) by omega]
      refine s_layByRule_L hw hw3 hs n (i + 1) h3 _ w3 (ru.on hA (s2.tr s3)) (by rw [pu_ne _ _ (by omega), pu_ne _ _ (by decide)]; exact u9) (by rw [pu_ne _ _ (by omega), pu_ne _ _ (by decide)]; exact u10) (by omega) (by omega) (by rw [pu_self, pu_self]) (fun h' V wV hV e s' => k h' V wV (fun x x1 x2 x3 x4 => by rw [hV x x1 x2 x3 x4, pu_ne _ _ x1, pu_ne _ _ x2]) e ((s2.tr s3).tr s'))
theorem s_layByRule (hw : w < 9) (hw3 : w ≠ 3) (gw : gW A h U) (ru : gRu A h) {x : Int} {s : Nat} (hx : x = (s : Int)) (hs : s ≤ 6) {Q : gaH → Prop}
    (k : ∀ h' V, gW A h' V → (∀ x, x ≠ w → x ≠ 3 → x ≠ 9 → x ≠ 10 → V x = U x) → V w = twL s → gSm A h h' → Q h') : w_X3_layByRule x (A w) (A 3) (A 25) h Q := by
  subst hx
  have hA := gw.inj
  unfold w_X3_layByRule
  refine ⟨ru.has, s_ruleTake gw ru (c := 5) (d := 6) rfl rfl (by decide) (by decide) (fun h1 w1 s1 => ⟨w1.has (show w < 11 by omega), s_clear w1 (show w < 11 by omega) (fun h2 w2 s2 => ⟨w2.has (show w < 11 by omega), s_add w2 (show w < 11 by omega) (by rw [pu_self]; decide) (b := false) rfl (fun h3 w3 s3 => ⟨7, ?_⟩)⟩)⟩)⟩
  have s13 := s1.tr (s2.tr s3)
  refine s_layByRule_L hw hw3 hs 7 0 h3 _ w3 (ru.on hA s13) (by rw [pu_ne _ _ (by omega), pu_ne _ _ (by omega), pu_ne _ _ (by decide), pu_self]) (by rw [pu_ne _ _ (by omega), pu_ne _ _ (by omega), pu_self]) (Nat.zero_le _) (by omega) (by rw [pu_self, pu_self]; rfl) (fun h' V wV hV e s' => k h' V wV (fun x x1 x2 x3 x4 => by rw [hV x x1 x2 x3 x4, pu_ne _ _ x1, pu_ne _ _ x1, pu_ne _ _ x4, pu_ne _ _ x3]) e (s13.tr s'))
theorem s_layByCopies_L2 (hw : w < 11) {Q : gaH → Prop} {st : Int} {c : Int} {u : List Bool} (hu2 : u.length ≤ 32) {K : Int → Nat → Int → gaH → Prop} : ∀ (n i : Nat) (h : gaH) (U : Nat → List Bool), gW A h U → i ≤ u.length → u.length - i < n → U w = u ++ (u.take i).map (fun b => !b) →
    (∀ h', gW A h' (pu U w (u ++ u.map (fun b => !b))) → gSm A h h' → K st (A w) (c + 1) h') → w_X3_layByCopies_L24 Q K n st (A w) c (u.length : Int) (i : Int) h
  | 0, i, h, U, _, _, h1, _, _ => absurd h1 (Nat.not_lt_zero _)
  | n + 1, i, h, U, gw, hi, h1, hu, k => by
    have hl : (U w).length = u.length + i := by rw [hu]; simp; omega
    unfold w_X3_layByCopies_L24
    refine ⟨gR_of (by omega) (by omega), gR_of (by omega) (by omega), ?_⟩
    by_cases q : i = u.length
    · refine if_yes (by omega) (k h (gw.eq (fun x _ => ?_)) gSm.rf)
      by_cases e : x = w
      · subst e; rw [pu_self, hu, q, List.take_length]
      · exact pu_ne _ _ e
    · refine if_no (by omega) ⟨gw.has hw, s_isUp gw hw rfl (by omega) ⟨b2i_R _, ?_⟩⟩
      have e1 : (U w).getD i false = u.getD i false := by rw [hu, List.getD_eq_getElem?_getD, List.getElem?_append_left (by omega), ← List.getD_eq_getElem?_getD]
      rw [e1]
      have fin : ∀ b : Bool, b = !(u.getD i false) → w_X3_layByCopies_J45 Q K (w_X3_layByCopies_L24 Q K n) st (A w) c (u.length : Int) (i : Int) (A w) (b2i b) h := by
        intro b hb
        unfold w_X3_layByCopies_J45
        refine ⟨gw.has hw, s_add gw hw (by omega) rfl (fun h1 w1 s1 => ?_)⟩
        rw [show (i : Int) + 1 = ((i + 1 : Nat) : Int) by omega]
        refine s_layByCopies_L2 hw hu2 n (i + 1) h1 _ w1 (by omega) (by omega) ?_ (fun h' w' s' => k h' (w'.eq (fun x _ => ?_)) (s1.tr s'))
        · rw [pu_self, hu, List.take_succ, getD_lt (u := u) (i := i) (by omega), hb]
          simp
        · by_cases e : x = w
          · subst e; rw [pu_self, pu_self]
          · rw [pu_ne _ _ e, pu_ne _ _ e, pu_ne _ _ e]
      cases hz : u.getD i false
      · exact if_yes rfl (fin true (by rw [hz]; rfl))
      · exact if_no (by decide) (fin false (by rw [hz]; rfl))
theorem s_layByCopies_L1 (hw : w < 11) {s : Nat} (hs : s ≤ 6) {Q : gaH → Prop} : ∀ (n i : Nat) (h : gaH) (U : Nat → List Bool), gW A h U → i ≤ s → s - i < n → U w = twL i → (∀ h', gW A h' (pu U w (twL s)) → gSm A h h' → Q h') → w_X3_layByCopies_L11 Q n (s : Int) (A w) (i : Int) h
  | 0, i, h, U, _, _, h1, _, _ => absurd h1 (Nat.not_lt_zero _)
  | n + 1, i, h, U, gw, hi, h1, hu, k => by
    unfold w_X3_layByCopies_L11
    refine ⟨gR_of (by omega) (by omega), gR_of (by omega) (by omega), ?_⟩
    by_cases q : i = s
    · refine if_yes (by omega) (k h (gw.eq (fun x _ => ?_)) gSm.rf)
      by_cases e : x = w
      · subst e; rw [pu_self, hu, q]
      · exact pu_ne _ _ e
    · have hl : (twL i).length ≤ 32 := by
        rw [twL_len i (by omega)]
        exact Nat.pow_le_pow_right (by decide) (show i ≤ 5 by omega)
      refine if_no (by omega) (gw.many hw ⟨33, ?_⟩)
      rw [hu]
      refine s_layByCopies_L2 hw hl 33 0 h U gw (Nat.zero_le _) (by omega) (by rw [hu]; simp) (fun h1 w1 s1 => ?_)
      rw [show (i : Int) + 1 = ((i + 1 : Nat) : Int) by omega]
      refine s_layByCopies_L1 hw hs n (i + 1) h1 _ w1 (by omega) (by omega) (by rw [pu_self]; rfl) (fun h' w' s' => k h' (w'.eq (fun x _ => ?_)) (s1.tr s'))
      by_cases e : x = w
      · subst e; rw [pu_self, pu_self]
      · rw [pu_ne _ _ e, pu_ne _ _ e, pu_ne _ _ e]
theorem s_layByCopies (hw : w < 11) (gw : gW A h U) {x : Int} {s : Nat} (hx : x = (s : Int)) (hs : s ≤ 6) {Q : gaH → Prop} (k : ∀ h', gW A h' (pu U w (twL s)) → gSm A h h' → Q h') : w_X3_layByCopies x (A w) h Q := by
  subst hx
  unfold w_X3_layByCopies
  refine ⟨gw.has hw, s_clear gw hw (fun h2 w2 s2 => ⟨w2.has hw, s_add w2 hw (by rw [pu_self]; decide) (b := false) rfl (fun h3 w3 s3 => ⟨7, ?_⟩)⟩)⟩
  refine s_layByCopies_L1 hw hs 7 0 h3 _ w3 (Nat.zero_le _) (by omega) (by rw [pu_self, pu_self]; rfl) (fun h' w' s' => k h' (w'.eq (fun x _ => ?_)) ((s2.tr s3).tr s'))
  by_cases e : x = w
  · subst e; rw [pu_self, pu_self]
  · rw [pu_ne _ _ e, pu_ne _ _ e, pu_ne _ _ e, pu_ne _ _ e]
theorem s_signBySign_L (hw : w < 11) {s : Nat} (hs : s ≤ 6) {Q : gaH → Prop} : ∀ (n i : Nat) (h : gaH) (U : Nat → List Bool), gW A h U → i ≤ 2 ^ s → 2 ^ s - i < n → U w = (twL 6).take i → (∀ h', gW A h' (pu U w (twL s)) → gSm A h h' → Q h') → w_X3_laySignBySign_L6 Q n (s : Int) (A w) (i : Int) h
  | 0, i, h, U, _, _, h1, _, _ => absurd h1 (Nat.not_lt_zero _)
  | n + 1, i, h, U, gw, hi, h1, hu, k => by
    have hp : 2 ^ s ≤ 64 := Nat.pow_le_pow_right (by decide) hs
    have hsh : gShl 1 (s : Int) = ((2 ^ s : Nat) : Int) := by
      have := gShl_nat (n := 1) (d := s) (by omega) (by omega)
      rw [Nat.one_mul] at this
      exact this
    unfold w_X3_laySignBySign_L6
    rw [hsh]
    refine ⟨gR_of (by omega) (by omega), gR_of (by omega) (by omega), ?_⟩
    by_cases q : i = 2 ^ s
    · refine if_yes (by omega) (k h (gw.eq (fun x _ => ?_)) gSm.rf)
      by_cases e : x = w
      · subst e; rw [pu_self, hu, q, ← twL_take s hs]
      · exact pu_ne _ _ e
    · refine if_no (by omega) (s_bitCount ?_)
      rw [bcE_par i (by omega)]
      have hl : (U w).length = i := by rw [hu, List.length_take, show (twL 6).length = 64 from rfl]; omega
      have fin : ∀ b : Bool, b = (twL 6).getD i false → w_X3_laySignBySign_J29 Q (w_X3_laySignBySign_L6 Q n) (s : Int) (A w) (i : Int) (A w) (b2i b) h := by
        intro b hb
        unfold w_X3_laySignBySign_J29
        refine ⟨gw.has hw, s_add gw hw (by omega) rfl (fun h1 w1 s1 => ?_)⟩
        rw [show (i : Int) + 1 = ((i + 1 : Nat) : Int) by omega]
        refine s_signBySign_L hw hs n (i + 1) h1 _ w1 (by omega) (by omega) ?_ (fun h' w' s' => k h' (w'.eq (fun x _ => ?_)) (s1.tr s'))
        · rw [pu_self, hu, List.take_succ, getD_lt (u := twL 6) (i := i) (by show i < 64; omega), hb]
          rfl
        · by_cases e : x = w
          · subst e; rw [pu_self, pu_self]
          · rw [pu_ne _ _ e, pu_ne _ _ e, pu_ne _ _ e]
      refine ⟨b2i_R _, ?_⟩
      cases hz : (twL 6).getD i false
      · exact if_no (by decide) (fin false hz.symm)
      · exact if_yes rfl (fin true hz.symm)
theorem s_signBySign (hw : w < 11) (gw : gW A h U) {x : Int} {s : Nat} (hx : x = (s : Int)) (hs : s ≤ 6) {Q : gaH → Prop} (k : ∀ h', gW A h' (pu U w (twL s)) → gSm A h h' → Q h') : w_X3_laySignBySign x (A w) h Q := by
  subst hx
  unfold w_X3_laySignBySign
  refine ⟨gw.has hw, s_clear gw hw (fun h2 w2 s2 => ⟨65, ?_⟩)⟩
  have hp : 2 ^ s ≤ 64 := Nat.pow_le_pow_right (by decide) hs
  refine s_signBySign_L hw hs 65 0 h2 _ w2 (Nat.zero_le _) (by omega) (by rw [pu_self]; rfl) (fun h' w' s' => k h' (w'.eq (fun x _ => ?_)) (s2.tr s'))
  by_cases e : x = w
  · subst e; rw [pu_self, pu_self]
  · rw [pu_ne _ _ e, pu_ne _ _ e, pu_ne _ _ e]
end PT
/-! What is read from words: order; the others as far as their bounds. -/
def cmpL : List Bool → List Bool → Int
  | [], [] => 0
  | [], _ :: _ => -1
  | _ :: _, [] => 1
  | a :: s, b :: t => if a = b then cmpL s t else if b = true then -1 else 1
theorem cmpL_R : ∀ u v, -1 ≤ cmpL u v ∧ cmpL u v ≤ 1
  | [], [] => by decide
  | [], _ :: _ => by simp [cmpL]
  | _ :: _, [] => by simp [cmpL]
  | a :: s, b :: t => by
    unfold cmpL
    split
    · exact cmpL_R s t
    · split <;> decide
theorem cmpL_eq : ∀ u v, cmpL u v = 0 ↔ u = v
  | [], [] => by simp [cmpL]
  | [], _ :: _ => by simp [cmpL]
  | _ :: _, [] => by simp [cmpL]
  | a :: s, b :: t => by
    have ih := cmpL_eq s t
    unfold cmpL
    by_cases q : a = b
    · rw [if_pos q, ih, q]; simp
    · rw [if_neg q]
      constructor
      · intro z; split at z <;> omega
      · intro z; exact absurd (List.cons.inj z).1 q
section PQ
variable {A : Nat → Nat} {h : gaH} {U : Nat → List Bool} {w v g : Nat}
theorem s_compare {x y : Int} (hx : gR x) (hy : gR y) {Q : Int → gaH → Prop} (k1 : x < y → Q (-1) h) (k2 : x = y → Q 0 h) (k3 : y < x → Q 1 h) : w_J6_compare_7cf53 x y h Q := by
  unfold w_J6_compare_7cf53
  refine ⟨hx, hy, ?_⟩
  by_cases q : y ≤ x
  · refine if_yes q ⟨hx, hy, ?_⟩
    by_cases z : x = y
    · exact if_yes z (k2 z)
    · exact if_no z (k3 (by omega))
  · exact if_no q (k1 (by omega))
theorem s_orderOf_L (gw : gW A h U) (hw : w < 11) (hv : v < 11) {Q : Int → gaH → Prop} : ∀ (n i : Nat), i ≤ (U w).length → i ≤ (U v).length → (U w).length - i < n → Q (cmpL ((U w).drop i) ((U v).drop i)) h → w_X1_orderOf_L14 Q n (A w) (A v) (min ((U w).length : Int) ((U v).length : Int)) (i : Int) h
  | 0, i, _, _, h1, _ => absurd h1 (Nat.not_lt_zero _)
  | n + 1, i, hi, hj, h1, k => by
    have l1 := gw.le hw
    have l2 := gw.le hv
    unfold w_X1_orderOf_L14
    refine ⟨gR_of (by omega) (by omega), gR_of (by omega) (by omega), ?_⟩
    by_cases q : (U w).length ≤ i ∨ (U v).length ≤ i
    · refine if_yes (by omega) (gw.many hw (gw.many hv (s_compare (gR_of (by omega) (by omega)) (gR_of (by omega) (by omega)) (fun z => ?_) (fun z => ?_) (fun z => ?_))))
      · rw [List.drop_of_length_le (show (U w).length ≤ i by omega), take_one (u := U v) (i := i) (by omega)] at k
        exact k
      · rw [List.drop_of_length_le (show (U w).length ≤ i by omega), List.drop_of_length_le (show (U v).length ≤ i by omega)] at k
        exact k
      · rw [List.drop_of_length_le (show (U v).length ≤ i by omega), take_one (u := U w) (i := i) (by omega)] at k
        exact k
    · refine if_no (by omega) ⟨gw.has hw, s_isUp gw hw rfl (by omega) ⟨gw.has hv, s_isUp gw hv rfl (by omega) ⟨b2i_R _, b2i_R _, ?_⟩⟩⟩
      rw [take_one (u := U w) (i := i) (by omega), take_one (u := U v) (i := i) (by omega)] at k
      unfold cmpL at k
      by_cases z : (U w).getD i false = (U v).getD i false
      · rw [if_pos z] at k
        refine if_yes (congrArg b2i z) ?_
        rw [show (i : Int) + 1 = ((i + 1 : Nat) : Int) by omega]
        exact s_orderOf_L gw hw hv n (i + 1) (by omega) (by omega) (by omega) k
      · rw [if_neg z] at k
        refine if_no (fun q9 => z ((b2i_eq _ _).mp q9)) ⟨gw.has hv, s_isUp gw hv rfl (by omega) ⟨b2i_R _, ?_⟩⟩
        generalize (U v).getD i false = y at k
        cases y
        · exact if_yes rfl k
        · exact if_no (by decide) k
theorem s_orderOf (gw : gW A h U) (hw : w < 11) (hv : v < 11) {Q : Int → gaH → Prop} (k : Q (cmpL (U w) (U v)) h) : w_X1_orderOf (A w) (A v) h Q := by
  have l1 := gw.le hw
  have l2 := gw.le hv
  exact gw.many hw (gw.many hv ⟨gR_of (by omega) (by omega), gR_of (by omega) (by omega), (U w).length + 1, s_orderOf_L gw hw hv _ 0 (Nat.zero_le _) (Nat.zero_le _) (by omega) k⟩)
theorem half_nat (l : Nat) (hl : l ≤ 1000) : gDiv (l : Int) 2 = ((l / 2 : Nat) : Int) := gDiv_nat (b := 2) (by omega) (by decide)
theorem s_isMir_L (gw : gW A h U) (hw : w < 11) {a l : Nat} (hal : a + l ≤ (U w).length) {Q : Int → gaH → Prop} (k0 : Q 0 h) (k1 : Q 1 h) : ∀ (n i : Nat), i ≤ l / 2 → l / 2 - i < n → w_X1_isMirroredPart_L2 Q n (A w) (a : Int) (l : Int) (i : Int) h
  | 0, i, _, h1 => absurd h1 (Nat.not_lt_zero _)
  | n + 1, i, hi, h1 => by
    have l1 := gw.le hw
    unfold w_X1_isMirroredPart_L2
    rw [half_nat l (by omega)]
    refine ⟨gR_of (by omega) (by omega), gR_of (by omega) (by omega), ?_⟩
    by_cases q : l / 2 ≤ i
    · exact if_yes (by omega) k1
    · refine if_no (by omega) ⟨gw.has hw, s_isUp (i := a + i) gw hw (by omega) (by omega) ⟨gw.has hw, s_isUp (i := a + l - 1 - i) gw hw (by omega) (by omega) ⟨b2i_R _, b2i_R _, ?_⟩⟩⟩
      by_cases z : b2i ((U w).getD (a + i) false) = b2i ((U w).getD (a + l - 1 - i) false)
      · refine if_yes z ?_
        rw [show (i : Int) + 1 = ((i + 1 : Nat) : Int) by omega]
        exact s_isMir_L gw hw hal k0 k1 n (i + 1) (by omega) (by omega)
      · exact if_no z k0
theorem s_isMir (gw : gW A h U) (hw : w < 11) {x y : Int} {a l : Nat} (hx : x = (a : Int)) (hy : y = (l : Int)) (hal : a + l ≤ (U w).length) {Q : Int → gaH → Prop} (k0 : Q 0 h) (k1 : Q 1 h) : w_X1_isMirroredPart (A w) x y h Q := by
  subst hx; subst hy
  exact ⟨l / 2 + 1, s_isMir_L gw hw hal k0 k1 _ 0 (Nat.zero_le _) (by omega)⟩
theorem s_onRing (gw : gW A h U) (hw : w < 11) {x : Int} {p : Nat} (hx : x = (p : Int)) (hp : p < 2 * (U w).length) {Q : Int → gaH → Prop} (k : Q (b2i ((U w).getD (if p < (U w).length then p else p - (U w).length) false)) h) : w_X1_isUpOnRing (A w) x h Q := by
  subst hx
  have l1 := gw.le hw
  unfold w_X1_isUpOnRing
  refine gw.many hw ⟨gR_of (by omega) (by omega), gR_of (by omega) (by omega), ?_⟩
  by_cases q : p < (U w).length
  · rw [if_pos q] at k
    refine if_no (by omega) ?_
    unfold w_X1_isUpOnRing_J19
    exact ⟨gw.has hw, s_isUp gw hw rfl q ⟨b2i_nar _, k⟩⟩
  · rw [if_neg q] at k
    refine if_yes (by omega) (gw.many hw ?_)
    unfold w_X1_isUpOnRing_J19
    exact ⟨gw.has hw, s_isUp (i := p - (U w).length) gw hw (by omega) (by omega) ⟨b2i_nar _, k⟩⟩
theorem s_ringOrder_L (gw : gW A h U) (hw : w < 11) {a b l : Nat} (hab : l = 0 ∨ (a < (U w).length ∧ b < (U w).length ∧ l ≤ (U w).length)) (hl : l ≤ 64) {Q : Int → gaH → Prop} (k0 : Q 0 h) (k1 : Q 1 h) (k2 : Q (-1) h) : ∀ (n i : Nat), i ≤ l → l - i < n → w_X1_ringOrder_L3 Q n (A w) (a : Int) (b : Int) (l : Int) (i : Int) h
  | 0, i, _, h1 => absurd h1 (Nat.not_lt_zero _)
  | n + 1, i, hi, h1 => by
    have l1 := gw.le hw
    unfold w_X1_ringOrder_L3
    refine ⟨gR_of (by omega) (by omega), gR_of (by omega) (by omega), ?_⟩
    by_cases q : l ≤ i
    · exact if_yes (by omega) k0
    · refine if_no (by omega) (s_onRing (p := a + i) gw hw (by omega) (by omega) (s_onRing (p := b + i) gw hw (by omega) (by omega) ⟨b2i_R _, b2i_R _, ?_⟩))
      generalize (U w).getD (if a + i < (U w).length then a + i else a + i - (U w).length) false = y
      generalize (U w).getD (if b + i < (U w).length then b + i else b + i - (U w).length) false = z
      by_cases e : b2i y = b2i z
      · refine if_yes e ?_
        rw [show (i : Int) + 1 = ((i + 1 : Nat) : Int) by omega]
        exact s_ringOrder_L gw hw hab hl k0 k1 k2 n (i + 1) (by omega) (by omega)
      · refine if_no e ⟨b2i_R _, ?_⟩
        cases y
        · exact if_yes rfl k2
        · exact if_no (by decide) k1
theorem s_ringOrder (gw : gW A h U) (hw : w < 11) {x y z : Int} {a b l : Nat} (hx : x = (a : Int)) (hy : y = (b : Int)) (hz : z = (l : Int)) (hab : l = 0 ∨ (a < (U w).length ∧ b < (U w).length ∧ l ≤ (U w).length)) (hl : l ≤ 64) {Q : Int → gaH → Prop} (k0 : Q 0 h) (k1 : Q 1 h) (k2 : Q (-1) h) : w_X1_ringOrder (A w) x y z h Q := by
  subst hx; subst hy; subst hz
  exact ⟨l + 1, s_ringOrder_L gw hw hab hl k0 k1 k2 _ 0 (Nat.zero_le _) (by omega)⟩
theorem s_timesWith_L (gw : gW A h U) (hw : w < 11) {p : Nat} (hp : 1 ≤ p ∧ p ≤ 64) {Q : Int → gaH → Prop} (k : ∀ r : Nat, r ≤ 65 → Q (r : Int) h) : ∀ (n i c m : Nat), i ≤ (U w).length → (U w).length - i < n → c ≤ i → m ≤ i → w_X1_timesWith_L7 Q n (A w) (p : Int) (c : Int) (m : Int) (i : Int) h
  | 0, i, _, _, _, h1, _, _ => absurd h1 (Nat.not_lt_zero _)
  | n + 1, i, c, m, hi, h1, hc, hm => by
    have l1 := gw.le hw
    unfold w_X1_timesWith_L7
    refine gw.many hw ⟨gR_of (by omega) (by omega), gR_of (by omega) (by omega), ?_⟩
    by_cases q : (U w).length ≤ i + p
    · refine if_yes (by omega) ⟨gR_of (by omega) (by omega), if_no (by omega) ⟨gR_of (by omega) (by omega), by omega, ?_⟩⟩
      rw [gDiv_nat (a := m) (b := p) (by omega) (by omega)]
      have := Nat.div_le_self m p
      exact k (m / p + 1) (by omega)
    · refine if_no (by omega) ⟨gw.has hw, s_isUp gw hw rfl (by omega) ⟨gw.has hw, s_isUp (i := i + p) gw hw (by omega) (by omega) ⟨b2i_R _, b2i_R _, ?_⟩⟩⟩
      have fin : ∀ t : Nat, t ≤ i + 1 → w_X1_timesWith_J42 Q (w_X1_timesWith_L7 Q n) (A w) (p : Int) (m : Int) (i : Int) (t : Int) h := by
        intro t ht
        unfold w_X1_timesWith_J42
        refine ⟨gR_of (by omega) (by omega), gR_of (by omega) (by omega), ?_⟩
        rw [show (i : Int) + 1 = ((i + 1 : Nat) : Int) by omega, show max (m : Int) (t : Int) = ((max m t : Nat) : Int) by omega]
        exact s_timesWith_L gw hw hp k n (i + 1) t (max m t) (by omega) (by omega) (by omega) (by omega)
      by_cases z : b2i ((U w).getD i false) = b2i ((U w).getD (i + p) false)
      · refine if_yes z ?_
        rw [show (c : Int) + 1 = ((c + 1 : Nat) : Int) by omega]
        exact fin (c + 1) (by omega)
      · exact if_no z (fin 0 (by omega))
theorem s_timesOf_L (gw : gW A h U) (hw : w < 11) {Q : Int → gaH → Prop} (k : ∀ r : Nat, r ≤ 65 → Q (r : Int) h) : ∀ (n i m : Nat), 1 ≤ i → i ≤ (U w).length + 1 → (U w).length + 1 - i < n → m ≤ 65 → w_X1_timesOf_L4 Q n (A w) (m : Int) (i : Int) h
  | 0, i, _, _, _, h1, _ => absurd h1 (Nat.not_lt_zero _)
  | n + 1, i, m, h0, hi, h1, hm => by
    have l1 := gw.le hw
    unfold w_X1_timesOf_L4
    refine gw.many hw ⟨gR_of (by omega) (by omega), gR_of (by omega) (by omega), ?_⟩
    by_cases q : (U w).length < i
    · exact if_yes (by omega) (k m hm)
    · refine if_no (by omega) ⟨(U w).length + 1, s_timesWith_L (p := i) gw hw (by omega) (fun r hr => ⟨gR_of (by omega) (by omega), gR_of (by omega) (by omega), ?_⟩) _ 0 0 0 (Nat.zero_le _) (by omega) (Nat.le_refl _) (Nat.le_refl _)⟩
      rw [show (i : Int) + 1 = ((i + 1 : Nat) : Int) by omega, show max (m : Int) (r : Int) = ((max m r : Nat) : Int) by omega]
      exact s_timesOf_L gw hw k n (i + 1) (max m r) (by omega) (by omega) (by omega) (by omega)
theorem s_timesOf (gw : gW A h U) (hw : w < 11) {Q : Int → gaH → Prop} (k : ∀ r : Nat, r ≤ 65 → Q (r : Int) h) : w_X1_timesOf (A w) h Q :=
  ⟨(U w).length + 1, s_timesOf_L gw hw k _ 1 0 (Nat.le_refl _) (by omega) (by omega) (by decide)⟩
theorem s_isOverlap_L (gw : gW A h U) (hw : w < 11) {a p : Nat} (hap : a + 2 * p < (U w).length) {Q : Int → gaH → Prop} (k0 : Q 0 h) (k1 : Q 1 h) : ∀ (n i : Nat), a ≤ i → i ≤ a + p + 1 → a + p + 1 - i < n → w_X1_isOverlap_L2 Q n (A w) (a : Int) (p : Int) (i : Int) h
  | 0, i, _, _, h1 => absurd h1 (Nat.not_lt_zero _)
  | n + 1, i, h0, hi, h1 => by
    have l1 := gw.le hw
    unfold w_X1_isOverlap_L2
    refine ⟨gR_of (by omega) (by omega), gR_of (by omega) (by omega), ?_⟩
    by_cases q : a + p < i
    · exact if_yes (by omega) k1
    · refine if_no (by omega) ⟨gw.has hw, s_isUp gw hw rfl (by omega) ⟨gw.has hw, s_isUp (i := i + p) gw hw (by omega) (by omega) ⟨b2i_R _, b2i_R _, ?_⟩⟩⟩
      by_cases z : b2i ((U w).getD i false) = b2i ((U w).getD (i + p) false)
      · refine if_yes z ?_
        rw [show (i : Int) + 1 = ((i + 1 : Nat) : Int) by omega]
        exact s_isOverlap_L gw hw hap k0 k1 n (i + 1) (by omega) (by omega) (by omega)
      · exact if_no z k0
theorem s_overlaps_L2 (gw : gW A h U) (hw : w < 11) {p : Nat} {Q : Int → gaH → Prop} {K : Nat → Int → Int → gaH → Prop} {B : Nat} (hB : B ≤ 100000) (k : ∀ r : Nat, r ≤ B + 65 → K (A w) (r : Int) ((p : Int) + 1) h) (hp : p ≤ 64) : ∀ (n i c : Nat), i ≤ (U w).length → (U w).length - i < n → c ≤ B + i → w_X1_overlapsOf_L14 Q K n (A w) (c : Int) (p : Int) (i : Int) h
  | 0, i, _, _, h1, _ => absurd h1 (Nat.not_lt_zero _)
  | n + 1, i, c, hi, h1, hc => by
    have l1 := gw.le hw
    unfold w_X1_overlapsOf_L14
    refine gw.many hw ⟨gR_of (by omega) (by omega), gR_of (by omega) (by omega), ?_⟩
    by_cases q : (U w).length ≤ i + 2 * p
    · exact if_yes (by omega) (k c (by omega))
    · have e1 : (i : Int) + 1 = ((i + 1 : Nat) : Int) := by omega
      refine if_no (by omega) ⟨p + 2, s_isOverlap_L (a := i) (p := p) gw hw (by omega) ⟨gR_of (by decide) (by decide), if_yes rfl ?_⟩ ⟨gR_of (by decide) (by decide), if_no (by decide) ?_⟩ _ i (Nat.le_refl _) (by omega) (by omega)⟩
      · rw [e1]
        exact s_overlaps_L2 gw hw hB k hp n (i + 1) c (by omega) (by omega) (by omega)
      · rw [e1, show (c : Int) + 1 = ((c + 1 : Nat) : Int) by omega]
        exact s_overlaps_L2 gw hw hB k hp n (i + 1) (c + 1) (by omega) (by omega) (by omega)
theorem s_overlaps_L1 (gw : gW A h U) (hw : w < 11) {Q : Int → gaH → Prop} (k : ∀ r : Nat, r ≤ 10000 → Q (r : Int) h) : ∀ (n i c : Nat), i ≤ 65 → 65 - i < n → c ≤ i * 65 → w_X1_overlapsOf_L4 Q n (A w) (c : Int) (i : Int) h
  | 0, i, _, _, h1, _ => absurd h1 (Nat.not_lt_zero _)
  | n + 1, i, c, hi, h1, hc => by
    have l1 := gw.le hw
    unfold w_X1_overlapsOf_L4
    refine gw.many hw ⟨gR_of (by omega) (by omega), gR_of (by omega) (by omega), ?_⟩
    by_cases q : (U w).length ≤ i
    · exact if_yes (by omega) (k c (by omega))
    · refine if_no (by omega) ⟨(U w).length + 1, s_overlaps_L2 (p := i) (B := c) gw hw (by omega) (fun r hr => ?_) (by omega) _ 0 c (Nat.zero_le _) (by omega) (by omega)⟩
      rw [show (i : Int) + 1 = ((i + 1 : Nat) : Int) by omega]
      exact s_overlaps_L1 gw hw k n (i + 1) r (by omega) (by omega) (by omega)
theorem s_overlapsOf (gw : gW A h U) (hw : w < 11) {Q : Int → gaH → Prop} (k : ∀ r : Nat, r ≤ 10000 → Q (r : Int) h) : w_X1_overlapsOf (A w) h Q :=
  ⟨66, s_overlaps_L1 gw hw k _ 1 0 (by decide) (by decide) (by decide)⟩
theorem s_folds_L (gw : gW A h U) (hw : w < 11) {Q : Int → gaH → Prop} (k : ∀ r : Nat, r ≤ 64 → Q (r : Int) h) : ∀ (n i c : Nat), i ≤ (U w).length → (U w).length - i < n → c ≤ i → w_X1_foldsOf_L4 Q n (A w) (c : Int) (i : Int) h
  | 0, i, _, _, h1, _ => absurd h1 (Nat.not_lt_zero _)
  | n + 1, i, c, hi, h1, hc => by
    have l1 := gw.le hw
    unfold w_X1_foldsOf_L4
    refine gw.many hw ⟨gR_of (by omega) (by omega), gR_of (by omega) (by omega), ?_⟩
    have e1 : (i : Int) + 1 = ((i + 1 : Nat) : Int) := by omega
    by_cases q : (U w).length ≤ i
    · exact if_yes (by omega) (k c (by omega))
    · have no : w_X1_foldsOf_L4 Q n (A w) (c : Int) ((i : Int) + 1) h := by
        rw [e1]
        exact s_folds_L gw hw k n (i + 1) c (by omega) (by omega) (by omega)
      refine if_no (by omega) (s_isMir (a := 0) (l := i) gw hw rfl rfl (by omega) ⟨gR_of (by decide) (by decide), if_yes rfl no⟩ ⟨gR_of (by decide) (by decide), if_no (by decide) (gw.many hw (s_isMir (a := i) (l := (U w).length - i) gw hw rfl (by omega) (by omega) ⟨gR_of (by decide) (by decide), if_yes rfl no⟩ ⟨gR_of (by decide) (by decide), if_no (by decide) ?_⟩))⟩)
      rw [e1, show (c : Int) + 1 = ((c + 1 : Nat) : Int) by omega]
      exact s_folds_L gw hw k n (i + 1) (c + 1) (by omega) (by omega) (by omega)
theorem s_foldsOf (gw : gW A h U) (hw : w < 11) {Q : Int → gaH → Prop} (k : ∀ r : Nat, r ≤ 64 → Q (r : Int) h) : w_X1_foldsOf (A w) h Q :=
  ⟨(U w).length + 1, s_folds_L gw hw k _ 0 0 (Nat.zero_le _) (by omega) (Nat.le_refl _)⟩
theorem s_least_L (gw : gW A h U) (hw : w < 11) {Q : Int → gaH → Prop} (k : ∀ r : Nat, r ≤ 64 → Q (r : Int) h) : ∀ (n i c : Nat), i ≤ (U w).length + 1 → (U w).length + 1 - i < n → c < i → w_X1_leastOf_L4 Q n (A w) (c : Int) (i : Int) h
  | 0, i, _, _, h1, _ => absurd h1 (Nat.not_lt_zero _)
  | n + 1, i, c, hi, h1, hc => by
    have l1 := gw.le hw
    unfold w_X1_leastOf_L4
    refine gw.many hw ⟨gR_of (by omega) (by omega), gR_of (by omega) (by omega), ?_⟩
    have e1 : (i : Int) + 1 = ((i + 1 : Nat) : Int) := by omega
    by_cases q : (U w).length ≤ i
    · exact if_yes (by omega) (k c (by omega))
    · have go : ∀ d : Nat, d < i + 1 → w_X1_leastOf_L4 Q n (A w) (d : Int) ((i : Int) + 1) h := by
        intro d hd
        rw [e1]
        exact s_least_L gw hw k n (i + 1) d (by omega) (by omega) (by omega)
      exact if_no (by omega) (gw.many hw (s_ringOrder (a := i) (b := c) (l := (U w).length) gw hw rfl rfl rfl (by omega) (by omega) ⟨gR_of (by decide) (by decide), if_yes (by decide) (go c (by omega))⟩ ⟨gR_of (by decide) (by decide), if_yes (by decide) (go c (by omega))⟩ ⟨gR_of (by decide) (by decide), if_no (by decide) (go i (by omega))⟩))
theorem s_leastOf (gw : gW A h U) (hw : w < 11) {Q : Int → gaH → Prop} (k : ∀ r : Nat, r ≤ 64 → Q (r : Int) h) : w_X1_leastOf (A w) h Q := by
  by_cases q : (U w).length = 0
  · refine ⟨1, ?_⟩
    unfold w_X1_leastOf_L4
    exact gw.many hw ⟨gR_of (by decide) (by decide), gR_of (by omega) (by omega), if_yes (by omega) (k 0 (by decide))⟩
  · exact ⟨(U w).length + 1, s_least_L gw hw k _ 1 0 (by omega) (by omega) (by decide)⟩
theorem s_readEarlier_L (gw : gW A h U) (hw : w < 11) {a l : Nat} (hal : l = 0 ∨ (a < (U w).length ∧ l ≤ (U w).length)) (ha : a ≤ 64) (hl : l ≤ 64) {Q : Int → gaH → Prop} (k0 : Q 0 h) (k1 : Q 1 h) : ∀ (n i : Nat), i ≤ a → a - i < n → w_X1_isReadEarlier_L2 Q n (A w) (a : Int) (l : Int) (i : Int) h
  | 0, i, _, h1 => absurd h1 (Nat.not_lt_zero _)
  | n + 1, i, hi, h1 => by
    unfold w_X1_isReadEarlier_L2
    refine ⟨gR_of (by omega) (by omega), gR_of (by omega) (by omega), ?_⟩
    by_cases q : a ≤ i
    · exact if_yes (by omega) k0
    · have go : w_X1_isReadEarlier_L2 Q n (A w) (a : Int) (l : Int) ((i : Int) + 1) h := by
        rw [show (i : Int) + 1 = ((i + 1 : Nat) : Int) by omega]
        exact s_readEarlier_L gw hw hal ha hl k0 k1 n (i + 1) (by omega) (by omega)
      exact if_no (by omega) (s_ringOrder (a := i) (b := a) (l := l) gw hw rfl rfl rfl (by omega) hl ⟨gR_of (by decide) (by decide), if_yes rfl k1⟩ ⟨gR_of (by decide) (by decide), if_no (by decide) go⟩ ⟨gR_of (by decide) (by decide), if_no (by decide) go⟩)
theorem s_readEarlier (gw : gW A h U) (hw : w < 11) {x y : Int} {a l : Nat} (hx : x = (a : Int)) (hy : y = (l : Int)) (hal : l = 0 ∨ (a < (U w).length ∧ l ≤ (U w).length)) (ha : a ≤ 64) (hl : l ≤ 64) {Q : Int → gaH → Prop} (k0 : Q 0 h) (k1 : Q 1 h) : w_X1_isReadEarlier (A w) x y h Q := by
  subst hx; subst hy
  exact ⟨a + 1, s_readEarlier_L gw hw hal ha hl k0 k1 _ 0 (Nat.zero_le _) (by omega)⟩
/-- how many parts begin -/
def begins (n l : Nat) (ring : Bool) : Nat := if ring = true then max n 1 else n - l + 1
theorem s_beginnings (gw : gW A h U) (hw : w < 11) {x y : Int} {l : Nat} {b : Bool} (hx : x = (l : Int)) (hy : y = b2i b) (hl : l ≤ (U w).length) {Q : Int → gaH → Prop} (k : Q (begins (U w).length l b : Int) h) : w_X1_beginnings (A w) x y h Q := by
  subst hx; subst hy
  have l1 := gw.le hw
  unfold w_X1_beginnings
  refine ⟨b2i_R _, ?_⟩
  unfold begins at k
  cases b
  · refine if_yes rfl (gw.many hw ?_)
    rw [if_neg (by decide)] at k
    rw [show ((U w).length : Int) - (l : Int) + 1 = (((U w).length - l + 1 : Nat) : Int) by omega]
    exact k
  · refine if_no (by decide) (gw.many hw ⟨gR_of (by omega) (by omega), ?_⟩)
    rw [if_pos rfl] at k
    rw [show max ((U w).length : Int) 1 = ((max (U w).length 1 : Nat) : Int) by omega]
    exact k
theorem begins_le {n l i : Nat} {b : Bool} (hl : l ≤ n) (hi : i < begins n l b) : i ≤ n ∧ (l = 0 ∨ (i < n ∧ l ≤ n)) := by
  unfold begins at hi
  split at hi <;> omega
theorem s_kinds_L (gw : gW A h U) (hw : w < 11) {l : Nat} {b : Bool} (hl : l ≤ (U w).length) {Q : Int → gaH → Prop} (k : ∀ r : Nat, r ≤ 65 → Q (r : Int) h) : ∀ (n i c : Nat), i ≤ begins (U w).length l b → begins (U w).length l b - i < n → c ≤ i → w_X1_kindsOf_L13 Q n (A w) (l : Int) (c : Int) (begins (U w).length l b : Int) (i : Int) h
  | 0, i, _, _, h1, _ => absurd h1 (Nat.not_lt_zero _)
  | n + 1, i, c, hi, h1, hc => by
    have l1 := gw.le hw
    have hb : begins (U w).length l b ≤ 65 := by unfold begins; split <;> omega
    unfold w_X1_kindsOf_L13
    refine ⟨gR_of (by omega) (by omega), gR_of (by omega) (by omega), ?_⟩
    by_cases q : begins (U w).length l b ≤ i
    · exact if_yes (by omega) (k c (by omega))
    · have e := begins_le hl (show i < begins (U w).length l b by omega)
      have e1 : (i : Int) + 1 = ((i + 1 : Nat) : Int) := by omega
      refine if_no (by omega) (s_readEarlier (a := i) (l := l) gw hw rfl rfl e.2 (by omega) (by omega) ⟨gR_of (by decide) (by decide), if_yes rfl ?_⟩ ⟨gR_of (by decide) (by decide), if_no (by decide) ?_⟩)
      · rw [e1, show (c : Int) + 1 = ((c + 1 : Nat) : Int) by omega]
        exact s_kinds_L gw hw hl k n (i + 1) (c + 1) (by omega) (by omega) (by omega)
      · rw [e1]
        exact s_kinds_L gw hw hl k n (i + 1) c (by omega) (by omega) (by omega)
theorem s_kindsOf (gw : gW A h U) (hw : w < 11) {x y : Int} {l : Nat} {b : Bool} (hx : x = (l : Int)) (hy : y = b2i b) (hl : l ≤ (U w).length) {Q : Int → gaH → Prop} (k : ∀ r : Nat, r ≤ 65 → Q (r : Int) h) : w_X1_kindsOf (A w) x y h Q := by
  subst hx
  unfold w_X1_kindsOf
  exact s_beginnings (b := b) gw hw rfl hy hl ⟨begins (U w).length l b + 1, s_kinds_L gw hw hl k _ 0 0 (Nat.zero_le _) (by omega) (Nat.le_refl _)⟩
theorem s_mirrors_L2 (gw : gW A h U) (hw : w < 11) {a : Nat} (ha : a < (U w).length) {Q : Int → gaH → Prop} {K : Nat → Int → Int → gaH → Prop} {B : Nat} (hB : B ≤ 100000) (k : ∀ r : Nat, r ≤ B + 65 → K (A w) (r : Int) ((a : Int) + 1) h) : ∀ (n i c : Nat), 1 ≤ i → i ≤ (U w).length - a + 1 → (U w).length - a + 1 - i < n → c ≤ B + i → w_X1_mirrorsOf_L14 Q K n (A w) (c : Int) (a : Int) (i : Int) h
  | 0, i, _, _, _, h1, _ => absurd h1 (Nat.not_lt_zero _)
  | n + 1, i, c, h0, hi, h1, hc => by
    have l1 := gw.le hw
    unfold w_X1_mirrorsOf_L14
    refine gw.many hw ⟨gR_of (by omega) (by omega), gR_of (by omega) (by omega), ?_⟩
    have e1 : (i : Int) + 1 = ((i + 1 : Nat) : Int) := by omega
    by_cases q : (U w).length - a < i
    · exact if_yes (by omega) (k c (by omega))
    · have no : w_X1_mirrorsOf_L14 Q K n (A w) (c : Int) (a : Int) ((i : Int) + 1) h := by
        rw [e1]
        exact s_mirrors_L2 gw hw ha hB k n (i + 1) c (by omega) (by omega) (by omega) (by omega)
      refine if_no (by omega) (s_isMir (a := a) (l := i) gw hw rfl rfl (by omega) ⟨gR_of (by decide) (by decide), if_yes rfl no⟩ ⟨gR_of (by decide) (by decide), if_no (by decide) (s_readEarlier (a := a) (l := i) gw hw rfl rfl (by omega) (by omega) (by omega) ⟨gR_of (by decide) (by decide), if_yes rfl ?_⟩ ⟨gR_of (by decide) (by decide), if_no (by decide) no⟩)⟩)
      rw [e1, show (c : Int) + 1 = ((c + 1 : Nat) : Int) by omega]
      exact s_mirrors_L2 gw hw ha hB k n (i + 1) (c + 1) (by omega) (by omega) (by omega) (by omega)
theorem s_mirrors_L1 (gw : gW A h U) (hw : w < 11) {Q : Int → gaH → Prop} (k : ∀ r : Nat, r ≤ 10000 → Q (r : Int) h) : ∀ (n i c : Nat), i ≤ 64 → 64 - i < n → c ≤ i * 66 → w_X1_mirrorsOf_L4 Q n (A w) (c : Int) (i : Int) h
  | 0, i, _, _, h1, _ => absurd h1 (Nat.not_lt_zero _)
  | n + 1, i, c, hi, h1, hc => by
    have l1 := gw.le hw
    unfold w_X1_mirrorsOf_L4
    refine gw.many hw ⟨gR_of (by omega) (by omega), gR_of (by omega) (by omega), ?_⟩
    by_cases q : (U w).length ≤ i
    · exact if_yes (by omega) (k c (by omega))
    · refine if_no (by omega) ⟨66, s_mirrors_L2 (a := i) (B := c) gw hw (by omega) (by omega) (fun r hr => ?_) _ 1 c (Nat.le_refl _) (by omega) (by omega) (by omega)⟩
      rw [show (i : Int) + 1 = ((i + 1 : Nat) : Int) by omega]
      exact s_mirrors_L1 gw hw k n (i + 1) r (by omega) (by omega) (by omega)
theorem s_mirrorsOf (gw : gW A h U) (hw : w < 11) {Q : Int → gaH → Prop} (k : ∀ r : Nat, r ≤ 10000 → Q (r : Int) h) : w_X1_mirrorsOf (A w) h Q :=
  ⟨65, s_mirrors_L1 gw hw k _ 0 0 (by decide) (by decide) (by decide)⟩
theorem s_upsInPart_L (gw : gW A h U) (hw : w < 11) {a l : Nat} (hal : l = 0 ∨ (a < (U w).length ∧ l ≤ (U w).length)) (ha : a ≤ 64) (hl : l ≤ 64) {Q : Int → gaH → Prop} (k : ∀ r : Nat, r ≤ l → Q (r : Int) h) : ∀ (n i c : Nat), i ≤ l → l - i < n → c ≤ i → w_X1_upsInPart_L5 Q n (A w) (a : Int) (l : Int) (c : Int) ((a : Int) + (i : Int)) h
  | 0, i, _, _, h1, _ => absurd h1 (Nat.not_lt_zero _)
  | n + 1, i, c, hi, h1, hc => by
    have l1 := gw.le hw
    unfold w_X1_upsInPart_L5
    refine ⟨gR_of (by omega) (by omega), gR_of (by omega) (by omega), ?_⟩
    by_cases q : l ≤ i
    · exact if_yes (by omega) (k c (by omega))
    · have e1 : (a : Int) + (i : Int) + 1 = (a : Int) + ((i + 1 : Nat) : Int) := by omega
      refine if_no (by omega) (s_onRing (p := a + i) gw hw (by omega) (by omega) ⟨b2i_R _, ?_⟩)
      generalize (U w).getD (if a + i < (U w).length then a + i else a + i - (U w).length) false = y
      cases y
      · refine if_yes rfl ?_
        rw [e1]
        exact s_upsInPart_L gw hw hal ha hl k n (i + 1) c (by omega) (by omega) (by omega)
      · refine if_no (by decide) ?_
        rw [e1, show (c : Int) + 1 = ((c + 1 : Nat) : Int) by omega]
        exact s_upsInPart_L gw hw hal ha hl k n (i + 1) (c + 1) (by omega) (by omega) (by omega)
theorem s_upsInPart (gw : gW A h U) (hw : w < 11) {x y : Int} {a l : Nat} (hx : x = (a : Int)) (hy : y = (l : Int)) (hal : l = 0 ∨ (a < (U w).length ∧ l ≤ (U w).length)) (ha : a ≤ 64) (hl : l ≤ 64) {Q : Int → gaH → Prop} (k : ∀ r : Nat, r ≤ l → Q (r : Int) h) : w_X1_upsInPart (A w) x y h Q := by
  subst hx; subst hy
  refine ⟨l + 1, ?_⟩
  have := s_upsInPart_L gw hw hal ha hl k (l + 1) 0 0 (Nat.zero_le _) (by omega) (Nat.le_refl _)
  rw [show (a : Int) + ((0 : Nat) : Int) = (a : Int) by omega] at this
  exact this
theorem s_spread_L (gw : gW A h U) (hw : w < 11) {l : Nat} {b : Bool} (hl : l ≤ (U w).length) {Q : Int → gaH → Prop} (k : ∀ r : Int, -64 ≤ r → r ≤ 64 → Q r h) : ∀ (n i c d : Nat), i ≤ begins (U w).length l b → begins (U w).length l b - i < n → c ≤ 64 → d ≤ 64 → w_X1_spreadOf_L16 Q n (A w) (l : Int) (c : Int) (d : Int) (begins (U w).length l b : Int) (i : Int) h
  | 0, i, _, _, _, h1, _, _ => absurd h1 (Nat.not_lt_zero _)
  | n + 1, i, c, d, hi, h1, hc, hd => by
    have l1 := gw.le hw
    have hb : begins (U w).length l b ≤ 65 := by unfold begins; split <;> omega
    unfold w_X1_spreadOf_L16
    refine ⟨gR_of (by omega) (by omega), gR_of (by omega) (by omega), ?_⟩
    by_cases q : begins (U w).length l b ≤ i
    · exact if_yes (by omega) (k _ (by omega) (by omega))
    · have e := begins_le hl (show i < begins (U w).length l b by omega)
      refine if_no (by omega) (s_upsInPart (a := i) (l := l) gw hw rfl rfl e.2 (by omega) (by omega) (fun r hr => ⟨gR_of (by omega) (by omega), gR_of (by omega) (by omega), gR_of (by omega) (by omega), gR_of (by omega) (by omega), ?_⟩))
      rw [show (i : Int) + 1 = ((i + 1 : Nat) : Int) by omega, show max (c : Int) (r : Int) = ((max c r : Nat) : Int) by omega, show min (d : Int) (r : Int) = ((min d r : Nat) : Int) by omega]
      exact s_spread_L gw hw hl k n (i + 1) (max c r) (min d r) (by omega) (by omega) (by omega) (by omega)
theorem s_spreadOf (gw : gW A h U) (hw : w < 11) {x y : Int} {l : Nat} {b : Bool} (hx : x = (l : Int)) (hy : y = b2i b) (hl : l ≤ (U w).length) {Q : Int → gaH → Prop} (k : ∀ r : Int, -64 ≤ r → r ≤ 64 → Q r h) : w_X1_spreadOf (A w) x y h Q := by
  subst hx
  have l1 := gw.le hw
  unfold w_X1_spreadOf
  exact s_beginnings (b := b) gw hw rfl hy hl ⟨begins (U w).length l b + 1, s_spread_L gw hw hl k _ 0 0 l (Nat.zero_le _) (by omega) (by decide) (by omega)⟩
end PQ
/-! The garden: its state, and what its methods' shared steps do. -/
abbrev GSt : Type := (Nat → List Bool) × (Nat → List Nat) × (Nat → Int)
abbrev GSt.S (st : GSt) : Nat → List Bool := st.1
abbrev GSt.T (st : GSt) : Nat → List Nat := st.2.1
abbrev GSt.C (st : GSt) : Nat → Int := st.2.2
def gX (A : Nat → Nat) (h : gaH) (C : Nat → Int) : Prop := h (A 22) = some (5, [.ref (A 23), .ref (A 24), .ref (A 25), .ref (A 3), .ref (A 4), gi (C 0), gi (C 1), gi (C 2), gi (C 3)]) ∧ h (A 23) = some (110, [.ref (A 0), .ref (A 1), .ref (A 2)]) ∧ h (A 24) = some (111, [.ref (A 26), .ref (A 27)])
def gD (A : Nat → Nat) (G : gaG) (h : gaH) (U : Nat → List Bool) (st : GSt) : Prop := gW A h U ∧ gRu A h ∧ gX A h st.C ∧ (∀ g, g < 2 → gGr A h g (st.T g)) ∧ (∀ g, g < 2 → gOk (st.T g)) ∧ (∀ g, g < 2 → U (5 + 2 * g) = (grw (st.T g)).1 ∧ U (6 + 2 * g) = (grw (st.T g)).2) ∧ (∀ w, w < 3 → U w = st.S w) ∧ h (G.2.2.2 0) = some (1102, gaCodes) ∧ ∀ i, i < 31 → G.2.2.2 0 ≠ A i
theorem gD.w {A : Nat → Nat} {G : gaG} {h : gaH} {U : Nat → List Bool} {st : GSt} (d : gD A G h U st) : gW A h U := d.1
theorem gD.ru {A : Nat → Nat} {G : gaG} {h : gaH} {U : Nat → List Bool} {st : GSt} (d : gD A G h U st) : gRu A h := d.2.1
theorem gD.x {A : Nat → Nat} {G : gaG} {h : gaH} {U : Nat → List Bool} {st : GSt} (d : gD A G h U st) : gX A h st.C := d.2.2.1
theorem gD.gr {A : Nat → Nat} {G : gaG} {h : gaH} {U : Nat → List Bool} {st : GSt} (d : gD A G h U st) : ∀ g, g < 2 → gGr A h g (st.T g) := d.2.2.2.1
theorem gD.ok {A : Nat → Nat} {G : gaG} {h : gaH} {U : Nat → List Bool} {st : GSt} (d : gD A G h U st) : ∀ g, g < 2 → gOk (st.T g) := d.2.2.2.2.1
theorem gD.gw {A : Nat → Nat} {G : gaG} {h : gaH} {U : Nat → List Bool} {st : GSt} (d : gD A G h U st) : ∀ g, g < 2 → U (5 + 2 * g) = (grw (st.T g)).1 ∧ U (6 + 2 * g) = (grw (st.T g)).2 := d.2.2.2.2.2.1
theorem gD.s {A : Nat → Nat} {G : gaG} {h : gaH} {U : Nat → List Bool} {st : GSt} (d : gD A G h U st) : ∀ w, w < 3 → U w = st.S w := d.2.2.2.2.2.2.1
theorem gD.mc {A : Nat → Nat} {G : gaG} {h : gaH} {U : Nat → List Bool} {st : GSt} (d : gD A G h U st) : h (G.2.2.2 0) = some (1102, gaCodes) := d.2.2.2.2.2.2.2.1
theorem gD.ne {A : Nat → Nat} {G : gaG} {h : gaH} {U : Nat → List Bool} {st : GSt} (d : gD A G h U st) : ∀ i, i < 31 → G.2.2.2 0 ≠ A i := d.2.2.2.2.2.2.2.2
theorem gD.has {A : Nat → Nat} {G : gaG} {h : gaH} {U : Nat → List Bool} {st : GSt} (d : gD A G h U st) : gHas h (A 22) 5 := ⟨_, d.x.1⟩
def gFr (A : Nat → Nat) (h h' : gaH) : Prop := ∀ b e, (∀ i, i < 31 → b ≠ A i) → h b = some e → h' b = some e
theorem gFr.rf {A : Nat → Nat} {h : gaH} : gFr A h h := fun _ _ _ q => q
theorem gFr.tr {A : Nat → Nat} {h h1 h2 : gaH} (x : gFr A h h1) (y : gFr A h1 h2) : gFr A h h2 := fun b e hb q => y b e hb (x b e hb q)
theorem gFr.sm {A : Nat → Nat} {h h1 : gaH} (x : gSm A h h1) : gFr A h h1 := fun b e hb q => (x b (fun w hw => hb w (by omega))).trans q
theorem gFr.sk {A : Nat → Nat} {h h1 : gaH} (x : gSk A h h1) : gFr A h h1 := fun b e hb q => (x b (fun w hw => hb w (by omega)) (hb 30 (by decide))).trans q
theorem gFr.sg {A : Nat → Nat} {h h1 : gaH} {g : Nat} (hg : g < 2) (x : gSg A g h h1) : gFr A h h1 := fun b e hb q => (x b (fun w hw => hb w (by omega)) (hb _ (by omega)) (hb _ (by omega))).trans q
theorem gFr.up {A : Nat → Nat} {h : gaH} {i : Nat} (hi : i < 31) {e : gaE} : gFr A h (gaUp h (A i) e) := fun b f hb q => by rw [gaUp_ne _ _ (hb i hi)]; exact q
def gRes (A : Nat → Nat) (G : gaG) (h : gaH) (E : List String) (X : String → gaH → Prop) (Q : Int → gaH → Prop) (o : Nat × (Int → Prop) × GSt) : Prop := ∀ h' U', gD A G h' U' o.2.2 → gFr A h h' → (o.1 = 0 → ∀ r, o.2.1 r → Q r h') ∧ (o.1 ≠ 0 → X (E.getD (o.1 - 1) "") h')
theorem gCall_mk {C S c s : Nat} {K : Nat → Nat → Prop} (h1 : C ≤ c) (h2 : S ≤ s) (k : K (c - C) (s - S)) : gCall C S c s K := ⟨h1, h2, _, _, rfl, rfl, k⟩
theorem ite_both {c : Prop} [Decidable c] {X Y : Prop} (k1 : c → X) (k2 : ¬ c → Y) : (if c then X else Y) := by
  by_cases q : c
  · rw [if_pos q]; exact k1 q
  · rw [if_neg q]; exact k2 q
section GV
variable {A : Nat → Nat} {h : gaH} {U : Nat → List Bool} {w v : Nat} {Q : gaH → Prop}
theorem v_clear (g : gW A h U) (hw : w < 11) (k : ∀ h' V, gW A h' V → gSm A h h' → V w = [] → (∀ v, v ≠ w → V v = U v) → Q h') : w_X4_clear (A w) h Q := s_clear g hw (fun h' w' s' => k h' _ w' s' (pu_self _ _ _) (fun _ q => pu_ne _ _ q))
theorem v_add (g : gW A h U) (hw : w < 11) (hl : (U w).length < 64) {x : Int} {b : Bool} (hx : x = b2i b) (k : ∀ h' V, gW A h' V → gSm A h h' → V w = U w ++ [b] → (∀ v, v ≠ w → V v = U v) → Q h') : w_X4_add (A w) x h Q := s_add g hw hl hx (fun h' w' s' => k h' _ w' s' (pu_self _ _ _) (fun _ q => pu_ne _ _ q))
theorem v_addPart (g : gW A h U) (hw : w < 11) (hv : v < 11) (hne : v ≠ w) {x y : Int} {i t : Nat} (hx : x = (i : Int)) (hy : y = (t : Int)) (hi : i ≤ t) (ht : t ≤ (U v).length) (hl : (U w).length + (t - i) ≤ 64) (k : ∀ h' V, gW A h' V → gSm A h h' → V w = U w ++ ((U v).drop i).take (t - i) → (∀ v, v ≠ w → V v = U v) → Q h') : w_X4_addPart (A w) (A v) x y h Q := s_addPart g hw hv hne hx hy hi ht hl (fun h' w' s' => k h' _ w' s' (pu_self _ _ _) (fun _ q => pu_ne _ _ q))
theorem v_takeTurned (g : gW A h U) (hw : w < 11) (hv : v < 11) (hne : v ≠ w) (k : ∀ h' V, gW A h' V → gSm A h h' → V w = (U v).reverse → (∀ v, v ≠ w → V v = U v) → Q h') : w_X4_takeTurned (A w) (A v) h Q := s_takeTurned g hw hv hne (fun h' w' s' => k h' _ w' s' (pu_self _ _ _) (fun _ q => pu_ne _ _ q))
end GV
section GD
variable {A : Nat → Nat} {G : gaG} {h : gaH} {U : Nat → List Bool} {st : GSt} {E : List String} {X : String → gaH → Prop} {Q : Int → gaH → Prop} {w v g : Nat}
theorem gRes.ok {P : Int → Prop} {st' : GSt} (k : gRes A G h E X Q (0, P, st')) {h' : gaH} {U' : Nat → List Bool} (d : gD A G h' U' st') (f : gFr A h h') {r : Int} (hr : P r) : Q r h' := (k h' U' d f).1 rfl r hr
theorem gRes.ex {c : Nat} {P : Int → Prop} {st' : GSt} (k : gRes A G h E X Q (c + 1, P, st')) {h' : gaH} {U' : Nat → List Bool} (d : gD A G h' U' st') (f : gFr A h h') : X (E.getD c "") h' := (k h' U' d f).2 (Nat.succ_ne_zero c)
theorem gRes.on {o : Nat × (Int → Prop) × GSt} (k : gRes A G h E X Q o) {h1 : gaH} (f : gFr A h h1) : gRes A G h1 E X Q o := fun h' U' d f2 => k h' U' d (f.tr f2)
theorem gD.f0 (d : gD A G h U st) {K : Nat → Prop} (k : K (A 23)) : gA h (A 22) 5 0 K := gA_mk d.x.1 rfl k
theorem gD.f1 (d : gD A G h U st) {K : Nat → Prop} (k : K (A 24)) : gA h (A 22) 5 1 K := gA_mk d.x.1 rfl k
theorem gD.f2 (d : gD A G h U st) {K : Nat → Prop} (k : K (A 25)) : gA h (A 22) 5 2 K := gA_mk d.x.1 rfl k
theorem gD.f3 (d : gD A G h U st) {K : Nat → Prop} (k : K (A 3)) : gA h (A 22) 5 3 K := gA_mk d.x.1 rfl k
theorem gD.f4 (d : gD A G h U st) {K : Nat → Prop} (k : K (A 4)) : gA h (A 22) 5 4 K := gA_mk d.x.1 rfl k
theorem gD.cn (d : gD A G h U st) {i f : Nat} (hf : f = 5 + i) (hi : i < 4) {K : Int → Prop} (k : K (st.C i)) : gI h (A 22) 5 f K := by
  subst hf
  refine gI_mk d.x.1 (x := st.C i) ?_ k
  rcases (show i = 0 ∨ i = 1 ∨ i = 2 ∨ i = 3 by omega) with rfl | rfl | rfl | rfl <;> rfl
/-- words and marks have changed, neither growths' nor others than these sheets -/
theorem gD.k (d : gD A G h U st) {h' : gaH} {U' : Nat → List Bool} {S' : Nat → List Bool} (w' : gW A h' U') (s : gSk A h h') (hs : ∀ w, w < 3 → U' w = S' w) (hg : ∀ w, 5 ≤ w → w < 9 → U' w = U w) : gD A G h' U' (S', st.T, st.C) := by
  have hA := d.w.inj
  exact ⟨w', d.ru.onk hA s, ⟨(s.at hA (by decide) (by decide)).trans d.x.1, (s.at hA (by decide) (by decide)).trans d.x.2.1, (s.at hA (by decide) (by decide)).trans d.x.2.2⟩, fun g hg => (d.gr g hg).onk hA hg s, d.ok, fun g q => by rw [hg _ (by omega) (by omega), hg _ (by omega) (by omega)]; exact d.gw g q, hs, (s _ (fun w hw => d.ne w (by omega)) (d.ne 30 (by decide))).trans d.mc, d.ne⟩
/-- words that count for nothing have changed -/
theorem gD.b (d : gD A G h U st) {h' : gaH} {U' : Nat → List Bool} (w' : gW A h' U') (s : gSm A h h') (hs : ∀ w, w < 3 → U' w = U w) (hg : ∀ w, 5 ≤ w → w < 9 → U' w = U w) : gD A G h' U' st :=
  d.k (S' := st.S) w' (gSk.of s) (fun w hw => (hs w hw).trans (d.s w hw)) hg
theorem gD.bk (d : gD A G h U st) {h' : gaH} {U' : Nat → List Bool} (w' : gW A h' U') (s : gSk A h h') (hs : ∀ w, w < 3 → U' w = U w) (hg : ∀ w, 5 ≤ w → w < 9 → U' w = U w) : gD A G h' U' st :=
  d.k (S' := st.S) w' s (fun w hw => (hs w hw).trans (d.s w hw)) hg
/-- one sheet's word has changed -/
theorem gD.sh (d : gD A G h U st) {h' : gaH} {u : List Bool} (hw : w < 3) (w' : gW A h' (pu U w u)) (s : gSm A h h') : gD A G h' (pu U w u) (pu st.S w u, st.T, st.C) :=
  d.k w' (gSk.of s) (fun v hv => by
    by_cases e : v = w
    · rw [e, pu_self, pu_self]
    · rw [pu_ne _ _ e, pu_ne _ _ e]; exact d.s v hv) (fun v h5 h9 => pu_ne _ _ (by omega))
theorem gD.inc (d : gD A G h U st) {i f : Nat} (hf : f = 5 + i) (hi : i < 4) {x : Int} (hx : x = st.C i + 1) {K : gaH → Prop} (k : ∀ h', gD A G h' U (st.S, st.T, pu st.C i (st.C i + 1)) → gFr A h h' → K h') : gPF h (A 22) 5 f (gi x) K := by
  subst hf; subst hx
  have hA := d.w.inj
  have ne : ∀ j, j < 31 → j ≠ 22 → A j ≠ A 22 := fun j hj hn q => hn (hA _ _ hj (by decide) q)
  refine gPF_mk d.x.1 (show 5 + i < 9 by omega) (k _ ⟨d.w.off (by decide) (by decide) _, ?_, ⟨?_, ?_, ?_⟩, fun g hg => ?_, d.ok, d.gw, d.s, ?_, d.ne⟩ (gFr.up (by decide)))
  · show gaUp _ _ _ _ = _
    rw [gaUp_ne _ _ (ne _ (by decide) (by decide))]; exact d.ru
  · rw [gaUp_self]
    rcases (show i = 0 ∨ i = 1 ∨ i = 2 ∨ i = 3 by omega) with rfl | rfl | rfl | rfl <;> rfl
  · rw [gaUp_ne _ _ (ne _ (by decide) (by decide))]; exact d.x.2.1
  · rw [gaUp_ne _ _ (ne _ (by decide) (by decide))]; exact d.x.2.2
  · obtain ⟨a0, row, a1, a2, a3, a4⟩ := d.gr g hg
    exact ⟨by rw [gaUp_ne _ _ (ne _ (by omega) (by omega))]; exact a0, row, a1, a2, by rw [gaUp_ne _ _ (ne _ (by omega) (by omega))]; exact a3, a4⟩
  · rw [gaUp_ne _ _ (d.ne _ (by decide))]; exact d.mc
abbrev okS (x : Int) : Prop := 0 ≤ x ∧ x ≤ 2
abbrev okG (x : Int) : Prop := 0 ≤ x ∧ x ≤ 1
abbrev okP (x y : Int) : Prop := (2 ≤ x ∧ x ≤ 31) ∧ 2 ≤ y ∧ y ≤ 31
abbrev bad (n : Nat) (st : GSt) : Nat × (Int → Prop) × GSt := (n, fun _ => False, st)
abbrev done (st : GSt) (r : Int) : Nat × (Int → Prop) × GSt := (0, fun x => x = r, st)
abbrev GSt.sheet (st : GSt) (w : Nat) (u : List Bool) : GSt := (pu st.S w u, st.T, pu st.C 0 (st.C 0 + 1))
abbrev GSt.turn (st : GSt) (g : Nat) (ts : List Nat) : GSt := (st.S, pu st.T g ts, pu st.C 1 (st.C 1 + 1))
abbrev GSt.refuse (st : GSt) : GSt := (st.S, st.T, pu st.C 2 (st.C 2 + 1))
theorem c_wordOf (d : gD A G h U st) {x : Int} (hx : gR x) {Q : Nat → gaH → Prop} (e : ¬ okS x → X "java/lang/IndexOutOfBoundsException" h) (k : ∀ w : Nat, w < 3 → x = (w : Int) → Q (A w) h) : w_X5_wordOf X (A 22) x h Q := by
  unfold w_X5_wordOf
  refine ⟨hx, ?_⟩
  by_cases q : x < 0
  · exact if_yes q ⟨by decide, by decide, e (by omega)⟩
  · refine if_no q (d.f0 (gAL_mk d.x.2.1 (x := 3) rfl ⟨hx, by decide, ?_⟩))
    by_cases z : x < 3
    · refine if_yes z (d.f0 ?_)
      obtain ⟨w, rfl⟩ : ∃ w : Nat, x = (w : Int) := ⟨x.toNat, by omega⟩
      refine ⟨_, A w, d.x.2.1, by omega, by omega, ?_, k w (by omega) rfl⟩
      rw [Int.toNat_natCast]
      rcases (show w = 0 ∨ w = 1 ∨ w = 2 by omega) with rfl | rfl | rfl <;> rfl
    · exact if_no z ⟨by decide, by decide, e (by omega)⟩
theorem c_growthOf (d : gD A G h U st) {x : Int} (hx : gR x) {Q : Nat → gaH → Prop} (e : ¬ okG x → X "java/lang/IndexOutOfBoundsException" h) (k : ∀ g : Nat, g < 2 → x = (g : Int) → Q (A (26 + g)) h) : w_X5_growthOf X (A 22) x h Q := by
  unfold w_X5_growthOf
  refine ⟨hx, ?_⟩
  by_cases q : x < 0
  · exact if_yes q ⟨by decide, by decide, e (by omega)⟩
  · refine if_no q (d.f1 (gAL_mk d.x.2.2 (x := 2) rfl ⟨hx, by decide, ?_⟩))
    by_cases z : x < 2
    · refine if_yes z (d.f1 ?_)
      obtain ⟨w, rfl⟩ : ∃ w : Nat, x = (w : Int) := ⟨x.toNat, by omega⟩
      refine ⟨_, A (26 + w), d.x.2.2, by omega, by omega, ?_, k w (by omega) rfl⟩
      rw [Int.toNat_natCast]
      rcases (show w = 0 ∨ w = 1 by omega) with rfl | rfl <;> rfl
    · exact if_no z ⟨by decide, by decide, e (by omega)⟩
theorem c_nI0 {Q : gaH → Prop} (e : X "java/lang/IndexOutOfBoundsException" h) : w_X5_needIndex X 0 h Q := ⟨by decide, if_yes rfl ⟨by decide, by decide, e⟩⟩
theorem c_nI1 {Q : gaH → Prop} (k : Q h) : w_X5_needIndex X 1 h Q := ⟨by decide, if_no (by decide) k⟩
theorem c_nA0 {Q : gaH → Prop} (e : X "java/lang/IllegalArgumentException" h) : w_X5_needArgument X 0 h Q := ⟨by decide, if_yes rfl ⟨by decide, by decide, e⟩⟩
theorem c_nA1 {Q : gaH → Prop} (k : Q h) : w_X5_needArgument X 1 h Q := ⟨by decide, if_no (by decide) k⟩
theorem c_nS0 {Q : gaH → Prop} (e : X "java/lang/IllegalStateException" h) : w_X5_needState X 0 h Q := ⟨by decide, if_yes rfl ⟨by decide, by decide, e⟩⟩
theorem c_nS1 {Q : gaH → Prop} (k : Q h) : w_X5_needState X 1 h Q := ⟨by decide, if_no (by decide) k⟩
theorem c_sheetDone (d : gD A G h U st) {r : Int} (k : ∀ h', gD A G h' U (st.S, st.T, pu st.C 0 (st.C 0 + 1)) → gFr A h h' → Q r h') : w_X5_sheetActDone (A 22) r h Q := d.cn (i := 0) rfl (by decide) (d.inc (i := 0) rfl (by decide) rfl k)
theorem c_growthDone (d : gD A G h U st) {r : Int} (k : ∀ h', gD A G h' U (st.S, st.T, pu st.C 1 (st.C 1 + 1)) → gFr A h h' → Q r h') : w_X5_growthActDone (A 22) r h Q := d.cn (i := 1) rfl (by decide) (d.inc (i := 1) rfl (by decide) rfl k)
theorem c_refuse (d : gD A G h U st) (k : gRes A G h E X Q (done st.refuse (-9))) : w_X5_refuse (A 22) h Q := d.cn (i := 2) rfl (by decide) (d.inc (i := 2) rfl (by decide) rfl (fun _ d' f => k.ok d' f rfl))
/-- a sheet is to have this word, and the act is done -/
theorem c_end (d : gD A G h U st) (hw : w < 3) {u : List Bool} {h1 : gaH} (w1 : gW A h1 (pu U w u)) (s1 : gSm A h h1) {r : Int} (k : gRes A G h E X Q (done (st.sheet w u) r)) : w_X5_sheetActDone (A 22) r h1 Q :=
  c_sheetDone (d.sh hw w1 s1) (fun _ d2 f => k.ok d2 ((gFr.sm s1).tr f) rfl)
theorem c_takeRule (d : gD A G h U st) {x y : Int} (hx : gR x) (hy : gR y) {Q : gaH → Prop} (e : ¬ okP x y → X "java/lang/IllegalArgumentException" h) (k : okP x y → ∀ h', gD A G h' (pu (pu U 9 (codeW x.toNat)) 10 (codeW y.toNat)) st → gSm A h h' → Q h') : w_X5_takeRule X (A 22) x y h Q := by
  have b1 : ¬ (2 ≤ x ∧ x ≤ 31) → w_X5_takeRule_J15 X Q (A 22) x y h 2 12 := fun q => by
    unfold w_X5_takeRule_J15 w_X5_takeRule_J16
    (first | refine And.intro (show gR _ from by first | assumption | omega | decide | exact b2i_R _ | exact gR_of (by omega) (by omega)) ?_ | refine And.intro (show gHas _ _ _ from by first | exact gW.has (gD.w (by assumption)) (by omega) | exact gD.has (by assumption) | exact gRu.has (gD.ru (by assumption)) | exact gGr.has (gD.gr (by assumption) _ (by omega))) ?_ | refine gCall_mk (by decide) (by decide) ?_ | refine if_yes (by first | assumption | omega | decide | exact b2i_R _ | exact gR_of (by omega) (by omega)) ?_ | refine if_no (by first | assumption | omega | decide | exact b2i_R _ | exact gR_of (by omega) (by omega)) ?_)
    exact c_nA0 (e (by omega))
  unfold w_X5_takeRule
  (first | refine And.intro (show gR _ from by first | assumption | omega | decide | exact b2i_R _ | exact gR_of (by omega) (by omega)) ?_ | refine And.intro (show gHas _ _ _ from by first | exact gW.has (gD.w (by assumption)) (by omega) | exact gD.has (by assumption) | exact gRu.has (gD.ru (by assumption)) | exact gGr.has (gD.gr (by assumption) _ (by omega))) ?_ | refine gCall_mk (by decide) (by decide) ?_ | refine if_yes (by first | assumption | omega | decide | exact b2i_R _ | exact gR_of (by omega) (by omega)) ?_ | refine if_no (by first | assumption | omega | decide | exact b2i_R _ | exact gR_of (by omega) (by omega)) ?_)
  by_cases q1 : x < 2
  · exact if_yes q1 (b1 (by omega))
  (first | refine And.intro (show gR _ from by first | assumption | omega | decide | exact b2i_R _ | exact gR_of (by omega) (by omega)) ?_ | refine And.intro (show gHas _ _ _ from by first | exact gW.has (gD.w (by assumption)) (by omega) | exact gD.has (by assumption) | exact gRu.has (gD.ru (by assumption)) | exact gGr.has (gD.gr (by assumption) _ (by omega))) ?_ | refine gCall_mk (by decide) (by decide) ?_ | refine if_yes (by first | assumption | omega | decide | exact b2i_R _ | exact gR_of (by omega) (by omega)) ?_ | refine if_no (by first | assumption | omega | decide | exact b2i_R _ | exact gR_of (by omega) (by omega)) ?_); (first | refine And.intro (show gR _ from by first | assumption | omega | decide | exact b2i_R _ | exact gR_of (by omega) (by omega)) ?_ | refine And.intro (show gHas _ _ _ from by first | exact gW.has (gD.w (by assumption)) (by omega) | exact gD.has (by assumption) | exact gRu.has (gD.ru (by assumption)) | exact gGr.has (gD.gr (by assumption) _ (by omega))) ?_ | refine gCall_mk (by decide) (by decide) ?_ | refine if_yes (by first | assumption | omega | decide | exact b2i_R _ | exact gR_of (by omega) (by omega)) ?_ | refine if_no (by first | assumption | omega | decide | exact b2i_R _ | exact gR_of (by omega) (by omega)) ?_)
  by_cases q2 : 31 < x
  · exact if_yes q2 (b1 (by omega))
  (first | refine And.intro (show gR _ from by first | assumption | omega | decide | exact b2i_R _ | exact gR_of (by omega) (by omega)) ?_ | refine And.intro (show gHas _ _ _ from by first | exact gW.has (gD.w (by assumption)) (by omega) | exact gD.has (by assumption) | exact gRu.has (gD.ru (by assumption)) | exact gGr.has (gD.gr (by assumption) _ (by omega))) ?_ | refine gCall_mk (by decide) (by decide) ?_ | refine if_yes (by first | assumption | omega | decide | exact b2i_R _ | exact gR_of (by omega) (by omega)) ?_ | refine if_no (by first | assumption | omega | decide | exact b2i_R _ | exact gR_of (by omega) (by omega)) ?_)
  unfold w_X5_takeRule_J16
  (first | refine And.intro (show gR _ from by first | assumption | omega | decide | exact b2i_R _ | exact gR_of (by omega) (by omega)) ?_ | refine And.intro (show gHas _ _ _ from by first | exact gW.has (gD.w (by assumption)) (by omega) | exact gD.has (by assumption) | exact gRu.has (gD.ru (by assumption)) | exact gGr.has (gD.gr (by assumption) _ (by omega))) ?_ | refine gCall_mk (by decide) (by decide) ?_ | refine if_yes (by first | assumption | omega | decide | exact b2i_R _ | exact gR_of (by omega) (by omega)) ?_ | refine if_no (by first | assumption | omega | decide | exact b2i_R _ | exact gR_of (by omega) (by omega)) ?_)
  refine c_nA1 ?_
  have b2 : ¬ (2 ≤ y ∧ y ≤ 31) → w_X5_takeRule_J34 X Q (A 22) x y h 1 6 := fun q => by
    unfold w_X5_takeRule_J34 w_X5_takeRule_J35
    (first | refine And.intro (show gR _ from by first | assumption | omega | decide | exact b2i_R _ | exact gR_of (by omega) (by omega)) ?_ | refine And.intro (show gHas _ _ _ from by first | exact gW.has (gD.w (by assumption)) (by omega) | exact gD.has (by assumption) | exact gRu.has (gD.ru (by assumption)) | exact gGr.has (gD.gr (by assumption) _ (by omega))) ?_ | refine gCall_mk (by decide) (by decide) ?_ | refine if_yes (by first | assumption | omega | decide | exact b2i_R _ | exact gR_of (by omega) (by omega)) ?_ | refine if_no (by first | assumption | omega | decide | exact b2i_R _ | exact gR_of (by omega) (by omega)) ?_)
    exact c_nA0 (e (by omega))
  (first | refine And.intro (show gR _ from by first | assumption | omega | decide | exact b2i_R _ | exact gR_of (by omega) (by omega)) ?_ | refine And.intro (show gHas _ _ _ from by first | exact gW.has (gD.w (by assumption)) (by omega) | exact gD.has (by assumption) | exact gRu.has (gD.ru (by assumption)) | exact gGr.has (gD.gr (by assumption) _ (by omega))) ?_ | refine gCall_mk (by decide) (by decide) ?_ | refine if_yes (by first | assumption | omega | decide | exact b2i_R _ | exact gR_of (by omega) (by omega)) ?_ | refine if_no (by first | assumption | omega | decide | exact b2i_R _ | exact gR_of (by omega) (by omega)) ?_)
  by_cases q3 : y < 2
  · exact if_yes q3 (b2 (by omega))
  (first | refine And.intro (show gR _ from by first | assumption | omega | decide | exact b2i_R _ | exact gR_of (by omega) (by omega)) ?_ | refine And.intro (show gHas _ _ _ from by first | exact gW.has (gD.w (by assumption)) (by omega) | exact gD.has (by assumption) | exact gRu.has (gD.ru (by assumption)) | exact gGr.has (gD.gr (by assumption) _ (by omega))) ?_ | refine gCall_mk (by decide) (by decide) ?_ | refine if_yes (by first | assumption | omega | decide | exact b2i_R _ | exact gR_of (by omega) (by omega)) ?_ | refine if_no (by first | assumption | omega | decide | exact b2i_R _ | exact gR_of (by omega) (by omega)) ?_); (first | refine And.intro (show gR _ from by first | assumption | omega | decide | exact b2i_R _ | exact gR_of (by omega) (by omega)) ?_ | refine And.intro (show gHas _ _ _ from by first | exact gW.has (gD.w (by assumption)) (by omega) | exact gD.has (by assumption) | exact gRu.has (gD.ru (by assumption)) | exact gGr.has (gD.gr (by assumption) _ (by omega))) ?_ | refine gCall_mk (by decide) (by decide) ?_ | refine if_yes (by first | assumption | omega | decide | exact b2i_R _ | exact gR_of (by omega) (by omega)) ?_ | refine if_no (by first | assumption | omega | decide | exact b2i_R _ | exact gR_of (by omega) (by omega)) ?_)
  by_cases q4 : 31 < y
  · exact if_yes q4 (b2 (by omega))
  (first | refine And.intro (show gR _ from by first | assumption | omega | decide | exact b2i_R _ | exact gR_of (by omega) (by omega)) ?_ | refine And.intro (show gHas _ _ _ from by first | exact gW.has (gD.w (by assumption)) (by omega) | exact gD.has (by assumption) | exact gRu.has (gD.ru (by assumption)) | exact gGr.has (gD.gr (by assumption) _ (by omega))) ?_ | refine gCall_mk (by decide) (by decide) ?_ | refine if_yes (by first | assumption | omega | decide | exact b2i_R _ | exact gR_of (by omega) (by omega)) ?_ | refine if_no (by first | assumption | omega | decide | exact b2i_R _ | exact gR_of (by omega) (by omega)) ?_)
  unfold w_X5_takeRule_J35
  (first | refine And.intro (show gR _ from by first | assumption | omega | decide | exact b2i_R _ | exact gR_of (by omega) (by omega)) ?_ | refine And.intro (show gHas _ _ _ from by first | exact gW.has (gD.w (by assumption)) (by omega) | exact gD.has (by assumption) | exact gRu.has (gD.ru (by assumption)) | exact gGr.has (gD.gr (by assumption) _ (by omega))) ?_ | refine gCall_mk (by decide) (by decide) ?_ | refine if_yes (by first | assumption | omega | decide | exact b2i_R _ | exact gR_of (by omega) (by omega)) ?_ | refine if_no (by first | assumption | omega | decide | exact b2i_R _ | exact gR_of (by omega) (by omega)) ?_)
  refine c_nA1 (d.f2 ?_)
  (first | refine And.intro (show gR _ from by first | assumption | omega | decide | exact b2i_R _ | exact gR_of (by omega) (by omega)) ?_ | refine And.intro (show gHas _ _ _ from by first | exact gW.has (gD.w (by assumption)) (by omega) | exact gD.has (by assumption) | exact gRu.has (gD.ru (by assumption)) | exact gGr.has (gD.gr (by assumption) _ (by omega))) ?_ | refine gCall_mk (by decide) (by decide) ?_ | refine if_yes (by first | assumption | omega | decide | exact b2i_R _ | exact gR_of (by omega) (by omega)) ?_ | refine if_no (by first | assumption | omega | decide | exact b2i_R _ | exact gR_of (by omega) (by omega)) ?_)
  exact s_ruleTake d.w d.ru (c := x.toNat) (d := y.toNat) (by omega) (by omega) (by omega) (by omega) (fun h' w' s' => k ⟨⟨by omega, by omega⟩, by omega, by omega⟩ h' (d.b w' s' (fun v hv => by rw [pu_ne _ _ (by omega), pu_ne _ _ (by omega)]) (fun v _ hv => by rw [pu_ne _ _ (by omega), pu_ne _ _ (by omega)])) s')
def exch (st : GSt) (w : Nat) (f t : Nat) (v : List Bool) : Nat × (Int → Prop) × GSt :=
  if (st.S w).length - (t - f) + v.length ≤ 64 then done (st.sheet w ((st.S w).take f ++ v ++ (st.S w).drop t)) (((st.S w).take f ++ v ++ (st.S w).drop t).length : Int) else done st.refuse (-9)
theorem c_exch (d : gD A G h U st) (hw : w < 3) (hv : v < 11) (hv3 : v ≠ 3) {x y : Int} {f t : Nat} (hx : x = (f : Int)) (hy : y = (t : Int)) (hft : f ≤ t) (ht : t ≤ (U w).length) (k : gRes A G h E X Q (exch st w f t (U v))) : w_X5_exchangePart (A 22) (A w) x y (A v) h Q := by
  subst hx; subst hy
  have l1 := d.w.le (show w < 11 by omega)
  have l2 := d.w.le hv
  have e0 := d.s w hw
  unfold exch at k
  rw [← e0] at k
  unfold w_X5_exchangePart
  refine d.w.many (by omega) (d.w.many hv ?_)
  (first | refine And.intro (show gR _ from by first | assumption | omega | decide | exact b2i_R _ | exact gR_of (by omega) (by omega)) ?_ | refine And.intro (show gHas _ _ _ from by first | exact gW.has (gD.w (by assumption)) (by omega) | exact gD.has (by assumption) | exact gRu.has (gD.ru (by assumption)) | exact gGr.has (gD.gr (by assumption) _ (by omega))) ?_ | refine gCall_mk (by decide) (by decide) ?_ | refine if_yes (by first | assumption | omega | decide | exact b2i_R _ | exact gR_of (by omega) (by omega)) ?_ | refine if_no (by first | assumption | omega | decide | exact b2i_R _ | exact gR_of (by omega) (by omega)) ?_)
  by_cases q : (U w).length - (t - f) + (U v).length ≤ 64
  · rw [if_pos q] at k
    refine if_yes (by omega) (d.f3 ?_)
    (first | refine And.intro (show gR _ from by first | assumption | omega | decide | exact b2i_R _ | exact gR_of (by omega) (by omega)) ?_ | refine And.intro (show gHas _ _ _ from by first | exact gW.has (gD.w (by assumption)) (by omega) | exact gD.has (by assumption) | exact gRu.has (gD.ru (by assumption)) | exact gGr.has (gD.gr (by assumption) _ (by omega))) ?_ | refine gCall_mk (by decide) (by decide) ?_ | refine if_yes (by first | assumption | omega | decide | exact b2i_R _ | exact gR_of (by omega) (by omega)) ?_ | refine if_no (by first | assumption | omega | decide | exact b2i_R _ | exact gR_of (by omega) (by omega)) ?_)
    refine v_clear d.w (by decide) (fun h1 V1 w1 s1 e1 o1 => ?_)
    have d1 := d.b w1 s1 (fun v hv => o1 _ (by omega)) (fun v h5 _ => o1 _ (by omega))
    refine d1.f3 ?_
    (first | refine And.intro (show gR _ from by first | assumption | omega | decide | exact b2i_R _ | exact gR_of (by omega) (by omega)) ?_ | refine And.intro (show gHas _ _ _ from by first | exact gW.has (gD.w (by assumption)) (by omega) | exact gD.has (by assumption) | exact gRu.has (gD.ru (by assumption)) | exact gGr.has (gD.gr (by assumption) _ (by omega))) ?_ | refine gCall_mk (by decide) (by decide) ?_ | refine if_yes (by first | assumption | omega | decide | exact b2i_R _ | exact gR_of (by omega) (by omega)) ?_ | refine if_no (by first | assumption | omega | decide | exact b2i_R _ | exact gR_of (by omega) (by omega)) ?_)
    have a1 := o1 w (by omega)
    refine v_addPart w1 (show 3 < 11 by decide) (show w < 11 by omega) (by omega) (i := 0) (t := f) rfl rfl (Nat.zero_le _) (by rw [a1]; omega) (by rw [e1]; simp; omega) (fun h2 V2 w2 s2 e2 o2 => ?_)
    rw [e1, a1] at e2
    have d2 := d1.b w2 s2 (fun v hv => o2 _ (by omega)) (fun v h5 _ => o2 _ (by omega))
    refine d2.f3 (d2.w.many hv ?_)
    have a2 : V2 v = U v := (o2 v hv3).trans (o1 v hv3)
    rw [a2]
    (first | refine And.intro (show gR _ from by first | assumption | omega | decide | exact b2i_R _ | exact gR_of (by omega) (by omega)) ?_ | refine And.intro (show gHas _ _ _ from by first | exact gW.has (gD.w (by assumption)) (by omega) | exact gD.has (by assumption) | exact gRu.has (gD.ru (by assumption)) | exact gGr.has (gD.gr (by assumption) _ (by omega))) ?_ | refine gCall_mk (by decide) (by decide) ?_ | refine if_yes (by first | assumption | omega | decide | exact b2i_R _ | exact gR_of (by omega) (by omega)) ?_ | refine if_no (by first | assumption | omega | decide | exact b2i_R _ | exact gR_of (by omega) (by omega)) ?_)
    refine v_addPart w2 (show 3 < 11 by decide) hv hv3 (i := 0) (t := (U v).length) rfl rfl (Nat.zero_le _) (by rw [a2]; omega) (by rw [e2]; simp; omega) (fun h3 V3 w3 s3 e3 o3 => ?_)
    rw [e2, a2] at e3
    have d3 := d2.b w3 s3 (fun v hv => o3 _ (by omega)) (fun v h5 _ => o3 _ (by omega))
    have a3 : V3 w = U w := (o3 w (by omega)).trans ((o2 w (by omega)).trans a1)
    refine d3.f3 (d3.w.many (show w < 11 by omega) ?_)
    rw [a3]
    (first | refine And.intro (show gR _ from by first | assumption | omega | decide | exact b2i_R _ | exact gR_of (by omega) (by omega)) ?_ | refine And.intro (show gHas _ _ _ from by first | exact gW.has (gD.w (by assumption)) (by omega) | exact gD.has (by assumption) | exact gRu.has (gD.ru (by assumption)) | exact gGr.has (gD.gr (by assumption) _ (by omega))) ?_ | refine gCall_mk (by decide) (by decide) ?_ | refine if_yes (by first | assumption | omega | decide | exact b2i_R _ | exact gR_of (by omega) (by omega)) ?_ | refine if_no (by first | assumption | omega | decide | exact b2i_R _ | exact gR_of (by omega) (by omega)) ?_)
    refine v_addPart w3 (show 3 < 11 by decide) (show w < 11 by omega) (by omega) (i := t) (t := (U w).length) rfl rfl ht (by rw [a3]; omega) (by rw [e3]; simp; omega) (fun h4 V4 w4 s4 e4 o4 => ?_)
    rw [e3, a3] at e4
    have e5 : V4 3 = (U w).take f ++ U v ++ (U w).drop t := by rw [e4]; simp [List.take_of_length_le]
    have d4 := d3.b w4 s4 (fun v hv => o4 _ (by omega)) (fun v h5 _ => o4 _ (by omega))
    refine d4.f3 ?_
    (first | refine And.intro (show gR _ from by first | assumption | omega | decide | exact b2i_R _ | exact gR_of (by omega) (by omega)) ?_ | refine And.intro (show gHas _ _ _ from by first | exact gW.has (gD.w (by assumption)) (by omega) | exact gD.has (by assumption) | exact gRu.has (gD.ru (by assumption)) | exact gGr.has (gD.gr (by assumption) _ (by omega))) ?_ | refine gCall_mk (by decide) (by decide) ?_ | refine if_yes (by first | assumption | omega | decide | exact b2i_R _ | exact gR_of (by omega) (by omega)) ?_ | refine if_no (by first | assumption | omega | decide | exact b2i_R _ | exact gR_of (by omega) (by omega)) ?_)
    refine s_take w4 (show w < 11 by omega) (show 3 < 11 by decide) (fun h5 w5 s5 => ?_)
    rw [e5] at w5
    refine w5.many (show w < 11 by omega) ?_
    rw [pu_self]
    have d5 := d4.sh hw w5 s5
    (first | refine And.intro (show gR _ from by first | assumption | omega | decide | exact b2i_R _ | exact gR_of (by omega) (by omega)) ?_ | refine And.intro (show gHas _ _ _ from by first | exact gW.has (gD.w (by assumption)) (by omega) | exact gD.has (by assumption) | exact gRu.has (gD.ru (by assumption)) | exact gGr.has (gD.gr (by assumption) _ (by omega))) ?_ | refine gCall_mk (by decide) (by decide) ?_ | refine if_yes (by first | assumption | omega | decide | exact b2i_R _ | exact gR_of (by omega) (by omega)) ?_ | refine if_no (by first | assumption | omega | decide | exact b2i_R _ | exact gR_of (by omega) (by omega)) ?_)
    exact c_end d4 hw w5 s5 (k.on ((gFr.sm s1).tr ((gFr.sm s2).tr ((gFr.sm s3).tr (gFr.sm s4)))))
  · rw [if_neg q] at k
    refine if_no (by omega) ?_
    (first | refine And.intro (show gR _ from by first | assumption | omega | decide | exact b2i_R _ | exact gR_of (by omega) (by omega)) ?_ | refine And.intro (show gHas _ _ _ from by first | exact gW.has (gD.w (by assumption)) (by omega) | exact gD.has (by assumption) | exact gRu.has (gD.ru (by assumption)) | exact gGr.has (gD.gr (by assumption) _ (by omega))) ?_ | refine gCall_mk (by decide) (by decide) ?_ | refine if_yes (by first | assumption | omega | decide | exact b2i_R _ | exact gR_of (by omega) (by omega)) ?_ | refine if_no (by first | assumption | omega | decide | exact b2i_R _ | exact gR_of (by omega) (by omega)) ?_)
    exact c_refuse d k
def settled (st : GSt) (w : Nat) (u : List Bool) : Nat × (Int → Prop) × GSt := done (st.sheet w u) (if st.S w = u then 0 else 1)
theorem c_settle (d : gD A G h U st) (hw : w < 3) (hv : v < 11) (k : gRes A G h E X Q (settled st w (U v))) : w_X5_settle (A 22) (A w) (A v) h Q := by
  have e0 := d.s w hw
  unfold settled at k
  rw [← e0] at k
  unfold w_X5_settle
  refine s_orderOf d.w (by omega) hv ?_
  have r1 := cmpL_R (U w) (U v)
  have r2 := cmpL_eq (U w) (U v)
  (first | refine And.intro (show gR _ from by first | assumption | omega | decide | exact b2i_R _ | exact gR_of (by omega) (by omega)) ?_ | refine And.intro (show gHas _ _ _ from by first | exact gW.has (gD.w (by assumption)) (by omega) | exact gD.has (by assumption) | exact gRu.has (gD.ru (by assumption)) | exact gGr.has (gD.gr (by assumption) _ (by omega))) ?_ | refine gCall_mk (by decide) (by decide) ?_ | refine if_yes (by first | assumption | omega | decide | exact b2i_R _ | exact gR_of (by omega) (by omega)) ?_ | refine if_no (by first | assumption | omega | decide | exact b2i_R _ | exact gR_of (by omega) (by omega)) ?_)
  have fin : ∀ t : Int, t = (if U w = U v then 1 else 0) → w_X5_settle_J13 Q (A 22) (A w) (A v) t h := by
    intro t ht
    unfold w_X5_settle_J13
    (first | refine And.intro (show gR _ from by first | assumption | omega | decide | exact b2i_R _ | exact gR_of (by omega) (by omega)) ?_ | refine And.intro (show gHas _ _ _ from by first | exact gW.has (gD.w (by assumption)) (by omega) | exact gD.has (by assumption) | exact gRu.has (gD.ru (by assumption)) | exact gGr.has (gD.gr (by assumption) _ (by omega))) ?_ | refine gCall_mk (by decide) (by decide) ?_ | refine if_yes (by first | assumption | omega | decide | exact b2i_R _ | exact gR_of (by omega) (by omega)) ?_ | refine if_no (by first | assumption | omega | decide | exact b2i_R _ | exact gR_of (by omega) (by omega)) ?_)
    refine s_take d.w (show w < 11 by omega) hv (fun h1 w1 s1 => ?_)
    have d1 := d.sh hw w1 s1
    by_cases q : U w = U v
    · rw [if_pos q] at ht k
      subst ht
      (repeat (first | refine And.intro (show gR _ from by first | assumption | omega | decide | exact b2i_R _ | exact gR_of (by omega) (by omega)) ?_ | refine And.intro (show gHas _ _ _ from by first | exact gW.has (gD.w (by assumption)) (by omega) | exact gD.has (by assumption) | exact gRu.has (gD.ru (by assumption)) | exact gGr.has (gD.gr (by assumption) _ (by omega))) ?_ | refine gCall_mk (by decide) (by decide) ?_ | refine if_yes (by first | assumption | omega | decide | exact b2i_R _ | exact gR_of (by omega) (by omega)) ?_ | refine if_no (by first | assumption | omega | decide | exact b2i_R _ | exact gR_of (by omega) (by omega)) ?_))
      exact c_end d hw w1 s1 k
    · rw [if_neg q] at ht k
      subst ht
      (repeat (first | refine And.intro (show gR _ from by first | assumption | omega | decide | exact b2i_R _ | exact gR_of (by omega) (by omega)) ?_ | refine And.intro (show gHas _ _ _ from by first | exact gW.has (gD.w (by assumption)) (by omega) | exact gD.has (by assumption) | exact gRu.has (gD.ru (by assumption)) | exact gGr.has (gD.gr (by assumption) _ (by omega))) ?_ | refine gCall_mk (by decide) (by decide) ?_ | refine if_yes (by first | assumption | omega | decide | exact b2i_R _ | exact gR_of (by omega) (by omega)) ?_ | refine if_no (by first | assumption | omega | decide | exact b2i_R _ | exact gR_of (by omega) (by omega)) ?_))
      exact c_end d hw w1 s1 k
  by_cases q : U w = U v
  · exact if_yes (r2.mpr q) (fin 1 (by rw [if_pos q]))
  · exact if_no (fun z => q (r2.mp z)) (fin 0 (by rw [if_neg q]))
end GD
/-! The garden's acts. -/
abbrev eI : String := "java/lang/IndexOutOfBoundsException"
abbrev eA : String := "java/lang/IllegalArgumentException"
abbrev eS : String := "java/lang/IllegalStateException"
section RG
variable {A : Nat → Nat} {h : gaH} {U : Nat → List Bool} {w v : Nat}
theorem ring_at {u : List Bool} {p : Nat} (hp : p < 2 * u.length) : u.getD (if p < u.length then p else p - u.length) false = (u ++ u).getD p false := by
  simp only [List.getD_eq_getElem?_getD, List.getElem?_append]
  split <;> rfl
theorem f_upsInPart_L (gw : gW A h U) (hw : w < 11) {a l : Nat} (hal : l = 0 ∨ (a < (U w).length ∧ l ≤ (U w).length)) (ha : a ≤ 64) (hl : l ≤ 64) {Q : Int → gaH → Prop} : ∀ (n i c : Nat), i ≤ l → l - i < n → c ≤ i → Q ((c + ones (((U w ++ U w).drop (a + i)).take (l - i)) : Nat) : Int) h → w_X1_upsInPart_L5 Q n (A w) (a : Int) (l : Int) (c : Int) ((a : Int) + (i : Int)) h
  | 0, i, _, _, h1, _, _ => absurd h1 (Nat.not_lt_zero _)
  | n + 1, i, c, hi, h1, hc, k => by
    have l1 := gw.le hw
    unfold w_X1_upsInPart_L5
    refine ⟨gR_of (by omega) (by omega), gR_of (by omega) (by omega), ?_⟩
    by_cases q : l ≤ i
    · rw [show l - i = 0 by omega, List.take_zero] at k
      exact if_yes (by omega) k
    · have e1 : (a : Int) + (i : Int) + 1 = (a : Int) + ((i + 1 : Nat) : Int) := by omega
      refine if_no (by omega) (s_onRing (p := a + i) gw hw (by omega) (by omega) ⟨b2i_R _, ?_⟩)
      rw [ring_at (show a + i < 2 * (U w).length by omega)]
      rw [show l - i = (l - (i + 1)) + 1 by omega, take_one (u := U w ++ U w) (i := a + i) (by simp; omega), List.take_succ_cons, show a + i + 1 = a + (i + 1) by omega] at k
      generalize (U w ++ U w).getD (a + i) false = y at k
      cases y
      · refine if_yes rfl ?_
        rw [e1]
        exact f_upsInPart_L gw hw hal ha hl n (i + 1) c (by omega) (by omega) (by omega) (by simpa [ones] using k)
      · refine if_no (by decide) ?_
        rw [e1, show (c : Int) + 1 = ((c + 1 : Nat) : Int) by omega]
        refine f_upsInPart_L gw hw hal ha hl n (i + 1) (c + 1) (by omega) (by omega) (by omega) ?_
        have e2 : c + 1 + ones (((U w ++ U w).drop (a + (i + 1))).take (l - (i + 1))) = c + ones (true :: ((U w ++ U w).drop (a + (i + 1))).take (l - (i + 1))) := by simp [ones]; omega
        rw [e2]; exact k
theorem f_upsInPart (gw : gW A h U) (hw : w < 11) {x y : Int} {a l : Nat} (hx : x = (a : Int)) (hy : y = (l : Int)) (hal : l = 0 ∨ (a < (U w).length ∧ l ≤ (U w).length)) (ha : a ≤ 64) (hl : l ≤ 64) {Q : Int → gaH → Prop} (k : Q (ones (((U w ++ U w).drop a).take l) : Int) h) : w_X1_upsInPart (A w) x y h Q := by
  subst hx; subst hy
  refine ⟨l + 1, ?_⟩
  have := f_upsInPart_L gw hw hal ha hl (Q := Q) (l + 1) 0 0 (Nat.zero_le _) (by omega) (Nat.le_refl _) (by simpa using k)
  rw [show (a : Int) + ((0 : Nat) : Int) = (a : Int) by omega] at this
  exact this
theorem part_in {u : List Bool} {a l : Nat} (h : a + l ≤ u.length) : ((u ++ u).drop a).take l = (u.drop a).take l := by
  rw [List.drop_append_of_le_length (by omega), List.take_append_of_le_length (by simp; omega)]
end RG
section CA
variable {A : Nat → Nat} {G : gaG} {h : gaH} {U : Nat → List Bool} {st : GSt} {X : String → gaH → Prop} {Q : Int → gaH → Prop} {w v g : Nat} {x y z : Int}
def m_write (st : GSt) (x c : Int) : Nat × (Int → Prop) × GSt :=
  if okS x then if 1 ≤ c ∧ c ≤ 65535 then done (st.sheet x.toNat (codeW c.toNat)) ((codeW c.toNat).length : Int) else bad 2 st else bad 1 st
theorem c_write (d : gD A G h U st) {c : Int} (hx : gR x) (hc : gR c) (k : gRes A G h [eI, eA] X Q (m_write st x c)) : w_X5_write X (A 22) x c h Q := by
  unfold w_X5_write
  (first | refine And.intro (show gR _ from by first | assumption | omega | decide | exact b2i_R _ | exact gR_of (by omega) (by omega)) ?_ | refine And.intro (show gHas _ _ _ from by first | exact gW.has (gD.w (by assumption)) (by omega) | exact gD.has (by assumption) | exact gRu.has (gD.ru (by assumption)) | exact gGr.has (gD.gr (by assumption) _ (by omega))) ?_ | refine gCall_mk (by decide) (by decide) ?_ | refine if_yes (by first | assumption | omega | decide | exact b2i_R _ | exact gR_of (by omega) (by omega)) ?_ | refine if_no (by first | assumption | omega | decide | exact b2i_R _ | exact gR_of (by omega) (by omega)) ?_); (first | refine And.intro (show gR _ from by first | assumption | omega | decide | exact b2i_R _ | exact gR_of (by omega) (by omega)) ?_ | refine And.intro (show gHas _ _ _ from by first | exact gW.has (gD.w (by assumption)) (by omega) | exact gD.has (by assumption) | exact gRu.has (gD.ru (by assumption)) | exact gGr.has (gD.gr (by assumption) _ (by omega))) ?_ | refine gCall_mk (by decide) (by decide) ?_ | refine if_yes (by first | assumption | omega | decide | exact b2i_R _ | exact gR_of (by omega) (by omega)) ?_ | refine if_no (by first | assumption | omega | decide | exact b2i_R _ | exact gR_of (by omega) (by omega)) ?_)
  refine c_wordOf d hx (fun q => by rw [m_write, if_neg q] at k; exact k.ex d gFr.rf) (fun w hw e => ?_)
  subst e
  rw [m_write, if_pos (show okS (w : Int) by omega)] at k
  have b : ¬ (1 ≤ c ∧ c ≤ 65535) → w_X5_write_J21 X Q (A 22) c (A w) h 1 6 := fun q => by
    rw [if_neg q] at k
    unfold w_X5_write_J21 w_X5_write_J22
    (first | refine And.intro (show gR _ from by first | assumption | omega | decide | exact b2i_R _ | exact gR_of (by omega) (by omega)) ?_ | refine And.intro (show gHas _ _ _ from by first | exact gW.has (gD.w (by assumption)) (by omega) | exact gD.has (by assumption) | exact gRu.has (gD.ru (by assumption)) | exact gGr.has (gD.gr (by assumption) _ (by omega))) ?_ | refine gCall_mk (by decide) (by decide) ?_ | refine if_yes (by first | assumption | omega | decide | exact b2i_R _ | exact gR_of (by omega) (by omega)) ?_ | refine if_no (by first | assumption | omega | decide | exact b2i_R _ | exact gR_of (by omega) (by omega)) ?_)
    exact c_nA0 (k.ex d gFr.rf)
  (first | refine And.intro (show gR _ from by first | assumption | omega | decide | exact b2i_R _ | exact gR_of (by omega) (by omega)) ?_ | refine And.intro (show gHas _ _ _ from by first | exact gW.has (gD.w (by assumption)) (by omega) | exact gD.has (by assumption) | exact gRu.has (gD.ru (by assumption)) | exact gGr.has (gD.gr (by assumption) _ (by omega))) ?_ | refine gCall_mk (by decide) (by decide) ?_ | refine if_yes (by first | assumption | omega | decide | exact b2i_R _ | exact gR_of (by omega) (by omega)) ?_ | refine if_no (by first | assumption | omega | decide | exact b2i_R _ | exact gR_of (by omega) (by omega)) ?_)
  by_cases q1 : c < 1
  · exact if_yes q1 (b (by omega))
  (first | refine And.intro (show gR _ from by first | assumption | omega | decide | exact b2i_R _ | exact gR_of (by omega) (by omega)) ?_ | refine And.intro (show gHas _ _ _ from by first | exact gW.has (gD.w (by assumption)) (by omega) | exact gD.has (by assumption) | exact gRu.has (gD.ru (by assumption)) | exact gGr.has (gD.gr (by assumption) _ (by omega))) ?_ | refine gCall_mk (by decide) (by decide) ?_ | refine if_yes (by first | assumption | omega | decide | exact b2i_R _ | exact gR_of (by omega) (by omega)) ?_ | refine if_no (by first | assumption | omega | decide | exact b2i_R _ | exact gR_of (by omega) (by omega)) ?_); (first | refine And.intro (show gR _ from by first | assumption | omega | decide | exact b2i_R _ | exact gR_of (by omega) (by omega)) ?_ | refine And.intro (show gHas _ _ _ from by first | exact gW.has (gD.w (by assumption)) (by omega) | exact gD.has (by assumption) | exact gRu.has (gD.ru (by assumption)) | exact gGr.has (gD.gr (by assumption) _ (by omega))) ?_ | refine gCall_mk (by decide) (by decide) ?_ | refine if_yes (by first | assumption | omega | decide | exact b2i_R _ | exact gR_of (by omega) (by omega)) ?_ | refine if_no (by first | assumption | omega | decide | exact b2i_R _ | exact gR_of (by omega) (by omega)) ?_)
  by_cases q2 : 65535 < c
  · exact if_yes q2 (b (by omega))
  (first | refine And.intro (show gR _ from by first | assumption | omega | decide | exact b2i_R _ | exact gR_of (by omega) (by omega)) ?_ | refine And.intro (show gHas _ _ _ from by first | exact gW.has (gD.w (by assumption)) (by omega) | exact gD.has (by assumption) | exact gRu.has (gD.ru (by assumption)) | exact gGr.has (gD.gr (by assumption) _ (by omega))) ?_ | refine gCall_mk (by decide) (by decide) ?_ | refine if_yes (by first | assumption | omega | decide | exact b2i_R _ | exact gR_of (by omega) (by omega)) ?_ | refine if_no (by first | assumption | omega | decide | exact b2i_R _ | exact gR_of (by omega) (by omega)) ?_)
  rw [if_pos ⟨by omega, by omega⟩, Int.toNat_natCast] at k
  obtain ⟨n, rfl⟩ : ∃ n : Nat, c = n := ⟨c.toNat, by omega⟩
  unfold w_X5_write_J22
  (first | refine And.intro (show gR _ from by first | assumption | omega | decide | exact b2i_R _ | exact gR_of (by omega) (by omega)) ?_ | refine And.intro (show gHas _ _ _ from by first | exact gW.has (gD.w (by assumption)) (by omega) | exact gD.has (by assumption) | exact gRu.has (gD.ru (by assumption)) | exact gGr.has (gD.gr (by assumption) _ (by omega))) ?_ | refine gCall_mk (by decide) (by decide) ?_ | refine if_yes (by first | assumption | omega | decide | exact b2i_R _ | exact gR_of (by omega) (by omega)) ?_ | refine if_no (by first | assumption | omega | decide | exact b2i_R _ | exact gR_of (by omega) (by omega)) ?_)
  refine c_nA1 ?_
  (first | refine And.intro (show gR _ from by first | assumption | omega | decide | exact b2i_R _ | exact gR_of (by omega) (by omega)) ?_ | refine And.intro (show gHas _ _ _ from by first | exact gW.has (gD.w (by assumption)) (by omega) | exact gD.has (by assumption) | exact gRu.has (gD.ru (by assumption)) | exact gGr.has (gD.gr (by assumption) _ (by omega))) ?_ | refine gCall_mk (by decide) (by decide) ?_ | refine if_yes (by first | assumption | omega | decide | exact b2i_R _ | exact gR_of (by omega) (by omega)) ?_ | refine if_no (by first | assumption | omega | decide | exact b2i_R _ | exact gR_of (by omega) (by omega)) ?_)
  refine s_takeCode d.w (by omega) rfl (by omega) (fun h1 w1 s1 => ?_)
  refine w1.many (show w < 11 by omega) ?_
  rw [pu_self]
  have d1 := d.sh hw w1 s1
  (first | refine And.intro (show gR _ from by first | assumption | omega | decide | exact b2i_R _ | exact gR_of (by omega) (by omega)) ?_ | refine And.intro (show gHas _ _ _ from by first | exact gW.has (gD.w (by assumption)) (by omega) | exact gD.has (by assumption) | exact gRu.has (gD.ru (by assumption)) | exact gGr.has (gD.gr (by assumption) _ (by omega))) ?_ | refine gCall_mk (by decide) (by decide) ?_ | refine if_yes (by first | assumption | omega | decide | exact b2i_R _ | exact gR_of (by omega) (by omega)) ?_ | refine if_no (by first | assumption | omega | decide | exact b2i_R _ | exact gR_of (by omega) (by omega)) ?_)
  exact c_end d hw w1 s1 k
def m_append (st : GSt) (x y : Int) : Nat × (Int → Prop) × GSt :=
  if okS x then if okS y then exch st x.toNat (st.S x.toNat).length (st.S x.toNat).length (st.S y.toNat) else bad 1 st else bad 1 st
theorem c_append (d : gD A G h U st) (hx : gR x) (hy : gR y) (k : gRes A G h [eI] X Q (m_append st x y)) : w_X5_append X (A 22) x y h Q := by
  unfold w_X5_append
  (first | refine And.intro (show gR _ from by first | assumption | omega | decide | exact b2i_R _ | exact gR_of (by omega) (by omega)) ?_ | refine And.intro (show gHas _ _ _ from by first | exact gW.has (gD.w (by assumption)) (by omega) | exact gD.has (by assumption) | exact gRu.has (gD.ru (by assumption)) | exact gGr.has (gD.gr (by assumption) _ (by omega))) ?_ | refine gCall_mk (by decide) (by decide) ?_ | refine if_yes (by first | assumption | omega | decide | exact b2i_R _ | exact gR_of (by omega) (by omega)) ?_ | refine if_no (by first | assumption | omega | decide | exact b2i_R _ | exact gR_of (by omega) (by omega)) ?_); (first | refine And.intro (show gR _ from by first | assumption | omega | decide | exact b2i_R _ | exact gR_of (by omega) (by omega)) ?_ | refine And.intro (show gHas _ _ _ from by first | exact gW.has (gD.w (by assumption)) (by omega) | exact gD.has (by assumption) | exact gRu.has (gD.ru (by assumption)) | exact gGr.has (gD.gr (by assumption) _ (by omega))) ?_ | refine gCall_mk (by decide) (by decide) ?_ | refine if_yes (by first | assumption | omega | decide | exact b2i_R _ | exact gR_of (by omega) (by omega)) ?_ | refine if_no (by first | assumption | omega | decide | exact b2i_R _ | exact gR_of (by omega) (by omega)) ?_)
  refine c_wordOf d hx (fun q => by rw [m_append, if_neg q] at k; exact k.ex d gFr.rf) (fun w hw e => ?_)
  subst e
  rw [m_append, if_pos (show okS (w : Int) by omega)] at k
  refine d.w.many (by omega) (d.w.many (by omega) ?_)
  (first | refine And.intro (show gR _ from by first | assumption | omega | decide | exact b2i_R _ | exact gR_of (by omega) (by omega)) ?_ | refine And.intro (show gHas _ _ _ from by first | exact gW.has (gD.w (by assumption)) (by omega) | exact gD.has (by assumption) | exact gRu.has (gD.ru (by assumption)) | exact gGr.has (gD.gr (by assumption) _ (by omega))) ?_ | refine gCall_mk (by decide) (by decide) ?_ | refine if_yes (by first | assumption | omega | decide | exact b2i_R _ | exact gR_of (by omega) (by omega)) ?_ | refine if_no (by first | assumption | omega | decide | exact b2i_R _ | exact gR_of (by omega) (by omega)) ?_); (first | refine And.intro (show gR _ from by first | assumption | omega | decide | exact b2i_R _ | exact gR_of (by omega) (by omega)) ?_ | refine And.intro (show gHas _ _ _ from by first | exact gW.has (gD.w (by assumption)) (by omega) | exact gD.has (by assumption) | exact gRu.has (gD.ru (by assumption)) | exact gGr.has (gD.gr (by assumption) _ (by omega))) ?_ | refine gCall_mk (by decide) (by decide) ?_ | refine if_yes (by first | assumption | omega | decide | exact b2i_R _ | exact gR_of (by omega) (by omega)) ?_ | refine if_no (by first | assumption | omega | decide | exact b2i_R _ | exact gR_of (by omega) (by omega)) ?_)
  refine c_wordOf d hy (fun q => by rw [if_neg q] at k; exact k.ex d gFr.rf) (fun v hv e => ?_)
  subst e
  rw [if_pos (show okS (v : Int) by omega), Int.toNat_natCast, Int.toNat_natCast, ← d.s v hv, ← d.s w hw] at k
  (first | refine And.intro (show gR _ from by first | assumption | omega | decide | exact b2i_R _ | exact gR_of (by omega) (by omega)) ?_ | refine And.intro (show gHas _ _ _ from by first | exact gW.has (gD.w (by assumption)) (by omega) | exact gD.has (by assumption) | exact gRu.has (gD.ru (by assumption)) | exact gGr.has (gD.gr (by assumption) _ (by omega))) ?_ | refine gCall_mk (by decide) (by decide) ?_ | refine if_yes (by first | assumption | omega | decide | exact b2i_R _ | exact gR_of (by omega) (by omega)) ?_ | refine if_no (by first | assumption | omega | decide | exact b2i_R _ | exact gR_of (by omega) (by omega)) ?_)
  exact c_exch d hw (by omega) (by omega) rfl rfl (Nat.le_refl _) (Nat.le_refl _) k
def m_insertSign (st : GSt) (x y : Int) (b : Bool) : Nat × (Int → Prop) × GSt :=
  if okS x then if 0 ≤ y ∧ y ≤ ((st.S x.toNat).length : Int) then exch st x.toNat y.toNat y.toNat [b] else bad 1 st else bad 1 st
theorem c_insertSign (d : gD A G h U st) {b : Bool} (hx : gR x) (hy : gR y) (hz : z = b2i b) (k : gRes A G h [eI] X Q (m_insertSign st x y b)) : w_X5_insertSign X (A 22) x y z h Q := by
  unfold w_X5_insertSign
  (first | refine And.intro (show gR _ from by first | assumption | omega | decide | exact b2i_R _ | exact gR_of (by omega) (by omega)) ?_ | refine And.intro (show gHas _ _ _ from by first | exact gW.has (gD.w (by assumption)) (by omega) | exact gD.has (by assumption) | exact gRu.has (gD.ru (by assumption)) | exact gGr.has (gD.gr (by assumption) _ (by omega))) ?_ | refine gCall_mk (by decide) (by decide) ?_ | refine if_yes (by first | assumption | omega | decide | exact b2i_R _ | exact gR_of (by omega) (by omega)) ?_ | refine if_no (by first | assumption | omega | decide | exact b2i_R _ | exact gR_of (by omega) (by omega)) ?_); (first | refine And.intro (show gR _ from by first | assumption | omega | decide | exact b2i_R _ | exact gR_of (by omega) (by omega)) ?_ | refine And.intro (show gHas _ _ _ from by first | exact gW.has (gD.w (by assumption)) (by omega) | exact gD.has (by assumption) | exact gRu.has (gD.ru (by assumption)) | exact gGr.has (gD.gr (by assumption) _ (by omega))) ?_ | refine gCall_mk (by decide) (by decide) ?_ | refine if_yes (by first | assumption | omega | decide | exact b2i_R _ | exact gR_of (by omega) (by omega)) ?_ | refine if_no (by first | assumption | omega | decide | exact b2i_R _ | exact gR_of (by omega) (by omega)) ?_)
  refine c_wordOf d hx (fun q => by rw [m_insertSign, if_neg q] at k; exact k.ex d gFr.rf) (fun w hw e => ?_)
  subst e
  have l1 := d.w.le (show w < 11 by omega)
  rw [m_insertSign, if_pos (show okS (w : Int) by omega), Int.toNat_natCast, ← d.s w hw] at k
  have bd : ¬ (0 ≤ y ∧ y ≤ ((U w).length : Int)) → w_X5_insertSign_J24 X Q (A 22) y z (A w) h 1 6 := fun q => by
    rw [if_neg q] at k
    unfold w_X5_insertSign_J24 w_X5_insertSign_J25
    (first | refine And.intro (show gR _ from by first | assumption | omega | decide | exact b2i_R _ | exact gR_of (by omega) (by omega)) ?_ | refine And.intro (show gHas _ _ _ from by first | exact gW.has (gD.w (by assumption)) (by omega) | exact gD.has (by assumption) | exact gRu.has (gD.ru (by assumption)) | exact gGr.has (gD.gr (by assumption) _ (by omega))) ?_ | refine gCall_mk (by decide) (by decide) ?_ | refine if_yes (by first | assumption | omega | decide | exact b2i_R _ | exact gR_of (by omega) (by omega)) ?_ | refine if_no (by first | assumption | omega | decide | exact b2i_R _ | exact gR_of (by omega) (by omega)) ?_)
    exact c_nI0 (k.ex d gFr.rf)
  (first | refine And.intro (show gR _ from by first | assumption | omega | decide | exact b2i_R _ | exact gR_of (by omega) (by omega)) ?_ | refine And.intro (show gHas _ _ _ from by first | exact gW.has (gD.w (by assumption)) (by omega) | exact gD.has (by assumption) | exact gRu.has (gD.ru (by assumption)) | exact gGr.has (gD.gr (by assumption) _ (by omega))) ?_ | refine gCall_mk (by decide) (by decide) ?_ | refine if_yes (by first | assumption | omega | decide | exact b2i_R _ | exact gR_of (by omega) (by omega)) ?_ | refine if_no (by first | assumption | omega | decide | exact b2i_R _ | exact gR_of (by omega) (by omega)) ?_)
  by_cases q1 : y < 0
  · exact if_yes q1 (bd (by omega))
  (first | refine And.intro (show gR _ from by first | assumption | omega | decide | exact b2i_R _ | exact gR_of (by omega) (by omega)) ?_ | refine And.intro (show gHas _ _ _ from by first | exact gW.has (gD.w (by assumption)) (by omega) | exact gD.has (by assumption) | exact gRu.has (gD.ru (by assumption)) | exact gGr.has (gD.gr (by assumption) _ (by omega))) ?_ | refine gCall_mk (by decide) (by decide) ?_ | refine if_yes (by first | assumption | omega | decide | exact b2i_R _ | exact gR_of (by omega) (by omega)) ?_ | refine if_no (by first | assumption | omega | decide | exact b2i_R _ | exact gR_of (by omega) (by omega)) ?_)
  refine d.w.many (by omega) ?_
  (first | refine And.intro (show gR _ from by first | assumption | omega | decide | exact b2i_R _ | exact gR_of (by omega) (by omega)) ?_ | refine And.intro (show gHas _ _ _ from by first | exact gW.has (gD.w (by assumption)) (by omega) | exact gD.has (by assumption) | exact gRu.has (gD.ru (by assumption)) | exact gGr.has (gD.gr (by assumption) _ (by omega))) ?_ | refine gCall_mk (by decide) (by decide) ?_ | refine if_yes (by first | assumption | omega | decide | exact b2i_R _ | exact gR_of (by omega) (by omega)) ?_ | refine if_no (by first | assumption | omega | decide | exact b2i_R _ | exact gR_of (by omega) (by omega)) ?_); (first | refine And.intro (show gR _ from by first | assumption | omega | decide | exact b2i_R _ | exact gR_of (by omega) (by omega)) ?_ | refine And.intro (show gHas _ _ _ from by first | exact gW.has (gD.w (by assumption)) (by omega) | exact gD.has (by assumption) | exact gRu.has (gD.ru (by assumption)) | exact gGr.has (gD.gr (by assumption) _ (by omega))) ?_ | refine gCall_mk (by decide) (by decide) ?_ | refine if_yes (by first | assumption | omega | decide | exact b2i_R _ | exact gR_of (by omega) (by omega)) ?_ | refine if_no (by first | assumption | omega | decide | exact b2i_R _ | exact gR_of (by omega) (by omega)) ?_)
  by_cases q2 : ((U w).length : Int) < y
  · exact if_yes q2 (bd (by omega))
  (first | refine And.intro (show gR _ from by first | assumption | omega | decide | exact b2i_R _ | exact gR_of (by omega) (by omega)) ?_ | refine And.intro (show gHas _ _ _ from by first | exact gW.has (gD.w (by assumption)) (by omega) | exact gD.has (by assumption) | exact gRu.has (gD.ru (by assumption)) | exact gGr.has (gD.gr (by assumption) _ (by omega))) ?_ | refine gCall_mk (by decide) (by decide) ?_ | refine if_yes (by first | assumption | omega | decide | exact b2i_R _ | exact gR_of (by omega) (by omega)) ?_ | refine if_no (by first | assumption | omega | decide | exact b2i_R _ | exact gR_of (by omega) (by omega)) ?_)
  rw [if_pos ⟨by omega, by omega⟩] at k
  obtain ⟨n, rfl⟩ : ∃ n : Nat, y = n := ⟨y.toNat, by omega⟩
  rw [Int.toNat_natCast] at k
  unfold w_X5_insertSign_J25
  (first | refine And.intro (show gR _ from by first | assumption | omega | decide | exact b2i_R _ | exact gR_of (by omega) (by omega)) ?_ | refine And.intro (show gHas _ _ _ from by first | exact gW.has (gD.w (by assumption)) (by omega) | exact gD.has (by assumption) | exact gRu.has (gD.ru (by assumption)) | exact gGr.has (gD.gr (by assumption) _ (by omega))) ?_ | refine gCall_mk (by decide) (by decide) ?_ | refine if_yes (by first | assumption | omega | decide | exact b2i_R _ | exact gR_of (by omega) (by omega)) ?_ | refine if_no (by first | assumption | omega | decide | exact b2i_R _ | exact gR_of (by omega) (by omega)) ?_)
  refine c_nI1 (d.f4 ?_)
  (first | refine And.intro (show gR _ from by first | assumption | omega | decide | exact b2i_R _ | exact gR_of (by omega) (by omega)) ?_ | refine And.intro (show gHas _ _ _ from by first | exact gW.has (gD.w (by assumption)) (by omega) | exact gD.has (by assumption) | exact gRu.has (gD.ru (by assumption)) | exact gGr.has (gD.gr (by assumption) _ (by omega))) ?_ | refine gCall_mk (by decide) (by decide) ?_ | refine if_yes (by first | assumption | omega | decide | exact b2i_R _ | exact gR_of (by omega) (by omega)) ?_ | refine if_no (by first | assumption | omega | decide | exact b2i_R _ | exact gR_of (by omega) (by omega)) ?_)
  refine v_clear d.w (by decide) (fun h1 V1 w1 s1 e1 o1 => ?_)
  have d1 := d.b w1 s1 (fun v hv => o1 _ (by omega)) (fun v h5 _ => o1 _ (by omega))
  refine d1.f4 ?_
  (first | refine And.intro (show gR _ from by first | assumption | omega | decide | exact b2i_R _ | exact gR_of (by omega) (by omega)) ?_ | refine And.intro (show gHas _ _ _ from by first | exact gW.has (gD.w (by assumption)) (by omega) | exact gD.has (by assumption) | exact gRu.has (gD.ru (by assumption)) | exact gGr.has (gD.gr (by assumption) _ (by omega))) ?_ | refine gCall_mk (by decide) (by decide) ?_ | refine if_yes (by first | assumption | omega | decide | exact b2i_R _ | exact gR_of (by omega) (by omega)) ?_ | refine if_no (by first | assumption | omega | decide | exact b2i_R _ | exact gR_of (by omega) (by omega)) ?_)
  refine v_add d1.w (by decide) (by rw [e1]; decide) hz (fun h2 V2 w2 s2 e2 o2 => ?_)
  have d2 := d1.b w2 s2 (fun v hv => o2 _ (by omega)) (fun v h5 _ => o2 _ (by omega))
  refine d2.f4 ?_
  (first | refine And.intro (show gR _ from by first | assumption | omega | decide | exact b2i_R _ | exact gR_of (by omega) (by omega)) ?_ | refine And.intro (show gHas _ _ _ from by first | exact gW.has (gD.w (by assumption)) (by omega) | exact gD.has (by assumption) | exact gRu.has (gD.ru (by assumption)) | exact gGr.has (gD.gr (by assumption) _ (by omega))) ?_ | refine gCall_mk (by decide) (by decide) ?_ | refine if_yes (by first | assumption | omega | decide | exact b2i_R _ | exact gR_of (by omega) (by omega)) ?_ | refine if_no (by first | assumption | omega | decide | exact b2i_R _ | exact gR_of (by omega) (by omega)) ?_)
  have e3 : V2 4 = [b] := by rw [e2, e1]; rfl
  exact c_exch d2 hw (by decide) (by decide) rfl rfl (Nat.le_refl _) (by rw [o2 w (by omega), o1 w (by omega)]; omega) (by rw [e3]; exact k.on ((gFr.sm s1).tr (gFr.sm s2)))
def m_insertSheet (st : GSt) (x y z : Int) : Nat × (Int → Prop) × GSt :=
  if okS x then if okS z then if 0 ≤ y ∧ y ≤ ((st.S x.toNat).length : Int) then exch st x.toNat y.toNat y.toNat (st.S z.toNat) else bad 1 st else bad 1 st else bad 1 st
theorem c_insertSheet (d : gD A G h U st) (hx : gR x) (hy : gR y) (hz : gR z) (k : gRes A G h [eI] X Q (m_insertSheet st x y z)) : w_X5_insertSheet X (A 22) x y z h Q := by
  unfold w_X5_insertSheet
  (first | refine And.intro (show gR _ from by first | assumption | omega | decide | exact b2i_R _ | exact gR_of (by omega) (by omega)) ?_ | refine And.intro (show gHas _ _ _ from by first | exact gW.has (gD.w (by assumption)) (by omega) | exact gD.has (by assumption) | exact gRu.has (gD.ru (by assumption)) | exact gGr.has (gD.gr (by assumption) _ (by omega))) ?_ | refine gCall_mk (by decide) (by decide) ?_ | refine if_yes (by first | assumption | omega | decide | exact b2i_R _ | exact gR_of (by omega) (by omega)) ?_ | refine if_no (by first | assumption | omega | decide | exact b2i_R _ | exact gR_of (by omega) (by omega)) ?_); (first | refine And.intro (show gR _ from by first | assumption | omega | decide | exact b2i_R _ | exact gR_of (by omega) (by omega)) ?_ | refine And.intro (show gHas _ _ _ from by first | exact gW.has (gD.w (by assumption)) (by omega) | exact gD.has (by assumption) | exact gRu.has (gD.ru (by assumption)) | exact gGr.has (gD.gr (by assumption) _ (by omega))) ?_ | refine gCall_mk (by decide) (by decide) ?_ | refine if_yes (by first | assumption | omega | decide | exact b2i_R _ | exact gR_of (by omega) (by omega)) ?_ | refine if_no (by first | assumption | omega | decide | exact b2i_R _ | exact gR_of (by omega) (by omega)) ?_)
  refine c_wordOf d hx (fun q => by rw [m_insertSheet, if_neg q] at k; exact k.ex d gFr.rf) (fun w hw e => ?_)
  subst e
  have l1 := d.w.le (show w < 11 by omega)
  rw [m_insertSheet, if_pos (show okS (w : Int) by omega), Int.toNat_natCast, ← d.s w hw] at k
  (first | refine And.intro (show gR _ from by first | assumption | omega | decide | exact b2i_R _ | exact gR_of (by omega) (by omega)) ?_ | refine And.intro (show gHas _ _ _ from by first | exact gW.has (gD.w (by assumption)) (by omega) | exact gD.has (by assumption) | exact gRu.has (gD.ru (by assumption)) | exact gGr.has (gD.gr (by assumption) _ (by omega))) ?_ | refine gCall_mk (by decide) (by decide) ?_ | refine if_yes (by first | assumption | omega | decide | exact b2i_R _ | exact gR_of (by omega) (by omega)) ?_ | refine if_no (by first | assumption | omega | decide | exact b2i_R _ | exact gR_of (by omega) (by omega)) ?_); (first | refine And.intro (show gR _ from by first | assumption | omega | decide | exact b2i_R _ | exact gR_of (by omega) (by omega)) ?_ | refine And.intro (show gHas _ _ _ from by first | exact gW.has (gD.w (by assumption)) (by omega) | exact gD.has (by assumption) | exact gRu.has (gD.ru (by assumption)) | exact gGr.has (gD.gr (by assumption) _ (by omega))) ?_ | refine gCall_mk (by decide) (by decide) ?_ | refine if_yes (by first | assumption | omega | decide | exact b2i_R _ | exact gR_of (by omega) (by omega)) ?_ | refine if_no (by first | assumption | omega | decide | exact b2i_R _ | exact gR_of (by omega) (by omega)) ?_)
  refine c_wordOf d hz (fun q => by rw [if_neg q] at k; exact k.ex d gFr.rf) (fun v hv e => ?_)
  subst e
  rw [if_pos (show okS (v : Int) by omega), Int.toNat_natCast, ← d.s v hv] at k
  have bd : ¬ (0 ≤ y ∧ y ≤ ((U w).length : Int)) → w_X5_insertSheet_J31 X Q (A 22) y (A w) (A v) h 1 6 := fun q => by
    rw [if_neg q] at k
    unfold w_X5_insertSheet_J31 w_X5_insertSheet_J32
    (first | refine And.intro (show gR _ from by first | assumption | omega | decide | exact b2i_R _ | exact gR_of (by omega) (by omega)) ?_ | refine And.intro (show gHas _ _ _ from by first | exact gW.has (gD.w (by assumption)) (by omega) | exact gD.has (by assumption) | exact gRu.has (gD.ru (by assumption)) | exact gGr.has (gD.gr (by assumption) _ (by omega))) ?_ | refine gCall_mk (by decide) (by decide) ?_ | refine if_yes (by first | assumption | omega | decide | exact b2i_R _ | exact gR_of (by omega) (by omega)) ?_ | refine if_no (by first | assumption | omega | decide | exact b2i_R _ | exact gR_of (by omega) (by omega)) ?_)
    exact c_nI0 (k.ex d gFr.rf)
  (first | refine And.intro (show gR _ from by first | assumption | omega | decide | exact b2i_R _ | exact gR_of (by omega) (by omega)) ?_ | refine And.intro (show gHas _ _ _ from by first | exact gW.has (gD.w (by assumption)) (by omega) | exact gD.has (by assumption) | exact gRu.has (gD.ru (by assumption)) | exact gGr.has (gD.gr (by assumption) _ (by omega))) ?_ | refine gCall_mk (by decide) (by decide) ?_ | refine if_yes (by first | assumption | omega | decide | exact b2i_R _ | exact gR_of (by omega) (by omega)) ?_ | refine if_no (by first | assumption | omega | decide | exact b2i_R _ | exact gR_of (by omega) (by omega)) ?_)
  by_cases q1 : y < 0
  · exact if_yes q1 (bd (by omega))
  (first | refine And.intro (show gR _ from by first | assumption | omega | decide | exact b2i_R _ | exact gR_of (by omega) (by omega)) ?_ | refine And.intro (show gHas _ _ _ from by first | exact gW.has (gD.w (by assumption)) (by omega) | exact gD.has (by assumption) | exact gRu.has (gD.ru (by assumption)) | exact gGr.has (gD.gr (by assumption) _ (by omega))) ?_ | refine gCall_mk (by decide) (by decide) ?_ | refine if_yes (by first | assumption | omega | decide | exact b2i_R _ | exact gR_of (by omega) (by omega)) ?_ | refine if_no (by first | assumption | omega | decide | exact b2i_R _ | exact gR_of (by omega) (by omega)) ?_)
  refine d.w.many (by omega) ?_
  (first | refine And.intro (show gR _ from by first | assumption | omega | decide | exact b2i_R _ | exact gR_of (by omega) (by omega)) ?_ | refine And.intro (show gHas _ _ _ from by first | exact gW.has (gD.w (by assumption)) (by omega) | exact gD.has (by assumption) | exact gRu.has (gD.ru (by assumption)) | exact gGr.has (gD.gr (by assumption) _ (by omega))) ?_ | refine gCall_mk (by decide) (by decide) ?_ | refine if_yes (by first | assumption | omega | decide | exact b2i_R _ | exact gR_of (by omega) (by omega)) ?_ | refine if_no (by first | assumption | omega | decide | exact b2i_R _ | exact gR_of (by omega) (by omega)) ?_); (first | refine And.intro (show gR _ from by first | assumption | omega | decide | exact b2i_R _ | exact gR_of (by omega) (by omega)) ?_ | refine And.intro (show gHas _ _ _ from by first | exact gW.has (gD.w (by assumption)) (by omega) | exact gD.has (by assumption) | exact gRu.has (gD.ru (by assumption)) | exact gGr.has (gD.gr (by assumption) _ (by omega))) ?_ | refine gCall_mk (by decide) (by decide) ?_ | refine if_yes (by first | assumption | omega | decide | exact b2i_R _ | exact gR_of (by omega) (by omega)) ?_ | refine if_no (by first | assumption | omega | decide | exact b2i_R _ | exact gR_of (by omega) (by omega)) ?_)
  by_cases q2 : ((U w).length : Int) < y
  · exact if_yes q2 (bd (by omega))
  (first | refine And.intro (show gR _ from by first | assumption | omega | decide | exact b2i_R _ | exact gR_of (by omega) (by omega)) ?_ | refine And.intro (show gHas _ _ _ from by first | exact gW.has (gD.w (by assumption)) (by omega) | exact gD.has (by assumption) | exact gRu.has (gD.ru (by assumption)) | exact gGr.has (gD.gr (by assumption) _ (by omega))) ?_ | refine gCall_mk (by decide) (by decide) ?_ | refine if_yes (by first | assumption | omega | decide | exact b2i_R _ | exact gR_of (by omega) (by omega)) ?_ | refine if_no (by first | assumption | omega | decide | exact b2i_R _ | exact gR_of (by omega) (by omega)) ?_)
  rw [if_pos ⟨by omega, by omega⟩] at k
  obtain ⟨n, rfl⟩ : ∃ n : Nat, y = n := ⟨y.toNat, by omega⟩
  rw [Int.toNat_natCast] at k
  unfold w_X5_insertSheet_J32
  (first | refine And.intro (show gR _ from by first | assumption | omega | decide | exact b2i_R _ | exact gR_of (by omega) (by omega)) ?_ | refine And.intro (show gHas _ _ _ from by first | exact gW.has (gD.w (by assumption)) (by omega) | exact gD.has (by assumption) | exact gRu.has (gD.ru (by assumption)) | exact gGr.has (gD.gr (by assumption) _ (by omega))) ?_ | refine gCall_mk (by decide) (by decide) ?_ | refine if_yes (by first | assumption | omega | decide | exact b2i_R _ | exact gR_of (by omega) (by omega)) ?_ | refine if_no (by first | assumption | omega | decide | exact b2i_R _ | exact gR_of (by omega) (by omega)) ?_)
  refine c_nI1 ?_
  (first | refine And.intro (show gR _ from by first | assumption | omega | decide | exact b2i_R _ | exact gR_of (by omega) (by omega)) ?_ | refine And.intro (show gHas _ _ _ from by first | exact gW.has (gD.w (by assumption)) (by omega) | exact gD.has (by assumption) | exact gRu.has (gD.ru (by assumption)) | exact gGr.has (gD.gr (by assumption) _ (by omega))) ?_ | refine gCall_mk (by decide) (by decide) ?_ | refine if_yes (by first | assumption | omega | decide | exact b2i_R _ | exact gR_of (by omega) (by omega)) ?_ | refine if_no (by first | assumption | omega | decide | exact b2i_R _ | exact gR_of (by omega) (by omega)) ?_)
  exact c_exch d hw (by omega) (by omega) rfl rfl (Nat.le_refl _) (by omega) k
def m_setSign (st : GSt) (x y : Int) (b : Bool) : Nat × (Int → Prop) × GSt :=
  if okS x then if 0 ≤ y ∧ y < ((st.S x.toNat).length : Int) then done (st.sheet x.toNat ((st.S x.toNat).set y.toNat b)) (if (st.S x.toNat).getD y.toNat false = b then 0 else 1) else bad 1 st else bad 1 st
theorem c_setSign (d : gD A G h U st) {b : Bool} (hx : gR x) (hy : gR y) (hz : z = b2i b) (k : gRes A G h [eI] X Q (m_setSign st x y b)) : w_X5_setSign X (A 22) x y z h Q := by
  subst hz
  unfold w_X5_setSign
  (first | refine And.intro (show gR _ from by first | assumption | omega | decide | exact b2i_R _ | exact gR_of (by omega) (by omega)) ?_ | refine And.intro (show gHas _ _ _ from by first | exact gW.has (gD.w (by assumption)) (by omega) | exact gD.has (by assumption) | exact gRu.has (gD.ru (by assumption)) | exact gGr.has (gD.gr (by assumption) _ (by omega))) ?_ | refine gCall_mk (by decide) (by decide) ?_ | refine if_yes (by first | assumption | omega | decide | exact b2i_R _ | exact gR_of (by omega) (by omega)) ?_ | refine if_no (by first | assumption | omega | decide | exact b2i_R _ | exact gR_of (by omega) (by omega)) ?_); (first | refine And.intro (show gR _ from by first | assumption | omega | decide | exact b2i_R _ | exact gR_of (by omega) (by omega)) ?_ | refine And.intro (show gHas _ _ _ from by first | exact gW.has (gD.w (by assumption)) (by omega) | exact gD.has (by assumption) | exact gRu.has (gD.ru (by assumption)) | exact gGr.has (gD.gr (by assumption) _ (by omega))) ?_ | refine gCall_mk (by decide) (by decide) ?_ | refine if_yes (by first | assumption | omega | decide | exact b2i_R _ | exact gR_of (by omega) (by omega)) ?_ | refine if_no (by first | assumption | omega | decide | exact b2i_R _ | exact gR_of (by omega) (by omega)) ?_)
  refine c_wordOf d hx (fun q => by rw [m_setSign, if_neg q] at k; exact k.ex d gFr.rf) (fun w hw e => ?_)
  subst e
  have l1 := d.w.le (show w < 11 by omega)
  rw [m_setSign, if_pos (show okS (w : Int) by omega), Int.toNat_natCast, ← d.s w hw] at k
  have bd : ¬ (0 ≤ y ∧ y < ((U w).length : Int)) → w_X5_setSign_J24 X Q (A 22) y (b2i b) (A w) h 1 6 := fun q => by
    rw [if_neg q] at k
    unfold w_X5_setSign_J24 w_X5_setSign_J25
    (first | refine And.intro (show gR _ from by first | assumption | omega | decide | exact b2i_R _ | exact gR_of (by omega) (by omega)) ?_ | refine And.intro (show gHas _ _ _ from by first | exact gW.has (gD.w (by assumption)) (by omega) | exact gD.has (by assumption) | exact gRu.has (gD.ru (by assumption)) | exact gGr.has (gD.gr (by assumption) _ (by omega))) ?_ | refine gCall_mk (by decide) (by decide) ?_ | refine if_yes (by first | assumption | omega | decide | exact b2i_R _ | exact gR_of (by omega) (by omega)) ?_ | refine if_no (by first | assumption | omega | decide | exact b2i_R _ | exact gR_of (by omega) (by omega)) ?_)
    exact c_nI0 (k.ex d gFr.rf)
  (first | refine And.intro (show gR _ from by first | assumption | omega | decide | exact b2i_R _ | exact gR_of (by omega) (by omega)) ?_ | refine And.intro (show gHas _ _ _ from by first | exact gW.has (gD.w (by assumption)) (by omega) | exact gD.has (by assumption) | exact gRu.has (gD.ru (by assumption)) | exact gGr.has (gD.gr (by assumption) _ (by omega))) ?_ | refine gCall_mk (by decide) (by decide) ?_ | refine if_yes (by first | assumption | omega | decide | exact b2i_R _ | exact gR_of (by omega) (by omega)) ?_ | refine if_no (by first | assumption | omega | decide | exact b2i_R _ | exact gR_of (by omega) (by omega)) ?_)
  by_cases q1 : y < 0
  · exact if_yes q1 (bd (by omega))
  (first | refine And.intro (show gR _ from by first | assumption | omega | decide | exact b2i_R _ | exact gR_of (by omega) (by omega)) ?_ | refine And.intro (show gHas _ _ _ from by first | exact gW.has (gD.w (by assumption)) (by omega) | exact gD.has (by assumption) | exact gRu.has (gD.ru (by assumption)) | exact gGr.has (gD.gr (by assumption) _ (by omega))) ?_ | refine gCall_mk (by decide) (by decide) ?_ | refine if_yes (by first | assumption | omega | decide | exact b2i_R _ | exact gR_of (by omega) (by omega)) ?_ | refine if_no (by first | assumption | omega | decide | exact b2i_R _ | exact gR_of (by omega) (by omega)) ?_)
  refine d.w.many (by omega) ?_
  (first | refine And.intro (show gR _ from by first | assumption | omega | decide | exact b2i_R _ | exact gR_of (by omega) (by omega)) ?_ | refine And.intro (show gHas _ _ _ from by first | exact gW.has (gD.w (by assumption)) (by omega) | exact gD.has (by assumption) | exact gRu.has (gD.ru (by assumption)) | exact gGr.has (gD.gr (by assumption) _ (by omega))) ?_ | refine gCall_mk (by decide) (by decide) ?_ | refine if_yes (by first | assumption | omega | decide | exact b2i_R _ | exact gR_of (by omega) (by omega)) ?_ | refine if_no (by first | assumption | omega | decide | exact b2i_R _ | exact gR_of (by omega) (by omega)) ?_); (first | refine And.intro (show gR _ from by first | assumption | omega | decide | exact b2i_R _ | exact gR_of (by omega) (by omega)) ?_ | refine And.intro (show gHas _ _ _ from by first | exact gW.has (gD.w (by assumption)) (by omega) | exact gD.has (by assumption) | exact gRu.has (gD.ru (by assumption)) | exact gGr.has (gD.gr (by assumption) _ (by omega))) ?_ | refine gCall_mk (by decide) (by decide) ?_ | refine if_yes (by first | assumption | omega | decide | exact b2i_R _ | exact gR_of (by omega) (by omega)) ?_ | refine if_no (by first | assumption | omega | decide | exact b2i_R _ | exact gR_of (by omega) (by omega)) ?_)
  by_cases q2 : ((U w).length : Int) ≤ y
  · exact if_yes q2 (bd (by omega))
  (first | refine And.intro (show gR _ from by first | assumption | omega | decide | exact b2i_R _ | exact gR_of (by omega) (by omega)) ?_ | refine And.intro (show gHas _ _ _ from by first | exact gW.has (gD.w (by assumption)) (by omega) | exact gD.has (by assumption) | exact gRu.has (gD.ru (by assumption)) | exact gGr.has (gD.gr (by assumption) _ (by omega))) ?_ | refine gCall_mk (by decide) (by decide) ?_ | refine if_yes (by first | assumption | omega | decide | exact b2i_R _ | exact gR_of (by omega) (by omega)) ?_ | refine if_no (by first | assumption | omega | decide | exact b2i_R _ | exact gR_of (by omega) (by omega)) ?_)
  rw [if_pos ⟨by omega, by omega⟩] at k
  obtain ⟨n, rfl⟩ : ∃ n : Nat, y = n := ⟨y.toNat, by omega⟩
  rw [Int.toNat_natCast] at k
  unfold w_X5_setSign_J25
  (first | refine And.intro (show gR _ from by first | assumption | omega | decide | exact b2i_R _ | exact gR_of (by omega) (by omega)) ?_ | refine And.intro (show gHas _ _ _ from by first | exact gW.has (gD.w (by assumption)) (by omega) | exact gD.has (by assumption) | exact gRu.has (gD.ru (by assumption)) | exact gGr.has (gD.gr (by assumption) _ (by omega))) ?_ | refine gCall_mk (by decide) (by decide) ?_ | refine if_yes (by first | assumption | omega | decide | exact b2i_R _ | exact gR_of (by omega) (by omega)) ?_ | refine if_no (by first | assumption | omega | decide | exact b2i_R _ | exact gR_of (by omega) (by omega)) ?_)
  refine c_nI1 ?_
  (first | refine And.intro (show gR _ from by first | assumption | omega | decide | exact b2i_R _ | exact gR_of (by omega) (by omega)) ?_ | refine And.intro (show gHas _ _ _ from by first | exact gW.has (gD.w (by assumption)) (by omega) | exact gD.has (by assumption) | exact gRu.has (gD.ru (by assumption)) | exact gGr.has (gD.gr (by assumption) _ (by omega))) ?_ | refine gCall_mk (by decide) (by decide) ?_ | refine if_yes (by first | assumption | omega | decide | exact b2i_R _ | exact gR_of (by omega) (by omega)) ?_ | refine if_no (by first | assumption | omega | decide | exact b2i_R _ | exact gR_of (by omega) (by omega)) ?_)
  refine s_isUp d.w (by omega) rfl (by omega) ?_
  (first | refine And.intro (show gR _ from by first | assumption | omega | decide | exact b2i_R _ | exact gR_of (by omega) (by omega)) ?_ | refine And.intro (show gHas _ _ _ from by first | exact gW.has (gD.w (by assumption)) (by omega) | exact gD.has (by assumption) | exact gRu.has (gD.ru (by assumption)) | exact gGr.has (gD.gr (by assumption) _ (by omega))) ?_ | refine gCall_mk (by decide) (by decide) ?_ | refine if_yes (by first | assumption | omega | decide | exact b2i_R _ | exact gR_of (by omega) (by omega)) ?_ | refine if_no (by first | assumption | omega | decide | exact b2i_R _ | exact gR_of (by omega) (by omega)) ?_); (first | refine And.intro (show gR _ from by first | assumption | omega | decide | exact b2i_R _ | exact gR_of (by omega) (by omega)) ?_ | refine And.intro (show gHas _ _ _ from by first | exact gW.has (gD.w (by assumption)) (by omega) | exact gD.has (by assumption) | exact gRu.has (gD.ru (by assumption)) | exact gGr.has (gD.gr (by assumption) _ (by omega))) ?_ | refine gCall_mk (by decide) (by decide) ?_ | refine if_yes (by first | assumption | omega | decide | exact b2i_R _ | exact gR_of (by omega) (by omega)) ?_ | refine if_no (by first | assumption | omega | decide | exact b2i_R _ | exact gR_of (by omega) (by omega)) ?_)
  have fin : ∀ t : Int, t = (if (U w).getD n false = b then 0 else 1) → w_X5_setSign_J43 X Q (A 22) (n : Int) (b2i b) (A w) t h 0 0 := by
    intro t ht
    unfold w_X5_setSign_J43
    (first | refine And.intro (show gR _ from by first | assumption | omega | decide | exact b2i_R _ | exact gR_of (by omega) (by omega)) ?_ | refine And.intro (show gHas _ _ _ from by first | exact gW.has (gD.w (by assumption)) (by omega) | exact gD.has (by assumption) | exact gRu.has (gD.ru (by assumption)) | exact gGr.has (gD.gr (by assumption) _ (by omega))) ?_ | refine gCall_mk (by decide) (by decide) ?_ | refine if_yes (by first | assumption | omega | decide | exact b2i_R _ | exact gR_of (by omega) (by omega)) ?_ | refine if_no (by first | assumption | omega | decide | exact b2i_R _ | exact gR_of (by omega) (by omega)) ?_)
    refine s_put d.w (show w < 11 by omega) rfl (show n < (U w).length by omega) rfl (fun h1 w1 s1 => ?_)
    have d1 := d.sh hw w1 s1
    rw [← ht] at k
    unfold w_X5_oneIf
    by_cases q : (U w).getD n false = b
    · rw [if_pos q] at ht
      subst ht
      (repeat (first | refine And.intro (show gR _ from by first | assumption | omega | decide | exact b2i_R _ | exact gR_of (by omega) (by omega)) ?_ | refine And.intro (show gHas _ _ _ from by first | exact gW.has (gD.w (by assumption)) (by omega) | exact gD.has (by assumption) | exact gRu.has (gD.ru (by assumption)) | exact gGr.has (gD.gr (by assumption) _ (by omega))) ?_ | refine gCall_mk (by decide) (by decide) ?_ | refine if_yes (by first | assumption | omega | decide | exact b2i_R _ | exact gR_of (by omega) (by omega)) ?_ | refine if_no (by first | assumption | omega | decide | exact b2i_R _ | exact gR_of (by omega) (by omega)) ?_))
      exact c_end d hw w1 s1 k
    · rw [if_neg q] at ht
      subst ht
      (repeat (first | refine And.intro (show gR _ from by first | assumption | omega | decide | exact b2i_R _ | exact gR_of (by omega) (by omega)) ?_ | refine And.intro (show gHas _ _ _ from by first | exact gW.has (gD.w (by assumption)) (by omega) | exact gD.has (by assumption) | exact gRu.has (gD.ru (by assumption)) | exact gGr.has (gD.gr (by assumption) _ (by omega))) ?_ | refine gCall_mk (by decide) (by decide) ?_ | refine if_yes (by first | assumption | omega | decide | exact b2i_R _ | exact gR_of (by omega) (by omega)) ?_ | refine if_no (by first | assumption | omega | decide | exact b2i_R _ | exact gR_of (by omega) (by omega)) ?_))
      exact c_end d hw w1 s1 k
  by_cases q : (U w).getD n false = b
  · exact if_yes (congrArg b2i q) (fin 0 (by rw [if_pos q]))
  · exact if_no (fun z => q ((b2i_eq _ _).mp z)) (fin 1 (by rw [if_neg q]))
def takeOut (st : GSt) (w f t : Nat) : Nat × (Int → Prop) × GSt := done (st.sheet w ((st.S w).take f ++ (st.S w).drop t)) (ones (((st.S w).drop f).take (t - f)) : Int)
theorem c_takeOut (d : gD A G h U st) (hw : w < 3) {E : List String} {f t : Nat} (hx : x = (f : Int)) (hy : y = (t : Int)) (hft : f ≤ t) (ht : t ≤ (U w).length) (k : gRes A G h E X Q (takeOut st w f t)) : w_X5_takeOut (A 22) (A w) x y h Q := by
  subst hx; subst hy
  have l1 := d.w.le (show w < 11 by omega)
  unfold takeOut at k
  rw [← d.s w hw] at k
  unfold w_X5_takeOut
  refine f_upsInPart (a := f) (l := t - f) d.w (by omega) rfl (by omega) (by omega) (by omega) (by omega) ?_
  rw [part_in (by omega)]
  refine d.f3 ?_
  (first | refine And.intro (show gR _ from by first | assumption | omega | decide | exact b2i_R _ | exact gR_of (by omega) (by omega)) ?_ | refine And.intro (show gHas _ _ _ from by first | exact gW.has (gD.w (by assumption)) (by omega) | exact gD.has (by assumption) | exact gRu.has (gD.ru (by assumption)) | exact gGr.has (gD.gr (by assumption) _ (by omega))) ?_ | refine gCall_mk (by decide) (by decide) ?_ | refine if_yes (by first | assumption | omega | decide | exact b2i_R _ | exact gR_of (by omega) (by omega)) ?_ | refine if_no (by first | assumption | omega | decide | exact b2i_R _ | exact gR_of (by omega) (by omega)) ?_)
  refine v_clear d.w (by decide) (fun h1 V1 w1 s1 e1 o1 => ?_)
  have d1 := d.b w1 s1 (fun v hv => o1 _ (by omega)) (fun v h5 _ => o1 _ (by omega))
  refine d1.f3 ?_
  (first | refine And.intro (show gR _ from by first | assumption | omega | decide | exact b2i_R _ | exact gR_of (by omega) (by omega)) ?_ | refine And.intro (show gHas _ _ _ from by first | exact gW.has (gD.w (by assumption)) (by omega) | exact gD.has (by assumption) | exact gRu.has (gD.ru (by assumption)) | exact gGr.has (gD.gr (by assumption) _ (by omega))) ?_ | refine gCall_mk (by decide) (by decide) ?_ | refine if_yes (by first | assumption | omega | decide | exact b2i_R _ | exact gR_of (by omega) (by omega)) ?_ | refine if_no (by first | assumption | omega | decide | exact b2i_R _ | exact gR_of (by omega) (by omega)) ?_)
  have a1 := o1 w (by omega)
  refine v_addPart w1 (show 3 < 11 by decide) (show w < 11 by omega) (by omega) (i := 0) (t := f) rfl rfl (Nat.zero_le _) (by rw [a1]; omega) (by rw [e1]; simp; omega) (fun h2 V2 w2 s2 e2 o2 => ?_)
  rw [e1, a1] at e2
  have d2 := d1.b w2 s2 (fun v hv => o2 _ (by omega)) (fun v h5 _ => o2 _ (by omega))
  have a2 : V2 w = U w := (o2 w (by omega)).trans a1
  refine d2.f3 (d2.w.many (show w < 11 by omega) ?_)
  rw [a2]
  (first | refine And.intro (show gR _ from by first | assumption | omega | decide | exact b2i_R _ | exact gR_of (by omega) (by omega)) ?_ | refine And.intro (show gHas _ _ _ from by first | exact gW.has (gD.w (by assumption)) (by omega) | exact gD.has (by assumption) | exact gRu.has (gD.ru (by assumption)) | exact gGr.has (gD.gr (by assumption) _ (by omega))) ?_ | refine gCall_mk (by decide) (by decide) ?_ | refine if_yes (by first | assumption | omega | decide | exact b2i_R _ | exact gR_of (by omega) (by omega)) ?_ | refine if_no (by first | assumption | omega | decide | exact b2i_R _ | exact gR_of (by omega) (by omega)) ?_)
  refine v_addPart w2 (show 3 < 11 by decide) (show w < 11 by omega) (by omega) (i := t) (t := (U w).length) rfl rfl ht (by rw [a2]; omega) (by rw [e2]; simp; omega) (fun h3 V3 w3 s3 e3 o3 => ?_)
  rw [e2, a2] at e3
  have e5 : V3 3 = (U w).take f ++ (U w).drop t := by rw [e3]; simp [List.take_of_length_le]
  have d3 := d2.b w3 s3 (fun v hv => o3 _ (by omega)) (fun v h5 _ => o3 _ (by omega))
  refine d3.f3 ?_
  (first | refine And.intro (show gR _ from by first | assumption | omega | decide | exact b2i_R _ | exact gR_of (by omega) (by omega)) ?_ | refine And.intro (show gHas _ _ _ from by first | exact gW.has (gD.w (by assumption)) (by omega) | exact gD.has (by assumption) | exact gRu.has (gD.ru (by assumption)) | exact gGr.has (gD.gr (by assumption) _ (by omega))) ?_ | refine gCall_mk (by decide) (by decide) ?_ | refine if_yes (by first | assumption | omega | decide | exact b2i_R _ | exact gR_of (by omega) (by omega)) ?_ | refine if_no (by first | assumption | omega | decide | exact b2i_R _ | exact gR_of (by omega) (by omega)) ?_)
  refine s_take w3 (show w < 11 by omega) (show 3 < 11 by decide) (fun h5 w5 s5 => ?_)
  rw [e5] at w5
  have d5 := d3.sh hw w5 s5
  (first | refine And.intro (show gR _ from by first | assumption | omega | decide | exact b2i_R _ | exact gR_of (by omega) (by omega)) ?_ | refine And.intro (show gHas _ _ _ from by first | exact gW.has (gD.w (by assumption)) (by omega) | exact gD.has (by assumption) | exact gRu.has (gD.ru (by assumption)) | exact gGr.has (gD.gr (by assumption) _ (by omega))) ?_ | refine gCall_mk (by decide) (by decide) ?_ | refine if_yes (by first | assumption | omega | decide | exact b2i_R _ | exact gR_of (by omega) (by omega)) ?_ | refine if_no (by first | assumption | omega | decide | exact b2i_R _ | exact gR_of (by omega) (by omega)) ?_)
  exact c_end d3 hw w5 s5 (k.on ((gFr.sm s1).tr ((gFr.sm s2).tr (gFr.sm s3))))
def m_removeSign (st : GSt) (x y : Int) : Nat × (Int → Prop) × GSt :=
  if okS x then if 0 ≤ y ∧ y < ((st.S x.toNat).length : Int) then takeOut st x.toNat y.toNat (y.toNat + 1) else bad 1 st else bad 1 st
theorem c_removeSign (d : gD A G h U st) (hx : gR x) (hy : gR y) (k : gRes A G h [eI] X Q (m_removeSign st x y)) : w_X5_removeSign X (A 22) x y h Q := by
  unfold w_X5_removeSign
  (first | refine And.intro (show gR _ from by first | assumption | omega | decide | exact b2i_R _ | exact gR_of (by omega) (by omega)) ?_ | refine And.intro (show gHas _ _ _ from by first | exact gW.has (gD.w (by assumption)) (by omega) | exact gD.has (by assumption) | exact gRu.has (gD.ru (by assumption)) | exact gGr.has (gD.gr (by assumption) _ (by omega))) ?_ | refine gCall_mk (by decide) (by decide) ?_ | refine if_yes (by first | assumption | omega | decide | exact b2i_R _ | exact gR_of (by omega) (by omega)) ?_ | refine if_no (by first | assumption | omega | decide | exact b2i_R _ | exact gR_of (by omega) (by omega)) ?_); (first | refine And.intro (show gR _ from by first | assumption | omega | decide | exact b2i_R _ | exact gR_of (by omega) (by omega)) ?_ | refine And.intro (show gHas _ _ _ from by first | exact gW.has (gD.w (by assumption)) (by omega) | exact gD.has (by assumption) | exact gRu.has (gD.ru (by assumption)) | exact gGr.has (gD.gr (by assumption) _ (by omega))) ?_ | refine gCall_mk (by decide) (by decide) ?_ | refine if_yes (by first | assumption | omega | decide | exact b2i_R _ | exact gR_of (by omega) (by omega)) ?_ | refine if_no (by first | assumption | omega | decide | exact b2i_R _ | exact gR_of (by omega) (by omega)) ?_)
  refine c_wordOf d hx (fun q => by rw [m_removeSign, if_neg q] at k; exact k.ex d gFr.rf) (fun w hw e => ?_)
  subst e
  have l1 := d.w.le (show w < 11 by omega)
  rw [m_removeSign, if_pos (show okS (w : Int) by omega), Int.toNat_natCast, ← d.s w hw] at k
  have bd : ¬ (0 ≤ y ∧ y < ((U w).length : Int)) → w_X5_removeSign_J22 X Q (A 22) y (A w) h 1 6 := fun q => by
    rw [if_neg q] at k
    unfold w_X5_removeSign_J22 w_X5_removeSign_J23
    (first | refine And.intro (show gR _ from by first | assumption | omega | decide | exact b2i_R _ | exact gR_of (by omega) (by omega)) ?_ | refine And.intro (show gHas _ _ _ from by first | exact gW.has (gD.w (by assumption)) (by omega) | exact gD.has (by assumption) | exact gRu.has (gD.ru (by assumption)) | exact gGr.has (gD.gr (by assumption) _ (by omega))) ?_ | refine gCall_mk (by decide) (by decide) ?_ | refine if_yes (by first | assumption | omega | decide | exact b2i_R _ | exact gR_of (by omega) (by omega)) ?_ | refine if_no (by first | assumption | omega | decide | exact b2i_R _ | exact gR_of (by omega) (by omega)) ?_)
    exact c_nI0 (k.ex d gFr.rf)
  (first | refine And.intro (show gR _ from by first | assumption | omega | decide | exact b2i_R _ | exact gR_of (by omega) (by omega)) ?_ | refine And.intro (show gHas _ _ _ from by first | exact gW.has (gD.w (by assumption)) (by omega) | exact gD.has (by assumption) | exact gRu.has (gD.ru (by assumption)) | exact gGr.has (gD.gr (by assumption) _ (by omega))) ?_ | refine gCall_mk (by decide) (by decide) ?_ | refine if_yes (by first | assumption | omega | decide | exact b2i_R _ | exact gR_of (by omega) (by omega)) ?_ | refine if_no (by first | assumption | omega | decide | exact b2i_R _ | exact gR_of (by omega) (by omega)) ?_)
  by_cases q1 : y < 0
  · exact if_yes q1 (bd (by omega))
  (first | refine And.intro (show gR _ from by first | assumption | omega | decide | exact b2i_R _ | exact gR_of (by omega) (by omega)) ?_ | refine And.intro (show gHas _ _ _ from by first | exact gW.has (gD.w (by assumption)) (by omega) | exact gD.has (by assumption) | exact gRu.has (gD.ru (by assumption)) | exact gGr.has (gD.gr (by assumption) _ (by omega))) ?_ | refine gCall_mk (by decide) (by decide) ?_ | refine if_yes (by first | assumption | omega | decide | exact b2i_R _ | exact gR_of (by omega) (by omega)) ?_ | refine if_no (by first | assumption | omega | decide | exact b2i_R _ | exact gR_of (by omega) (by omega)) ?_)
  refine d.w.many (by omega) ?_
  (first | refine And.intro (show gR _ from by first | assumption | omega | decide | exact b2i_R _ | exact gR_of (by omega) (by omega)) ?_ | refine And.intro (show gHas _ _ _ from by first | exact gW.has (gD.w (by assumption)) (by omega) | exact gD.has (by assumption) | exact gRu.has (gD.ru (by assumption)) | exact gGr.has (gD.gr (by assumption) _ (by omega))) ?_ | refine gCall_mk (by decide) (by decide) ?_ | refine if_yes (by first | assumption | omega | decide | exact b2i_R _ | exact gR_of (by omega) (by omega)) ?_ | refine if_no (by first | assumption | omega | decide | exact b2i_R _ | exact gR_of (by omega) (by omega)) ?_); (first | refine And.intro (show gR _ from by first | assumption | omega | decide | exact b2i_R _ | exact gR_of (by omega) (by omega)) ?_ | refine And.intro (show gHas _ _ _ from by first | exact gW.has (gD.w (by assumption)) (by omega) | exact gD.has (by assumption) | exact gRu.has (gD.ru (by assumption)) | exact gGr.has (gD.gr (by assumption) _ (by omega))) ?_ | refine gCall_mk (by decide) (by decide) ?_ | refine if_yes (by first | assumption | omega | decide | exact b2i_R _ | exact gR_of (by omega) (by omega)) ?_ | refine if_no (by first | assumption | omega | decide | exact b2i_R _ | exact gR_of (by omega) (by omega)) ?_)
  by_cases q2 : ((U w).length : Int) ≤ y
  · exact if_yes q2 (bd (by omega))
  (first | refine And.intro (show gR _ from by first | assumption | omega | decide | exact b2i_R _ | exact gR_of (by omega) (by omega)) ?_ | refine And.intro (show gHas _ _ _ from by first | exact gW.has (gD.w (by assumption)) (by omega) | exact gD.has (by assumption) | exact gRu.has (gD.ru (by assumption)) | exact gGr.has (gD.gr (by assumption) _ (by omega))) ?_ | refine gCall_mk (by decide) (by decide) ?_ | refine if_yes (by first | assumption | omega | decide | exact b2i_R _ | exact gR_of (by omega) (by omega)) ?_ | refine if_no (by first | assumption | omega | decide | exact b2i_R _ | exact gR_of (by omega) (by omega)) ?_)
  rw [if_pos ⟨by omega, by omega⟩] at k
  obtain ⟨n, rfl⟩ : ∃ n : Nat, y = n := ⟨y.toNat, by omega⟩
  rw [Int.toNat_natCast] at k
  unfold w_X5_removeSign_J23
  (first | refine And.intro (show gR _ from by first | assumption | omega | decide | exact b2i_R _ | exact gR_of (by omega) (by omega)) ?_ | refine And.intro (show gHas _ _ _ from by first | exact gW.has (gD.w (by assumption)) (by omega) | exact gD.has (by assumption) | exact gRu.has (gD.ru (by assumption)) | exact gGr.has (gD.gr (by assumption) _ (by omega))) ?_ | refine gCall_mk (by decide) (by decide) ?_ | refine if_yes (by first | assumption | omega | decide | exact b2i_R _ | exact gR_of (by omega) (by omega)) ?_ | refine if_no (by first | assumption | omega | decide | exact b2i_R _ | exact gR_of (by omega) (by omega)) ?_)
  refine c_nI1 ?_
  (first | refine And.intro (show gR _ from by first | assumption | omega | decide | exact b2i_R _ | exact gR_of (by omega) (by omega)) ?_ | refine And.intro (show gHas _ _ _ from by first | exact gW.has (gD.w (by assumption)) (by omega) | exact gD.has (by assumption) | exact gRu.has (gD.ru (by assumption)) | exact gGr.has (gD.gr (by assumption) _ (by omega))) ?_ | refine gCall_mk (by decide) (by decide) ?_ | refine if_yes (by first | assumption | omega | decide | exact b2i_R _ | exact gR_of (by omega) (by omega)) ?_ | refine if_no (by first | assumption | omega | decide | exact b2i_R _ | exact gR_of (by omega) (by omega)) ?_)
  exact c_takeOut d hw rfl (show (n : Int) + 1 = ((n + 1 : Nat) : Int) by omega) (by omega) (by omega) k
abbrev okF (f t : Int) (l : Nat) : Prop := 0 ≤ f ∧ f ≤ t ∧ t ≤ (l : Int)
def m_remove (st : GSt) (x y z : Int) : Nat × (Int → Prop) × GSt :=
  if okS x then if okF y z (st.S x.toNat).length then takeOut st x.toNat y.toNat z.toNat else bad 1 st else bad 1 st
theorem c_remove (d : gD A G h U st) (hx : gR x) (hy : gR y) (hz : gR z) (k : gRes A G h [eI] X Q (m_remove st x y z)) : w_X5_remove X (A 22) x y z h Q := by
  unfold w_X5_remove
  (first | refine And.intro (show gR _ from by first | assumption | omega | decide | exact b2i_R _ | exact gR_of (by omega) (by omega)) ?_ | refine And.intro (show gHas _ _ _ from by first | exact gW.has (gD.w (by assumption)) (by omega) | exact gD.has (by assumption) | exact gRu.has (gD.ru (by assumption)) | exact gGr.has (gD.gr (by assumption) _ (by omega))) ?_ | refine gCall_mk (by decide) (by decide) ?_ | refine if_yes (by first | assumption | omega | decide | exact b2i_R _ | exact gR_of (by omega) (by omega)) ?_ | refine if_no (by first | assumption | omega | decide | exact b2i_R _ | exact gR_of (by omega) (by omega)) ?_); (first | refine And.intro (show gR _ from by first | assumption | omega | decide | exact b2i_R _ | exact gR_of (by omega) (by omega)) ?_ | refine And.intro (show gHas _ _ _ from by first | exact gW.has (gD.w (by assumption)) (by omega) | exact gD.has (by assumption) | exact gRu.has (gD.ru (by assumption)) | exact gGr.has (gD.gr (by assumption) _ (by omega))) ?_ | refine gCall_mk (by decide) (by decide) ?_ | refine if_yes (by first | assumption | omega | decide | exact b2i_R _ | exact gR_of (by omega) (by omega)) ?_ | refine if_no (by first | assumption | omega | decide | exact b2i_R _ | exact gR_of (by omega) (by omega)) ?_)
  refine c_wordOf d hx (fun q => by rw [m_remove, if_neg q] at k; exact k.ex d gFr.rf) (fun w hw e => ?_)
  subst e
  have l1 := d.w.le (show w < 11 by omega)
  rw [m_remove, if_pos (show okS (w : Int) by omega), Int.toNat_natCast, ← d.s w hw] at k
  have bd : ¬ (okF y z (U w).length) → w_X5_remove_J29 X Q (A 22) y z (A w) h 1 6 := fun q => by
    rw [if_neg q] at k
    unfold w_X5_remove_J29 w_X5_remove_J30
    (first | refine And.intro (show gR _ from by first | assumption | omega | decide | exact b2i_R _ | exact gR_of (by omega) (by omega)) ?_ | refine And.intro (show gHas _ _ _ from by first | exact gW.has (gD.w (by assumption)) (by omega) | exact gD.has (by assumption) | exact gRu.has (gD.ru (by assumption)) | exact gGr.has (gD.gr (by assumption) _ (by omega))) ?_ | refine gCall_mk (by decide) (by decide) ?_ | refine if_yes (by first | assumption | omega | decide | exact b2i_R _ | exact gR_of (by omega) (by omega)) ?_ | refine if_no (by first | assumption | omega | decide | exact b2i_R _ | exact gR_of (by omega) (by omega)) ?_)
    exact c_nI0 (k.ex d gFr.rf)
  (first | refine And.intro (show gR _ from by first | assumption | omega | decide | exact b2i_R _ | exact gR_of (by omega) (by omega)) ?_ | refine And.intro (show gHas _ _ _ from by first | exact gW.has (gD.w (by assumption)) (by omega) | exact gD.has (by assumption) | exact gRu.has (gD.ru (by assumption)) | exact gGr.has (gD.gr (by assumption) _ (by omega))) ?_ | refine gCall_mk (by decide) (by decide) ?_ | refine if_yes (by first | assumption | omega | decide | exact b2i_R _ | exact gR_of (by omega) (by omega)) ?_ | refine if_no (by first | assumption | omega | decide | exact b2i_R _ | exact gR_of (by omega) (by omega)) ?_)
  by_cases q1 : y < 0
  · exact if_yes q1 (bd (by omega))
  (first | refine And.intro (show gR _ from by first | assumption | omega | decide | exact b2i_R _ | exact gR_of (by omega) (by omega)) ?_ | refine And.intro (show gHas _ _ _ from by first | exact gW.has (gD.w (by assumption)) (by omega) | exact gD.has (by assumption) | exact gRu.has (gD.ru (by assumption)) | exact gGr.has (gD.gr (by assumption) _ (by omega))) ?_ | refine gCall_mk (by decide) (by decide) ?_ | refine if_yes (by first | assumption | omega | decide | exact b2i_R _ | exact gR_of (by omega) (by omega)) ?_ | refine if_no (by first | assumption | omega | decide | exact b2i_R _ | exact gR_of (by omega) (by omega)) ?_); (first | refine And.intro (show gR _ from by first | assumption | omega | decide | exact b2i_R _ | exact gR_of (by omega) (by omega)) ?_ | refine And.intro (show gHas _ _ _ from by first | exact gW.has (gD.w (by assumption)) (by omega) | exact gD.has (by assumption) | exact gRu.has (gD.ru (by assumption)) | exact gGr.has (gD.gr (by assumption) _ (by omega))) ?_ | refine gCall_mk (by decide) (by decide) ?_ | refine if_yes (by first | assumption | omega | decide | exact b2i_R _ | exact gR_of (by omega) (by omega)) ?_ | refine if_no (by first | assumption | omega | decide | exact b2i_R _ | exact gR_of (by omega) (by omega)) ?_); (first | refine And.intro (show gR _ from by first | assumption | omega | decide | exact b2i_R _ | exact gR_of (by omega) (by omega)) ?_ | refine And.intro (show gHas _ _ _ from by first | exact gW.has (gD.w (by assumption)) (by omega) | exact gD.has (by assumption) | exact gRu.has (gD.ru (by assumption)) | exact gGr.has (gD.gr (by assumption) _ (by omega))) ?_ | refine gCall_mk (by decide) (by decide) ?_ | refine if_yes (by first | assumption | omega | decide | exact b2i_R _ | exact gR_of (by omega) (by omega)) ?_ | refine if_no (by first | assumption | omega | decide | exact b2i_R _ | exact gR_of (by omega) (by omega)) ?_)
  by_cases q2 : z < y
  · exact if_yes q2 (bd (by omega))
  (first | refine And.intro (show gR _ from by first | assumption | omega | decide | exact b2i_R _ | exact gR_of (by omega) (by omega)) ?_ | refine And.intro (show gHas _ _ _ from by first | exact gW.has (gD.w (by assumption)) (by omega) | exact gD.has (by assumption) | exact gRu.has (gD.ru (by assumption)) | exact gGr.has (gD.gr (by assumption) _ (by omega))) ?_ | refine gCall_mk (by decide) (by decide) ?_ | refine if_yes (by first | assumption | omega | decide | exact b2i_R _ | exact gR_of (by omega) (by omega)) ?_ | refine if_no (by first | assumption | omega | decide | exact b2i_R _ | exact gR_of (by omega) (by omega)) ?_)
  refine d.w.many (by omega) ?_
  (first | refine And.intro (show gR _ from by first | assumption | omega | decide | exact b2i_R _ | exact gR_of (by omega) (by omega)) ?_ | refine And.intro (show gHas _ _ _ from by first | exact gW.has (gD.w (by assumption)) (by omega) | exact gD.has (by assumption) | exact gRu.has (gD.ru (by assumption)) | exact gGr.has (gD.gr (by assumption) _ (by omega))) ?_ | refine gCall_mk (by decide) (by decide) ?_ | refine if_yes (by first | assumption | omega | decide | exact b2i_R _ | exact gR_of (by omega) (by omega)) ?_ | refine if_no (by first | assumption | omega | decide | exact b2i_R _ | exact gR_of (by omega) (by omega)) ?_); (first | refine And.intro (show gR _ from by first | assumption | omega | decide | exact b2i_R _ | exact gR_of (by omega) (by omega)) ?_ | refine And.intro (show gHas _ _ _ from by first | exact gW.has (gD.w (by assumption)) (by omega) | exact gD.has (by assumption) | exact gRu.has (gD.ru (by assumption)) | exact gGr.has (gD.gr (by assumption) _ (by omega))) ?_ | refine gCall_mk (by decide) (by decide) ?_ | refine if_yes (by first | assumption | omega | decide | exact b2i_R _ | exact gR_of (by omega) (by omega)) ?_ | refine if_no (by first | assumption | omega | decide | exact b2i_R _ | exact gR_of (by omega) (by omega)) ?_)
  by_cases q3 : ((U w).length : Int) < z
  · exact if_yes q3 (bd (by omega))
  (first | refine And.intro (show gR _ from by first | assumption | omega | decide | exact b2i_R _ | exact gR_of (by omega) (by omega)) ?_ | refine And.intro (show gHas _ _ _ from by first | exact gW.has (gD.w (by assumption)) (by omega) | exact gD.has (by assumption) | exact gRu.has (gD.ru (by assumption)) | exact gGr.has (gD.gr (by assumption) _ (by omega))) ?_ | refine gCall_mk (by decide) (by decide) ?_ | refine if_yes (by first | assumption | omega | decide | exact b2i_R _ | exact gR_of (by omega) (by omega)) ?_ | refine if_no (by first | assumption | omega | decide | exact b2i_R _ | exact gR_of (by omega) (by omega)) ?_)
  rw [if_pos ⟨by omega, by omega, by omega⟩] at k
  unfold w_X5_remove_J30
  (first | refine And.intro (show gR _ from by first | assumption | omega | decide | exact b2i_R _ | exact gR_of (by omega) (by omega)) ?_ | refine And.intro (show gHas _ _ _ from by first | exact gW.has (gD.w (by assumption)) (by omega) | exact gD.has (by assumption) | exact gRu.has (gD.ru (by assumption)) | exact gGr.has (gD.gr (by assumption) _ (by omega))) ?_ | refine gCall_mk (by decide) (by decide) ?_ | refine if_yes (by first | assumption | omega | decide | exact b2i_R _ | exact gR_of (by omega) (by omega)) ?_ | refine if_no (by first | assumption | omega | decide | exact b2i_R _ | exact gR_of (by omega) (by omega)) ?_)
  refine c_nI1 ?_
  (first | refine And.intro (show gR _ from by first | assumption | omega | decide | exact b2i_R _ | exact gR_of (by omega) (by omega)) ?_ | refine And.intro (show gHas _ _ _ from by first | exact gW.has (gD.w (by assumption)) (by omega) | exact gD.has (by assumption) | exact gRu.has (gD.ru (by assumption)) | exact gGr.has (gD.gr (by assumption) _ (by omega))) ?_ | refine gCall_mk (by decide) (by decide) ?_ | refine if_yes (by first | assumption | omega | decide | exact b2i_R _ | exact gR_of (by omega) (by omega)) ?_ | refine if_no (by first | assumption | omega | decide | exact b2i_R _ | exact gR_of (by omega) (by omega)) ?_)
  exact c_takeOut d hw (show y = (y.toNat : Int) by omega) (show z = (z.toNat : Int) by omega) (by omega) (by omega) k
def m_replace (st : GSt) (x y z v : Int) : Nat × (Int → Prop) × GSt :=
  if okS x then if okS v then if okF y z (st.S x.toNat).length then exch st x.toNat y.toNat z.toNat (st.S v.toNat) else bad 1 st else bad 1 st else bad 1 st
theorem c_replace (d : gD A G h U st) {o : Int} (hx : gR x) (hy : gR y) (hz : gR z) (ho : gR o) (k : gRes A G h [eI] X Q (m_replace st x y z o)) : w_X5_replace X (A 22) x y z o h Q := by
  unfold w_X5_replace
  (first | refine And.intro (show gR _ from by first | assumption | omega | decide | exact b2i_R _ | exact gR_of (by omega) (by omega)) ?_ | refine And.intro (show gHas _ _ _ from by first | exact gW.has (gD.w (by assumption)) (by omega) | exact gD.has (by assumption) | exact gRu.has (gD.ru (by assumption)) | exact gGr.has (gD.gr (by assumption) _ (by omega))) ?_ | refine gCall_mk (by decide) (by decide) ?_ | refine if_yes (by first | assumption | omega | decide | exact b2i_R _ | exact gR_of (by omega) (by omega)) ?_ | refine if_no (by first | assumption | omega | decide | exact b2i_R _ | exact gR_of (by omega) (by omega)) ?_); (first | refine And.intro (show gR _ from by first | assumption | omega | decide | exact b2i_R _ | exact gR_of (by omega) (by omega)) ?_ | refine And.intro (show gHas _ _ _ from by first | exact gW.has (gD.w (by assumption)) (by omega) | exact gD.has (by assumption) | exact gRu.has (gD.ru (by assumption)) | exact gGr.has (gD.gr (by assumption) _ (by omega))) ?_ | refine gCall_mk (by decide) (by decide) ?_ | refine if_yes (by first | assumption | omega | decide | exact b2i_R _ | exact gR_of (by omega) (by omega)) ?_ | refine if_no (by first | assumption | omega | decide | exact b2i_R _ | exact gR_of (by omega) (by omega)) ?_)
  refine c_wordOf d hx (fun q => by rw [m_replace, if_neg q] at k; exact k.ex d gFr.rf) (fun w hw e => ?_)
  subst e
  have l1 := d.w.le (show w < 11 by omega)
  rw [m_replace, if_pos (show okS (w : Int) by omega), Int.toNat_natCast, ← d.s w hw] at k
  (first | refine And.intro (show gR _ from by first | assumption | omega | decide | exact b2i_R _ | exact gR_of (by omega) (by omega)) ?_ | refine And.intro (show gHas _ _ _ from by first | exact gW.has (gD.w (by assumption)) (by omega) | exact gD.has (by assumption) | exact gRu.has (gD.ru (by assumption)) | exact gGr.has (gD.gr (by assumption) _ (by omega))) ?_ | refine gCall_mk (by decide) (by decide) ?_ | refine if_yes (by first | assumption | omega | decide | exact b2i_R _ | exact gR_of (by omega) (by omega)) ?_ | refine if_no (by first | assumption | omega | decide | exact b2i_R _ | exact gR_of (by omega) (by omega)) ?_); (first | refine And.intro (show gR _ from by first | assumption | omega | decide | exact b2i_R _ | exact gR_of (by omega) (by omega)) ?_ | refine And.intro (show gHas _ _ _ from by first | exact gW.has (gD.w (by assumption)) (by omega) | exact gD.has (by assumption) | exact gRu.has (gD.ru (by assumption)) | exact gGr.has (gD.gr (by assumption) _ (by omega))) ?_ | refine gCall_mk (by decide) (by decide) ?_ | refine if_yes (by first | assumption | omega | decide | exact b2i_R _ | exact gR_of (by omega) (by omega)) ?_ | refine if_no (by first | assumption | omega | decide | exact b2i_R _ | exact gR_of (by omega) (by omega)) ?_)
  refine c_wordOf d ho (fun q => by rw [if_neg q] at k; exact k.ex d gFr.rf) (fun v hv e => ?_)
  subst e
  rw [if_pos (show okS (v : Int) by omega), Int.toNat_natCast, ← d.s v hv] at k
  have bd : ¬ (okF y z (U w).length) → w_X5_replace_J37 X Q (A 22) y z (A w) (A v) h 1 6 := fun q => by
    rw [if_neg q] at k
    unfold w_X5_replace_J37 w_X5_replace_J38
    (first | refine And.intro (show gR _ from by first | assumption | omega | decide | exact b2i_R _ | exact gR_of (by omega) (by omega)) ?_ | refine And.intro (show gHas _ _ _ from by first | exact gW.has (gD.w (by assumption)) (by omega) | exact gD.has (by assumption) | exact gRu.has (gD.ru (by assumption)) | exact gGr.has (gD.gr (by assumption) _ (by omega))) ?_ | refine gCall_mk (by decide) (by decide) ?_ | refine if_yes (by first | assumption | omega | decide | exact b2i_R _ | exact gR_of (by omega) (by omega)) ?_ | refine if_no (by first | assumption | omega | decide | exact b2i_R _ | exact gR_of (by omega) (by omega)) ?_)
    exact c_nI0 (k.ex d gFr.rf)
  (first | refine And.intro (show gR _ from by first | assumption | omega | decide | exact b2i_R _ | exact gR_of (by omega) (by omega)) ?_ | refine And.intro (show gHas _ _ _ from by first | exact gW.has (gD.w (by assumption)) (by omega) | exact gD.has (by assumption) | exact gRu.has (gD.ru (by assumption)) | exact gGr.has (gD.gr (by assumption) _ (by omega))) ?_ | refine gCall_mk (by decide) (by decide) ?_ | refine if_yes (by first | assumption | omega | decide | exact b2i_R _ | exact gR_of (by omega) (by omega)) ?_ | refine if_no (by first | assumption | omega | decide | exact b2i_R _ | exact gR_of (by omega) (by omega)) ?_)
  by_cases q1 : y < 0
  · exact if_yes q1 (bd (by omega))
  (first | refine And.intro (show gR _ from by first | assumption | omega | decide | exact b2i_R _ | exact gR_of (by omega) (by omega)) ?_ | refine And.intro (show gHas _ _ _ from by first | exact gW.has (gD.w (by assumption)) (by omega) | exact gD.has (by assumption) | exact gRu.has (gD.ru (by assumption)) | exact gGr.has (gD.gr (by assumption) _ (by omega))) ?_ | refine gCall_mk (by decide) (by decide) ?_ | refine if_yes (by first | assumption | omega | decide | exact b2i_R _ | exact gR_of (by omega) (by omega)) ?_ | refine if_no (by first | assumption | omega | decide | exact b2i_R _ | exact gR_of (by omega) (by omega)) ?_); (first | refine And.intro (show gR _ from by first | assumption | omega | decide | exact b2i_R _ | exact gR_of (by omega) (by omega)) ?_ | refine And.intro (show gHas _ _ _ from by first | exact gW.has (gD.w (by assumption)) (by omega) | exact gD.has (by assumption) | exact gRu.has (gD.ru (by assumption)) | exact gGr.has (gD.gr (by assumption) _ (by omega))) ?_ | refine gCall_mk (by decide) (by decide) ?_ | refine if_yes (by first | assumption | omega | decide | exact b2i_R _ | exact gR_of (by omega) (by omega)) ?_ | refine if_no (by first | assumption | omega | decide | exact b2i_R _ | exact gR_of (by omega) (by omega)) ?_); (first | refine And.intro (show gR _ from by first | assumption | omega | decide | exact b2i_R _ | exact gR_of (by omega) (by omega)) ?_ | refine And.intro (show gHas _ _ _ from by first | exact gW.has (gD.w (by assumption)) (by omega) | exact gD.has (by assumption) | exact gRu.has (gD.ru (by assumption)) | exact gGr.has (gD.gr (by assumption) _ (by omega))) ?_ | refine gCall_mk (by decide) (by decide) ?_ | refine if_yes (by first | assumption | omega | decide | exact b2i_R _ | exact gR_of (by omega) (by omega)) ?_ | refine if_no (by first | assumption | omega | decide | exact b2i_R _ | exact gR_of (by omega) (by omega)) ?_)
  by_cases q2 : z < y
  · exact if_yes q2 (bd (by omega))
  (first | refine And.intro (show gR _ from by first | assumption | omega | decide | exact b2i_R _ | exact gR_of (by omega) (by omega)) ?_ | refine And.intro (show gHas _ _ _ from by first | exact gW.has (gD.w (by assumption)) (by omega) | exact gD.has (by assumption) | exact gRu.has (gD.ru (by assumption)) | exact gGr.has (gD.gr (by assumption) _ (by omega))) ?_ | refine gCall_mk (by decide) (by decide) ?_ | refine if_yes (by first | assumption | omega | decide | exact b2i_R _ | exact gR_of (by omega) (by omega)) ?_ | refine if_no (by first | assumption | omega | decide | exact b2i_R _ | exact gR_of (by omega) (by omega)) ?_)
  refine d.w.many (by omega) ?_
  (first | refine And.intro (show gR _ from by first | assumption | omega | decide | exact b2i_R _ | exact gR_of (by omega) (by omega)) ?_ | refine And.intro (show gHas _ _ _ from by first | exact gW.has (gD.w (by assumption)) (by omega) | exact gD.has (by assumption) | exact gRu.has (gD.ru (by assumption)) | exact gGr.has (gD.gr (by assumption) _ (by omega))) ?_ | refine gCall_mk (by decide) (by decide) ?_ | refine if_yes (by first | assumption | omega | decide | exact b2i_R _ | exact gR_of (by omega) (by omega)) ?_ | refine if_no (by first | assumption | omega | decide | exact b2i_R _ | exact gR_of (by omega) (by omega)) ?_); (first | refine And.intro (show gR _ from by first | assumption | omega | decide | exact b2i_R _ | exact gR_of (by omega) (by omega)) ?_ | refine And.intro (show gHas _ _ _ from by first | exact gW.has (gD.w (by assumption)) (by omega) | exact gD.has (by assumption) | exact gRu.has (gD.ru (by assumption)) | exact gGr.has (gD.gr (by assumption) _ (by omega))) ?_ | refine gCall_mk (by decide) (by decide) ?_ | refine if_yes (by first | assumption | omega | decide | exact b2i_R _ | exact gR_of (by omega) (by omega)) ?_ | refine if_no (by first | assumption | omega | decide | exact b2i_R _ | exact gR_of (by omega) (by omega)) ?_)
  by_cases q3 : ((U w).length : Int) < z
  · exact if_yes q3 (bd (by omega))
  (first | refine And.intro (show gR _ from by first | assumption | omega | decide | exact b2i_R _ | exact gR_of (by omega) (by omega)) ?_ | refine And.intro (show gHas _ _ _ from by first | exact gW.has (gD.w (by assumption)) (by omega) | exact gD.has (by assumption) | exact gRu.has (gD.ru (by assumption)) | exact gGr.has (gD.gr (by assumption) _ (by omega))) ?_ | refine gCall_mk (by decide) (by decide) ?_ | refine if_yes (by first | assumption | omega | decide | exact b2i_R _ | exact gR_of (by omega) (by omega)) ?_ | refine if_no (by first | assumption | omega | decide | exact b2i_R _ | exact gR_of (by omega) (by omega)) ?_)
  rw [if_pos ⟨by omega, by omega, by omega⟩] at k
  unfold w_X5_replace_J38
  (first | refine And.intro (show gR _ from by first | assumption | omega | decide | exact b2i_R _ | exact gR_of (by omega) (by omega)) ?_ | refine And.intro (show gHas _ _ _ from by first | exact gW.has (gD.w (by assumption)) (by omega) | exact gD.has (by assumption) | exact gRu.has (gD.ru (by assumption)) | exact gGr.has (gD.gr (by assumption) _ (by omega))) ?_ | refine gCall_mk (by decide) (by decide) ?_ | refine if_yes (by first | assumption | omega | decide | exact b2i_R _ | exact gR_of (by omega) (by omega)) ?_ | refine if_no (by first | assumption | omega | decide | exact b2i_R _ | exact gR_of (by omega) (by omega)) ?_)
  refine c_nI1 ?_
  (first | refine And.intro (show gR _ from by first | assumption | omega | decide | exact b2i_R _ | exact gR_of (by omega) (by omega)) ?_ | refine And.intro (show gHas _ _ _ from by first | exact gW.has (gD.w (by assumption)) (by omega) | exact gD.has (by assumption) | exact gRu.has (gD.ru (by assumption)) | exact gGr.has (gD.gr (by assumption) _ (by omega))) ?_ | refine gCall_mk (by decide) (by decide) ?_ | refine if_yes (by first | assumption | omega | decide | exact b2i_R _ | exact gR_of (by omega) (by omega)) ?_ | refine if_no (by first | assumption | omega | decide | exact b2i_R _ | exact gR_of (by omega) (by omega)) ?_)
  exact c_exch d hw (by omega) (by omega) (show y = (y.toNat : Int) by omega) (show z = (z.toNat : Int) by omega) (by omega) (by omega) k
end CA
/-! The garden's acts, the others. -/
section CB
variable {A : Nat → Nat} {G : gaG} {h : gaH} {U : Nat → List Bool} {st : GSt} {X : String → gaH → Prop} {Q : Int → gaH → Prop} {w v g : Nat} {x y z : Int}
def m_cutTo (st : GSt) (x y : Int) : Nat × (Int → Prop) × GSt :=
  if okS x then if 0 ≤ y ∧ y ≤ 64 then done (st.sheet x.toNat ((st.S x.toNat).take y.toNat ++ List.replicate (y.toNat - (st.S x.toNat).length) false)) ((st.S x.toNat).length : Int) else bad 2 st else bad 1 st
theorem s_cutTo_L {E : List String} (hw : w < 3) {n : Nat} (hn : n ≤ 64) {u : List Bool} {kc ks : Nat} : ∀ (z i : Nat) (h : gaH) (U : Nat → List Bool), gD A G h U st → gRes A G h E X Q (done (st.sheet w (u.take n ++ List.replicate (n - u.length) false)) (u.length : Int)) → u.length ≤ i → U w = u → u.length ≤ 64 → (n ≤ i ∨ i < n) → (65 - i < z) → U 3 = u.take n ++ List.replicate (min i n - u.length) false → (i ≤ n ∨ i = u.length) → w_X5_cutTo_L56 X Q z (A 22) (n : Int) (A w) (u.length : Int) (i : Int) h kc ks
  | 0, i, _, _, _, _, _, _, _, _, h1, _, _ => absurd h1 (Nat.not_lt_zero _)
  | z + 1, i, h, U, d, k, hi, hu, hul, hni, h1, hb, hin => by
    unfold w_X5_cutTo_L56
    (first | refine And.intro (show gR _ from by first | assumption | omega | decide | exact b2i_R _ | exact gR_of (by omega) (by omega)) ?_ | refine And.intro (show gHas _ _ _ from by first | exact gW.has (gD.w (by assumption)) (by omega) | exact gD.has (by assumption) | exact gRu.has (gD.ru (by assumption)) | exact gGr.has (gD.gr (by assumption) _ (by omega))) ?_ | refine gCall_mk (by decide) (by decide) ?_ | refine if_yes (by first | assumption | omega | decide | exact b2i_R _ | exact gR_of (by omega) (by omega)) ?_ | refine if_no (by first | assumption | omega | decide | exact b2i_R _ | exact gR_of (by omega) (by omega)) ?_); (first | refine And.intro (show gR _ from by first | assumption | omega | decide | exact b2i_R _ | exact gR_of (by omega) (by omega)) ?_ | refine And.intro (show gHas _ _ _ from by first | exact gW.has (gD.w (by assumption)) (by omega) | exact gD.has (by assumption) | exact gRu.has (gD.ru (by assumption)) | exact gGr.has (gD.gr (by assumption) _ (by omega))) ?_ | refine gCall_mk (by decide) (by decide) ?_ | refine if_yes (by first | assumption | omega | decide | exact b2i_R _ | exact gR_of (by omega) (by omega)) ?_ | refine if_no (by first | assumption | omega | decide | exact b2i_R _ | exact gR_of (by omega) (by omega)) ?_)
    by_cases q : n ≤ i
    · refine if_yes (by omega) (d.f3 ?_)
      (first | refine And.intro (show gR _ from by first | assumption | omega | decide | exact b2i_R _ | exact gR_of (by omega) (by omega)) ?_ | refine And.intro (show gHas _ _ _ from by first | exact gW.has (gD.w (by assumption)) (by omega) | exact gD.has (by assumption) | exact gRu.has (gD.ru (by assumption)) | exact gGr.has (gD.gr (by assumption) _ (by omega))) ?_ | refine gCall_mk (by decide) (by decide) ?_ | refine if_yes (by first | assumption | omega | decide | exact b2i_R _ | exact gR_of (by omega) (by omega)) ?_ | refine if_no (by first | assumption | omega | decide | exact b2i_R _ | exact gR_of (by omega) (by omega)) ?_)
      refine s_take d.w (show w < 11 by omega) (show 3 < 11 by decide) (fun h5 w5 s5 => ?_)
      have e : U 3 = u.take n ++ List.replicate (n - u.length) false := by rw [hb, Nat.min_eq_right q]
      rw [e] at w5
      have d5 := d.sh hw w5 s5
      (first | refine And.intro (show gR _ from by first | assumption | omega | decide | exact b2i_R _ | exact gR_of (by omega) (by omega)) ?_ | refine And.intro (show gHas _ _ _ from by first | exact gW.has (gD.w (by assumption)) (by omega) | exact gD.has (by assumption) | exact gRu.has (gD.ru (by assumption)) | exact gGr.has (gD.gr (by assumption) _ (by omega))) ?_ | refine gCall_mk (by decide) (by decide) ?_ | refine if_yes (by first | assumption | omega | decide | exact b2i_R _ | exact gR_of (by omega) (by omega)) ?_ | refine if_no (by first | assumption | omega | decide | exact b2i_R _ | exact gR_of (by omega) (by omega)) ?_)
      exact c_end d hw w5 s5 k
    · refine if_no (by omega) (d.f3 ?_)
      (first | refine And.intro (show gR _ from by first | assumption | omega | decide | exact b2i_R _ | exact gR_of (by omega) (by omega)) ?_ | refine And.intro (show gHas _ _ _ from by first | exact gW.has (gD.w (by assumption)) (by omega) | exact gD.has (by assumption) | exact gRu.has (gD.ru (by assumption)) | exact gGr.has (gD.gr (by assumption) _ (by omega))) ?_ | refine gCall_mk (by decide) (by decide) ?_ | refine if_yes (by first | assumption | omega | decide | exact b2i_R _ | exact gR_of (by omega) (by omega)) ?_ | refine if_no (by first | assumption | omega | decide | exact b2i_R _ | exact gR_of (by omega) (by omega)) ?_)
      refine v_add d.w (by decide) (by rw [hb]; simp; omega) (b := false) rfl (fun h1 V1 w1 s1 e1 o1 => ?_)
      have d1 := d.b w1 s1 (fun v hv => o1 _ (by omega)) (fun v h5 _ => o1 _ (by omega))
      rw [show (i : Int) + 1 = ((i + 1 : Nat) : Int) by omega]
      refine s_cutTo_L hw hn z (i + 1) h1 V1 d1 (k.on (gFr.sm s1)) (by omega) ((o1 w (by omega)).trans hu) hul (by omega) (by omega) ?_ (by omega)
      rw [e1, hb, show min (i + 1) n - u.length = (min i n - u.length) + 1 by omega, List.replicate_succ', List.append_assoc]
theorem c_cutTo (d : gD A G h U st) (hx : gR x) (hy : gR y) (k : gRes A G h [eI, eA] X Q (m_cutTo st x y)) : w_X5_cutTo X (A 22) x y h Q := by
  unfold w_X5_cutTo
  (first | refine And.intro (show gR _ from by first | assumption | omega | decide | exact b2i_R _ | exact gR_of (by omega) (by omega)) ?_ | refine And.intro (show gHas _ _ _ from by first | exact gW.has (gD.w (by assumption)) (by omega) | exact gD.has (by assumption) | exact gRu.has (gD.ru (by assumption)) | exact gGr.has (gD.gr (by assumption) _ (by omega))) ?_ | refine gCall_mk (by decide) (by decide) ?_ | refine if_yes (by first | assumption | omega | decide | exact b2i_R _ | exact gR_of (by omega) (by omega)) ?_ | refine if_no (by first | assumption | omega | decide | exact b2i_R _ | exact gR_of (by omega) (by omega)) ?_); (first | refine And.intro (show gR _ from by first | assumption | omega | decide | exact b2i_R _ | exact gR_of (by omega) (by omega)) ?_ | refine And.intro (show gHas _ _ _ from by first | exact gW.has (gD.w (by assumption)) (by omega) | exact gD.has (by assumption) | exact gRu.has (gD.ru (by assumption)) | exact gGr.has (gD.gr (by assumption) _ (by omega))) ?_ | refine gCall_mk (by decide) (by decide) ?_ | refine if_yes (by first | assumption | omega | decide | exact b2i_R _ | exact gR_of (by omega) (by omega)) ?_ | refine if_no (by first | assumption | omega | decide | exact b2i_R _ | exact gR_of (by omega) (by omega)) ?_)
  refine c_wordOf d hx (fun q => by rw [m_cutTo, if_neg q] at k; exact k.ex d gFr.rf) (fun w hw e => ?_)
  subst e
  have l1 := d.w.le (show w < 11 by omega)
  rw [m_cutTo, if_pos (show okS (w : Int) by omega), Int.toNat_natCast, ← d.s w hw] at k
  have bd : ¬ (0 ≤ y ∧ y ≤ 64) → w_X5_cutTo_J20 X Q (A 22) y (A w) h 1 6 := fun q => by
    rw [if_neg q] at k
    unfold w_X5_cutTo_J20 w_X5_cutTo_J21
    (first | refine And.intro (show gR _ from by first | assumption | omega | decide | exact b2i_R _ | exact gR_of (by omega) (by omega)) ?_ | refine And.intro (show gHas _ _ _ from by first | exact gW.has (gD.w (by assumption)) (by omega) | exact gD.has (by assumption) | exact gRu.has (gD.ru (by assumption)) | exact gGr.has (gD.gr (by assumption) _ (by omega))) ?_ | refine gCall_mk (by decide) (by decide) ?_ | refine if_yes (by first | assumption | omega | decide | exact b2i_R _ | exact gR_of (by omega) (by omega)) ?_ | refine if_no (by first | assumption | omega | decide | exact b2i_R _ | exact gR_of (by omega) (by omega)) ?_)
    exact c_nA0 (k.ex d gFr.rf)
  (first | refine And.intro (show gR _ from by first | assumption | omega | decide | exact b2i_R _ | exact gR_of (by omega) (by omega)) ?_ | refine And.intro (show gHas _ _ _ from by first | exact gW.has (gD.w (by assumption)) (by omega) | exact gD.has (by assumption) | exact gRu.has (gD.ru (by assumption)) | exact gGr.has (gD.gr (by assumption) _ (by omega))) ?_ | refine gCall_mk (by decide) (by decide) ?_ | refine if_yes (by first | assumption | omega | decide | exact b2i_R _ | exact gR_of (by omega) (by omega)) ?_ | refine if_no (by first | assumption | omega | decide | exact b2i_R _ | exact gR_of (by omega) (by omega)) ?_)
  by_cases q1 : y < 0
  · exact if_yes q1 (bd (by omega))
  (first | refine And.intro (show gR _ from by first | assumption | omega | decide | exact b2i_R _ | exact gR_of (by omega) (by omega)) ?_ | refine And.intro (show gHas _ _ _ from by first | exact gW.has (gD.w (by assumption)) (by omega) | exact gD.has (by assumption) | exact gRu.has (gD.ru (by assumption)) | exact gGr.has (gD.gr (by assumption) _ (by omega))) ?_ | refine gCall_mk (by decide) (by decide) ?_ | refine if_yes (by first | assumption | omega | decide | exact b2i_R _ | exact gR_of (by omega) (by omega)) ?_ | refine if_no (by first | assumption | omega | decide | exact b2i_R _ | exact gR_of (by omega) (by omega)) ?_); (first | refine And.intro (show gR _ from by first | assumption | omega | decide | exact b2i_R _ | exact gR_of (by omega) (by omega)) ?_ | refine And.intro (show gHas _ _ _ from by first | exact gW.has (gD.w (by assumption)) (by omega) | exact gD.has (by assumption) | exact gRu.has (gD.ru (by assumption)) | exact gGr.has (gD.gr (by assumption) _ (by omega))) ?_ | refine gCall_mk (by decide) (by decide) ?_ | refine if_yes (by first | assumption | omega | decide | exact b2i_R _ | exact gR_of (by omega) (by omega)) ?_ | refine if_no (by first | assumption | omega | decide | exact b2i_R _ | exact gR_of (by omega) (by omega)) ?_)
  by_cases q2 : 64 < y
  · exact if_yes q2 (bd (by omega))
  (first | refine And.intro (show gR _ from by first | assumption | omega | decide | exact b2i_R _ | exact gR_of (by omega) (by omega)) ?_ | refine And.intro (show gHas _ _ _ from by first | exact gW.has (gD.w (by assumption)) (by omega) | exact gD.has (by assumption) | exact gRu.has (gD.ru (by assumption)) | exact gGr.has (gD.gr (by assumption) _ (by omega))) ?_ | refine gCall_mk (by decide) (by decide) ?_ | refine if_yes (by first | assumption | omega | decide | exact b2i_R _ | exact gR_of (by omega) (by omega)) ?_ | refine if_no (by first | assumption | omega | decide | exact b2i_R _ | exact gR_of (by omega) (by omega)) ?_)
  rw [if_pos ⟨by omega, by omega⟩] at k
  obtain ⟨n, rfl⟩ : ∃ n : Nat, y = n := ⟨y.toNat, by omega⟩
  rw [Int.toNat_natCast] at k
  unfold w_X5_cutTo_J21
  (first | refine And.intro (show gR _ from by first | assumption | omega | decide | exact b2i_R _ | exact gR_of (by omega) (by omega)) ?_ | refine And.intro (show gHas _ _ _ from by first | exact gW.has (gD.w (by assumption)) (by omega) | exact gD.has (by assumption) | exact gRu.has (gD.ru (by assumption)) | exact gGr.has (gD.gr (by assumption) _ (by omega))) ?_ | refine gCall_mk (by decide) (by decide) ?_ | refine if_yes (by first | assumption | omega | decide | exact b2i_R _ | exact gR_of (by omega) (by omega)) ?_ | refine if_no (by first | assumption | omega | decide | exact b2i_R _ | exact gR_of (by omega) (by omega)) ?_)
  refine c_nA1 (d.w.many (by omega) (d.f3 ?_))
  (first | refine And.intro (show gR _ from by first | assumption | omega | decide | exact b2i_R _ | exact gR_of (by omega) (by omega)) ?_ | refine And.intro (show gHas _ _ _ from by first | exact gW.has (gD.w (by assumption)) (by omega) | exact gD.has (by assumption) | exact gRu.has (gD.ru (by assumption)) | exact gGr.has (gD.gr (by assumption) _ (by omega))) ?_ | refine gCall_mk (by decide) (by decide) ?_ | refine if_yes (by first | assumption | omega | decide | exact b2i_R _ | exact gR_of (by omega) (by omega)) ?_ | refine if_no (by first | assumption | omega | decide | exact b2i_R _ | exact gR_of (by omega) (by omega)) ?_)
  refine v_clear d.w (by decide) (fun h1 V1 w1 s1 e1 o1 => ?_)
  have d1 := d.b w1 s1 (fun v hv => o1 _ (by omega)) (fun v h5 _ => o1 _ (by omega))
  refine d1.f3 ?_
  (first | refine And.intro (show gR _ from by first | assumption | omega | decide | exact b2i_R _ | exact gR_of (by omega) (by omega)) ?_ | refine And.intro (show gHas _ _ _ from by first | exact gW.has (gD.w (by assumption)) (by omega) | exact gD.has (by assumption) | exact gRu.has (gD.ru (by assumption)) | exact gGr.has (gD.gr (by assumption) _ (by omega))) ?_ | refine gCall_mk (by decide) (by decide) ?_ | refine if_yes (by first | assumption | omega | decide | exact b2i_R _ | exact gR_of (by omega) (by omega)) ?_ | refine if_no (by first | assumption | omega | decide | exact b2i_R _ | exact gR_of (by omega) (by omega)) ?_); (first | refine And.intro (show gR _ from by first | assumption | omega | decide | exact b2i_R _ | exact gR_of (by omega) (by omega)) ?_ | refine And.intro (show gHas _ _ _ from by first | exact gW.has (gD.w (by assumption)) (by omega) | exact gD.has (by assumption) | exact gRu.has (gD.ru (by assumption)) | exact gGr.has (gD.gr (by assumption) _ (by omega))) ?_ | refine gCall_mk (by decide) (by decide) ?_ | refine if_yes (by first | assumption | omega | decide | exact b2i_R _ | exact gR_of (by omega) (by omega)) ?_ | refine if_no (by first | assumption | omega | decide | exact b2i_R _ | exact gR_of (by omega) (by omega)) ?_); (first | refine And.intro (show gR _ from by first | assumption | omega | decide | exact b2i_R _ | exact gR_of (by omega) (by omega)) ?_ | refine And.intro (show gHas _ _ _ from by first | exact gW.has (gD.w (by assumption)) (by omega) | exact gD.has (by assumption) | exact gRu.has (gD.ru (by assumption)) | exact gGr.has (gD.gr (by assumption) _ (by omega))) ?_ | refine gCall_mk (by decide) (by decide) ?_ | refine if_yes (by first | assumption | omega | decide | exact b2i_R _ | exact gR_of (by omega) (by omega)) ?_ | refine if_no (by first | assumption | omega | decide | exact b2i_R _ | exact gR_of (by omega) (by omega)) ?_)
  have a1 := o1 w (by omega)
  refine v_addPart w1 (show 3 < 11 by decide) (show w < 11 by omega) (by omega) (i := 0) (t := min (U w).length n) rfl (by omega) (Nat.zero_le _) (by rw [a1]; omega) (by rw [e1]; simp; omega) (fun h2 V2 w2 s2 e2 o2 => ⟨66, ?_⟩)
  have d2 := d1.b w2 s2 (fun v hv => o2 _ (by omega)) (fun v h5 _ => o2 _ (by omega))
  refine s_cutTo_L hw (by omega) _ (U w).length h2 V2 d2 (k.on ((gFr.sm s1).tr (gFr.sm s2))) (Nat.le_refl _) ((o2 w (by omega)).trans a1) l1 (by omega) (by omega) ?_ (Or.inr rfl)
  rw [e2, e1, a1, show min (U w).length n - (U w).length = 0 by omega]
  simp only [List.drop_zero, Nat.sub_zero, List.nil_append, List.replicate_zero, List.append_nil]
  by_cases q : (U w).length ≤ n
  · rw [Nat.min_eq_left q, List.take_of_length_le (Nat.le_refl _), List.take_of_length_le q]
  · rw [Nat.min_eq_right (by omega)]
def m_turn (st : GSt) (x : Int) : Nat × (Int → Prop) × GSt :=
  if okS x then settled st x.toNat (st.S x.toNat).reverse else bad 1 st
theorem c_turn (d : gD A G h U st) (hx : gR x) (k : gRes A G h [eI] X Q (m_turn st x)) : w_X5_turn X (A 22) x h Q := by
  unfold w_X5_turn
  (first | refine And.intro (show gR _ from by first | assumption | omega | decide | exact b2i_R _ | exact gR_of (by omega) (by omega)) ?_ | refine And.intro (show gHas _ _ _ from by first | exact gW.has (gD.w (by assumption)) (by omega) | exact gD.has (by assumption) | exact gRu.has (gD.ru (by assumption)) | exact gGr.has (gD.gr (by assumption) _ (by omega))) ?_ | refine gCall_mk (by decide) (by decide) ?_ | refine if_yes (by first | assumption | omega | decide | exact b2i_R _ | exact gR_of (by omega) (by omega)) ?_ | refine if_no (by first | assumption | omega | decide | exact b2i_R _ | exact gR_of (by omega) (by omega)) ?_); (first | refine And.intro (show gR _ from by first | assumption | omega | decide | exact b2i_R _ | exact gR_of (by omega) (by omega)) ?_ | refine And.intro (show gHas _ _ _ from by first | exact gW.has (gD.w (by assumption)) (by omega) | exact gD.has (by assumption) | exact gRu.has (gD.ru (by assumption)) | exact gGr.has (gD.gr (by assumption) _ (by omega))) ?_ | refine gCall_mk (by decide) (by decide) ?_ | refine if_yes (by first | assumption | omega | decide | exact b2i_R _ | exact gR_of (by omega) (by omega)) ?_ | refine if_no (by first | assumption | omega | decide | exact b2i_R _ | exact gR_of (by omega) (by omega)) ?_)
  refine c_wordOf d hx (fun q => by rw [m_turn, if_neg q] at k; exact k.ex d gFr.rf) (fun w hw e => ?_)
  subst e
  rw [m_turn, if_pos (show okS (w : Int) by omega), Int.toNat_natCast, ← d.s w hw] at k
  refine d.f3 ?_
  (first | refine And.intro (show gR _ from by first | assumption | omega | decide | exact b2i_R _ | exact gR_of (by omega) (by omega)) ?_ | refine And.intro (show gHas _ _ _ from by first | exact gW.has (gD.w (by assumption)) (by omega) | exact gD.has (by assumption) | exact gRu.has (gD.ru (by assumption)) | exact gGr.has (gD.gr (by assumption) _ (by omega))) ?_ | refine gCall_mk (by decide) (by decide) ?_ | refine if_yes (by first | assumption | omega | decide | exact b2i_R _ | exact gR_of (by omega) (by omega)) ?_ | refine if_no (by first | assumption | omega | decide | exact b2i_R _ | exact gR_of (by omega) (by omega)) ?_)
  refine v_takeTurned d.w (show 3 < 11 by decide) (show w < 11 by omega) (by omega) (fun h1 V1 w1 s1 e1 o1 => ?_)
  have d1 := d.b w1 s1 (fun v hv => o1 _ (by omega)) (fun v h5 _ => o1 _ (by omega))
  refine d1.f3 ?_
  (first | refine And.intro (show gR _ from by first | assumption | omega | decide | exact b2i_R _ | exact gR_of (by omega) (by omega)) ?_ | refine And.intro (show gHas _ _ _ from by first | exact gW.has (gD.w (by assumption)) (by omega) | exact gD.has (by assumption) | exact gRu.has (gD.ru (by assumption)) | exact gGr.has (gD.gr (by assumption) _ (by omega))) ?_ | refine gCall_mk (by decide) (by decide) ?_ | refine if_yes (by first | assumption | omega | decide | exact b2i_R _ | exact gR_of (by omega) (by omega)) ?_ | refine if_no (by first | assumption | omega | decide | exact b2i_R _ | exact gR_of (by omega) (by omega)) ?_)
  exact c_settle d1 hw (by decide) (by rw [e1]; exact k.on (gFr.sm s1))
def m_exchange (st : GSt) (x : Int) : Nat × (Int → Prop) × GSt :=
  if okS x then done (st.sheet x.toNat ((st.S x.toNat).map (fun b => !b))) (ones ((st.S x.toNat).map (fun b => !b)) : Int) else bad 1 st
theorem s_exchange_L {E : List String} (hw : w < 3) {u : List Bool} (hul : u.length ≤ 64) {kc ks : Nat} {h0 : gaH} {U0 : Nat → List Bool} (d0 : gD A G h0 U0 st) (k : gRes A G h0 E X Q (done (st.sheet w (u.map (fun b => !b))) (ones (u.map (fun b => !b)) : Int))) : ∀ (z i : Nat) (h : gaH), gW A h (pu U0 w ((u.take i).map (fun b => !b) ++ u.drop i)) → gSm A h0 h → i ≤ u.length → u.length - i < z → w_X5_exchange_L8 X Q z (A 22) (A w) (i : Int) h kc ks
  | 0, _, _, _, _, _, h1 => absurd h1 (Nat.not_lt_zero _)
  | z + 1, i, h, gw, sm, hi, h1 => by
    have hl : ((u.take i).map (fun b => !b) ++ u.drop i).length = u.length := by simp; omega
    have d1 := d0.sh hw gw sm
    unfold w_X5_exchange_L8
    refine gw.many (by omega) ?_
    rw [pu_self, hl]
    (first | refine And.intro (show gR _ from by first | assumption | omega | decide | exact b2i_R _ | exact gR_of (by omega) (by omega)) ?_ | refine And.intro (show gHas _ _ _ from by first | exact gW.has (gD.w (by assumption)) (by omega) | exact gD.has (by assumption) | exact gRu.has (gD.ru (by assumption)) | exact gGr.has (gD.gr (by assumption) _ (by omega))) ?_ | refine gCall_mk (by decide) (by decide) ?_ | refine if_yes (by first | assumption | omega | decide | exact b2i_R _ | exact gR_of (by omega) (by omega)) ?_ | refine if_no (by first | assumption | omega | decide | exact b2i_R _ | exact gR_of (by omega) (by omega)) ?_); (first | refine And.intro (show gR _ from by first | assumption | omega | decide | exact b2i_R _ | exact gR_of (by omega) (by omega)) ?_ | refine And.intro (show gHas _ _ _ from by first | exact gW.has (gD.w (by assumption)) (by omega) | exact gD.has (by assumption) | exact gRu.has (gD.ru (by assumption)) | exact gGr.has (gD.gr (by assumption) _ (by omega))) ?_ | refine gCall_mk (by decide) (by decide) ?_ | refine if_yes (by first | assumption | omega | decide | exact b2i_R _ | exact gR_of (by omega) (by omega)) ?_ | refine if_no (by first | assumption | omega | decide | exact b2i_R _ | exact gR_of (by omega) (by omega)) ?_)
    by_cases q : u.length ≤ i
    · refine if_yes (by omega) (s_upsOf gw (show w < 11 by omega) ?_)
      rw [List.take_of_length_le q, List.drop_of_length_le q, List.append_nil] at gw d1 ⊢
      rw [pu_self]
      (first | refine And.intro (show gR _ from by first | assumption | omega | decide | exact b2i_R _ | exact gR_of (by omega) (by omega)) ?_ | refine And.intro (show gHas _ _ _ from by first | exact gW.has (gD.w (by assumption)) (by omega) | exact gD.has (by assumption) | exact gRu.has (gD.ru (by assumption)) | exact gGr.has (gD.gr (by assumption) _ (by omega))) ?_ | refine gCall_mk (by decide) (by decide) ?_ | refine if_yes (by first | assumption | omega | decide | exact b2i_R _ | exact gR_of (by omega) (by omega)) ?_ | refine if_no (by first | assumption | omega | decide | exact b2i_R _ | exact gR_of (by omega) (by omega)) ?_)
      exact c_end d0 hw gw sm k
    · refine if_no (by omega) ?_
      (first | refine And.intro (show gR _ from by first | assumption | omega | decide | exact b2i_R _ | exact gR_of (by omega) (by omega)) ?_ | refine And.intro (show gHas _ _ _ from by first | exact gW.has (gD.w (by assumption)) (by omega) | exact gD.has (by assumption) | exact gRu.has (gD.ru (by assumption)) | exact gGr.has (gD.gr (by assumption) _ (by omega))) ?_ | refine gCall_mk (by decide) (by decide) ?_ | refine if_yes (by first | assumption | omega | decide | exact b2i_R _ | exact gR_of (by omega) (by omega)) ?_ | refine if_no (by first | assumption | omega | decide | exact b2i_R _ | exact gR_of (by omega) (by omega)) ?_)
      refine s_isUp gw (show w < 11 by omega) rfl (by rw [pu_self, hl]; omega) ?_
      (first | refine And.intro (show gR _ from by first | assumption | omega | decide | exact b2i_R _ | exact gR_of (by omega) (by omega)) ?_ | refine And.intro (show gHas _ _ _ from by first | exact gW.has (gD.w (by assumption)) (by omega) | exact gD.has (by assumption) | exact gRu.has (gD.ru (by assumption)) | exact gGr.has (gD.gr (by assumption) _ (by omega))) ?_ | refine gCall_mk (by decide) (by decide) ?_ | refine if_yes (by first | assumption | omega | decide | exact b2i_R _ | exact gR_of (by omega) (by omega)) ?_ | refine if_no (by first | assumption | omega | decide | exact b2i_R _ | exact gR_of (by omega) (by omega)) ?_)
      have e1 : (pu U0 w ((u.take i).map (fun b => !b) ++ u.drop i) w).getD i false = u.getD i false := by
        rw [pu_self, take_one (u := u) (i := i) (by omega), List.getD_eq_getElem?_getD, List.getElem?_append_right (by simp; omega)]
        simp [Nat.min_eq_left hi]
      rw [e1]
      have fin : w_X5_exchange_J31 X Q (w_X5_exchange_L8 X Q z) (A 22) (A w) (i : Int) (A w) (i : Int) (b2i (! u.getD i false)) h kc ks := by
        unfold w_X5_exchange_J31
        (first | refine And.intro (show gR _ from by first | assumption | omega | decide | exact b2i_R _ | exact gR_of (by omega) (by omega)) ?_ | refine And.intro (show gHas _ _ _ from by first | exact gW.has (gD.w (by assumption)) (by omega) | exact gD.has (by assumption) | exact gRu.has (gD.ru (by assumption)) | exact gGr.has (gD.gr (by assumption) _ (by omega))) ?_ | refine gCall_mk (by decide) (by decide) ?_ | refine if_yes (by first | assumption | omega | decide | exact b2i_R _ | exact gR_of (by omega) (by omega)) ?_ | refine if_no (by first | assumption | omega | decide | exact b2i_R _ | exact gR_of (by omega) (by omega)) ?_)
        refine s_put gw (show w < 11 by omega) rfl (show i < _ by rw [pu_self, hl]; omega) rfl (fun h2 w2 s2 => ?_)
        rw [show (i : Int) + 1 = ((i + 1 : Nat) : Int) by omega]
        refine s_exchange_L hw hul d0 k z (i + 1) h2 (w2.eq (fun v _ => ?_)) (sm.tr s2) (by omega) (by omega)
        by_cases e : v = w
        · subst e
          rw [pu_self, pu_self, pu_self, take_one (u := u) (i := i) (by omega)]
          have e3 : u.take (i + 1) = u.take i ++ [u.getD i false] := by
            rw [List.take_add_one, getD_lt (show i < u.length by omega)]; rfl
          rw [e3, List.map_append, List.append_assoc, List.set_append_right _ _ (by simp; omega)]
          simp [Nat.min_eq_left hi]
        · rw [pu_ne _ _ e, pu_ne _ _ e, pu_ne _ _ e]
      generalize u.getD i false = b at fin
      cases b
      · exact if_yes rfl fin
      · exact if_no (by decide) fin
theorem c_exchange (d : gD A G h U st) (hx : gR x) (k : gRes A G h [eI] X Q (m_exchange st x)) : w_X5_exchange X (A 22) x h Q := by
  unfold w_X5_exchange
  (first | refine And.intro (show gR _ from by first | assumption | omega | decide | exact b2i_R _ | exact gR_of (by omega) (by omega)) ?_ | refine And.intro (show gHas _ _ _ from by first | exact gW.has (gD.w (by assumption)) (by omega) | exact gD.has (by assumption) | exact gRu.has (gD.ru (by assumption)) | exact gGr.has (gD.gr (by assumption) _ (by omega))) ?_ | refine gCall_mk (by decide) (by decide) ?_ | refine if_yes (by first | assumption | omega | decide | exact b2i_R _ | exact gR_of (by omega) (by omega)) ?_ | refine if_no (by first | assumption | omega | decide | exact b2i_R _ | exact gR_of (by omega) (by omega)) ?_); (first | refine And.intro (show gR _ from by first | assumption | omega | decide | exact b2i_R _ | exact gR_of (by omega) (by omega)) ?_ | refine And.intro (show gHas _ _ _ from by first | exact gW.has (gD.w (by assumption)) (by omega) | exact gD.has (by assumption) | exact gRu.has (gD.ru (by assumption)) | exact gGr.has (gD.gr (by assumption) _ (by omega))) ?_ | refine gCall_mk (by decide) (by decide) ?_ | refine if_yes (by first | assumption | omega | decide | exact b2i_R _ | exact gR_of (by omega) (by omega)) ?_ | refine if_no (by first | assumption | omega | decide | exact b2i_R _ | exact gR_of (by omega) (by omega)) ?_)
  refine c_wordOf d hx (fun q => by rw [m_exchange, if_neg q] at k; exact k.ex d gFr.rf) (fun w hw e => ⟨65, ?_⟩)
  subst e
  rw [m_exchange, if_pos (show okS (w : Int) by omega), Int.toNat_natCast, ← d.s w hw] at k
  have l1 := d.w.le (show w < 11 by omega)
  refine s_exchange_L hw l1 d k 65 0 h (d.w.eq (fun v _ => ?_)) gSm.rf (Nat.zero_le _) (by omega)
  by_cases e : v = w
  · rw [e, pu_self]; rfl
  · rw [pu_ne _ _ e]
def m_rotate (st : GSt) (x y : Int) : Nat × (Int → Prop) × GSt :=
  if okS x then if 0 ≤ y ∧ y ≤ ((st.S x.toNat).length : Int) then settled st x.toNat ((st.S x.toNat).drop y.toNat ++ (st.S x.toNat).take y.toNat) else bad 2 st else bad 1 st
theorem c_rotate (d : gD A G h U st) (hx : gR x) (hy : gR y) (k : gRes A G h [eI, eA] X Q (m_rotate st x y)) : w_X5_rotate X (A 22) x y h Q := by
  unfold w_X5_rotate
  (first | refine And.intro (show gR _ from by first | assumption | omega | decide | exact b2i_R _ | exact gR_of (by omega) (by omega)) ?_ | refine And.intro (show gHas _ _ _ from by first | exact gW.has (gD.w (by assumption)) (by omega) | exact gD.has (by assumption) | exact gRu.has (gD.ru (by assumption)) | exact gGr.has (gD.gr (by assumption) _ (by omega))) ?_ | refine gCall_mk (by decide) (by decide) ?_ | refine if_yes (by first | assumption | omega | decide | exact b2i_R _ | exact gR_of (by omega) (by omega)) ?_ | refine if_no (by first | assumption | omega | decide | exact b2i_R _ | exact gR_of (by omega) (by omega)) ?_); (first | refine And.intro (show gR _ from by first | assumption | omega | decide | exact b2i_R _ | exact gR_of (by omega) (by omega)) ?_ | refine And.intro (show gHas _ _ _ from by first | exact gW.has (gD.w (by assumption)) (by omega) | exact gD.has (by assumption) | exact gRu.has (gD.ru (by assumption)) | exact gGr.has (gD.gr (by assumption) _ (by omega))) ?_ | refine gCall_mk (by decide) (by decide) ?_ | refine if_yes (by first | assumption | omega | decide | exact b2i_R _ | exact gR_of (by omega) (by omega)) ?_ | refine if_no (by first | assumption | omega | decide | exact b2i_R _ | exact gR_of (by omega) (by omega)) ?_)
  refine c_wordOf d hx (fun q => by rw [m_rotate, if_neg q] at k; exact k.ex d gFr.rf) (fun w hw e => ?_)
  subst e
  have l1 := d.w.le (show w < 11 by omega)
  rw [m_rotate, if_pos (show okS (w : Int) by omega), Int.toNat_natCast, ← d.s w hw] at k
  have bd : ¬ (0 ≤ y ∧ y ≤ ((U w).length : Int)) → w_X5_rotate_J22 X Q (A 22) y (A w) h 1 6 := fun q => by
    rw [if_neg q] at k
    unfold w_X5_rotate_J22 w_X5_rotate_J23
    (first | refine And.intro (show gR _ from by first | assumption | omega | decide | exact b2i_R _ | exact gR_of (by omega) (by omega)) ?_ | refine And.intro (show gHas _ _ _ from by first | exact gW.has (gD.w (by assumption)) (by omega) | exact gD.has (by assumption) | exact gRu.has (gD.ru (by assumption)) | exact gGr.has (gD.gr (by assumption) _ (by omega))) ?_ | refine gCall_mk (by decide) (by decide) ?_ | refine if_yes (by first | assumption | omega | decide | exact b2i_R _ | exact gR_of (by omega) (by omega)) ?_ | refine if_no (by first | assumption | omega | decide | exact b2i_R _ | exact gR_of (by omega) (by omega)) ?_)
    exact c_nA0 (k.ex d gFr.rf)
  (first | refine And.intro (show gR _ from by first | assumption | omega | decide | exact b2i_R _ | exact gR_of (by omega) (by omega)) ?_ | refine And.intro (show gHas _ _ _ from by first | exact gW.has (gD.w (by assumption)) (by omega) | exact gD.has (by assumption) | exact gRu.has (gD.ru (by assumption)) | exact gGr.has (gD.gr (by assumption) _ (by omega))) ?_ | refine gCall_mk (by decide) (by decide) ?_ | refine if_yes (by first | assumption | omega | decide | exact b2i_R _ | exact gR_of (by omega) (by omega)) ?_ | refine if_no (by first | assumption | omega | decide | exact b2i_R _ | exact gR_of (by omega) (by omega)) ?_)
  by_cases q1 : y < 0
  · exact if_yes q1 (bd (by omega))
  (first | refine And.intro (show gR _ from by first | assumption | omega | decide | exact b2i_R _ | exact gR_of (by omega) (by omega)) ?_ | refine And.intro (show gHas _ _ _ from by first | exact gW.has (gD.w (by assumption)) (by omega) | exact gD.has (by assumption) | exact gRu.has (gD.ru (by assumption)) | exact gGr.has (gD.gr (by assumption) _ (by omega))) ?_ | refine gCall_mk (by decide) (by decide) ?_ | refine if_yes (by first | assumption | omega | decide | exact b2i_R _ | exact gR_of (by omega) (by omega)) ?_ | refine if_no (by first | assumption | omega | decide | exact b2i_R _ | exact gR_of (by omega) (by omega)) ?_)
  refine d.w.many (by omega) ?_
  (first | refine And.intro (show gR _ from by first | assumption | omega | decide | exact b2i_R _ | exact gR_of (by omega) (by omega)) ?_ | refine And.intro (show gHas _ _ _ from by first | exact gW.has (gD.w (by assumption)) (by omega) | exact gD.has (by assumption) | exact gRu.has (gD.ru (by assumption)) | exact gGr.has (gD.gr (by assumption) _ (by omega))) ?_ | refine gCall_mk (by decide) (by decide) ?_ | refine if_yes (by first | assumption | omega | decide | exact b2i_R _ | exact gR_of (by omega) (by omega)) ?_ | refine if_no (by first | assumption | omega | decide | exact b2i_R _ | exact gR_of (by omega) (by omega)) ?_); (first | refine And.intro (show gR _ from by first | assumption | omega | decide | exact b2i_R _ | exact gR_of (by omega) (by omega)) ?_ | refine And.intro (show gHas _ _ _ from by first | exact gW.has (gD.w (by assumption)) (by omega) | exact gD.has (by assumption) | exact gRu.has (gD.ru (by assumption)) | exact gGr.has (gD.gr (by assumption) _ (by omega))) ?_ | refine gCall_mk (by decide) (by decide) ?_ | refine if_yes (by first | assumption | omega | decide | exact b2i_R _ | exact gR_of (by omega) (by omega)) ?_ | refine if_no (by first | assumption | omega | decide | exact b2i_R _ | exact gR_of (by omega) (by omega)) ?_)
  by_cases q2 : ((U w).length : Int) < y
  · exact if_yes q2 (bd (by omega))
  (first | refine And.intro (show gR _ from by first | assumption | omega | decide | exact b2i_R _ | exact gR_of (by omega) (by omega)) ?_ | refine And.intro (show gHas _ _ _ from by first | exact gW.has (gD.w (by assumption)) (by omega) | exact gD.has (by assumption) | exact gRu.has (gD.ru (by assumption)) | exact gGr.has (gD.gr (by assumption) _ (by omega))) ?_ | refine gCall_mk (by decide) (by decide) ?_ | refine if_yes (by first | assumption | omega | decide | exact b2i_R _ | exact gR_of (by omega) (by omega)) ?_ | refine if_no (by first | assumption | omega | decide | exact b2i_R _ | exact gR_of (by omega) (by omega)) ?_)
  rw [if_pos ⟨by omega, by omega⟩] at k
  obtain ⟨n, rfl⟩ : ∃ n : Nat, y = n := ⟨y.toNat, by omega⟩
  rw [Int.toNat_natCast] at k
  unfold w_X5_rotate_J23
  (first | refine And.intro (show gR _ from by first | assumption | omega | decide | exact b2i_R _ | exact gR_of (by omega) (by omega)) ?_ | refine And.intro (show gHas _ _ _ from by first | exact gW.has (gD.w (by assumption)) (by omega) | exact gD.has (by assumption) | exact gRu.has (gD.ru (by assumption)) | exact gGr.has (gD.gr (by assumption) _ (by omega))) ?_ | refine gCall_mk (by decide) (by decide) ?_ | refine if_yes (by first | assumption | omega | decide | exact b2i_R _ | exact gR_of (by omega) (by omega)) ?_ | refine if_no (by first | assumption | omega | decide | exact b2i_R _ | exact gR_of (by omega) (by omega)) ?_)
  refine c_nA1 (d.f3 ?_)
  (first | refine And.intro (show gR _ from by first | assumption | omega | decide | exact b2i_R _ | exact gR_of (by omega) (by omega)) ?_ | refine And.intro (show gHas _ _ _ from by first | exact gW.has (gD.w (by assumption)) (by omega) | exact gD.has (by assumption) | exact gRu.has (gD.ru (by assumption)) | exact gGr.has (gD.gr (by assumption) _ (by omega))) ?_ | refine gCall_mk (by decide) (by decide) ?_ | refine if_yes (by first | assumption | omega | decide | exact b2i_R _ | exact gR_of (by omega) (by omega)) ?_ | refine if_no (by first | assumption | omega | decide | exact b2i_R _ | exact gR_of (by omega) (by omega)) ?_)
  refine v_clear d.w (by decide) (fun h1 V1 w1 s1 e1 o1 => ?_)
  have d1 := d.b w1 s1 (fun v hv => o1 _ (by omega)) (fun v h5 _ => o1 _ (by omega))
  have a1 := o1 w (by omega)
  refine d1.f3 (d1.w.many (show w < 11 by omega) ?_)
  rw [a1]
  (first | refine And.intro (show gR _ from by first | assumption | omega | decide | exact b2i_R _ | exact gR_of (by omega) (by omega)) ?_ | refine And.intro (show gHas _ _ _ from by first | exact gW.has (gD.w (by assumption)) (by omega) | exact gD.has (by assumption) | exact gRu.has (gD.ru (by assumption)) | exact gGr.has (gD.gr (by assumption) _ (by omega))) ?_ | refine gCall_mk (by decide) (by decide) ?_ | refine if_yes (by first | assumption | omega | decide | exact b2i_R _ | exact gR_of (by omega) (by omega)) ?_ | refine if_no (by first | assumption | omega | decide | exact b2i_R _ | exact gR_of (by omega) (by omega)) ?_)
  refine v_addPart w1 (show 3 < 11 by decide) (show w < 11 by omega) (by omega) (i := n) (t := (U w).length) rfl rfl (by omega) (by rw [a1]; omega) (by rw [e1]; simp; omega) (fun h2 V2 w2 s2 e2 o2 => ?_)
  have d2 := d1.b w2 s2 (fun v hv => o2 _ (by omega)) (fun v h5 _ => o2 _ (by omega))
  have a2 : V2 w = U w := (o2 w (by omega)).trans a1
  have e5 : V2 3 = (U w).drop n := by rw [e2, e1, a1]; simp [List.take_of_length_le]
  refine d2.f3 ?_
  (first | refine And.intro (show gR _ from by first | assumption | omega | decide | exact b2i_R _ | exact gR_of (by omega) (by omega)) ?_ | refine And.intro (show gHas _ _ _ from by first | exact gW.has (gD.w (by assumption)) (by omega) | exact gD.has (by assumption) | exact gRu.has (gD.ru (by assumption)) | exact gGr.has (gD.gr (by assumption) _ (by omega))) ?_ | refine gCall_mk (by decide) (by decide) ?_ | refine if_yes (by first | assumption | omega | decide | exact b2i_R _ | exact gR_of (by omega) (by omega)) ?_ | refine if_no (by first | assumption | omega | decide | exact b2i_R _ | exact gR_of (by omega) (by omega)) ?_)
  refine v_addPart w2 (show 3 < 11 by decide) (show w < 11 by omega) (by omega) (i := 0) (t := n) rfl rfl (by omega) (by rw [a2]; omega) (by rw [e5]; simp; omega) (fun h3 V3 w3 s3 e3 o3 => ?_)
  have d3 := d2.b w3 s3 (fun v hv => o3 _ (by omega)) (fun v h5 _ => o3 _ (by omega))
  refine d3.f3 ?_
  (first | refine And.intro (show gR _ from by first | assumption | omega | decide | exact b2i_R _ | exact gR_of (by omega) (by omega)) ?_ | refine And.intro (show gHas _ _ _ from by first | exact gW.has (gD.w (by assumption)) (by omega) | exact gD.has (by assumption) | exact gRu.has (gD.ru (by assumption)) | exact gGr.has (gD.gr (by assumption) _ (by omega))) ?_ | refine gCall_mk (by decide) (by decide) ?_ | refine if_yes (by first | assumption | omega | decide | exact b2i_R _ | exact gR_of (by omega) (by omega)) ?_ | refine if_no (by first | assumption | omega | decide | exact b2i_R _ | exact gR_of (by omega) (by omega)) ?_)
  have e6 : V3 3 = (U w).drop n ++ (U w).take n := by rw [e3, e5, a2]; simp
  exact c_settle d3 hw (by decide) (by rw [e6]; exact k.on ((gFr.sm s1).tr ((gFr.sm s2).tr (gFr.sm s3))))
def m_copy (st : GSt) (x y : Int) : Nat × (Int → Prop) × GSt :=
  if okS x then if okS y then settled st y.toNat (st.S x.toNat) else bad 1 st else bad 1 st
theorem c_copy (d : gD A G h U st) (hx : gR x) (hy : gR y) (k : gRes A G h [eI] X Q (m_copy st x y)) : w_X5_copy X (A 22) x y h Q := by
  unfold w_X5_copy
  (first | refine And.intro (show gR _ from by first | assumption | omega | decide | exact b2i_R _ | exact gR_of (by omega) (by omega)) ?_ | refine And.intro (show gHas _ _ _ from by first | exact gW.has (gD.w (by assumption)) (by omega) | exact gD.has (by assumption) | exact gRu.has (gD.ru (by assumption)) | exact gGr.has (gD.gr (by assumption) _ (by omega))) ?_ | refine gCall_mk (by decide) (by decide) ?_ | refine if_yes (by first | assumption | omega | decide | exact b2i_R _ | exact gR_of (by omega) (by omega)) ?_ | refine if_no (by first | assumption | omega | decide | exact b2i_R _ | exact gR_of (by omega) (by omega)) ?_); (first | refine And.intro (show gR _ from by first | assumption | omega | decide | exact b2i_R _ | exact gR_of (by omega) (by omega)) ?_ | refine And.intro (show gHas _ _ _ from by first | exact gW.has (gD.w (by assumption)) (by omega) | exact gD.has (by assumption) | exact gRu.has (gD.ru (by assumption)) | exact gGr.has (gD.gr (by assumption) _ (by omega))) ?_ | refine gCall_mk (by decide) (by decide) ?_ | refine if_yes (by first | assumption | omega | decide | exact b2i_R _ | exact gR_of (by omega) (by omega)) ?_ | refine if_no (by first | assumption | omega | decide | exact b2i_R _ | exact gR_of (by omega) (by omega)) ?_)
  refine c_wordOf d hx (fun q => by rw [m_copy, if_neg q] at k; exact k.ex d gFr.rf) (fun w hw e => ?_)
  subst e
  rw [m_copy, if_pos (show okS (w : Int) by omega), Int.toNat_natCast, ← d.s w hw] at k
  (first | refine And.intro (show gR _ from by first | assumption | omega | decide | exact b2i_R _ | exact gR_of (by omega) (by omega)) ?_ | refine And.intro (show gHas _ _ _ from by first | exact gW.has (gD.w (by assumption)) (by omega) | exact gD.has (by assumption) | exact gRu.has (gD.ru (by assumption)) | exact gGr.has (gD.gr (by assumption) _ (by omega))) ?_ | refine gCall_mk (by decide) (by decide) ?_ | refine if_yes (by first | assumption | omega | decide | exact b2i_R _ | exact gR_of (by omega) (by omega)) ?_ | refine if_no (by first | assumption | omega | decide | exact b2i_R _ | exact gR_of (by omega) (by omega)) ?_); (first | refine And.intro (show gR _ from by first | assumption | omega | decide | exact b2i_R _ | exact gR_of (by omega) (by omega)) ?_ | refine And.intro (show gHas _ _ _ from by first | exact gW.has (gD.w (by assumption)) (by omega) | exact gD.has (by assumption) | exact gRu.has (gD.ru (by assumption)) | exact gGr.has (gD.gr (by assumption) _ (by omega))) ?_ | refine gCall_mk (by decide) (by decide) ?_ | refine if_yes (by first | assumption | omega | decide | exact b2i_R _ | exact gR_of (by omega) (by omega)) ?_ | refine if_no (by first | assumption | omega | decide | exact b2i_R _ | exact gR_of (by omega) (by omega)) ?_)
  refine c_wordOf d hy (fun q => by rw [if_neg q] at k; exact k.ex d gFr.rf) (fun v hv e => ?_)
  subst e
  rw [if_pos (show okS (v : Int) by omega), Int.toNat_natCast] at k
  (first | refine And.intro (show gR _ from by first | assumption | omega | decide | exact b2i_R _ | exact gR_of (by omega) (by omega)) ?_ | refine And.intro (show gHas _ _ _ from by first | exact gW.has (gD.w (by assumption)) (by omega) | exact gD.has (by assumption) | exact gRu.has (gD.ru (by assumption)) | exact gGr.has (gD.gr (by assumption) _ (by omega))) ?_ | refine gCall_mk (by decide) (by decide) ?_ | refine if_yes (by first | assumption | omega | decide | exact b2i_R _ | exact gR_of (by omega) (by omega)) ?_ | refine if_no (by first | assumption | omega | decide | exact b2i_R _ | exact gR_of (by omega) (by omega)) ?_)
  exact c_settle d hv (by omega) k
theorem code_ok : ∀ n, n ≤ 31 → 2 ≤ n → 0 < (codeW n).length ∧ (codeW n).length ≤ 4 := by decide +kernel
def m_apply (st : GSt) (x y z : Int) : Nat × (Int → Prop) × GSt :=
  if okS x then if okP y z then if (img (codeW y.toNat) (codeW z.toNat) (st.S x.toNat)).length ≤ 64 then done (st.sheet x.toNat (img (codeW y.toNat) (codeW z.toNat) (st.S x.toNat))) ((img (codeW y.toNat) (codeW z.toNat) (st.S x.toNat)).length : Int) else done st.refuse (-9) else bad 2 st else bad 1 st
theorem img_le (x y : List Bool) {m : Nat} (hx : x.length ≤ m) (hy : y.length ≤ m) : ∀ u : List Bool, (img x y u).length ≤ m * u.length
  | [] => Nat.zero_le _
  | b :: t => by
    have := img_le x y hx hy t
    simp only [img, List.length_append, List.length_cons, Nat.mul_succ]
    split <;> omega
theorem c_apply (d : gD A G h U st) (hx : gR x) (hy : gR y) (hz : gR z) (k : gRes A G h [eI, eA] X Q (m_apply st x y z)) : w_X5_apply X (A 22) x y z h Q := by
  unfold w_X5_apply
  (first | refine And.intro (show gR _ from by first | assumption | omega | decide | exact b2i_R _ | exact gR_of (by omega) (by omega)) ?_ | refine And.intro (show gHas _ _ _ from by first | exact gW.has (gD.w (by assumption)) (by omega) | exact gD.has (by assumption) | exact gRu.has (gD.ru (by assumption)) | exact gGr.has (gD.gr (by assumption) _ (by omega))) ?_ | refine gCall_mk (by decide) (by decide) ?_ | refine if_yes (by first | assumption | omega | decide | exact b2i_R _ | exact gR_of (by omega) (by omega)) ?_ | refine if_no (by first | assumption | omega | decide | exact b2i_R _ | exact gR_of (by omega) (by omega)) ?_); (first | refine And.intro (show gR _ from by first | assumption | omega | decide | exact b2i_R _ | exact gR_of (by omega) (by omega)) ?_ | refine And.intro (show gHas _ _ _ from by first | exact gW.has (gD.w (by assumption)) (by omega) | exact gD.has (by assumption) | exact gRu.has (gD.ru (by assumption)) | exact gGr.has (gD.gr (by assumption) _ (by omega))) ?_ | refine gCall_mk (by decide) (by decide) ?_ | refine if_yes (by first | assumption | omega | decide | exact b2i_R _ | exact gR_of (by omega) (by omega)) ?_ | refine if_no (by first | assumption | omega | decide | exact b2i_R _ | exact gR_of (by omega) (by omega)) ?_)
  refine c_wordOf d hx (fun q => by rw [m_apply, if_neg q] at k; exact k.ex d gFr.rf) (fun w hw e => ?_)
  subst e
  have l1 := d.w.le (show w < 11 by omega)
  rw [m_apply, if_pos (show okS (w : Int) by omega), Int.toNat_natCast, ← d.s w hw] at k
  (first | refine And.intro (show gR _ from by first | assumption | omega | decide | exact b2i_R _ | exact gR_of (by omega) (by omega)) ?_ | refine And.intro (show gHas _ _ _ from by first | exact gW.has (gD.w (by assumption)) (by omega) | exact gD.has (by assumption) | exact gRu.has (gD.ru (by assumption)) | exact gGr.has (gD.gr (by assumption) _ (by omega))) ?_ | refine gCall_mk (by decide) (by decide) ?_ | refine if_yes (by first | assumption | omega | decide | exact b2i_R _ | exact gR_of (by omega) (by omega)) ?_ | refine if_no (by first | assumption | omega | decide | exact b2i_R _ | exact gR_of (by omega) (by omega)) ?_); (first | refine And.intro (show gR _ from by first | assumption | omega | decide | exact b2i_R _ | exact gR_of (by omega) (by omega)) ?_ | refine And.intro (show gHas _ _ _ from by first | exact gW.has (gD.w (by assumption)) (by omega) | exact gD.has (by assumption) | exact gRu.has (gD.ru (by assumption)) | exact gGr.has (gD.gr (by assumption) _ (by omega))) ?_ | refine gCall_mk (by decide) (by decide) ?_ | refine if_yes (by first | assumption | omega | decide | exact b2i_R _ | exact gR_of (by omega) (by omega)) ?_ | refine if_no (by first | assumption | omega | decide | exact b2i_R _ | exact gR_of (by omega) (by omega)) ?_)
  refine c_takeRule d hy hz (fun q => by rw [if_neg q] at k; exact k.ex d gFr.rf) (fun q h1 d1 s1 => ?_)
  rw [if_pos q] at k
  replace k := k.on (gFr.sm s1)
  refine d1.f2 ?_
  (first | refine And.intro (show gR _ from by first | assumption | omega | decide | exact b2i_R _ | exact gR_of (by omega) (by omega)) ?_ | refine And.intro (show gHas _ _ _ from by first | exact gW.has (gD.w (by assumption)) (by omega) | exact gD.has (by assumption) | exact gRu.has (gD.ru (by assumption)) | exact gGr.has (gD.gr (by assumption) _ (by omega))) ?_ | refine gCall_mk (by decide) (by decide) ?_ | refine if_yes (by first | assumption | omega | decide | exact b2i_R _ | exact gR_of (by omega) (by omega)) ?_ | refine if_no (by first | assumption | omega | decide | exact b2i_R _ | exact gR_of (by omega) (by omega)) ?_)
  have a1 : pu (pu U 9 (codeW y.toNat)) 10 (codeW z.toNat) w = U w := by rw [pu_ne _ _ (by omega), pu_ne _ _ (by omega)]
  have a2 : pu (pu U 9 (codeW y.toNat)) 10 (codeW z.toNat) 9 = codeW y.toNat := by rw [pu_ne _ _ (by decide), pu_self]
  have a3 : pu (pu U 9 (codeW y.toNat)) 10 (codeW z.toNat) 10 = codeW z.toNat := by rw [pu_self]
  generalize pu (pu U 9 (codeW y.toNat)) 10 (codeW z.toNat) = V at *
  refine s_imageLength d1.w d1.ru (show w < 11 by omega) ?_
  rw [a1, a2, a3]
  have b1 := img_le (codeW y.toNat) (codeW z.toNat) (m := 4) (code_ok _ (by omega) (by omega)).2 (code_ok _ (by omega) (by omega)).2 (U w)
  (first | refine And.intro (show gR _ from by first | assumption | omega | decide | exact b2i_R _ | exact gR_of (by omega) (by omega)) ?_ | refine And.intro (show gHas _ _ _ from by first | exact gW.has (gD.w (by assumption)) (by omega) | exact gD.has (by assumption) | exact gRu.has (gD.ru (by assumption)) | exact gGr.has (gD.gr (by assumption) _ (by omega))) ?_ | refine gCall_mk (by decide) (by decide) ?_ | refine if_yes (by first | assumption | omega | decide | exact b2i_R _ | exact gR_of (by omega) (by omega)) ?_ | refine if_no (by first | assumption | omega | decide | exact b2i_R _ | exact gR_of (by omega) (by omega)) ?_)
  by_cases q2 : (img (codeW y.toNat) (codeW z.toNat) (U w)).length ≤ 64
  · rw [if_pos q2] at k
    refine if_yes (by omega) (d1.f2 (d1.f3 ?_))
    (first | refine And.intro (show gR _ from by first | assumption | omega | decide | exact b2i_R _ | exact gR_of (by omega) (by omega)) ?_ | refine And.intro (show gHas _ _ _ from by first | exact gW.has (gD.w (by assumption)) (by omega) | exact gD.has (by assumption) | exact gRu.has (gD.ru (by assumption)) | exact gGr.has (gD.gr (by assumption) _ (by omega))) ?_ | refine gCall_mk (by decide) (by decide) ?_ | refine if_yes (by first | assumption | omega | decide | exact b2i_R _ | exact gR_of (by omega) (by omega)) ?_ | refine if_no (by first | assumption | omega | decide | exact b2i_R _ | exact gR_of (by omega) (by omega)) ?_)
    refine s_layImage d1.w d1.ru (show w < 11 by omega) (show 3 < 9 by decide) (by omega) (by rw [a1, a2, a3]; exact q2) (fun h2 w2 s2 => ?_)
    rw [a1, a2, a3] at w2
    have d2 := d1.b w2 s2 (fun v hv => pu_ne _ _ (by omega)) (fun v h5 _ => pu_ne _ _ (by omega))
    refine d2.f3 ?_
    (first | refine And.intro (show gR _ from by first | assumption | omega | decide | exact b2i_R _ | exact gR_of (by omega) (by omega)) ?_ | refine And.intro (show gHas _ _ _ from by first | exact gW.has (gD.w (by assumption)) (by omega) | exact gD.has (by assumption) | exact gRu.has (gD.ru (by assumption)) | exact gGr.has (gD.gr (by assumption) _ (by omega))) ?_ | refine gCall_mk (by decide) (by decide) ?_ | refine if_yes (by first | assumption | omega | decide | exact b2i_R _ | exact gR_of (by omega) (by omega)) ?_ | refine if_no (by first | assumption | omega | decide | exact b2i_R _ | exact gR_of (by omega) (by omega)) ?_)
    refine s_take w2 (show w < 11 by omega) (show 3 < 11 by decide) (fun h3 w3 s3 => ?_)
    rw [pu_self] at w3
    refine w3.many (show w < 11 by omega) ?_
    rw [pu_self]
    have d3 := d2.sh hw w3 s3
    (first | refine And.intro (show gR _ from by first | assumption | omega | decide | exact b2i_R _ | exact gR_of (by omega) (by omega)) ?_ | refine And.intro (show gHas _ _ _ from by first | exact gW.has (gD.w (by assumption)) (by omega) | exact gD.has (by assumption) | exact gRu.has (gD.ru (by assumption)) | exact gGr.has (gD.gr (by assumption) _ (by omega))) ?_ | refine gCall_mk (by decide) (by decide) ?_ | refine if_yes (by first | assumption | omega | decide | exact b2i_R _ | exact gR_of (by omega) (by omega)) ?_ | refine if_no (by first | assumption | omega | decide | exact b2i_R _ | exact gR_of (by omega) (by omega)) ?_)
    exact c_end d2 hw w3 s3 (k.on (gFr.sm s2))
  · rw [if_neg q2] at k
    refine if_no (by omega) ?_
    (first | refine And.intro (show gR _ from by first | assumption | omega | decide | exact b2i_R _ | exact gR_of (by omega) (by omega)) ?_ | refine And.intro (show gHas _ _ _ from by first | exact gW.has (gD.w (by assumption)) (by omega) | exact gD.has (by assumption) | exact gRu.has (gD.ru (by assumption)) | exact gGr.has (gD.gr (by assumption) _ (by omega))) ?_ | refine gCall_mk (by decide) (by decide) ?_ | refine if_yes (by first | assumption | omega | decide | exact b2i_R _ | exact gR_of (by omega) (by omega)) ?_ | refine if_no (by first | assumption | omega | decide | exact b2i_R _ | exact gR_of (by omega) (by omega)) ?_)
    exact c_refuse d1 k
def m_undo (st : GSt) (x y z : Int) : Nat × (Int → Prop) × GSt :=
  if okS x then if okP y z then if unlike (codeW y.toNat) (codeW z.toNat) ≠ -1 then if okR (codeW y.toNat) (codeW z.toNat) (st.S x.toNat) 0 = true then done (st.sheet x.toNat (walkR (codeW y.toNat) (codeW z.toNat) (st.S x.toNat) 0)) ((walkR (codeW y.toNat) (codeW z.toNat) (st.S x.toNat) 0).length : Int) else done st.refuse (-9) else bad 3 st else bad 2 st else bad 1 st
theorem c_undo (d : gD A G h U st) (hx : gR x) (hy : gR y) (hz : gR z) (k : gRes A G h [eI, eA, eS] X Q (m_undo st x y z)) : w_X5_undo X (A 22) x y z h Q := by
  unfold w_X5_undo
  (first | refine And.intro (show gR _ from by first | assumption | omega | decide | exact b2i_R _ | exact gR_of (by omega) (by omega)) ?_ | refine And.intro (show gHas _ _ _ from by first | exact gW.has (gD.w (by assumption)) (by omega) | exact gD.has (by assumption) | exact gRu.has (gD.ru (by assumption)) | exact gGr.has (gD.gr (by assumption) _ (by omega))) ?_ | refine gCall_mk (by decide) (by decide) ?_ | refine if_yes (by first | assumption | omega | decide | exact b2i_R _ | exact gR_of (by omega) (by omega)) ?_ | refine if_no (by first | assumption | omega | decide | exact b2i_R _ | exact gR_of (by omega) (by omega)) ?_); (first | refine And.intro (show gR _ from by first | assumption | omega | decide | exact b2i_R _ | exact gR_of (by omega) (by omega)) ?_ | refine And.intro (show gHas _ _ _ from by first | exact gW.has (gD.w (by assumption)) (by omega) | exact gD.has (by assumption) | exact gRu.has (gD.ru (by assumption)) | exact gGr.has (gD.gr (by assumption) _ (by omega))) ?_ | refine gCall_mk (by decide) (by decide) ?_ | refine if_yes (by first | assumption | omega | decide | exact b2i_R _ | exact gR_of (by omega) (by omega)) ?_ | refine if_no (by first | assumption | omega | decide | exact b2i_R _ | exact gR_of (by omega) (by omega)) ?_)
  refine c_wordOf d hx (fun q => by rw [m_undo, if_neg q] at k; exact k.ex d gFr.rf) (fun w hw e => ?_)
  subst e
  have l1 := d.w.le (show w < 11 by omega)
  rw [m_undo, if_pos (show okS (w : Int) by omega), Int.toNat_natCast, ← d.s w hw] at k
  (first | refine And.intro (show gR _ from by first | assumption | omega | decide | exact b2i_R _ | exact gR_of (by omega) (by omega)) ?_ | refine And.intro (show gHas _ _ _ from by first | exact gW.has (gD.w (by assumption)) (by omega) | exact gD.has (by assumption) | exact gRu.has (gD.ru (by assumption)) | exact gGr.has (gD.gr (by assumption) _ (by omega))) ?_ | refine gCall_mk (by decide) (by decide) ?_ | refine if_yes (by first | assumption | omega | decide | exact b2i_R _ | exact gR_of (by omega) (by omega)) ?_ | refine if_no (by first | assumption | omega | decide | exact b2i_R _ | exact gR_of (by omega) (by omega)) ?_); (first | refine And.intro (show gR _ from by first | assumption | omega | decide | exact b2i_R _ | exact gR_of (by omega) (by omega)) ?_ | refine And.intro (show gHas _ _ _ from by first | exact gW.has (gD.w (by assumption)) (by omega) | exact gD.has (by assumption) | exact gRu.has (gD.ru (by assumption)) | exact gGr.has (gD.gr (by assumption) _ (by omega))) ?_ | refine gCall_mk (by decide) (by decide) ?_ | refine if_yes (by first | assumption | omega | decide | exact b2i_R _ | exact gR_of (by omega) (by omega)) ?_ | refine if_no (by first | assumption | omega | decide | exact b2i_R _ | exact gR_of (by omega) (by omega)) ?_)
  refine c_takeRule d hy hz (fun q => by rw [if_neg q] at k; exact k.ex d gFr.rf) (fun q h1 d1 s1 => ?_)
  rw [if_pos q] at k
  replace k := k.on (gFr.sm s1)
  refine d1.f2 ?_
  (first | refine And.intro (show gR _ from by first | assumption | omega | decide | exact b2i_R _ | exact gR_of (by omega) (by omega)) ?_ | refine And.intro (show gHas _ _ _ from by first | exact gW.has (gD.w (by assumption)) (by omega) | exact gD.has (by assumption) | exact gRu.has (gD.ru (by assumption)) | exact gGr.has (gD.gr (by assumption) _ (by omega))) ?_ | refine gCall_mk (by decide) (by decide) ?_ | refine if_yes (by first | assumption | omega | decide | exact b2i_R _ | exact gR_of (by omega) (by omega)) ?_ | refine if_no (by first | assumption | omega | decide | exact b2i_R _ | exact gR_of (by omega) (by omega)) ?_)
  have a1 : pu (pu U 9 (codeW y.toNat)) 10 (codeW z.toNat) w = U w := by rw [pu_ne _ _ (by omega), pu_ne _ _ (by omega)]
  have a2 : pu (pu U 9 (codeW y.toNat)) 10 (codeW z.toNat) 9 = codeW y.toNat := by rw [pu_ne _ _ (by decide), pu_self]
  have a3 : pu (pu U 9 (codeW y.toNat)) 10 (codeW z.toNat) 10 = codeW z.toNat := by rw [pu_self]
  generalize pu (pu U 9 (codeW y.toNat)) 10 (codeW z.toNat) = V at *
  refine s_keepsApart d1.w d1.ru ?_
  rw [a2, a3]
  (first | refine And.intro (show gR _ from by first | assumption | omega | decide | exact b2i_R _ | exact gR_of (by omega) (by omega)) ?_ | refine And.intro (show gHas _ _ _ from by first | exact gW.has (gD.w (by assumption)) (by omega) | exact gD.has (by assumption) | exact gRu.has (gD.ru (by assumption)) | exact gGr.has (gD.gr (by assumption) _ (by omega))) ?_ | refine gCall_mk (by decide) (by decide) ?_ | refine if_yes (by first | assumption | omega | decide | exact b2i_R _ | exact gR_of (by omega) (by omega)) ?_ | refine if_no (by first | assumption | omega | decide | exact b2i_R _ | exact gR_of (by omega) (by omega)) ?_)
  by_cases q2 : unlike (codeW y.toNat) (codeW z.toNat) ≠ -1
  · rw [if_pos q2] at k
    rw [decide_eq_true q2]
    refine c_nS1 (d1.f2 (d1.f3 ?_))
    (first | refine And.intro (show gR _ from by first | assumption | omega | decide | exact b2i_R _ | exact gR_of (by omega) (by omega)) ?_ | refine And.intro (show gHas _ _ _ from by first | exact gW.has (gD.w (by assumption)) (by omega) | exact gD.has (by assumption) | exact gRu.has (gD.ru (by assumption)) | exact gGr.has (gD.gr (by assumption) _ (by omega))) ?_ | refine gCall_mk (by decide) (by decide) ?_ | refine if_yes (by first | assumption | omega | decide | exact b2i_R _ | exact gR_of (by omega) (by omega)) ?_ | refine if_no (by first | assumption | omega | decide | exact b2i_R _ | exact gR_of (by omega) (by omega)) ?_)
    have p1 := (code_ok y.toNat (by omega) (by omega)).1
    have p2 := (code_ok z.toNat (by omega) (by omega)).1
    refine s_layOrigin d1.w d1.ru (show w < 9 by omega) (show 3 < 9 by decide) (by omega) (by rw [a2]; exact p1) (by rw [a3]; exact p2) (fun h2 w2 s2 e => ?_) (fun h2 w2 s2 e => ?_)
    · rw [a1, a2, a3] at e
      rw [e, if_neg (by decide)] at k
      have d2 := d1.bk w2 s2 (fun v hv => rfl) (fun v h5 _ => rfl)
      (repeat (first | refine And.intro (show gR _ from by first | assumption | omega | decide | exact b2i_R _ | exact gR_of (by omega) (by omega)) ?_ | refine And.intro (show gHas _ _ _ from by first | exact gW.has (gD.w (by assumption)) (by omega) | exact gD.has (by assumption) | exact gRu.has (gD.ru (by assumption)) | exact gGr.has (gD.gr (by assumption) _ (by omega))) ?_ | refine gCall_mk (by decide) (by decide) ?_ | refine if_yes (by first | assumption | omega | decide | exact b2i_R _ | exact gR_of (by omega) (by omega)) ?_ | refine if_no (by first | assumption | omega | decide | exact b2i_R _ | exact gR_of (by omega) (by omega)) ?_))
      exact c_refuse d2 (k.on (gFr.sk s2))
    · rw [a1, a2, a3] at e
      rw [e, if_pos rfl] at k
      rw [a1, a2, a3] at w2
      have d2 := d1.bk w2 s2 (fun v hv => pu_ne _ _ (by omega)) (fun v h5 _ => pu_ne _ _ (by omega))
      (first | refine And.intro (show gR _ from by first | assumption | omega | decide | exact b2i_R _ | exact gR_of (by omega) (by omega)) ?_ | refine And.intro (show gHas _ _ _ from by first | exact gW.has (gD.w (by assumption)) (by omega) | exact gD.has (by assumption) | exact gRu.has (gD.ru (by assumption)) | exact gGr.has (gD.gr (by assumption) _ (by omega))) ?_ | refine gCall_mk (by decide) (by decide) ?_ | refine if_yes (by first | assumption | omega | decide | exact b2i_R _ | exact gR_of (by omega) (by omega)) ?_ | refine if_no (by first | assumption | omega | decide | exact b2i_R _ | exact gR_of (by omega) (by omega)) ?_); (first | refine And.intro (show gR _ from by first | assumption | omega | decide | exact b2i_R _ | exact gR_of (by omega) (by omega)) ?_ | refine And.intro (show gHas _ _ _ from by first | exact gW.has (gD.w (by assumption)) (by omega) | exact gD.has (by assumption) | exact gRu.has (gD.ru (by assumption)) | exact gGr.has (gD.gr (by assumption) _ (by omega))) ?_ | refine gCall_mk (by decide) (by decide) ?_ | refine if_yes (by first | assumption | omega | decide | exact b2i_R _ | exact gR_of (by omega) (by omega)) ?_ | refine if_no (by first | assumption | omega | decide | exact b2i_R _ | exact gR_of (by omega) (by omega)) ?_)
      refine d2.f3 ?_
      (first | refine And.intro (show gR _ from by first | assumption | omega | decide | exact b2i_R _ | exact gR_of (by omega) (by omega)) ?_ | refine And.intro (show gHas _ _ _ from by first | exact gW.has (gD.w (by assumption)) (by omega) | exact gD.has (by assumption) | exact gRu.has (gD.ru (by assumption)) | exact gGr.has (gD.gr (by assumption) _ (by omega))) ?_ | refine gCall_mk (by decide) (by decide) ?_ | refine if_yes (by first | assumption | omega | decide | exact b2i_R _ | exact gR_of (by omega) (by omega)) ?_ | refine if_no (by first | assumption | omega | decide | exact b2i_R _ | exact gR_of (by omega) (by omega)) ?_)
      refine s_take w2 (show w < 11 by omega) (show 3 < 11 by decide) (fun h3 w3 s3 => ?_)
      rw [pu_self] at w3
      refine w3.many (show w < 11 by omega) ?_
      rw [pu_self]
      have d3 := d2.sh hw w3 s3
      (first | refine And.intro (show gR _ from by first | assumption | omega | decide | exact b2i_R _ | exact gR_of (by omega) (by omega)) ?_ | refine And.intro (show gHas _ _ _ from by first | exact gW.has (gD.w (by assumption)) (by omega) | exact gD.has (by assumption) | exact gRu.has (gD.ru (by assumption)) | exact gGr.has (gD.gr (by assumption) _ (by omega))) ?_ | refine gCall_mk (by decide) (by decide) ?_ | refine if_yes (by first | assumption | omega | decide | exact b2i_R _ | exact gR_of (by omega) (by omega)) ?_ | refine if_no (by first | assumption | omega | decide | exact b2i_R _ | exact gR_of (by omega) (by omega)) ?_)
      exact c_end d2 hw w3 s3 (k.on (gFr.sk s2))
  · rw [if_neg q2] at k
    rw [decide_eq_false q2]
    exact c_nS0 (k.ex d1 gFr.rf)
end CB
/-! The garden's acts: lay, twos, line, and the growths'. -/
section CC
variable {A : Nat → Nat} {G : gaG} {h : gaH} {U : Nat → List Bool} {st : GSt} {X : String → gaH → Prop} {Q : Int → gaH → Prop} {w v g : Nat} {x y z : Int}
theorem gD.tn (d : gD A G h U st) (hg : g < 2) {h' : gaH} {U' : Nat → List Bool} {us : List Nat} (w' : gW A h' U') (r' : gGr A h' g us) (s : gSg A g h h') (hok : gOk us) (hs : ∀ w, w < 3 → U' w = U w) (hu : U' (5 + 2 * g) = (grw us).1 ∧ U' (6 + 2 * g) = (grw us).2) (ho : ∀ w, 5 ≤ w → w < 9 → w ≠ 5 + 2 * g → w ≠ 6 + 2 * g → U' w = U w) : gD A G h' U' (st.S, pu st.T g us, st.C) := by
  have hA := d.w.inj
  refine ⟨w', (s.at hA hg (by decide) (by decide) (by omega) (by omega)).trans d.ru, ⟨(s.at hA hg (by decide) (by decide) (by omega) (by omega)).trans d.x.1, (s.at hA hg (by decide) (by decide) (by omega) (by omega)).trans d.x.2.1, (s.at hA hg (by decide) (by decide) (by omega) (by omega)).trans d.x.2.2⟩, fun j hj => ?_, fun j hj => ?_, fun j hj => ?_, fun v hv => (hs v hv).trans (d.s v hv), (s _ (fun w hw => d.ne w (by omega)) (d.ne _ (by omega)) (d.ne _ (by omega))).trans d.mc, d.ne⟩
  · show gGr A h' j (pu st.T g us j)
    by_cases e : j = g
    · subst e; rw [pu_self]; exact r'
    · rw [pu_ne _ _ e]
      obtain ⟨a0, row, a1, a2, a3, a4⟩ := d.gr j hj
      exact ⟨(s.at hA hg (by omega) (by omega) (by omega) (by omega)).trans a0, row, a1, a2, (s.at hA hg (by omega) (by omega) (by omega) (by omega)).trans a3, a4⟩
  · show gOk (pu st.T g us j)
    by_cases e : j = g
    · subst e; rw [pu_self]; exact hok
    · rw [pu_ne _ _ e]; exact d.ok j hj
  · show U' (5 + 2 * j) = (grw (pu st.T g us j)).1 ∧ U' (6 + 2 * j) = (grw (pu st.T g us j)).2
    by_cases e : j = g
    · subst e; rw [pu_self]; exact hu
    · rw [pu_ne _ _ e, ho _ (by omega) (by omega) (by omega) (by omega), ho _ (by omega) (by omega) (by omega) (by omega)]; exact d.gw j hj
def layW (ts : List Nat) (road : Int) : List Bool := if road = 2 then byL ts else (grw ts).2
def m_lay (st : GSt) (x y z : Int) : Nat × (Int → Prop) × GSt :=
  if okG x then if okS y then if 0 ≤ z ∧ z ≤ 2 then done (st.sheet y.toNat (layW (st.T x.toNat) z)) ((layW (st.T x.toNat) z).length : Int) else bad 2 st else bad 1 st else bad 1 st
theorem c_lay (d : gD A G h U st) (hx : gR x) (hy : gR y) (hz : gR z) (k : gRes A G h [eI, eA] X Q (m_lay st x y z)) : w_X5_lay G X (A 22) x y z h Q := by
  unfold w_X5_lay
  (first | refine And.intro (show gR _ from by first | assumption | omega | decide | exact b2i_R _ | exact gR_of (by omega) (by omega)) ?_ | refine And.intro (show gHas _ _ _ from by first | exact gW.has (gD.w (by assumption)) (by omega) | exact gD.has (by assumption) | exact gRu.has (gD.ru (by assumption)) | exact gGr.has (gD.gr (by assumption) _ (by omega))) ?_ | refine gCall_mk (by decide) (by decide) ?_ | refine if_yes (by first | assumption | omega | decide | exact b2i_R _ | exact gR_of (by omega) (by omega)) ?_ | refine if_no (by first | assumption | omega | decide | exact b2i_R _ | exact gR_of (by omega) (by omega)) ?_); (first | refine And.intro (show gR _ from by first | assumption | omega | decide | exact b2i_R _ | exact gR_of (by omega) (by omega)) ?_ | refine And.intro (show gHas _ _ _ from by first | exact gW.has (gD.w (by assumption)) (by omega) | exact gD.has (by assumption) | exact gRu.has (gD.ru (by assumption)) | exact gGr.has (gD.gr (by assumption) _ (by omega))) ?_ | refine gCall_mk (by decide) (by decide) ?_ | refine if_yes (by first | assumption | omega | decide | exact b2i_R _ | exact gR_of (by omega) (by omega)) ?_ | refine if_no (by first | assumption | omega | decide | exact b2i_R _ | exact gR_of (by omega) (by omega)) ?_)
  refine c_growthOf d hx (fun q => by rw [m_lay, if_neg q] at k; exact k.ex d gFr.rf) (fun g hg e => ?_)
  subst e
  rw [m_lay, if_pos (show okG (g : Int) by omega), Int.toNat_natCast] at k
  (first | refine And.intro (show gR _ from by first | assumption | omega | decide | exact b2i_R _ | exact gR_of (by omega) (by omega)) ?_ | refine And.intro (show gHas _ _ _ from by first | exact gW.has (gD.w (by assumption)) (by omega) | exact gD.has (by assumption) | exact gRu.has (gD.ru (by assumption)) | exact gGr.has (gD.gr (by assumption) _ (by omega))) ?_ | refine gCall_mk (by decide) (by decide) ?_ | refine if_yes (by first | assumption | omega | decide | exact b2i_R _ | exact gR_of (by omega) (by omega)) ?_ | refine if_no (by first | assumption | omega | decide | exact b2i_R _ | exact gR_of (by omega) (by omega)) ?_); (first | refine And.intro (show gR _ from by first | assumption | omega | decide | exact b2i_R _ | exact gR_of (by omega) (by omega)) ?_ | refine And.intro (show gHas _ _ _ from by first | exact gW.has (gD.w (by assumption)) (by omega) | exact gD.has (by assumption) | exact gRu.has (gD.ru (by assumption)) | exact gGr.has (gD.gr (by assumption) _ (by omega))) ?_ | refine gCall_mk (by decide) (by decide) ?_ | refine if_yes (by first | assumption | omega | decide | exact b2i_R _ | exact gR_of (by omega) (by omega)) ?_ | refine if_no (by first | assumption | omega | decide | exact b2i_R _ | exact gR_of (by omega) (by omega)) ?_)
  refine c_wordOf d hy (fun q => by rw [if_neg q] at k; exact k.ex d gFr.rf) (fun w hw e => ?_)
  subst e
  rw [if_pos (show okS (w : Int) by omega), Int.toNat_natCast] at k
  have bd : ¬ (0 ≤ z ∧ z ≤ 2) → w_X5_lay_J27 G X Q (A 22) z (A (26 + g)) (A w) h 1 6 := fun q => by
    rw [if_neg q] at k
    unfold w_X5_lay_J27 w_X5_lay_J28
    (first | refine And.intro (show gR _ from by first | assumption | omega | decide | exact b2i_R _ | exact gR_of (by omega) (by omega)) ?_ | refine And.intro (show gHas _ _ _ from by first | exact gW.has (gD.w (by assumption)) (by omega) | exact gD.has (by assumption) | exact gRu.has (gD.ru (by assumption)) | exact gGr.has (gD.gr (by assumption) _ (by omega))) ?_ | refine gCall_mk (by decide) (by decide) ?_ | refine if_yes (by first | assumption | omega | decide | exact b2i_R _ | exact gR_of (by omega) (by omega)) ?_ | refine if_no (by first | assumption | omega | decide | exact b2i_R _ | exact gR_of (by omega) (by omega)) ?_)
    exact c_nA0 (k.ex d gFr.rf)
  (first | refine And.intro (show gR _ from by first | assumption | omega | decide | exact b2i_R _ | exact gR_of (by omega) (by omega)) ?_ | refine And.intro (show gHas _ _ _ from by first | exact gW.has (gD.w (by assumption)) (by omega) | exact gD.has (by assumption) | exact gRu.has (gD.ru (by assumption)) | exact gGr.has (gD.gr (by assumption) _ (by omega))) ?_ | refine gCall_mk (by decide) (by decide) ?_ | refine if_yes (by first | assumption | omega | decide | exact b2i_R _ | exact gR_of (by omega) (by omega)) ?_ | refine if_no (by first | assumption | omega | decide | exact b2i_R _ | exact gR_of (by omega) (by omega)) ?_)
  by_cases q1 : z < 0
  · exact if_yes q1 (bd (by omega))
  (first | refine And.intro (show gR _ from by first | assumption | omega | decide | exact b2i_R _ | exact gR_of (by omega) (by omega)) ?_ | refine And.intro (show gHas _ _ _ from by first | exact gW.has (gD.w (by assumption)) (by omega) | exact gD.has (by assumption) | exact gRu.has (gD.ru (by assumption)) | exact gGr.has (gD.gr (by assumption) _ (by omega))) ?_ | refine gCall_mk (by decide) (by decide) ?_ | refine if_yes (by first | assumption | omega | decide | exact b2i_R _ | exact gR_of (by omega) (by omega)) ?_ | refine if_no (by first | assumption | omega | decide | exact b2i_R _ | exact gR_of (by omega) (by omega)) ?_); (first | refine And.intro (show gR _ from by first | assumption | omega | decide | exact b2i_R _ | exact gR_of (by omega) (by omega)) ?_ | refine And.intro (show gHas _ _ _ from by first | exact gW.has (gD.w (by assumption)) (by omega) | exact gD.has (by assumption) | exact gRu.has (gD.ru (by assumption)) | exact gGr.has (gD.gr (by assumption) _ (by omega))) ?_ | refine gCall_mk (by decide) (by decide) ?_ | refine if_yes (by first | assumption | omega | decide | exact b2i_R _ | exact gR_of (by omega) (by omega)) ?_ | refine if_no (by first | assumption | omega | decide | exact b2i_R _ | exact gR_of (by omega) (by omega)) ?_)
  by_cases q2 : 2 < z
  · exact if_yes q2 (bd (by omega))
  (first | refine And.intro (show gR _ from by first | assumption | omega | decide | exact b2i_R _ | exact gR_of (by omega) (by omega)) ?_ | refine And.intro (show gHas _ _ _ from by first | exact gW.has (gD.w (by assumption)) (by omega) | exact gD.has (by assumption) | exact gRu.has (gD.ru (by assumption)) | exact gGr.has (gD.gr (by assumption) _ (by omega))) ?_ | refine gCall_mk (by decide) (by decide) ?_ | refine if_yes (by first | assumption | omega | decide | exact b2i_R _ | exact gR_of (by omega) (by omega)) ?_ | refine if_no (by first | assumption | omega | decide | exact b2i_R _ | exact gR_of (by omega) (by omega)) ?_)
  rw [if_pos ⟨by omega, by omega⟩] at k
  unfold w_X5_lay_J28
  (first | refine And.intro (show gR _ from by first | assumption | omega | decide | exact b2i_R _ | exact gR_of (by omega) (by omega)) ?_ | refine And.intro (show gHas _ _ _ from by first | exact gW.has (gD.w (by assumption)) (by omega) | exact gD.has (by assumption) | exact gRu.has (gD.ru (by assumption)) | exact gGr.has (gD.gr (by assumption) _ (by omega))) ?_ | refine gCall_mk (by decide) (by decide) ?_ | refine if_yes (by first | assumption | omega | decide | exact b2i_R _ | exact gR_of (by omega) (by omega)) ?_ | refine if_no (by first | assumption | omega | decide | exact b2i_R _ | exact gR_of (by omega) (by omega)) ?_)
  refine c_nA1 ?_
  (first | refine And.intro (show gR _ from by first | assumption | omega | decide | exact b2i_R _ | exact gR_of (by omega) (by omega)) ?_ | refine And.intro (show gHas _ _ _ from by first | exact gW.has (gD.w (by assumption)) (by omega) | exact gD.has (by assumption) | exact gRu.has (gD.ru (by assumption)) | exact gGr.has (gD.gr (by assumption) _ (by omega))) ?_ | refine gCall_mk (by decide) (by decide) ?_ | refine if_yes (by first | assumption | omega | decide | exact b2i_R _ | exact gR_of (by omega) (by omega)) ?_ | refine if_no (by first | assumption | omega | decide | exact b2i_R _ | exact gR_of (by omega) (by omega)) ?_)
  have fin : ∀ h1 V1, gD A G h1 V1 st → gFr A h h1 → ∀ h2 u, gW A h2 (pu V1 w u) → gSm A h1 h2 → u = layW (st.T g) z → w_X5_lay_J78 G X Q (A 22) (A w) h2 0 0 := by
    intro h1 V1 d1 f1 h2 u w2 s2 e
    subst e
    unfold w_X5_lay_J78
    refine w2.many (show w < 11 by omega) ?_
    rw [pu_self]
    have d2 := d1.sh hw w2 s2
    (first | refine And.intro (show gR _ from by first | assumption | omega | decide | exact b2i_R _ | exact gR_of (by omega) (by omega)) ?_ | refine And.intro (show gHas _ _ _ from by first | exact gW.has (gD.w (by assumption)) (by omega) | exact gD.has (by assumption) | exact gRu.has (gD.ru (by assumption)) | exact gGr.has (gD.gr (by assumption) _ (by omega))) ?_ | refine gCall_mk (by decide) (by decide) ?_ | refine if_yes (by first | assumption | omega | decide | exact b2i_R _ | exact gR_of (by omega) (by omega)) ?_ | refine if_no (by first | assumption | omega | decide | exact b2i_R _ | exact gR_of (by omega) (by omega)) ?_)
    exact c_end d1 hw w2 s2 (k.on f1)
  have hgr := d.gr g hg
  by_cases q3 : z = 0
  · refine if_yes q3 (hgr.yo ?_)
    (first | refine And.intro (show gR _ from by first | assumption | omega | decide | exact b2i_R _ | exact gR_of (by omega) (by omega)) ?_ | refine And.intro (show gHas _ _ _ from by first | exact gW.has (gD.w (by assumption)) (by omega) | exact gD.has (by assumption) | exact gRu.has (gD.ru (by assumption)) | exact gGr.has (gD.gr (by assumption) _ (by omega))) ?_ | refine gCall_mk (by decide) (by decide) ?_ | refine if_yes (by first | assumption | omega | decide | exact b2i_R _ | exact gR_of (by omega) (by omega)) ?_ | refine if_no (by first | assumption | omega | decide | exact b2i_R _ | exact gR_of (by omega) (by omega)) ?_)
    refine s_take d.w (show w < 11 by omega) (show 6 + 2 * g < 11 by omega) (fun h1 w1 s1 => ?_)
    exact fin h U d gFr.rf h1 _ w1 s1 (by rw [layW, if_neg (by omega)]; exact (d.gw g hg).2)
  refine if_no q3 ?_
  (first | refine And.intro (show gR _ from by first | assumption | omega | decide | exact b2i_R _ | exact gR_of (by omega) (by omega)) ?_ | refine And.intro (show gHas _ _ _ from by first | exact gW.has (gD.w (by assumption)) (by omega) | exact gD.has (by assumption) | exact gRu.has (gD.ru (by assumption)) | exact gGr.has (gD.gr (by assumption) _ (by omega))) ?_ | refine gCall_mk (by decide) (by decide) ?_ | refine if_yes (by first | assumption | omega | decide | exact b2i_R _ | exact gR_of (by omega) (by omega)) ?_ | refine if_no (by first | assumption | omega | decide | exact b2i_R _ | exact gR_of (by omega) (by omega)) ?_)
  by_cases q4 : z = 1
  · refine if_yes q4 (d.f3 (d.f2 ?_))
    (first | refine And.intro (show gR _ from by first | assumption | omega | decide | exact b2i_R _ | exact gR_of (by omega) (by omega)) ?_ | refine And.intro (show gHas _ _ _ from by first | exact gW.has (gD.w (by assumption)) (by omega) | exact gD.has (by assumption) | exact gRu.has (gD.ru (by assumption)) | exact gGr.has (gD.gr (by assumption) _ (by omega))) ?_ | refine gCall_mk (by decide) (by decide) ?_ | refine if_yes (by first | assumption | omega | decide | exact b2i_R _ | exact gR_of (by omega) (by omega)) ?_ | refine if_no (by first | assumption | omega | decide | exact b2i_R _ | exact gR_of (by omega) (by omega)) ?_)
    refine s_layByRules hg d.w hgr d.ru (d.ok g hg) d.ne d.mc (show w ≠ 3 by omega) (by omega) (by omega) (fun h1 V1 w1 o1 e1 s1 => ?_)
    have d1 : gD A G h1 V1 (pu st.S w (grw (st.T g)).2, st.T, st.C) := d.k w1 (gSk.of s1) (fun v hv => by
      by_cases e : v = w
      · rw [e, pu_self, e1]
      · rw [pu_ne _ _ e, o1 v e (by omega) (by omega) (by omega)]; exact d.s v hv) (fun v h5 h9 => o1 v (by omega) (by omega) (by omega) (by omega))
    show w_X5_lay_J78 G X Q (A 22) (A w) h1 _ _
    unfold w_X5_lay_J78
    refine w1.many (show w < 11 by omega) ?_
    rw [e1]
    (first | refine And.intro (show gR _ from by first | assumption | omega | decide | exact b2i_R _ | exact gR_of (by omega) (by omega)) ?_ | refine And.intro (show gHas _ _ _ from by first | exact gW.has (gD.w (by assumption)) (by omega) | exact gD.has (by assumption) | exact gRu.has (gD.ru (by assumption)) | exact gGr.has (gD.gr (by assumption) _ (by omega))) ?_ | refine gCall_mk (by decide) (by decide) ?_ | refine if_yes (by first | assumption | omega | decide | exact b2i_R _ | exact gR_of (by omega) (by omega)) ?_ | refine if_no (by first | assumption | omega | decide | exact b2i_R _ | exact gR_of (by omega) (by omega)) ?_)
    refine c_sheetDone d1 (fun h2 d2 f2 => k.ok (r := ((grw (st.T g)).2.length : Int)) (by rw [layW, if_neg (by omega)]; exact d2) ((gFr.sm s1).tr f2) (by rw [layW, if_neg (by omega)]))
  refine if_no q4 ?_
  (first | refine And.intro (show gR _ from by first | assumption | omega | decide | exact b2i_R _ | exact gR_of (by omega) (by omega)) ?_ | refine And.intro (show gHas _ _ _ from by first | exact gW.has (gD.w (by assumption)) (by omega) | exact gD.has (by assumption) | exact gRu.has (gD.ru (by assumption)) | exact gGr.has (gD.gr (by assumption) _ (by omega))) ?_ | refine gCall_mk (by decide) (by decide) ?_ | refine if_yes (by first | assumption | omega | decide | exact b2i_R _ | exact gR_of (by omega) (by omega)) ?_ | refine if_no (by first | assumption | omega | decide | exact b2i_R _ | exact gR_of (by omega) (by omega)) ?_)
  refine s_layByLine hg (show w < 11 by omega) (d.ok g hg) d.w hgr (fun h1 w1 s1 => ?_)
  exact fin h U d gFr.rf h1 _ w1 s1 (by rw [layW, if_pos (by omega)])
def m_twos (st : GSt) (x y z : Int) : Nat × (Int → Prop) × GSt :=
  if okS x then if 0 ≤ y ∧ y ≤ 6 then if 0 ≤ z ∧ z ≤ 2 then done (st.sheet x.toNat (twL y.toNat)) ((twL y.toNat).length : Int) else bad 2 st else bad 2 st else bad 1 st
theorem c_twos (d : gD A G h U st) (hx : gR x) (hy : gR y) (hz : gR z) (k : gRes A G h [eI, eA] X Q (m_twos st x y z)) : w_X5_twos X (A 22) x y z h Q := by
  unfold w_X5_twos
  (first | refine And.intro (show gR _ from by first | assumption | omega | decide | exact b2i_R _ | exact gR_of (by omega) (by omega)) ?_ | refine And.intro (show gHas _ _ _ from by first | exact gW.has (gD.w (by assumption)) (by omega) | exact gD.has (by assumption) | exact gRu.has (gD.ru (by assumption)) | exact gGr.has (gD.gr (by assumption) _ (by omega))) ?_ | refine gCall_mk (by decide) (by decide) ?_ | refine if_yes (by first | assumption | omega | decide | exact b2i_R _ | exact gR_of (by omega) (by omega)) ?_ | refine if_no (by first | assumption | omega | decide | exact b2i_R _ | exact gR_of (by omega) (by omega)) ?_); (first | refine And.intro (show gR _ from by first | assumption | omega | decide | exact b2i_R _ | exact gR_of (by omega) (by omega)) ?_ | refine And.intro (show gHas _ _ _ from by first | exact gW.has (gD.w (by assumption)) (by omega) | exact gD.has (by assumption) | exact gRu.has (gD.ru (by assumption)) | exact gGr.has (gD.gr (by assumption) _ (by omega))) ?_ | refine gCall_mk (by decide) (by decide) ?_ | refine if_yes (by first | assumption | omega | decide | exact b2i_R _ | exact gR_of (by omega) (by omega)) ?_ | refine if_no (by first | assumption | omega | decide | exact b2i_R _ | exact gR_of (by omega) (by omega)) ?_)
  refine c_wordOf d hx (fun q => by rw [m_twos, if_neg q] at k; exact k.ex d gFr.rf) (fun w hw e => ?_)
  subst e
  rw [m_twos, if_pos (show okS (w : Int) by omega), Int.toNat_natCast] at k
  have b1 : ¬ (0 ≤ y ∧ y ≤ 6) → w_X5_twos_J21 X Q (A 22) y z (A w) h 2 12 := fun q => by
    rw [if_neg q] at k
    unfold w_X5_twos_J21 w_X5_twos_J22
    (first | refine And.intro (show gR _ from by first | assumption | omega | decide | exact b2i_R _ | exact gR_of (by omega) (by omega)) ?_ | refine And.intro (show gHas _ _ _ from by first | exact gW.has (gD.w (by assumption)) (by omega) | exact gD.has (by assumption) | exact gRu.has (gD.ru (by assumption)) | exact gGr.has (gD.gr (by assumption) _ (by omega))) ?_ | refine gCall_mk (by decide) (by decide) ?_ | refine if_yes (by first | assumption | omega | decide | exact b2i_R _ | exact gR_of (by omega) (by omega)) ?_ | refine if_no (by first | assumption | omega | decide | exact b2i_R _ | exact gR_of (by omega) (by omega)) ?_)
    exact c_nA0 (k.ex d gFr.rf)
  (first | refine And.intro (show gR _ from by first | assumption | omega | decide | exact b2i_R _ | exact gR_of (by omega) (by omega)) ?_ | refine And.intro (show gHas _ _ _ from by first | exact gW.has (gD.w (by assumption)) (by omega) | exact gD.has (by assumption) | exact gRu.has (gD.ru (by assumption)) | exact gGr.has (gD.gr (by assumption) _ (by omega))) ?_ | refine gCall_mk (by decide) (by decide) ?_ | refine if_yes (by first | assumption | omega | decide | exact b2i_R _ | exact gR_of (by omega) (by omega)) ?_ | refine if_no (by first | assumption | omega | decide | exact b2i_R _ | exact gR_of (by omega) (by omega)) ?_)
  by_cases q1 : y < 0
  · exact if_yes q1 (b1 (by omega))
  (first | refine And.intro (show gR _ from by first | assumption | omega | decide | exact b2i_R _ | exact gR_of (by omega) (by omega)) ?_ | refine And.intro (show gHas _ _ _ from by first | exact gW.has (gD.w (by assumption)) (by omega) | exact gD.has (by assumption) | exact gRu.has (gD.ru (by assumption)) | exact gGr.has (gD.gr (by assumption) _ (by omega))) ?_ | refine gCall_mk (by decide) (by decide) ?_ | refine if_yes (by first | assumption | omega | decide | exact b2i_R _ | exact gR_of (by omega) (by omega)) ?_ | refine if_no (by first | assumption | omega | decide | exact b2i_R _ | exact gR_of (by omega) (by omega)) ?_); (first | refine And.intro (show gR _ from by first | assumption | omega | decide | exact b2i_R _ | exact gR_of (by omega) (by omega)) ?_ | refine And.intro (show gHas _ _ _ from by first | exact gW.has (gD.w (by assumption)) (by omega) | exact gD.has (by assumption) | exact gRu.has (gD.ru (by assumption)) | exact gGr.has (gD.gr (by assumption) _ (by omega))) ?_ | refine gCall_mk (by decide) (by decide) ?_ | refine if_yes (by first | assumption | omega | decide | exact b2i_R _ | exact gR_of (by omega) (by omega)) ?_ | refine if_no (by first | assumption | omega | decide | exact b2i_R _ | exact gR_of (by omega) (by omega)) ?_)
  by_cases q2 : 6 < y
  · exact if_yes q2 (b1 (by omega))
  (first | refine And.intro (show gR _ from by first | assumption | omega | decide | exact b2i_R _ | exact gR_of (by omega) (by omega)) ?_ | refine And.intro (show gHas _ _ _ from by first | exact gW.has (gD.w (by assumption)) (by omega) | exact gD.has (by assumption) | exact gRu.has (gD.ru (by assumption)) | exact gGr.has (gD.gr (by assumption) _ (by omega))) ?_ | refine gCall_mk (by decide) (by decide) ?_ | refine if_yes (by first | assumption | omega | decide | exact b2i_R _ | exact gR_of (by omega) (by omega)) ?_ | refine if_no (by first | assumption | omega | decide | exact b2i_R _ | exact gR_of (by omega) (by omega)) ?_)
  rw [if_pos ⟨by omega, by omega⟩] at k
  unfold w_X5_twos_J22
  (first | refine And.intro (show gR _ from by first | assumption | omega | decide | exact b2i_R _ | exact gR_of (by omega) (by omega)) ?_ | refine And.intro (show gHas _ _ _ from by first | exact gW.has (gD.w (by assumption)) (by omega) | exact gD.has (by assumption) | exact gRu.has (gD.ru (by assumption)) | exact gGr.has (gD.gr (by assumption) _ (by omega))) ?_ | refine gCall_mk (by decide) (by decide) ?_ | refine if_yes (by first | assumption | omega | decide | exact b2i_R _ | exact gR_of (by omega) (by omega)) ?_ | refine if_no (by first | assumption | omega | decide | exact b2i_R _ | exact gR_of (by omega) (by omega)) ?_)
  refine c_nA1 ?_
  have b2 : ¬ (0 ≤ z ∧ z ≤ 2) → w_X5_twos_J38 X Q (A 22) y z (A w) h 1 6 := fun q => by
    rw [if_neg q] at k
    unfold w_X5_twos_J38 w_X5_twos_J39
    (first | refine And.intro (show gR _ from by first | assumption | omega | decide | exact b2i_R _ | exact gR_of (by omega) (by omega)) ?_ | refine And.intro (show gHas _ _ _ from by first | exact gW.has (gD.w (by assumption)) (by omega) | exact gD.has (by assumption) | exact gRu.has (gD.ru (by assumption)) | exact gGr.has (gD.gr (by assumption) _ (by omega))) ?_ | refine gCall_mk (by decide) (by decide) ?_ | refine if_yes (by first | assumption | omega | decide | exact b2i_R _ | exact gR_of (by omega) (by omega)) ?_ | refine if_no (by first | assumption | omega | decide | exact b2i_R _ | exact gR_of (by omega) (by omega)) ?_)
    exact c_nA0 (k.ex d gFr.rf)
  (first | refine And.intro (show gR _ from by first | assumption | omega | decide | exact b2i_R _ | exact gR_of (by omega) (by omega)) ?_ | refine And.intro (show gHas _ _ _ from by first | exact gW.has (gD.w (by assumption)) (by omega) | exact gD.has (by assumption) | exact gRu.has (gD.ru (by assumption)) | exact gGr.has (gD.gr (by assumption) _ (by omega))) ?_ | refine gCall_mk (by decide) (by decide) ?_ | refine if_yes (by first | assumption | omega | decide | exact b2i_R _ | exact gR_of (by omega) (by omega)) ?_ | refine if_no (by first | assumption | omega | decide | exact b2i_R _ | exact gR_of (by omega) (by omega)) ?_)
  by_cases q3 : z < 0
  · exact if_yes q3 (b2 (by omega))
  (first | refine And.intro (show gR _ from by first | assumption | omega | decide | exact b2i_R _ | exact gR_of (by omega) (by omega)) ?_ | refine And.intro (show gHas _ _ _ from by first | exact gW.has (gD.w (by assumption)) (by omega) | exact gD.has (by assumption) | exact gRu.has (gD.ru (by assumption)) | exact gGr.has (gD.gr (by assumption) _ (by omega))) ?_ | refine gCall_mk (by decide) (by decide) ?_ | refine if_yes (by first | assumption | omega | decide | exact b2i_R _ | exact gR_of (by omega) (by omega)) ?_ | refine if_no (by first | assumption | omega | decide | exact b2i_R _ | exact gR_of (by omega) (by omega)) ?_); (first | refine And.intro (show gR _ from by first | assumption | omega | decide | exact b2i_R _ | exact gR_of (by omega) (by omega)) ?_ | refine And.intro (show gHas _ _ _ from by first | exact gW.has (gD.w (by assumption)) (by omega) | exact gD.has (by assumption) | exact gRu.has (gD.ru (by assumption)) | exact gGr.has (gD.gr (by assumption) _ (by omega))) ?_ | refine gCall_mk (by decide) (by decide) ?_ | refine if_yes (by first | assumption | omega | decide | exact b2i_R _ | exact gR_of (by omega) (by omega)) ?_ | refine if_no (by first | assumption | omega | decide | exact b2i_R _ | exact gR_of (by omega) (by omega)) ?_)
  by_cases q4 : 2 < z
  · exact if_yes q4 (b2 (by omega))
  (first | refine And.intro (show gR _ from by first | assumption | omega | decide | exact b2i_R _ | exact gR_of (by omega) (by omega)) ?_ | refine And.intro (show gHas _ _ _ from by first | exact gW.has (gD.w (by assumption)) (by omega) | exact gD.has (by assumption) | exact gRu.has (gD.ru (by assumption)) | exact gGr.has (gD.gr (by assumption) _ (by omega))) ?_ | refine gCall_mk (by decide) (by decide) ?_ | refine if_yes (by first | assumption | omega | decide | exact b2i_R _ | exact gR_of (by omega) (by omega)) ?_ | refine if_no (by first | assumption | omega | decide | exact b2i_R _ | exact gR_of (by omega) (by omega)) ?_)
  rw [if_pos ⟨by omega, by omega⟩] at k
  obtain ⟨n, rfl⟩ : ∃ n : Nat, y = n := ⟨y.toNat, by omega⟩
  rw [Int.toNat_natCast] at k
  unfold w_X5_twos_J39
  (first | refine And.intro (show gR _ from by first | assumption | omega | decide | exact b2i_R _ | exact gR_of (by omega) (by omega)) ?_ | refine And.intro (show gHas _ _ _ from by first | exact gW.has (gD.w (by assumption)) (by omega) | exact gD.has (by assumption) | exact gRu.has (gD.ru (by assumption)) | exact gGr.has (gD.gr (by assumption) _ (by omega))) ?_ | refine gCall_mk (by decide) (by decide) ?_ | refine if_yes (by first | assumption | omega | decide | exact b2i_R _ | exact gR_of (by omega) (by omega)) ?_ | refine if_no (by first | assumption | omega | decide | exact b2i_R _ | exact gR_of (by omega) (by omega)) ?_)
  refine c_nA1 ?_
  (first | refine And.intro (show gR _ from by first | assumption | omega | decide | exact b2i_R _ | exact gR_of (by omega) (by omega)) ?_ | refine And.intro (show gHas _ _ _ from by first | exact gW.has (gD.w (by assumption)) (by omega) | exact gD.has (by assumption) | exact gRu.has (gD.ru (by assumption)) | exact gGr.has (gD.gr (by assumption) _ (by omega))) ?_ | refine gCall_mk (by decide) (by decide) ?_ | refine if_yes (by first | assumption | omega | decide | exact b2i_R _ | exact gR_of (by omega) (by omega)) ?_ | refine if_no (by first | assumption | omega | decide | exact b2i_R _ | exact gR_of (by omega) (by omega)) ?_)
  have fin : ∀ h1 V1, gD A G h1 V1 (pu st.S w (twL n), st.T, st.C) → gFr A h h1 → V1 w = twL n → w_X5_twos_J83 X Q (A 22) (A w) h1 0 0 := by
    intro h1 V1 d1 f1 e1
    unfold w_X5_twos_J83
    refine d1.w.many (show w < 11 by omega) ?_
    rw [e1]
    (first | refine And.intro (show gR _ from by first | assumption | omega | decide | exact b2i_R _ | exact gR_of (by omega) (by omega)) ?_ | refine And.intro (show gHas _ _ _ from by first | exact gW.has (gD.w (by assumption)) (by omega) | exact gD.has (by assumption) | exact gRu.has (gD.ru (by assumption)) | exact gGr.has (gD.gr (by assumption) _ (by omega))) ?_ | refine gCall_mk (by decide) (by decide) ?_ | refine if_yes (by first | assumption | omega | decide | exact b2i_R _ | exact gR_of (by omega) (by omega)) ?_ | refine if_no (by first | assumption | omega | decide | exact b2i_R _ | exact gR_of (by omega) (by omega)) ?_)
    exact c_sheetDone d1 (fun h2 d2 f2 => k.ok d2 (f1.tr f2) rfl)
  by_cases q5 : z = 0
  · refine if_yes q5 (d.f3 (d.f2 ?_))
    refine s_layByRule (show w < 9 by omega) (by omega) d.w d.ru rfl (show n ≤ 6 by omega) (fun h1 V1 w1 o1 e1 s1 => ?_)
    exact fin h1 V1 (d.k w1 (gSk.of s1) (fun v hv => by
      by_cases e : v = w
      · rw [e, pu_self, e1]
      · rw [pu_ne _ _ e, o1 v e (by omega) (by omega) (by omega)]; exact d.s v hv) (fun v h5 h9 => o1 v (by omega) (by omega) (by omega) (by omega))) (gFr.sm s1) e1
  refine if_no q5 ?_
  (first | refine And.intro (show gR _ from by first | assumption | omega | decide | exact b2i_R _ | exact gR_of (by omega) (by omega)) ?_ | refine And.intro (show gHas _ _ _ from by first | exact gW.has (gD.w (by assumption)) (by omega) | exact gD.has (by assumption) | exact gRu.has (gD.ru (by assumption)) | exact gGr.has (gD.gr (by assumption) _ (by omega))) ?_ | refine gCall_mk (by decide) (by decide) ?_ | refine if_yes (by first | assumption | omega | decide | exact b2i_R _ | exact gR_of (by omega) (by omega)) ?_ | refine if_no (by first | assumption | omega | decide | exact b2i_R _ | exact gR_of (by omega) (by omega)) ?_)
  by_cases q6 : z = 1
  · refine if_yes q6 (s_layByCopies (show w < 11 by omega) d.w rfl (show n ≤ 6 by omega) (fun h1 w1 s1 => ?_))
    exact fin h1 _ (d.sh hw w1 s1) (gFr.sm s1) (pu_self _ _ _)
  · refine if_no q6 (s_signBySign (show w < 11 by omega) d.w rfl (show n ≤ 6 by omega) (fun h1 w1 s1 => ?_))
    exact fin h1 _ (d.sh hw w1 s1) (gFr.sm s1) (pu_self _ _ _)
def lineW (n p s : Nat) : List Bool := (List.range n).map (lineB n p s)
def m_line (st : GSt) (x n p s : Int) : Nat × (Int → Prop) × GSt :=
  if okS x then if 1 ≤ n ∧ n ≤ 64 then if 0 ≤ p ∧ p ≤ n then if 0 ≤ s ∧ s < n then settled st x.toNat (lineW n.toNat p.toNat s.toNat) else bad 2 st else bad 2 st else bad 2 st else bad 1 st
theorem s_line_L {E : List String} (hw : w < 3) {n p s : Nat} (hn : 1 ≤ n ∧ n ≤ 64) (hp : p ≤ n) (hs : s < n) {kc ks : Nat} : ∀ (z i : Nat) (h : gaH) (U : Nat → List Bool), gD A G h U st → gRes A G h E X Q (settled st w (lineW n p s)) → i ≤ n → n - i < z → U 3 = (List.range i).map (lineB n p s) → w_X5_line_L72 X Q z (A 22) (n : Int) (p : Int) (s : Int) (A w) (i : Int) h kc ks
  | 0, _, _, _, _, _, _, h1, _ => absurd h1 (Nat.not_lt_zero _)
  | z + 1, i, h, U, d, k, hi, h1, hb => by
    unfold w_X5_line_L72
    (first | refine And.intro (show gR _ from by first | assumption | omega | decide | exact b2i_R _ | exact gR_of (by omega) (by omega)) ?_ | refine And.intro (show gHas _ _ _ from by first | exact gW.has (gD.w (by assumption)) (by omega) | exact gD.has (by assumption) | exact gRu.has (gD.ru (by assumption)) | exact gGr.has (gD.gr (by assumption) _ (by omega))) ?_ | refine gCall_mk (by decide) (by decide) ?_ | refine if_yes (by first | assumption | omega | decide | exact b2i_R _ | exact gR_of (by omega) (by omega)) ?_ | refine if_no (by first | assumption | omega | decide | exact b2i_R _ | exact gR_of (by omega) (by omega)) ?_); (first | refine And.intro (show gR _ from by first | assumption | omega | decide | exact b2i_R _ | exact gR_of (by omega) (by omega)) ?_ | refine And.intro (show gHas _ _ _ from by first | exact gW.has (gD.w (by assumption)) (by omega) | exact gD.has (by assumption) | exact gRu.has (gD.ru (by assumption)) | exact gGr.has (gD.gr (by assumption) _ (by omega))) ?_ | refine gCall_mk (by decide) (by decide) ?_ | refine if_yes (by first | assumption | omega | decide | exact b2i_R _ | exact gR_of (by omega) (by omega)) ?_ | refine if_no (by first | assumption | omega | decide | exact b2i_R _ | exact gR_of (by omega) (by omega)) ?_)
    by_cases q : n ≤ i
    · refine if_yes (by omega) (d.f3 ?_)
      (first | refine And.intro (show gR _ from by first | assumption | omega | decide | exact b2i_R _ | exact gR_of (by omega) (by omega)) ?_ | refine And.intro (show gHas _ _ _ from by first | exact gW.has (gD.w (by assumption)) (by omega) | exact gD.has (by assumption) | exact gRu.has (gD.ru (by assumption)) | exact gGr.has (gD.gr (by assumption) _ (by omega))) ?_ | refine gCall_mk (by decide) (by decide) ?_ | refine if_yes (by first | assumption | omega | decide | exact b2i_R _ | exact gR_of (by omega) (by omega)) ?_ | refine if_no (by first | assumption | omega | decide | exact b2i_R _ | exact gR_of (by omega) (by omega)) ?_)
      have e : U 3 = lineW n p s := by rw [hb, show i = n by omega]; rfl
      exact c_settle d hw (by decide) (by rw [e]; exact k)
    · refine if_no (by omega) (d.f3 ?_)
      refine s_lineB (n := n) (p := p) (s := s) (i := i) (by omega) (by omega) (by omega) (by omega) (by omega) rfl rfl rfl rfl ?_
      (first | refine And.intro (show gR _ from by first | assumption | omega | decide | exact b2i_R _ | exact gR_of (by omega) (by omega)) ?_ | refine And.intro (show gHas _ _ _ from by first | exact gW.has (gD.w (by assumption)) (by omega) | exact gD.has (by assumption) | exact gRu.has (gD.ru (by assumption)) | exact gGr.has (gD.gr (by assumption) _ (by omega))) ?_ | refine gCall_mk (by decide) (by decide) ?_ | refine if_yes (by first | assumption | omega | decide | exact b2i_R _ | exact gR_of (by omega) (by omega)) ?_ | refine if_no (by first | assumption | omega | decide | exact b2i_R _ | exact gR_of (by omega) (by omega)) ?_)
      refine v_add d.w (by decide) (by rw [hb]; simp; omega) rfl (fun h1 V1 w1 s1 e1 o1 => ?_)
      have d1 := d.b w1 s1 (fun v hv => o1 _ (by omega)) (fun v h5 _ => o1 _ (by omega))
      rw [show (i : Int) + 1 = ((i + 1 : Nat) : Int) by omega]
      exact s_line_L hw hn hp hs z (i + 1) h1 V1 d1 (k.on (gFr.sm s1)) (by omega) (by omega) (by rw [e1, hb, range_snoc])
theorem c_line (d : gD A G h U st) {n p s : Int} (hx : gR x) (hn : gR n) (hp : gR p) (hs : gR s) (k : gRes A G h [eI, eA] X Q (m_line st x n p s)) : w_X5_line X (A 22) x n p s h Q := by
  unfold w_X5_line
  (first | refine And.intro (show gR _ from by first | assumption | omega | decide | exact b2i_R _ | exact gR_of (by omega) (by omega)) ?_ | refine And.intro (show gHas _ _ _ from by first | exact gW.has (gD.w (by assumption)) (by omega) | exact gD.has (by assumption) | exact gRu.has (gD.ru (by assumption)) | exact gGr.has (gD.gr (by assumption) _ (by omega))) ?_ | refine gCall_mk (by decide) (by decide) ?_ | refine if_yes (by first | assumption | omega | decide | exact b2i_R _ | exact gR_of (by omega) (by omega)) ?_ | refine if_no (by first | assumption | omega | decide | exact b2i_R _ | exact gR_of (by omega) (by omega)) ?_); (first | refine And.intro (show gR _ from by first | assumption | omega | decide | exact b2i_R _ | exact gR_of (by omega) (by omega)) ?_ | refine And.intro (show gHas _ _ _ from by first | exact gW.has (gD.w (by assumption)) (by omega) | exact gD.has (by assumption) | exact gRu.has (gD.ru (by assumption)) | exact gGr.has (gD.gr (by assumption) _ (by omega))) ?_ | refine gCall_mk (by decide) (by decide) ?_ | refine if_yes (by first | assumption | omega | decide | exact b2i_R _ | exact gR_of (by omega) (by omega)) ?_ | refine if_no (by first | assumption | omega | decide | exact b2i_R _ | exact gR_of (by omega) (by omega)) ?_)
  refine c_wordOf d hx (fun q => by rw [m_line, if_neg q] at k; exact k.ex d gFr.rf) (fun w hw e => ?_)
  subst e
  rw [m_line, if_pos (show okS (w : Int) by omega), Int.toNat_natCast] at k
  have b1 : ¬ (1 ≤ n ∧ n ≤ 64) → w_X5_line_J22 X Q (A 22) n p s (A w) h 3 18 := fun q => by
    rw [if_neg q] at k
    unfold w_X5_line_J22 w_X5_line_J23
    (first | refine And.intro (show gR _ from by first | assumption | omega | decide | exact b2i_R _ | exact gR_of (by omega) (by omega)) ?_ | refine And.intro (show gHas _ _ _ from by first | exact gW.has (gD.w (by assumption)) (by omega) | exact gD.has (by assumption) | exact gRu.has (gD.ru (by assumption)) | exact gGr.has (gD.gr (by assumption) _ (by omega))) ?_ | refine gCall_mk (by decide) (by decide) ?_ | refine if_yes (by first | assumption | omega | decide | exact b2i_R _ | exact gR_of (by omega) (by omega)) ?_ | refine if_no (by first | assumption | omega | decide | exact b2i_R _ | exact gR_of (by omega) (by omega)) ?_)
    exact c_nA0 (k.ex d gFr.rf)
  (first | refine And.intro (show gR _ from by first | assumption | omega | decide | exact b2i_R _ | exact gR_of (by omega) (by omega)) ?_ | refine And.intro (show gHas _ _ _ from by first | exact gW.has (gD.w (by assumption)) (by omega) | exact gD.has (by assumption) | exact gRu.has (gD.ru (by assumption)) | exact gGr.has (gD.gr (by assumption) _ (by omega))) ?_ | refine gCall_mk (by decide) (by decide) ?_ | refine if_yes (by first | assumption | omega | decide | exact b2i_R _ | exact gR_of (by omega) (by omega)) ?_ | refine if_no (by first | assumption | omega | decide | exact b2i_R _ | exact gR_of (by omega) (by omega)) ?_)
  by_cases q1 : n < 1
  · exact if_yes q1 (b1 (by omega))
  (first | refine And.intro (show gR _ from by first | assumption | omega | decide | exact b2i_R _ | exact gR_of (by omega) (by omega)) ?_ | refine And.intro (show gHas _ _ _ from by first | exact gW.has (gD.w (by assumption)) (by omega) | exact gD.has (by assumption) | exact gRu.has (gD.ru (by assumption)) | exact gGr.has (gD.gr (by assumption) _ (by omega))) ?_ | refine gCall_mk (by decide) (by decide) ?_ | refine if_yes (by first | assumption | omega | decide | exact b2i_R _ | exact gR_of (by omega) (by omega)) ?_ | refine if_no (by first | assumption | omega | decide | exact b2i_R _ | exact gR_of (by omega) (by omega)) ?_); (first | refine And.intro (show gR _ from by first | assumption | omega | decide | exact b2i_R _ | exact gR_of (by omega) (by omega)) ?_ | refine And.intro (show gHas _ _ _ from by first | exact gW.has (gD.w (by assumption)) (by omega) | exact gD.has (by assumption) | exact gRu.has (gD.ru (by assumption)) | exact gGr.has (gD.gr (by assumption) _ (by omega))) ?_ | refine gCall_mk (by decide) (by decide) ?_ | refine if_yes (by first | assumption | omega | decide | exact b2i_R _ | exact gR_of (by omega) (by omega)) ?_ | refine if_no (by first | assumption | omega | decide | exact b2i_R _ | exact gR_of (by omega) (by omega)) ?_)
  by_cases q2 : 64 < n
  · exact if_yes q2 (b1 (by omega))
  (first | refine And.intro (show gR _ from by first | assumption | omega | decide | exact b2i_R _ | exact gR_of (by omega) (by omega)) ?_ | refine And.intro (show gHas _ _ _ from by first | exact gW.has (gD.w (by assumption)) (by omega) | exact gD.has (by assumption) | exact gRu.has (gD.ru (by assumption)) | exact gGr.has (gD.gr (by assumption) _ (by omega))) ?_ | refine gCall_mk (by decide) (by decide) ?_ | refine if_yes (by first | assumption | omega | decide | exact b2i_R _ | exact gR_of (by omega) (by omega)) ?_ | refine if_no (by first | assumption | omega | decide | exact b2i_R _ | exact gR_of (by omega) (by omega)) ?_)
  rw [if_pos ⟨by omega, by omega⟩] at k
  unfold w_X5_line_J23
  (first | refine And.intro (show gR _ from by first | assumption | omega | decide | exact b2i_R _ | exact gR_of (by omega) (by omega)) ?_ | refine And.intro (show gHas _ _ _ from by first | exact gW.has (gD.w (by assumption)) (by omega) | exact gD.has (by assumption) | exact gRu.has (gD.ru (by assumption)) | exact gGr.has (gD.gr (by assumption) _ (by omega))) ?_ | refine gCall_mk (by decide) (by decide) ?_ | refine if_yes (by first | assumption | omega | decide | exact b2i_R _ | exact gR_of (by omega) (by omega)) ?_ | refine if_no (by first | assumption | omega | decide | exact b2i_R _ | exact gR_of (by omega) (by omega)) ?_)
  refine c_nA1 ?_
  have b2 : ¬ (0 ≤ p ∧ p ≤ n) → w_X5_line_J39 X Q (A 22) n p s (A w) h 2 12 := fun q => by
    rw [if_neg q] at k
    unfold w_X5_line_J39 w_X5_line_J40
    (first | refine And.intro (show gR _ from by first | assumption | omega | decide | exact b2i_R _ | exact gR_of (by omega) (by omega)) ?_ | refine And.intro (show gHas _ _ _ from by first | exact gW.has (gD.w (by assumption)) (by omega) | exact gD.has (by assumption) | exact gRu.has (gD.ru (by assumption)) | exact gGr.has (gD.gr (by assumption) _ (by omega))) ?_ | refine gCall_mk (by decide) (by decide) ?_ | refine if_yes (by first | assumption | omega | decide | exact b2i_R _ | exact gR_of (by omega) (by omega)) ?_ | refine if_no (by first | assumption | omega | decide | exact b2i_R _ | exact gR_of (by omega) (by omega)) ?_)
    exact c_nA0 (k.ex d gFr.rf)
  (first | refine And.intro (show gR _ from by first | assumption | omega | decide | exact b2i_R _ | exact gR_of (by omega) (by omega)) ?_ | refine And.intro (show gHas _ _ _ from by first | exact gW.has (gD.w (by assumption)) (by omega) | exact gD.has (by assumption) | exact gRu.has (gD.ru (by assumption)) | exact gGr.has (gD.gr (by assumption) _ (by omega))) ?_ | refine gCall_mk (by decide) (by decide) ?_ | refine if_yes (by first | assumption | omega | decide | exact b2i_R _ | exact gR_of (by omega) (by omega)) ?_ | refine if_no (by first | assumption | omega | decide | exact b2i_R _ | exact gR_of (by omega) (by omega)) ?_)
  by_cases q3 : p < 0
  · exact if_yes q3 (b2 (by omega))
  (first | refine And.intro (show gR _ from by first | assumption | omega | decide | exact b2i_R _ | exact gR_of (by omega) (by omega)) ?_ | refine And.intro (show gHas _ _ _ from by first | exact gW.has (gD.w (by assumption)) (by omega) | exact gD.has (by assumption) | exact gRu.has (gD.ru (by assumption)) | exact gGr.has (gD.gr (by assumption) _ (by omega))) ?_ | refine gCall_mk (by decide) (by decide) ?_ | refine if_yes (by first | assumption | omega | decide | exact b2i_R _ | exact gR_of (by omega) (by omega)) ?_ | refine if_no (by first | assumption | omega | decide | exact b2i_R _ | exact gR_of (by omega) (by omega)) ?_); (first | refine And.intro (show gR _ from by first | assumption | omega | decide | exact b2i_R _ | exact gR_of (by omega) (by omega)) ?_ | refine And.intro (show gHas _ _ _ from by first | exact gW.has (gD.w (by assumption)) (by omega) | exact gD.has (by assumption) | exact gRu.has (gD.ru (by assumption)) | exact gGr.has (gD.gr (by assumption) _ (by omega))) ?_ | refine gCall_mk (by decide) (by decide) ?_ | refine if_yes (by first | assumption | omega | decide | exact b2i_R _ | exact gR_of (by omega) (by omega)) ?_ | refine if_no (by first | assumption | omega | decide | exact b2i_R _ | exact gR_of (by omega) (by omega)) ?_); (first | refine And.intro (show gR _ from by first | assumption | omega | decide | exact b2i_R _ | exact gR_of (by omega) (by omega)) ?_ | refine And.intro (show gHas _ _ _ from by first | exact gW.has (gD.w (by assumption)) (by omega) | exact gD.has (by assumption) | exact gRu.has (gD.ru (by assumption)) | exact gGr.has (gD.gr (by assumption) _ (by omega))) ?_ | refine gCall_mk (by decide) (by decide) ?_ | refine if_yes (by first | assumption | omega | decide | exact b2i_R _ | exact gR_of (by omega) (by omega)) ?_ | refine if_no (by first | assumption | omega | decide | exact b2i_R _ | exact gR_of (by omega) (by omega)) ?_)
  by_cases q4 : n < p
  · exact if_yes q4 (b2 (by omega))
  (first | refine And.intro (show gR _ from by first | assumption | omega | decide | exact b2i_R _ | exact gR_of (by omega) (by omega)) ?_ | refine And.intro (show gHas _ _ _ from by first | exact gW.has (gD.w (by assumption)) (by omega) | exact gD.has (by assumption) | exact gRu.has (gD.ru (by assumption)) | exact gGr.has (gD.gr (by assumption) _ (by omega))) ?_ | refine gCall_mk (by decide) (by decide) ?_ | refine if_yes (by first | assumption | omega | decide | exact b2i_R _ | exact gR_of (by omega) (by omega)) ?_ | refine if_no (by first | assumption | omega | decide | exact b2i_R _ | exact gR_of (by omega) (by omega)) ?_)
  rw [if_pos ⟨by omega, by omega⟩] at k
  unfold w_X5_line_J40
  (first | refine And.intro (show gR _ from by first | assumption | omega | decide | exact b2i_R _ | exact gR_of (by omega) (by omega)) ?_ | refine And.intro (show gHas _ _ _ from by first | exact gW.has (gD.w (by assumption)) (by omega) | exact gD.has (by assumption) | exact gRu.has (gD.ru (by assumption)) | exact gGr.has (gD.gr (by assumption) _ (by omega))) ?_ | refine gCall_mk (by decide) (by decide) ?_ | refine if_yes (by first | assumption | omega | decide | exact b2i_R _ | exact gR_of (by omega) (by omega)) ?_ | refine if_no (by first | assumption | omega | decide | exact b2i_R _ | exact gR_of (by omega) (by omega)) ?_)
  refine c_nA1 ?_
  have b3 : ¬ (0 ≤ s ∧ s < n) → w_X5_line_J58 X Q (A 22) n p s (A w) h 1 6 := fun q => by
    rw [if_neg q] at k
    unfold w_X5_line_J58 w_X5_line_J59
    (first | refine And.intro (show gR _ from by first | assumption | omega | decide | exact b2i_R _ | exact gR_of (by omega) (by omega)) ?_ | refine And.intro (show gHas _ _ _ from by first | exact gW.has (gD.w (by assumption)) (by omega) | exact gD.has (by assumption) | exact gRu.has (gD.ru (by assumption)) | exact gGr.has (gD.gr (by assumption) _ (by omega))) ?_ | refine gCall_mk (by decide) (by decide) ?_ | refine if_yes (by first | assumption | omega | decide | exact b2i_R _ | exact gR_of (by omega) (by omega)) ?_ | refine if_no (by first | assumption | omega | decide | exact b2i_R _ | exact gR_of (by omega) (by omega)) ?_)
    exact c_nA0 (k.ex d gFr.rf)
  (first | refine And.intro (show gR _ from by first | assumption | omega | decide | exact b2i_R _ | exact gR_of (by omega) (by omega)) ?_ | refine And.intro (show gHas _ _ _ from by first | exact gW.has (gD.w (by assumption)) (by omega) | exact gD.has (by assumption) | exact gRu.has (gD.ru (by assumption)) | exact gGr.has (gD.gr (by assumption) _ (by omega))) ?_ | refine gCall_mk (by decide) (by decide) ?_ | refine if_yes (by first | assumption | omega | decide | exact b2i_R _ | exact gR_of (by omega) (by omega)) ?_ | refine if_no (by first | assumption | omega | decide | exact b2i_R _ | exact gR_of (by omega) (by omega)) ?_)
  by_cases q5 : s < 0
  · exact if_yes q5 (b3 (by omega))
  (first | refine And.intro (show gR _ from by first | assumption | omega | decide | exact b2i_R _ | exact gR_of (by omega) (by omega)) ?_ | refine And.intro (show gHas _ _ _ from by first | exact gW.has (gD.w (by assumption)) (by omega) | exact gD.has (by assumption) | exact gRu.has (gD.ru (by assumption)) | exact gGr.has (gD.gr (by assumption) _ (by omega))) ?_ | refine gCall_mk (by decide) (by decide) ?_ | refine if_yes (by first | assumption | omega | decide | exact b2i_R _ | exact gR_of (by omega) (by omega)) ?_ | refine if_no (by first | assumption | omega | decide | exact b2i_R _ | exact gR_of (by omega) (by omega)) ?_); (first | refine And.intro (show gR _ from by first | assumption | omega | decide | exact b2i_R _ | exact gR_of (by omega) (by omega)) ?_ | refine And.intro (show gHas _ _ _ from by first | exact gW.has (gD.w (by assumption)) (by omega) | exact gD.has (by assumption) | exact gRu.has (gD.ru (by assumption)) | exact gGr.has (gD.gr (by assumption) _ (by omega))) ?_ | refine gCall_mk (by decide) (by decide) ?_ | refine if_yes (by first | assumption | omega | decide | exact b2i_R _ | exact gR_of (by omega) (by omega)) ?_ | refine if_no (by first | assumption | omega | decide | exact b2i_R _ | exact gR_of (by omega) (by omega)) ?_); (first | refine And.intro (show gR _ from by first | assumption | omega | decide | exact b2i_R _ | exact gR_of (by omega) (by omega)) ?_ | refine And.intro (show gHas _ _ _ from by first | exact gW.has (gD.w (by assumption)) (by omega) | exact gD.has (by assumption) | exact gRu.has (gD.ru (by assumption)) | exact gGr.has (gD.gr (by assumption) _ (by omega))) ?_ | refine gCall_mk (by decide) (by decide) ?_ | refine if_yes (by first | assumption | omega | decide | exact b2i_R _ | exact gR_of (by omega) (by omega)) ?_ | refine if_no (by first | assumption | omega | decide | exact b2i_R _ | exact gR_of (by omega) (by omega)) ?_)
  by_cases q6 : n ≤ s
  · exact if_yes q6 (b3 (by omega))
  (first | refine And.intro (show gR _ from by first | assumption | omega | decide | exact b2i_R _ | exact gR_of (by omega) (by omega)) ?_ | refine And.intro (show gHas _ _ _ from by first | exact gW.has (gD.w (by assumption)) (by omega) | exact gD.has (by assumption) | exact gRu.has (gD.ru (by assumption)) | exact gGr.has (gD.gr (by assumption) _ (by omega))) ?_ | refine gCall_mk (by decide) (by decide) ?_ | refine if_yes (by first | assumption | omega | decide | exact b2i_R _ | exact gR_of (by omega) (by omega)) ?_ | refine if_no (by first | assumption | omega | decide | exact b2i_R _ | exact gR_of (by omega) (by omega)) ?_)
  rw [if_pos ⟨by omega, by omega⟩] at k
  obtain ⟨n, rfl⟩ : ∃ m : Nat, n = m := ⟨n.toNat, by omega⟩
  obtain ⟨p, rfl⟩ : ∃ m : Nat, p = m := ⟨p.toNat, by omega⟩
  obtain ⟨s, rfl⟩ : ∃ m : Nat, s = m := ⟨s.toNat, by omega⟩
  rw [Int.toNat_natCast, Int.toNat_natCast, Int.toNat_natCast] at k
  unfold w_X5_line_J59
  (first | refine And.intro (show gR _ from by first | assumption | omega | decide | exact b2i_R _ | exact gR_of (by omega) (by omega)) ?_ | refine And.intro (show gHas _ _ _ from by first | exact gW.has (gD.w (by assumption)) (by omega) | exact gD.has (by assumption) | exact gRu.has (gD.ru (by assumption)) | exact gGr.has (gD.gr (by assumption) _ (by omega))) ?_ | refine gCall_mk (by decide) (by decide) ?_ | refine if_yes (by first | assumption | omega | decide | exact b2i_R _ | exact gR_of (by omega) (by omega)) ?_ | refine if_no (by first | assumption | omega | decide | exact b2i_R _ | exact gR_of (by omega) (by omega)) ?_)
  refine c_nA1 (d.f3 ?_)
  (first | refine And.intro (show gR _ from by first | assumption | omega | decide | exact b2i_R _ | exact gR_of (by omega) (by omega)) ?_ | refine And.intro (show gHas _ _ _ from by first | exact gW.has (gD.w (by assumption)) (by omega) | exact gD.has (by assumption) | exact gRu.has (gD.ru (by assumption)) | exact gGr.has (gD.gr (by assumption) _ (by omega))) ?_ | refine gCall_mk (by decide) (by decide) ?_ | refine if_yes (by first | assumption | omega | decide | exact b2i_R _ | exact gR_of (by omega) (by omega)) ?_ | refine if_no (by first | assumption | omega | decide | exact b2i_R _ | exact gR_of (by omega) (by omega)) ?_)
  refine v_clear d.w (by decide) (fun h1 V1 w1 s1 e1 o1 => ⟨66, ?_⟩)
  have d1 := d.b w1 s1 (fun v hv => o1 _ (by omega)) (fun v h5 _ => o1 _ (by omega))
  exact s_line_L hw (by omega) (by omega) (by omega) 66 0 h1 V1 d1 (k.on (gFr.sm s1)) (Nat.zero_le _) (by omega) e1
def m_grow (st : GSt) (x y : Int) : Nat × (Int → Prop) × GSt :=
  if okG x then if 1 ≤ y ∧ y ≤ 3 then if y.toNat * (grw (st.T x.toNat)).2.length + (grw (st.T x.toNat)).1.length ≤ 64 then done (st.turn x.toNat (st.T x.toNat ++ [y.toNat])) ((grw (st.T x.toNat ++ [y.toNat])).2.length : Int) else done st.refuse (-9) else bad 2 st else bad 1 st
theorem grow_ok {ts : List Nat} {t : Nat} (h : gOk ts) (h1 : 1 ≤ t ∧ t ≤ 3) (h2 : t * (grw ts).2.length + (grw ts).1.length ≤ 64) : gOk (ts ++ [t]) := by
  refine ⟨fun x hx => ?_, ?_⟩
  · rcases List.mem_append.mp hx with q | q
    · exact h.1 x q
    · rw [List.mem_singleton.mp q]; exact h1
  · rw [grw_snoc]
    simp only [gstep, List.length_append, rep_len]
    exact h2
theorem c_grow (d : gD A G h U st) (hx : gR x) (hy : gR y) (k : gRes A G h [eI, eA] X Q (m_grow st x y)) : w_X5_grow X (A 22) x y h Q := by
  unfold w_X5_grow
  (first | refine And.intro (show gR _ from by first | assumption | omega | decide | exact b2i_R _ | exact gR_of (by omega) (by omega)) ?_ | refine And.intro (show gHas _ _ _ from by first | exact gW.has (gD.w (by assumption)) (by omega) | exact gD.has (by assumption) | exact gRu.has (gD.ru (by assumption)) | exact gGr.has (gD.gr (by assumption) _ (by omega))) ?_ | refine gCall_mk (by decide) (by decide) ?_ | refine if_yes (by first | assumption | omega | decide | exact b2i_R _ | exact gR_of (by omega) (by omega)) ?_ | refine if_no (by first | assumption | omega | decide | exact b2i_R _ | exact gR_of (by omega) (by omega)) ?_); (first | refine And.intro (show gR _ from by first | assumption | omega | decide | exact b2i_R _ | exact gR_of (by omega) (by omega)) ?_ | refine And.intro (show gHas _ _ _ from by first | exact gW.has (gD.w (by assumption)) (by omega) | exact gD.has (by assumption) | exact gRu.has (gD.ru (by assumption)) | exact gGr.has (gD.gr (by assumption) _ (by omega))) ?_ | refine gCall_mk (by decide) (by decide) ?_ | refine if_yes (by first | assumption | omega | decide | exact b2i_R _ | exact gR_of (by omega) (by omega)) ?_ | refine if_no (by first | assumption | omega | decide | exact b2i_R _ | exact gR_of (by omega) (by omega)) ?_)
  refine c_growthOf d hx (fun q => by rw [m_grow, if_neg q] at k; exact k.ex d gFr.rf) (fun g hg e => ?_)
  subst e
  rw [m_grow, if_pos (show okG (g : Int) by omega), Int.toNat_natCast] at k
  have b1 : ¬ (1 ≤ y ∧ y ≤ 3) → w_X5_grow_J20 X Q (A 22) y (A (26 + g)) h 1 6 := fun q => by
    rw [if_neg q] at k
    unfold w_X5_grow_J20 w_X5_grow_J21
    (first | refine And.intro (show gR _ from by first | assumption | omega | decide | exact b2i_R _ | exact gR_of (by omega) (by omega)) ?_ | refine And.intro (show gHas _ _ _ from by first | exact gW.has (gD.w (by assumption)) (by omega) | exact gD.has (by assumption) | exact gRu.has (gD.ru (by assumption)) | exact gGr.has (gD.gr (by assumption) _ (by omega))) ?_ | refine gCall_mk (by decide) (by decide) ?_ | refine if_yes (by first | assumption | omega | decide | exact b2i_R _ | exact gR_of (by omega) (by omega)) ?_ | refine if_no (by first | assumption | omega | decide | exact b2i_R _ | exact gR_of (by omega) (by omega)) ?_)
    exact c_nA0 (k.ex d gFr.rf)
  (first | refine And.intro (show gR _ from by first | assumption | omega | decide | exact b2i_R _ | exact gR_of (by omega) (by omega)) ?_ | refine And.intro (show gHas _ _ _ from by first | exact gW.has (gD.w (by assumption)) (by omega) | exact gD.has (by assumption) | exact gRu.has (gD.ru (by assumption)) | exact gGr.has (gD.gr (by assumption) _ (by omega))) ?_ | refine gCall_mk (by decide) (by decide) ?_ | refine if_yes (by first | assumption | omega | decide | exact b2i_R _ | exact gR_of (by omega) (by omega)) ?_ | refine if_no (by first | assumption | omega | decide | exact b2i_R _ | exact gR_of (by omega) (by omega)) ?_)
  by_cases q1 : y < 1
  · exact if_yes q1 (b1 (by omega))
  (first | refine And.intro (show gR _ from by first | assumption | omega | decide | exact b2i_R _ | exact gR_of (by omega) (by omega)) ?_ | refine And.intro (show gHas _ _ _ from by first | exact gW.has (gD.w (by assumption)) (by omega) | exact gD.has (by assumption) | exact gRu.has (gD.ru (by assumption)) | exact gGr.has (gD.gr (by assumption) _ (by omega))) ?_ | refine gCall_mk (by decide) (by decide) ?_ | refine if_yes (by first | assumption | omega | decide | exact b2i_R _ | exact gR_of (by omega) (by omega)) ?_ | refine if_no (by first | assumption | omega | decide | exact b2i_R _ | exact gR_of (by omega) (by omega)) ?_); (first | refine And.intro (show gR _ from by first | assumption | omega | decide | exact b2i_R _ | exact gR_of (by omega) (by omega)) ?_ | refine And.intro (show gHas _ _ _ from by first | exact gW.has (gD.w (by assumption)) (by omega) | exact gD.has (by assumption) | exact gRu.has (gD.ru (by assumption)) | exact gGr.has (gD.gr (by assumption) _ (by omega))) ?_ | refine gCall_mk (by decide) (by decide) ?_ | refine if_yes (by first | assumption | omega | decide | exact b2i_R _ | exact gR_of (by omega) (by omega)) ?_ | refine if_no (by first | assumption | omega | decide | exact b2i_R _ | exact gR_of (by omega) (by omega)) ?_)
  by_cases q2 : 3 < y
  · exact if_yes q2 (b1 (by omega))
  (first | refine And.intro (show gR _ from by first | assumption | omega | decide | exact b2i_R _ | exact gR_of (by omega) (by omega)) ?_ | refine And.intro (show gHas _ _ _ from by first | exact gW.has (gD.w (by assumption)) (by omega) | exact gD.has (by assumption) | exact gRu.has (gD.ru (by assumption)) | exact gGr.has (gD.gr (by assumption) _ (by omega))) ?_ | refine gCall_mk (by decide) (by decide) ?_ | refine if_yes (by first | assumption | omega | decide | exact b2i_R _ | exact gR_of (by omega) (by omega)) ?_ | refine if_no (by first | assumption | omega | decide | exact b2i_R _ | exact gR_of (by omega) (by omega)) ?_)
  rw [if_pos ⟨by omega, by omega⟩] at k
  obtain ⟨t, rfl⟩ : ∃ m : Nat, y = m := ⟨y.toNat, by omega⟩
  rw [Int.toNat_natCast] at k
  unfold w_X5_grow_J21
  (first | refine And.intro (show gR _ from by first | assumption | omega | decide | exact b2i_R _ | exact gR_of (by omega) (by omega)) ?_ | refine And.intro (show gHas _ _ _ from by first | exact gW.has (gD.w (by assumption)) (by omega) | exact gD.has (by assumption) | exact gRu.has (gD.ru (by assumption)) | exact gGr.has (gD.gr (by assumption) _ (by omega))) ?_ | refine gCall_mk (by decide) (by decide) ?_ | refine if_yes (by first | assumption | omega | decide | exact b2i_R _ | exact gR_of (by omega) (by omega)) ?_ | refine if_no (by first | assumption | omega | decide | exact b2i_R _ | exact gR_of (by omega) (by omega)) ?_)
  refine c_nA1 (d.f3 ?_)
  (first | refine And.intro (show gR _ from by first | assumption | omega | decide | exact b2i_R _ | exact gR_of (by omega) (by omega)) ?_ | refine And.intro (show gHas _ _ _ from by first | exact gW.has (gD.w (by assumption)) (by omega) | exact gD.has (by assumption) | exact gRu.has (gD.ru (by assumption)) | exact gGr.has (gD.gr (by assumption) _ (by omega))) ?_ | refine gCall_mk (by decide) (by decide) ?_ | refine if_yes (by first | assumption | omega | decide | exact b2i_R _ | exact gR_of (by omega) (by omega)) ?_ | refine if_no (by first | assumption | omega | decide | exact b2i_R _ | exact gR_of (by omega) (by omega)) ?_)
  refine s_goOn hg d.w (d.gr g hg) (d.ok g hg) (d.gw g hg) rfl (show 1 ≤ t ∧ t ≤ 3 by omega) (fun q => ?_) (fun h1 q w1 r1 s1 => ?_)
  · rw [if_neg (by omega)] at k
    (repeat (first | refine And.intro (show gR _ from by first | assumption | omega | decide | exact b2i_R _ | exact gR_of (by omega) (by omega)) ?_ | refine And.intro (show gHas _ _ _ from by first | exact gW.has (gD.w (by assumption)) (by omega) | exact gD.has (by assumption) | exact gRu.has (gD.ru (by assumption)) | exact gGr.has (gD.gr (by assumption) _ (by omega))) ?_ | refine gCall_mk (by decide) (by decide) ?_ | refine if_yes (by first | assumption | omega | decide | exact b2i_R _ | exact gR_of (by omega) (by omega)) ?_ | refine if_no (by first | assumption | omega | decide | exact b2i_R _ | exact gR_of (by omega) (by omega)) ?_))
    exact c_refuse d k
  · rw [if_pos q] at k
    have d1 := d.tn hg w1 r1 s1 (grow_ok (d.ok g hg) (by omega) q) (fun v hv => by rw [pu_ne _ _ (by omega), pu_ne _ _ (by omega), pu_ne _ _ (by omega)]) ⟨by rw [pu_ne _ _ (by omega), pu_self], by rw [pu_self]⟩ (fun v a b c e => by rw [pu_ne _ _ (by omega), pu_ne _ _ (by omega), pu_ne _ _ (by omega)])
    (first | refine And.intro (show gR _ from by first | assumption | omega | decide | exact b2i_R _ | exact gR_of (by omega) (by omega)) ?_ | refine And.intro (show gHas _ _ _ from by first | exact gW.has (gD.w (by assumption)) (by omega) | exact gD.has (by assumption) | exact gRu.has (gD.ru (by assumption)) | exact gGr.has (gD.gr (by assumption) _ (by omega))) ?_ | refine gCall_mk (by decide) (by decide) ?_ | refine if_yes (by first | assumption | omega | decide | exact b2i_R _ | exact gR_of (by omega) (by omega)) ?_ | refine if_no (by first | assumption | omega | decide | exact b2i_R _ | exact gR_of (by omega) (by omega)) ?_); (first | refine And.intro (show gR _ from by first | assumption | omega | decide | exact b2i_R _ | exact gR_of (by omega) (by omega)) ?_ | refine And.intro (show gHas _ _ _ from by first | exact gW.has (gD.w (by assumption)) (by omega) | exact gD.has (by assumption) | exact gRu.has (gD.ru (by assumption)) | exact gGr.has (gD.gr (by assumption) _ (by omega))) ?_ | refine gCall_mk (by decide) (by decide) ?_ | refine if_yes (by first | assumption | omega | decide | exact b2i_R _ | exact gR_of (by omega) (by omega)) ?_ | refine if_no (by first | assumption | omega | decide | exact b2i_R _ | exact gR_of (by omega) (by omega)) ?_)
    refine r1.yo (w1.many (show 6 + 2 * g < 11 by omega) ?_)
    rw [pu_self]
    (first | refine And.intro (show gR _ from by first | assumption | omega | decide | exact b2i_R _ | exact gR_of (by omega) (by omega)) ?_ | refine And.intro (show gHas _ _ _ from by first | exact gW.has (gD.w (by assumption)) (by omega) | exact gD.has (by assumption) | exact gRu.has (gD.ru (by assumption)) | exact gGr.has (gD.gr (by assumption) _ (by omega))) ?_ | refine gCall_mk (by decide) (by decide) ?_ | refine if_yes (by first | assumption | omega | decide | exact b2i_R _ | exact gR_of (by omega) (by omega)) ?_ | refine if_no (by first | assumption | omega | decide | exact b2i_R _ | exact gR_of (by omega) (by omega)) ?_)
    exact c_growthDone d1 (fun h2 d2 f2 => k.ok d2 ((gFr.sg hg s1).tr f2) rfl)
def m_shrink (st : GSt) (x : Int) : Nat × (Int → Prop) × GSt :=
  if okG x then if st.T x.toNat = [] then bad 2 st else done (st.turn x.toNat (st.T x.toNat).dropLast) (((st.T x.toNat).getLastD 0 : Nat) : Int) else bad 1 st
theorem c_shrink (d : gD A G h U st) (hx : gR x) (k : gRes A G h [eI, eS] X Q (m_shrink st x)) : w_X5_shrink X (A 22) x h Q := by
  unfold w_X5_shrink
  (first | refine And.intro (show gR _ from by first | assumption | omega | decide | exact b2i_R _ | exact gR_of (by omega) (by omega)) ?_ | refine And.intro (show gHas _ _ _ from by first | exact gW.has (gD.w (by assumption)) (by omega) | exact gD.has (by assumption) | exact gRu.has (gD.ru (by assumption)) | exact gGr.has (gD.gr (by assumption) _ (by omega))) ?_ | refine gCall_mk (by decide) (by decide) ?_ | refine if_yes (by first | assumption | omega | decide | exact b2i_R _ | exact gR_of (by omega) (by omega)) ?_ | refine if_no (by first | assumption | omega | decide | exact b2i_R _ | exact gR_of (by omega) (by omega)) ?_); (first | refine And.intro (show gR _ from by first | assumption | omega | decide | exact b2i_R _ | exact gR_of (by omega) (by omega)) ?_ | refine And.intro (show gHas _ _ _ from by first | exact gW.has (gD.w (by assumption)) (by omega) | exact gD.has (by assumption) | exact gRu.has (gD.ru (by assumption)) | exact gGr.has (gD.gr (by assumption) _ (by omega))) ?_ | refine gCall_mk (by decide) (by decide) ?_ | refine if_yes (by first | assumption | omega | decide | exact b2i_R _ | exact gR_of (by omega) (by omega)) ?_ | refine if_no (by first | assumption | omega | decide | exact b2i_R _ | exact gR_of (by omega) (by omega)) ?_)
  refine c_growthOf d hx (fun q => by rw [m_shrink, if_neg q] at k; exact k.ex d gFr.rf) (fun g hg e => ?_)
  subst e
  rw [m_shrink, if_pos (show okG (g : Int) by omega), Int.toNat_natCast] at k
  refine (d.gr g hg).ct ?_
  have hl := (d.ok g hg).len
  (first | refine And.intro (show gR _ from by first | assumption | omega | decide | exact b2i_R _ | exact gR_of (by omega) (by omega)) ?_ | refine And.intro (show gHas _ _ _ from by first | exact gW.has (gD.w (by assumption)) (by omega) | exact gD.has (by assumption) | exact gRu.has (gD.ru (by assumption)) | exact gGr.has (gD.gr (by assumption) _ (by omega))) ?_ | refine gCall_mk (by decide) (by decide) ?_ | refine if_yes (by first | assumption | omega | decide | exact b2i_R _ | exact gR_of (by omega) (by omega)) ?_ | refine if_no (by first | assumption | omega | decide | exact b2i_R _ | exact gR_of (by omega) (by omega)) ?_)
  by_cases q : st.T g = []
  · rw [if_pos q] at k
    refine if_yes (by rw [q]; decide) ?_
    unfold w_X5_shrink_J18
    (first | refine And.intro (show gR _ from by first | assumption | omega | decide | exact b2i_R _ | exact gR_of (by omega) (by omega)) ?_ | refine And.intro (show gHas _ _ _ from by first | exact gW.has (gD.w (by assumption)) (by omega) | exact gD.has (by assumption) | exact gRu.has (gD.ru (by assumption)) | exact gGr.has (gD.gr (by assumption) _ (by omega))) ?_ | refine gCall_mk (by decide) (by decide) ?_ | refine if_yes (by first | assumption | omega | decide | exact b2i_R _ | exact gR_of (by omega) (by omega)) ?_ | refine if_no (by first | assumption | omega | decide | exact b2i_R _ | exact gR_of (by omega) (by omega)) ?_)
    exact c_nS0 (k.ex d gFr.rf)
  · rw [if_neg q] at k
    have hp : 0 < (st.T g).length := List.length_pos_iff.mpr q
    refine if_no (by omega) ?_
    unfold w_X5_shrink_J18
    (first | refine And.intro (show gR _ from by first | assumption | omega | decide | exact b2i_R _ | exact gR_of (by omega) (by omega)) ?_ | refine And.intro (show gHas _ _ _ from by first | exact gW.has (gD.w (by assumption)) (by omega) | exact gD.has (by assumption) | exact gRu.has (gD.ru (by assumption)) | exact gGr.has (gD.gr (by assumption) _ (by omega))) ?_ | refine gCall_mk (by decide) (by decide) ?_ | refine if_yes (by first | assumption | omega | decide | exact b2i_R _ | exact gR_of (by omega) (by omega)) ?_ | refine if_no (by first | assumption | omega | decide | exact b2i_R _ | exact gR_of (by omega) (by omega)) ?_)
    refine c_nS1 (d.f3 ?_)
    (first | refine And.intro (show gR _ from by first | assumption | omega | decide | exact b2i_R _ | exact gR_of (by omega) (by omega)) ?_ | refine And.intro (show gHas _ _ _ from by first | exact gW.has (gD.w (by assumption)) (by omega) | exact gD.has (by assumption) | exact gRu.has (gD.ru (by assumption)) | exact gGr.has (gD.gr (by assumption) _ (by omega))) ?_ | refine gCall_mk (by decide) (by decide) ?_ | refine if_yes (by first | assumption | omega | decide | exact b2i_R _ | exact gR_of (by omega) (by omega)) ?_ | refine if_no (by first | assumption | omega | decide | exact b2i_R _ | exact gR_of (by omega) (by omega)) ?_)
    obtain ⟨us, t, e⟩ : ∃ us t, st.T g = us ++ [t] := ⟨(st.T g).dropLast, (st.T g).getLast q, (List.dropLast_concat_getLast _).symm⟩
    have ho := d.ok g hg
    have hr := d.gr g hg
    have hw := d.gw g hg
    rw [e] at ho hr hw k
    rw [List.dropLast_concat, show (us ++ [t]).getLastD 0 = t by simp] at k
    refine s_goBack hg d.w hr ho hw (fun h1 w1 r1 s1 => ?_)
    have d1 := d.tn hg w1 r1 s1 ho.pre (fun v hv => by rw [pu_ne _ _ (by omega), pu_ne _ _ (by omega), pu_ne _ _ (by omega)]) ⟨by rw [pu_self], by rw [pu_ne _ _ (by omega), pu_self]⟩ (fun v a b c e => by rw [pu_ne _ _ (by omega), pu_ne _ _ (by omega), pu_ne _ _ (by omega)])
    (first | refine And.intro (show gR _ from by first | assumption | omega | decide | exact b2i_R _ | exact gR_of (by omega) (by omega)) ?_ | refine And.intro (show gHas _ _ _ from by first | exact gW.has (gD.w (by assumption)) (by omega) | exact gD.has (by assumption) | exact gRu.has (gD.ru (by assumption)) | exact gGr.has (gD.gr (by assumption) _ (by omega))) ?_ | refine gCall_mk (by decide) (by decide) ?_ | refine if_yes (by first | assumption | omega | decide | exact b2i_R _ | exact gR_of (by omega) (by omega)) ?_ | refine if_no (by first | assumption | omega | decide | exact b2i_R _ | exact gR_of (by omega) (by omega)) ?_)
    exact c_growthDone d1 (fun h2 d2 f2 => k.ok d2 ((gFr.sg hg s1).tr f2) rfl)
def m_fresh (st : GSt) (x : Int) : Nat × (Int → Prop) × GSt :=
  if okG x then done (st.turn x.toNat []) ((st.T x.toNat).length : Int) else bad 1 st
theorem gOk.nil : gOk [] := ⟨fun _ hx => absurd hx List.not_mem_nil, by decide⟩
theorem c_fresh (d : gD A G h U st) (hx : gR x) (k : gRes A G h [eI] X Q (m_fresh st x)) : w_X5_fresh X (A 22) x h Q := by
  unfold w_X5_fresh
  (first | refine And.intro (show gR _ from by first | assumption | omega | decide | exact b2i_R _ | exact gR_of (by omega) (by omega)) ?_ | refine And.intro (show gHas _ _ _ from by first | exact gW.has (gD.w (by assumption)) (by omega) | exact gD.has (by assumption) | exact gRu.has (gD.ru (by assumption)) | exact gGr.has (gD.gr (by assumption) _ (by omega))) ?_ | refine gCall_mk (by decide) (by decide) ?_ | refine if_yes (by first | assumption | omega | decide | exact b2i_R _ | exact gR_of (by omega) (by omega)) ?_ | refine if_no (by first | assumption | omega | decide | exact b2i_R _ | exact gR_of (by omega) (by omega)) ?_); (first | refine And.intro (show gR _ from by first | assumption | omega | decide | exact b2i_R _ | exact gR_of (by omega) (by omega)) ?_ | refine And.intro (show gHas _ _ _ from by first | exact gW.has (gD.w (by assumption)) (by omega) | exact gD.has (by assumption) | exact gRu.has (gD.ru (by assumption)) | exact gGr.has (gD.gr (by assumption) _ (by omega))) ?_ | refine gCall_mk (by decide) (by decide) ?_ | refine if_yes (by first | assumption | omega | decide | exact b2i_R _ | exact gR_of (by omega) (by omega)) ?_ | refine if_no (by first | assumption | omega | decide | exact b2i_R _ | exact gR_of (by omega) (by omega)) ?_)
  refine c_growthOf d hx (fun q => by rw [m_fresh, if_neg q] at k; exact k.ex d gFr.rf) (fun g hg e => ?_)
  subst e
  rw [m_fresh, if_pos (show okG (g : Int) by omega), Int.toNat_natCast] at k
  refine (d.gr g hg).ct ?_
  (first | refine And.intro (show gR _ from by first | assumption | omega | decide | exact b2i_R _ | exact gR_of (by omega) (by omega)) ?_ | refine And.intro (show gHas _ _ _ from by first | exact gW.has (gD.w (by assumption)) (by omega) | exact gD.has (by assumption) | exact gRu.has (gD.ru (by assumption)) | exact gGr.has (gD.gr (by assumption) _ (by omega))) ?_ | refine gCall_mk (by decide) (by decide) ?_ | refine if_yes (by first | assumption | omega | decide | exact b2i_R _ | exact gR_of (by omega) (by omega)) ?_ | refine if_no (by first | assumption | omega | decide | exact b2i_R _ | exact gR_of (by omega) (by omega)) ?_)
  refine s_begin (d.gr g hg) d.w hg (fun h1 w1 r1 s1 => ?_)
  have d1 := d.tn hg w1 r1 s1 gOk.nil (fun v hv => by rw [pu_ne _ _ (by omega), pu_ne _ _ (by omega)]) ⟨by rw [pu_ne _ _ (by omega), pu_self]; rfl, by rw [pu_self]; rfl⟩ (fun v a b c e => by rw [pu_ne _ _ (by omega), pu_ne _ _ (by omega)])
  (first | refine And.intro (show gR _ from by first | assumption | omega | decide | exact b2i_R _ | exact gR_of (by omega) (by omega)) ?_ | refine And.intro (show gHas _ _ _ from by first | exact gW.has (gD.w (by assumption)) (by omega) | exact gD.has (by assumption) | exact gRu.has (gD.ru (by assumption)) | exact gGr.has (gD.gr (by assumption) _ (by omega))) ?_ | refine gCall_mk (by decide) (by decide) ?_ | refine if_yes (by first | assumption | omega | decide | exact b2i_R _ | exact gR_of (by omega) (by omega)) ?_ | refine if_no (by first | assumption | omega | decide | exact b2i_R _ | exact gR_of (by omega) (by omega)) ?_)
  exact c_growthDone d1 (fun h2 d2 f2 => k.ok d2 ((gFr.sg hg s1).tr f2) rfl)
def m_knock (st : GSt) : Nat × (Int → Prop) × GSt := done (st.S, st.T, pu st.C 3 (st.C 3 + 1)) (st.C 3 + 1)
theorem c_knock {E : List String} (d : gD A G h U st) (k : gRes A G h E X Q (m_knock st)) : w_X5_knock (A 22) h Q :=
  d.cn (i := 3) rfl (by decide) (d.inc (i := 3) rfl (by decide) rfl (fun h1 d1 f1 => d1.cn (i := 3) rfl (by decide) (k.ok d1 f1 (show pu st.C 3 (st.C 3 + 1) 3 = st.C 3 + 1 from pu_self _ _ _))))
end CC
/-! What is asked of the garden. -/
section CR
variable {A : Nat → Nat} {G : gaG} {h : gaH} {U : Nat → List Bool} {st : GSt} {X : String → gaH → Prop} {Q : Int → gaH → Prop} {w v g : Nat} {x y z : Int}
abbrev says (st : GSt) (P : Int → Prop) : Nat × (Int → Prop) × GSt := (0, P, st)
def m_length (st : GSt) (x : Int) : Nat × (Int → Prop) × GSt := if okS x then says st (fun r => r = ((st.S x.toNat).length : Int)) else bad 1 st
theorem c_length (d : gD A G h U st) (hx : gR x) (k : gRes A G h [eI] X Q (m_length st x)) : w_X5_length X (A 22) x h Q := by
  unfold w_X5_length
  (first | refine And.intro (show gR _ from by first | assumption | omega | decide | exact b2i_R _ | exact gR_of (by omega) (by omega)) ?_ | refine And.intro (show gHas _ _ _ from by first | exact gW.has (gD.w (by assumption)) (by omega) | exact gD.has (by assumption) | exact gRu.has (gD.ru (by assumption)) | exact gGr.has (gD.gr (by assumption) _ (by omega))) ?_ | refine gCall_mk (by decide) (by decide) ?_ | refine if_yes (by first | assumption | omega | decide | exact b2i_R _ | exact gR_of (by omega) (by omega)) ?_ | refine if_no (by first | assumption | omega | decide | exact b2i_R _ | exact gR_of (by omega) (by omega)) ?_); (first | refine And.intro (show gR _ from by first | assumption | omega | decide | exact b2i_R _ | exact gR_of (by omega) (by omega)) ?_ | refine And.intro (show gHas _ _ _ from by first | exact gW.has (gD.w (by assumption)) (by omega) | exact gD.has (by assumption) | exact gRu.has (gD.ru (by assumption)) | exact gGr.has (gD.gr (by assumption) _ (by omega))) ?_ | refine gCall_mk (by decide) (by decide) ?_ | refine if_yes (by first | assumption | omega | decide | exact b2i_R _ | exact gR_of (by omega) (by omega)) ?_ | refine if_no (by first | assumption | omega | decide | exact b2i_R _ | exact gR_of (by omega) (by omega)) ?_)
  refine c_wordOf d hx (fun q => by rw [m_length, if_neg q] at k; exact k.ex d gFr.rf) (fun w hw e => ?_)
  subst e
  rw [m_length, if_pos (show okS (w : Int) by omega)] at k
  exact d.w.many (by omega) (k.ok d gFr.rf (by rw [Int.toNat_natCast, ← d.s w hw]))
def m_times (st : GSt) (x : Int) : Nat × (Int → Prop) × GSt := if okS x then says st (fun r => 0 ≤ r ∧ r ≤ 65) else bad 1 st
theorem c_times (d : gD A G h U st) (hx : gR x) (k : gRes A G h [eI] X Q (m_times st x)) : w_X5_times X (A 22) x h Q := by
  unfold w_X5_times
  (first | refine And.intro (show gR _ from by first | assumption | omega | decide | exact b2i_R _ | exact gR_of (by omega) (by omega)) ?_ | refine And.intro (show gHas _ _ _ from by first | exact gW.has (gD.w (by assumption)) (by omega) | exact gD.has (by assumption) | exact gRu.has (gD.ru (by assumption)) | exact gGr.has (gD.gr (by assumption) _ (by omega))) ?_ | refine gCall_mk (by decide) (by decide) ?_ | refine if_yes (by first | assumption | omega | decide | exact b2i_R _ | exact gR_of (by omega) (by omega)) ?_ | refine if_no (by first | assumption | omega | decide | exact b2i_R _ | exact gR_of (by omega) (by omega)) ?_); (first | refine And.intro (show gR _ from by first | assumption | omega | decide | exact b2i_R _ | exact gR_of (by omega) (by omega)) ?_ | refine And.intro (show gHas _ _ _ from by first | exact gW.has (gD.w (by assumption)) (by omega) | exact gD.has (by assumption) | exact gRu.has (gD.ru (by assumption)) | exact gGr.has (gD.gr (by assumption) _ (by omega))) ?_ | refine gCall_mk (by decide) (by decide) ?_ | refine if_yes (by first | assumption | omega | decide | exact b2i_R _ | exact gR_of (by omega) (by omega)) ?_ | refine if_no (by first | assumption | omega | decide | exact b2i_R _ | exact gR_of (by omega) (by omega)) ?_)
  refine c_wordOf d hx (fun q => by rw [m_times, if_neg q] at k; exact k.ex d gFr.rf) (fun w hw e => ?_)
  subst e
  rw [m_times, if_pos (show okS (w : Int) by omega)] at k
  exact s_timesOf d.w (by omega) (fun r hr => k.ok d gFr.rf ⟨by omega, by omega⟩)
def m_overlaps (st : GSt) (x : Int) : Nat × (Int → Prop) × GSt := if okS x then says st (fun r => 0 ≤ r ∧ r ≤ 10000) else bad 1 st
theorem c_overlaps (d : gD A G h U st) (hx : gR x) (k : gRes A G h [eI] X Q (m_overlaps st x)) : w_X5_overlaps X (A 22) x h Q := by
  unfold w_X5_overlaps
  (first | refine And.intro (show gR _ from by first | assumption | omega | decide | exact b2i_R _ | exact gR_of (by omega) (by omega)) ?_ | refine And.intro (show gHas _ _ _ from by first | exact gW.has (gD.w (by assumption)) (by omega) | exact gD.has (by assumption) | exact gRu.has (gD.ru (by assumption)) | exact gGr.has (gD.gr (by assumption) _ (by omega))) ?_ | refine gCall_mk (by decide) (by decide) ?_ | refine if_yes (by first | assumption | omega | decide | exact b2i_R _ | exact gR_of (by omega) (by omega)) ?_ | refine if_no (by first | assumption | omega | decide | exact b2i_R _ | exact gR_of (by omega) (by omega)) ?_); (first | refine And.intro (show gR _ from by first | assumption | omega | decide | exact b2i_R _ | exact gR_of (by omega) (by omega)) ?_ | refine And.intro (show gHas _ _ _ from by first | exact gW.has (gD.w (by assumption)) (by omega) | exact gD.has (by assumption) | exact gRu.has (gD.ru (by assumption)) | exact gGr.has (gD.gr (by assumption) _ (by omega))) ?_ | refine gCall_mk (by decide) (by decide) ?_ | refine if_yes (by first | assumption | omega | decide | exact b2i_R _ | exact gR_of (by omega) (by omega)) ?_ | refine if_no (by first | assumption | omega | decide | exact b2i_R _ | exact gR_of (by omega) (by omega)) ?_)
  refine c_wordOf d hx (fun q => by rw [m_overlaps, if_neg q] at k; exact k.ex d gFr.rf) (fun w hw e => ?_)
  subst e
  rw [m_overlaps, if_pos (show okS (w : Int) by omega)] at k
  exact s_overlapsOf d.w (by omega) (fun r hr => k.ok d gFr.rf ⟨by omega, by omega⟩)
def m_mirrors (st : GSt) (x : Int) : Nat × (Int → Prop) × GSt := if okS x then says st (fun r => 0 ≤ r ∧ r ≤ 10000) else bad 1 st
theorem c_mirrors (d : gD A G h U st) (hx : gR x) (k : gRes A G h [eI] X Q (m_mirrors st x)) : w_X5_mirrors X (A 22) x h Q := by
  unfold w_X5_mirrors
  (first | refine And.intro (show gR _ from by first | assumption | omega | decide | exact b2i_R _ | exact gR_of (by omega) (by omega)) ?_ | refine And.intro (show gHas _ _ _ from by first | exact gW.has (gD.w (by assumption)) (by omega) | exact gD.has (by assumption) | exact gRu.has (gD.ru (by assumption)) | exact gGr.has (gD.gr (by assumption) _ (by omega))) ?_ | refine gCall_mk (by decide) (by decide) ?_ | refine if_yes (by first | assumption | omega | decide | exact b2i_R _ | exact gR_of (by omega) (by omega)) ?_ | refine if_no (by first | assumption | omega | decide | exact b2i_R _ | exact gR_of (by omega) (by omega)) ?_); (first | refine And.intro (show gR _ from by first | assumption | omega | decide | exact b2i_R _ | exact gR_of (by omega) (by omega)) ?_ | refine And.intro (show gHas _ _ _ from by first | exact gW.has (gD.w (by assumption)) (by omega) | exact gD.has (by assumption) | exact gRu.has (gD.ru (by assumption)) | exact gGr.has (gD.gr (by assumption) _ (by omega))) ?_ | refine gCall_mk (by decide) (by decide) ?_ | refine if_yes (by first | assumption | omega | decide | exact b2i_R _ | exact gR_of (by omega) (by omega)) ?_ | refine if_no (by first | assumption | omega | decide | exact b2i_R _ | exact gR_of (by omega) (by omega)) ?_)
  refine c_wordOf d hx (fun q => by rw [m_mirrors, if_neg q] at k; exact k.ex d gFr.rf) (fun w hw e => ?_)
  subst e
  rw [m_mirrors, if_pos (show okS (w : Int) by omega)] at k
  exact s_mirrorsOf d.w (by omega) (fun r hr => k.ok d gFr.rf ⟨by omega, by omega⟩)
def m_folds (st : GSt) (x : Int) : Nat × (Int → Prop) × GSt := if okS x then says st (fun r => 0 ≤ r ∧ r ≤ 64) else bad 1 st
theorem c_folds (d : gD A G h U st) (hx : gR x) (k : gRes A G h [eI] X Q (m_folds st x)) : w_X5_folds X (A 22) x h Q := by
  unfold w_X5_folds
  (first | refine And.intro (show gR _ from by first | assumption | omega | decide | exact b2i_R _ | exact gR_of (by omega) (by omega)) ?_ | refine And.intro (show gHas _ _ _ from by first | exact gW.has (gD.w (by assumption)) (by omega) | exact gD.has (by assumption) | exact gRu.has (gD.ru (by assumption)) | exact gGr.has (gD.gr (by assumption) _ (by omega))) ?_ | refine gCall_mk (by decide) (by decide) ?_ | refine if_yes (by first | assumption | omega | decide | exact b2i_R _ | exact gR_of (by omega) (by omega)) ?_ | refine if_no (by first | assumption | omega | decide | exact b2i_R _ | exact gR_of (by omega) (by omega)) ?_); (first | refine And.intro (show gR _ from by first | assumption | omega | decide | exact b2i_R _ | exact gR_of (by omega) (by omega)) ?_ | refine And.intro (show gHas _ _ _ from by first | exact gW.has (gD.w (by assumption)) (by omega) | exact gD.has (by assumption) | exact gRu.has (gD.ru (by assumption)) | exact gGr.has (gD.gr (by assumption) _ (by omega))) ?_ | refine gCall_mk (by decide) (by decide) ?_ | refine if_yes (by first | assumption | omega | decide | exact b2i_R _ | exact gR_of (by omega) (by omega)) ?_ | refine if_no (by first | assumption | omega | decide | exact b2i_R _ | exact gR_of (by omega) (by omega)) ?_)
  refine c_wordOf d hx (fun q => by rw [m_folds, if_neg q] at k; exact k.ex d gFr.rf) (fun w hw e => ?_)
  subst e
  rw [m_folds, if_pos (show okS (w : Int) by omega)] at k
  exact s_foldsOf d.w (by omega) (fun r hr => k.ok d gFr.rf ⟨by omega, by omega⟩)
def m_least (st : GSt) (x : Int) : Nat × (Int → Prop) × GSt := if okS x then says st (fun r => 0 ≤ r ∧ r ≤ 64) else bad 1 st
theorem c_least (d : gD A G h U st) (hx : gR x) (k : gRes A G h [eI] X Q (m_least st x)) : w_X5_least X (A 22) x h Q := by
  unfold w_X5_least
  (first | refine And.intro (show gR _ from by first | assumption | omega | decide | exact b2i_R _ | exact gR_of (by omega) (by omega)) ?_ | refine And.intro (show gHas _ _ _ from by first | exact gW.has (gD.w (by assumption)) (by omega) | exact gD.has (by assumption) | exact gRu.has (gD.ru (by assumption)) | exact gGr.has (gD.gr (by assumption) _ (by omega))) ?_ | refine gCall_mk (by decide) (by decide) ?_ | refine if_yes (by first | assumption | omega | decide | exact b2i_R _ | exact gR_of (by omega) (by omega)) ?_ | refine if_no (by first | assumption | omega | decide | exact b2i_R _ | exact gR_of (by omega) (by omega)) ?_); (first | refine And.intro (show gR _ from by first | assumption | omega | decide | exact b2i_R _ | exact gR_of (by omega) (by omega)) ?_ | refine And.intro (show gHas _ _ _ from by first | exact gW.has (gD.w (by assumption)) (by omega) | exact gD.has (by assumption) | exact gRu.has (gD.ru (by assumption)) | exact gGr.has (gD.gr (by assumption) _ (by omega))) ?_ | refine gCall_mk (by decide) (by decide) ?_ | refine if_yes (by first | assumption | omega | decide | exact b2i_R _ | exact gR_of (by omega) (by omega)) ?_ | refine if_no (by first | assumption | omega | decide | exact b2i_R _ | exact gR_of (by omega) (by omega)) ?_)
  refine c_wordOf d hx (fun q => by rw [m_least, if_neg q] at k; exact k.ex d gFr.rf) (fun w hw e => ?_)
  subst e
  rw [m_least, if_pos (show okS (w : Int) by omega)] at k
  exact s_leastOf d.w (by omega) (fun r hr => k.ok d gFr.rf ⟨by omega, by omega⟩)
def m_isMirrored (st : GSt) (x : Int) : Nat × (Int → Prop) × GSt := if okS x then says st (fun r => r = 0 ∨ r = 1) else bad 1 st
theorem c_isMirrored (d : gD A G h U st) (hx : gR x) (k : gRes A G h [eI] X Q (m_isMirrored st x)) : w_X5_isMirrored X (A 22) x h Q := by
  unfold w_X5_isMirrored
  (first | refine And.intro (show gR _ from by first | assumption | omega | decide | exact b2i_R _ | exact gR_of (by omega) (by omega)) ?_ | refine And.intro (show gHas _ _ _ from by first | exact gW.has (gD.w (by assumption)) (by omega) | exact gD.has (by assumption) | exact gRu.has (gD.ru (by assumption)) | exact gGr.has (gD.gr (by assumption) _ (by omega))) ?_ | refine gCall_mk (by decide) (by decide) ?_ | refine if_yes (by first | assumption | omega | decide | exact b2i_R _ | exact gR_of (by omega) (by omega)) ?_ | refine if_no (by first | assumption | omega | decide | exact b2i_R _ | exact gR_of (by omega) (by omega)) ?_); (first | refine And.intro (show gR _ from by first | assumption | omega | decide | exact b2i_R _ | exact gR_of (by omega) (by omega)) ?_ | refine And.intro (show gHas _ _ _ from by first | exact gW.has (gD.w (by assumption)) (by omega) | exact gD.has (by assumption) | exact gRu.has (gD.ru (by assumption)) | exact gGr.has (gD.gr (by assumption) _ (by omega))) ?_ | refine gCall_mk (by decide) (by decide) ?_ | refine if_yes (by first | assumption | omega | decide | exact b2i_R _ | exact gR_of (by omega) (by omega)) ?_ | refine if_no (by first | assumption | omega | decide | exact b2i_R _ | exact gR_of (by omega) (by omega)) ?_)
  refine c_wordOf d hx (fun q => by rw [m_isMirrored, if_neg q] at k; exact k.ex d gFr.rf) (fun w hw e => ?_)
  subst e
  rw [m_isMirrored, if_pos (show okS (w : Int) by omega)] at k
  exact d.w.many (by omega) (s_isMir (a := 0) (l := (U w).length) d.w (by omega) rfl rfl (by omega) ⟨rfl, k.ok d gFr.rf (Or.inl rfl)⟩ ⟨rfl, k.ok d gFr.rf (Or.inr rfl)⟩)
def m_isB (st : GSt) (x y : Int) : Nat × (Int → Prop) × GSt := if okS x then if 0 ≤ y ∧ y < ((st.S x.toNat).length : Int) then done st (b2i ((st.S x.toNat).getD y.toNat false)) else bad 1 st else bad 1 st
theorem c_isB (d : gD A G h U st) (hx : gR x) (hy : gR y) (k : gRes A G h [eI] X Q (m_isB st x y)) : w_X5_isB X (A 22) x y h Q := by
  unfold w_X5_isB
  (first | refine And.intro (show gR _ from by first | assumption | omega | decide | exact b2i_R _ | exact gR_of (by omega) (by omega)) ?_ | refine And.intro (show gHas _ _ _ from by first | exact gW.has (gD.w (by assumption)) (by omega) | exact gD.has (by assumption) | exact gRu.has (gD.ru (by assumption)) | exact gGr.has (gD.gr (by assumption) _ (by omega))) ?_ | refine gCall_mk (by decide) (by decide) ?_ | refine if_yes (by first | assumption | omega | decide | exact b2i_R _ | exact gR_of (by omega) (by omega)) ?_ | refine if_no (by first | assumption | omega | decide | exact b2i_R _ | exact gR_of (by omega) (by omega)) ?_); (first | refine And.intro (show gR _ from by first | assumption | omega | decide | exact b2i_R _ | exact gR_of (by omega) (by omega)) ?_ | refine And.intro (show gHas _ _ _ from by first | exact gW.has (gD.w (by assumption)) (by omega) | exact gD.has (by assumption) | exact gRu.has (gD.ru (by assumption)) | exact gGr.has (gD.gr (by assumption) _ (by omega))) ?_ | refine gCall_mk (by decide) (by decide) ?_ | refine if_yes (by first | assumption | omega | decide | exact b2i_R _ | exact gR_of (by omega) (by omega)) ?_ | refine if_no (by first | assumption | omega | decide | exact b2i_R _ | exact gR_of (by omega) (by omega)) ?_)
  refine c_wordOf d hx (fun q => by rw [m_isB, if_neg q] at k; exact k.ex d gFr.rf) (fun w hw e => ?_)
  subst e
  rw [m_isB, if_pos (show okS (w : Int) by omega), Int.toNat_natCast, ← d.s w hw] at k
  have l1 := d.w.le (show w < 11 by omega)
  have bd : ¬ (0 ≤ y ∧ y < ((U w).length : Int)) → w_X5_isB_J22 X Q y (A w) h 1 6 := fun q => by
    rw [if_neg q] at k
    unfold w_X5_isB_J22 w_X5_isB_J23
    (first | refine And.intro (show gR _ from by first | assumption | omega | decide | exact b2i_R _ | exact gR_of (by omega) (by omega)) ?_ | refine And.intro (show gHas _ _ _ from by first | exact gW.has (gD.w (by assumption)) (by omega) | exact gD.has (by assumption) | exact gRu.has (gD.ru (by assumption)) | exact gGr.has (gD.gr (by assumption) _ (by omega))) ?_ | refine gCall_mk (by decide) (by decide) ?_ | refine if_yes (by first | assumption | omega | decide | exact b2i_R _ | exact gR_of (by omega) (by omega)) ?_ | refine if_no (by first | assumption | omega | decide | exact b2i_R _ | exact gR_of (by omega) (by omega)) ?_)
    exact c_nI0 (k.ex d gFr.rf)
  (first | refine And.intro (show gR _ from by first | assumption | omega | decide | exact b2i_R _ | exact gR_of (by omega) (by omega)) ?_ | refine And.intro (show gHas _ _ _ from by first | exact gW.has (gD.w (by assumption)) (by omega) | exact gD.has (by assumption) | exact gRu.has (gD.ru (by assumption)) | exact gGr.has (gD.gr (by assumption) _ (by omega))) ?_ | refine gCall_mk (by decide) (by decide) ?_ | refine if_yes (by first | assumption | omega | decide | exact b2i_R _ | exact gR_of (by omega) (by omega)) ?_ | refine if_no (by first | assumption | omega | decide | exact b2i_R _ | exact gR_of (by omega) (by omega)) ?_)
  by_cases q1 : y < 0
  · exact if_yes q1 (bd (by omega))
  (first | refine And.intro (show gR _ from by first | assumption | omega | decide | exact b2i_R _ | exact gR_of (by omega) (by omega)) ?_ | refine And.intro (show gHas _ _ _ from by first | exact gW.has (gD.w (by assumption)) (by omega) | exact gD.has (by assumption) | exact gRu.has (gD.ru (by assumption)) | exact gGr.has (gD.gr (by assumption) _ (by omega))) ?_ | refine gCall_mk (by decide) (by decide) ?_ | refine if_yes (by first | assumption | omega | decide | exact b2i_R _ | exact gR_of (by omega) (by omega)) ?_ | refine if_no (by first | assumption | omega | decide | exact b2i_R _ | exact gR_of (by omega) (by omega)) ?_)
  refine d.w.many (by omega) ?_
  (first | refine And.intro (show gR _ from by first | assumption | omega | decide | exact b2i_R _ | exact gR_of (by omega) (by omega)) ?_ | refine And.intro (show gHas _ _ _ from by first | exact gW.has (gD.w (by assumption)) (by omega) | exact gD.has (by assumption) | exact gRu.has (gD.ru (by assumption)) | exact gGr.has (gD.gr (by assumption) _ (by omega))) ?_ | refine gCall_mk (by decide) (by decide) ?_ | refine if_yes (by first | assumption | omega | decide | exact b2i_R _ | exact gR_of (by omega) (by omega)) ?_ | refine if_no (by first | assumption | omega | decide | exact b2i_R _ | exact gR_of (by omega) (by omega)) ?_); (first | refine And.intro (show gR _ from by first | assumption | omega | decide | exact b2i_R _ | exact gR_of (by omega) (by omega)) ?_ | refine And.intro (show gHas _ _ _ from by first | exact gW.has (gD.w (by assumption)) (by omega) | exact gD.has (by assumption) | exact gRu.has (gD.ru (by assumption)) | exact gGr.has (gD.gr (by assumption) _ (by omega))) ?_ | refine gCall_mk (by decide) (by decide) ?_ | refine if_yes (by first | assumption | omega | decide | exact b2i_R _ | exact gR_of (by omega) (by omega)) ?_ | refine if_no (by first | assumption | omega | decide | exact b2i_R _ | exact gR_of (by omega) (by omega)) ?_)
  by_cases q2 : ((U w).length : Int) ≤ y
  · exact if_yes q2 (bd (by omega))
  (first | refine And.intro (show gR _ from by first | assumption | omega | decide | exact b2i_R _ | exact gR_of (by omega) (by omega)) ?_ | refine And.intro (show gHas _ _ _ from by first | exact gW.has (gD.w (by assumption)) (by omega) | exact gD.has (by assumption) | exact gRu.has (gD.ru (by assumption)) | exact gGr.has (gD.gr (by assumption) _ (by omega))) ?_ | refine gCall_mk (by decide) (by decide) ?_ | refine if_yes (by first | assumption | omega | decide | exact b2i_R _ | exact gR_of (by omega) (by omega)) ?_ | refine if_no (by first | assumption | omega | decide | exact b2i_R _ | exact gR_of (by omega) (by omega)) ?_)
  rw [if_pos ⟨by omega, by omega⟩] at k
  unfold w_X5_isB_J23
  (first | refine And.intro (show gR _ from by first | assumption | omega | decide | exact b2i_R _ | exact gR_of (by omega) (by omega)) ?_ | refine And.intro (show gHas _ _ _ from by first | exact gW.has (gD.w (by assumption)) (by omega) | exact gD.has (by assumption) | exact gRu.has (gD.ru (by assumption)) | exact gGr.has (gD.gr (by assumption) _ (by omega))) ?_ | refine gCall_mk (by decide) (by decide) ?_ | refine if_yes (by first | assumption | omega | decide | exact b2i_R _ | exact gR_of (by omega) (by omega)) ?_ | refine if_no (by first | assumption | omega | decide | exact b2i_R _ | exact gR_of (by omega) (by omega)) ?_)
  refine c_nI1 ?_
  (first | refine And.intro (show gR _ from by first | assumption | omega | decide | exact b2i_R _ | exact gR_of (by omega) (by omega)) ?_ | refine And.intro (show gHas _ _ _ from by first | exact gW.has (gD.w (by assumption)) (by omega) | exact gD.has (by assumption) | exact gRu.has (gD.ru (by assumption)) | exact gGr.has (gD.gr (by assumption) _ (by omega))) ?_ | refine gCall_mk (by decide) (by decide) ?_ | refine if_yes (by first | assumption | omega | decide | exact b2i_R _ | exact gR_of (by omega) (by omega)) ?_ | refine if_no (by first | assumption | omega | decide | exact b2i_R _ | exact gR_of (by omega) (by omega)) ?_)
  exact s_isUp (i := y.toNat) d.w (by omega) (by omega) (by omega) ⟨b2i_nar _, k.ok d gFr.rf rfl⟩
def m_count (st : GSt) (x : Int) (b : Bool) : Nat × (Int → Prop) × GSt := if okS x then done st (if b = true then (ones (st.S x.toNat) : Int) else ((st.S x.toNat).length : Int) - (ones (st.S x.toNat) : Int)) else bad 1 st
theorem c_count (d : gD A G h U st) {b : Bool} (hx : gR x) (hy : y = b2i b) (k : gRes A G h [eI] X Q (m_count st x b)) : w_X5_count X (A 22) x y h Q := by
  subst hy
  unfold w_X5_count
  (first | refine And.intro (show gR _ from by first | assumption | omega | decide | exact b2i_R _ | exact gR_of (by omega) (by omega)) ?_ | refine And.intro (show gHas _ _ _ from by first | exact gW.has (gD.w (by assumption)) (by omega) | exact gD.has (by assumption) | exact gRu.has (gD.ru (by assumption)) | exact gGr.has (gD.gr (by assumption) _ (by omega))) ?_ | refine gCall_mk (by decide) (by decide) ?_ | refine if_yes (by first | assumption | omega | decide | exact b2i_R _ | exact gR_of (by omega) (by omega)) ?_ | refine if_no (by first | assumption | omega | decide | exact b2i_R _ | exact gR_of (by omega) (by omega)) ?_); (first | refine And.intro (show gR _ from by first | assumption | omega | decide | exact b2i_R _ | exact gR_of (by omega) (by omega)) ?_ | refine And.intro (show gHas _ _ _ from by first | exact gW.has (gD.w (by assumption)) (by omega) | exact gD.has (by assumption) | exact gRu.has (gD.ru (by assumption)) | exact gGr.has (gD.gr (by assumption) _ (by omega))) ?_ | refine gCall_mk (by decide) (by decide) ?_ | refine if_yes (by first | assumption | omega | decide | exact b2i_R _ | exact gR_of (by omega) (by omega)) ?_ | refine if_no (by first | assumption | omega | decide | exact b2i_R _ | exact gR_of (by omega) (by omega)) ?_)
  refine c_wordOf d hx (fun q => by rw [m_count, if_neg q] at k; exact k.ex d gFr.rf) (fun w hw e => ?_)
  subst e
  rw [m_count, if_pos (show okS (w : Int) by omega), Int.toNat_natCast, ← d.s w hw] at k
  refine s_upsOf d.w (show w < 11 by omega) ?_
  (first | refine And.intro (show gR _ from by first | assumption | omega | decide | exact b2i_R _ | exact gR_of (by omega) (by omega)) ?_ | refine And.intro (show gHas _ _ _ from by first | exact gW.has (gD.w (by assumption)) (by omega) | exact gD.has (by assumption) | exact gRu.has (gD.ru (by assumption)) | exact gGr.has (gD.gr (by assumption) _ (by omega))) ?_ | refine gCall_mk (by decide) (by decide) ?_ | refine if_yes (by first | assumption | omega | decide | exact b2i_R _ | exact gR_of (by omega) (by omega)) ?_ | refine if_no (by first | assumption | omega | decide | exact b2i_R _ | exact gR_of (by omega) (by omega)) ?_)
  cases b
  · exact if_yes rfl (d.w.many (by omega) (k.ok d gFr.rf rfl))
  · exact if_no (by decide) (k.ok d gFr.rf rfl)

def m_spread (st : GSt) (x y : Int) : Nat × (Int → Prop) × GSt := if okS x then if 0 ≤ y ∧ y ≤ ((st.S x.toNat).length : Int) then says st (fun r => -64 ≤ r ∧ r ≤ 64) else bad 2 st else bad 1 st
theorem c_spread (d : gD A G h U st) {b : Bool} (hx : gR x) (hy : gR y) (hz : z = b2i b) (k : gRes A G h [eI, eA] X Q (m_spread st x y)) : w_X5_spread X (A 22) x y z h Q := by
  unfold w_X5_spread
  (first | refine And.intro (show gR _ from by first | assumption | omega | decide | exact b2i_R _ | exact gR_of (by omega) (by omega)) ?_ | refine And.intro (show gHas _ _ _ from by first | exact gW.has (gD.w (by assumption)) (by omega) | exact gD.has (by assumption) | exact gRu.has (gD.ru (by assumption)) | exact gGr.has (gD.gr (by assumption) _ (by omega))) ?_ | refine gCall_mk (by decide) (by decide) ?_ | refine if_yes (by first | assumption | omega | decide | exact b2i_R _ | exact gR_of (by omega) (by omega)) ?_ | refine if_no (by first | assumption | omega | decide | exact b2i_R _ | exact gR_of (by omega) (by omega)) ?_); (first | refine And.intro (show gR _ from by first | assumption | omega | decide | exact b2i_R _ | exact gR_of (by omega) (by omega)) ?_ | refine And.intro (show gHas _ _ _ from by first | exact gW.has (gD.w (by assumption)) (by omega) | exact gD.has (by assumption) | exact gRu.has (gD.ru (by assumption)) | exact gGr.has (gD.gr (by assumption) _ (by omega))) ?_ | refine gCall_mk (by decide) (by decide) ?_ | refine if_yes (by first | assumption | omega | decide | exact b2i_R _ | exact gR_of (by omega) (by omega)) ?_ | refine if_no (by first | assumption | omega | decide | exact b2i_R _ | exact gR_of (by omega) (by omega)) ?_)
  refine c_wordOf d hx (fun q => by rw [m_spread, if_neg q] at k; exact k.ex d gFr.rf) (fun w hw e => ?_)
  subst e
  rw [m_spread, if_pos (show okS (w : Int) by omega), Int.toNat_natCast, ← d.s w hw] at k
  have l1 := d.w.le (show w < 11 by omega)
  have bd : ¬ (0 ≤ y ∧ y ≤ ((U w).length : Int)) → w_X5_spread_J24 X Q y z (A w) h 1 6 := fun q => by
    rw [if_neg q] at k
    unfold w_X5_spread_J24 w_X5_spread_J25
    (first | refine And.intro (show gR _ from by first | assumption | omega | decide | exact b2i_R _ | exact gR_of (by omega) (by omega)) ?_ | refine And.intro (show gHas _ _ _ from by first | exact gW.has (gD.w (by assumption)) (by omega) | exact gD.has (by assumption) | exact gRu.has (gD.ru (by assumption)) | exact gGr.has (gD.gr (by assumption) _ (by omega))) ?_ | refine gCall_mk (by decide) (by decide) ?_ | refine if_yes (by first | assumption | omega | decide | exact b2i_R _ | exact gR_of (by omega) (by omega)) ?_ | refine if_no (by first | assumption | omega | decide | exact b2i_R _ | exact gR_of (by omega) (by omega)) ?_)
    exact c_nA0 (k.ex d gFr.rf)
  (first | refine And.intro (show gR _ from by first | assumption | omega | decide | exact b2i_R _ | exact gR_of (by omega) (by omega)) ?_ | refine And.intro (show gHas _ _ _ from by first | exact gW.has (gD.w (by assumption)) (by omega) | exact gD.has (by assumption) | exact gRu.has (gD.ru (by assumption)) | exact gGr.has (gD.gr (by assumption) _ (by omega))) ?_ | refine gCall_mk (by decide) (by decide) ?_ | refine if_yes (by first | assumption | omega | decide | exact b2i_R _ | exact gR_of (by omega) (by omega)) ?_ | refine if_no (by first | assumption | omega | decide | exact b2i_R _ | exact gR_of (by omega) (by omega)) ?_)
  by_cases q1 : y < 0
  · exact if_yes q1 (bd (by omega))
  (first | refine And.intro (show gR _ from by first | assumption | omega | decide | exact b2i_R _ | exact gR_of (by omega) (by omega)) ?_ | refine And.intro (show gHas _ _ _ from by first | exact gW.has (gD.w (by assumption)) (by omega) | exact gD.has (by assumption) | exact gRu.has (gD.ru (by assumption)) | exact gGr.has (gD.gr (by assumption) _ (by omega))) ?_ | refine gCall_mk (by decide) (by decide) ?_ | refine if_yes (by first | assumption | omega | decide | exact b2i_R _ | exact gR_of (by omega) (by omega)) ?_ | refine if_no (by first | assumption | omega | decide | exact b2i_R _ | exact gR_of (by omega) (by omega)) ?_)
  refine d.w.many (by omega) ?_
  (first | refine And.intro (show gR _ from by first | assumption | omega | decide | exact b2i_R _ | exact gR_of (by omega) (by omega)) ?_ | refine And.intro (show gHas _ _ _ from by first | exact gW.has (gD.w (by assumption)) (by omega) | exact gD.has (by assumption) | exact gRu.has (gD.ru (by assumption)) | exact gGr.has (gD.gr (by assumption) _ (by omega))) ?_ | refine gCall_mk (by decide) (by decide) ?_ | refine if_yes (by first | assumption | omega | decide | exact b2i_R _ | exact gR_of (by omega) (by omega)) ?_ | refine if_no (by first | assumption | omega | decide | exact b2i_R _ | exact gR_of (by omega) (by omega)) ?_); (first | refine And.intro (show gR _ from by first | assumption | omega | decide | exact b2i_R _ | exact gR_of (by omega) (by omega)) ?_ | refine And.intro (show gHas _ _ _ from by first | exact gW.has (gD.w (by assumption)) (by omega) | exact gD.has (by assumption) | exact gRu.has (gD.ru (by assumption)) | exact gGr.has (gD.gr (by assumption) _ (by omega))) ?_ | refine gCall_mk (by decide) (by decide) ?_ | refine if_yes (by first | assumption | omega | decide | exact b2i_R _ | exact gR_of (by omega) (by omega)) ?_ | refine if_no (by first | assumption | omega | decide | exact b2i_R _ | exact gR_of (by omega) (by omega)) ?_)
  by_cases q2 : ((U w).length : Int) < y
  · exact if_yes q2 (bd (by omega))
  (first | refine And.intro (show gR _ from by first | assumption | omega | decide | exact b2i_R _ | exact gR_of (by omega) (by omega)) ?_ | refine And.intro (show gHas _ _ _ from by first | exact gW.has (gD.w (by assumption)) (by omega) | exact gD.has (by assumption) | exact gRu.has (gD.ru (by assumption)) | exact gGr.has (gD.gr (by assumption) _ (by omega))) ?_ | refine gCall_mk (by decide) (by decide) ?_ | refine if_yes (by first | assumption | omega | decide | exact b2i_R _ | exact gR_of (by omega) (by omega)) ?_ | refine if_no (by first | assumption | omega | decide | exact b2i_R _ | exact gR_of (by omega) (by omega)) ?_)
  rw [if_pos ⟨by omega, by omega⟩] at k
  unfold w_X5_spread_J25
  (first | refine And.intro (show gR _ from by first | assumption | omega | decide | exact b2i_R _ | exact gR_of (by omega) (by omega)) ?_ | refine And.intro (show gHas _ _ _ from by first | exact gW.has (gD.w (by assumption)) (by omega) | exact gD.has (by assumption) | exact gRu.has (gD.ru (by assumption)) | exact gGr.has (gD.gr (by assumption) _ (by omega))) ?_ | refine gCall_mk (by decide) (by decide) ?_ | refine if_yes (by first | assumption | omega | decide | exact b2i_R _ | exact gR_of (by omega) (by omega)) ?_ | refine if_no (by first | assumption | omega | decide | exact b2i_R _ | exact gR_of (by omega) (by omega)) ?_)
  refine c_nA1 ?_
  exact s_spreadOf d.w (by omega) (show y = (y.toNat : Int) by omega) hz (by omega) (fun r h1 h2 => k.ok d gFr.rf ⟨h1, h2⟩)
def m_kinds (st : GSt) (x y : Int) : Nat × (Int → Prop) × GSt := if okS x then if 0 ≤ y ∧ y ≤ ((st.S x.toNat).length : Int) then says st (fun r => 0 ≤ r ∧ r ≤ 65) else bad 2 st else bad 1 st
theorem c_kinds (d : gD A G h U st) {b : Bool} (hx : gR x) (hy : gR y) (hz : z = b2i b) (k : gRes A G h [eI, eA] X Q (m_kinds st x y)) : w_X5_kinds X (A 22) x y z h Q := by
  unfold w_X5_kinds
  (first | refine And.intro (show gR _ from by first | assumption | omega | decide | exact b2i_R _ | exact gR_of (by omega) (by omega)) ?_ | refine And.intro (show gHas _ _ _ from by first | exact gW.has (gD.w (by assumption)) (by omega) | exact gD.has (by assumption) | exact gRu.has (gD.ru (by assumption)) | exact gGr.has (gD.gr (by assumption) _ (by omega))) ?_ | refine gCall_mk (by decide) (by decide) ?_ | refine if_yes (by first | assumption | omega | decide | exact b2i_R _ | exact gR_of (by omega) (by omega)) ?_ | refine if_no (by first | assumption | omega | decide | exact b2i_R _ | exact gR_of (by omega) (by omega)) ?_); (first | refine And.intro (show gR _ from by first | assumption | omega | decide | exact b2i_R _ | exact gR_of (by omega) (by omega)) ?_ | refine And.intro (show gHas _ _ _ from by first | exact gW.has (gD.w (by assumption)) (by omega) | exact gD.has (by assumption) | exact gRu.has (gD.ru (by assumption)) | exact gGr.has (gD.gr (by assumption) _ (by omega))) ?_ | refine gCall_mk (by decide) (by decide) ?_ | refine if_yes (by first | assumption | omega | decide | exact b2i_R _ | exact gR_of (by omega) (by omega)) ?_ | refine if_no (by first | assumption | omega | decide | exact b2i_R _ | exact gR_of (by omega) (by omega)) ?_)
  refine c_wordOf d hx (fun q => by rw [m_kinds, if_neg q] at k; exact k.ex d gFr.rf) (fun w hw e => ?_)
  subst e
  rw [m_kinds, if_pos (show okS (w : Int) by omega), Int.toNat_natCast, ← d.s w hw] at k
  have l1 := d.w.le (show w < 11 by omega)
  have bd : ¬ (0 ≤ y ∧ y ≤ ((U w).length : Int)) → w_X5_kinds_J24 X Q y z (A w) h 1 6 := fun q => by
    rw [if_neg q] at k
    unfold w_X5_kinds_J24 w_X5_kinds_J25
    (first | refine And.intro (show gR _ from by first | assumption | omega | decide | exact b2i_R _ | exact gR_of (by omega) (by omega)) ?_ | refine And.intro (show gHas _ _ _ from by first | exact gW.has (gD.w (by assumption)) (by omega) | exact gD.has (by assumption) | exact gRu.has (gD.ru (by assumption)) | exact gGr.has (gD.gr (by assumption) _ (by omega))) ?_ | refine gCall_mk (by decide) (by decide) ?_ | refine if_yes (by first | assumption | omega | decide | exact b2i_R _ | exact gR_of (by omega) (by omega)) ?_ | refine if_no (by first | assumption | omega | decide | exact b2i_R _ | exact gR_of (by omega) (by omega)) ?_)
    exact c_nA0 (k.ex d gFr.rf)
  (first | refine And.intro (show gR _ from by first | assumption | omega | decide | exact b2i_R _ | exact gR_of (by omega) (by omega)) ?_ | refine And.intro (show gHas _ _ _ from by first | exact gW.has (gD.w (by assumption)) (by omega) | exact gD.has (by assumption) | exact gRu.has (gD.ru (by assumption)) | exact gGr.has (gD.gr (by assumption) _ (by omega))) ?_ | refine gCall_mk (by decide) (by decide) ?_ | refine if_yes (by first | assumption | omega | decide | exact b2i_R _ | exact gR_of (by omega) (by omega)) ?_ | refine if_no (by first | assumption | omega | decide | exact b2i_R _ | exact gR_of (by omega) (by omega)) ?_)
  by_cases q1 : y < 0
  · exact if_yes q1 (bd (by omega))
  (first | refine And.intro (show gR _ from by first | assumption | omega | decide | exact b2i_R _ | exact gR_of (by omega) (by omega)) ?_ | refine And.intro (show gHas _ _ _ from by first | exact gW.has (gD.w (by assumption)) (by omega) | exact gD.has (by assumption) | exact gRu.has (gD.ru (by assumption)) | exact gGr.has (gD.gr (by assumption) _ (by omega))) ?_ | refine gCall_mk (by decide) (by decide) ?_ | refine if_yes (by first | assumption | omega | decide | exact b2i_R _ | exact gR_of (by omega) (by omega)) ?_ | refine if_no (by first | assumption | omega | decide | exact b2i_R _ | exact gR_of (by omega) (by omega)) ?_)
  refine d.w.many (by omega) ?_
  (first | refine And.intro (show gR _ from by first | assumption | omega | decide | exact b2i_R _ | exact gR_of (by omega) (by omega)) ?_ | refine And.intro (show gHas _ _ _ from by first | exact gW.has (gD.w (by assumption)) (by omega) | exact gD.has (by assumption) | exact gRu.has (gD.ru (by assumption)) | exact gGr.has (gD.gr (by assumption) _ (by omega))) ?_ | refine gCall_mk (by decide) (by decide) ?_ | refine if_yes (by first | assumption | omega | decide | exact b2i_R _ | exact gR_of (by omega) (by omega)) ?_ | refine if_no (by first | assumption | omega | decide | exact b2i_R _ | exact gR_of (by omega) (by omega)) ?_); (first | refine And.intro (show gR _ from by first | assumption | omega | decide | exact b2i_R _ | exact gR_of (by omega) (by omega)) ?_ | refine And.intro (show gHas _ _ _ from by first | exact gW.has (gD.w (by assumption)) (by omega) | exact gD.has (by assumption) | exact gRu.has (gD.ru (by assumption)) | exact gGr.has (gD.gr (by assumption) _ (by omega))) ?_ | refine gCall_mk (by decide) (by decide) ?_ | refine if_yes (by first | assumption | omega | decide | exact b2i_R _ | exact gR_of (by omega) (by omega)) ?_ | refine if_no (by first | assumption | omega | decide | exact b2i_R _ | exact gR_of (by omega) (by omega)) ?_)
  by_cases q2 : ((U w).length : Int) < y
  · exact if_yes q2 (bd (by omega))
  (first | refine And.intro (show gR _ from by first | assumption | omega | decide | exact b2i_R _ | exact gR_of (by omega) (by omega)) ?_ | refine And.intro (show gHas _ _ _ from by first | exact gW.has (gD.w (by assumption)) (by omega) | exact gD.has (by assumption) | exact gRu.has (gD.ru (by assumption)) | exact gGr.has (gD.gr (by assumption) _ (by omega))) ?_ | refine gCall_mk (by decide) (by decide) ?_ | refine if_yes (by first | assumption | omega | decide | exact b2i_R _ | exact gR_of (by omega) (by omega)) ?_ | refine if_no (by first | assumption | omega | decide | exact b2i_R _ | exact gR_of (by omega) (by omega)) ?_)
  rw [if_pos ⟨by omega, by omega⟩] at k
  unfold w_X5_kinds_J25
  (first | refine And.intro (show gR _ from by first | assumption | omega | decide | exact b2i_R _ | exact gR_of (by omega) (by omega)) ?_ | refine And.intro (show gHas _ _ _ from by first | exact gW.has (gD.w (by assumption)) (by omega) | exact gD.has (by assumption) | exact gRu.has (gD.ru (by assumption)) | exact gGr.has (gD.gr (by assumption) _ (by omega))) ?_ | refine gCall_mk (by decide) (by decide) ?_ | refine if_yes (by first | assumption | omega | decide | exact b2i_R _ | exact gR_of (by omega) (by omega)) ?_ | refine if_no (by first | assumption | omega | decide | exact b2i_R _ | exact gR_of (by omega) (by omega)) ?_)
  refine c_nA1 ?_
  exact s_kindsOf d.w (by omega) (show y = (y.toNat : Int) by omega) hz (by omega) (fun r hr => k.ok d gFr.rf ⟨by omega, by omega⟩)
theorem s_find_L (d : gD A G h U st) (hw : w < 3) (hv : v < 3) {kc ks : Nat} (k : ∀ r : Int, -1 ≤ r → r ≤ 64 → Q r h) : ∀ (z i : Nat), i ≤ (U w).length + 1 → (U w).length + 1 - i < z → w_X5_find_L38 X Q z (A w) (A v) (i : Int) h kc ks
  | 0, _, _, h1 => absurd h1 (Nat.not_lt_zero _)
  | z + 1, i, hi, h1 => by
    have l1 := d.w.le (show w < 11 by omega)
    unfold w_X5_find_L38
    refine d.w.many (by omega) ?_
    (first | refine And.intro (show gR _ from by first | assumption | omega | decide | exact b2i_R _ | exact gR_of (by omega) (by omega)) ?_ | refine And.intro (show gHas _ _ _ from by first | exact gW.has (gD.w (by assumption)) (by omega) | exact gD.has (by assumption) | exact gRu.has (gD.ru (by assumption)) | exact gGr.has (gD.gr (by assumption) _ (by omega))) ?_ | refine gCall_mk (by decide) (by decide) ?_ | refine if_yes (by first | assumption | omega | decide | exact b2i_R _ | exact gR_of (by omega) (by omega)) ?_ | refine if_no (by first | assumption | omega | decide | exact b2i_R _ | exact gR_of (by omega) (by omega)) ?_); (first | refine And.intro (show gR _ from by first | assumption | omega | decide | exact b2i_R _ | exact gR_of (by omega) (by omega)) ?_ | refine And.intro (show gHas _ _ _ from by first | exact gW.has (gD.w (by assumption)) (by omega) | exact gD.has (by assumption) | exact gRu.has (gD.ru (by assumption)) | exact gGr.has (gD.gr (by assumption) _ (by omega))) ?_ | refine gCall_mk (by decide) (by decide) ?_ | refine if_yes (by first | assumption | omega | decide | exact b2i_R _ | exact gR_of (by omega) (by omega)) ?_ | refine if_no (by first | assumption | omega | decide | exact b2i_R _ | exact gR_of (by omega) (by omega)) ?_)
    by_cases q : ((U w).length : Int) < (i : Int)
    · exact if_yes q (k _ (by decide) (by decide))
    · refine if_no q (s_standsAt d.w (by omega) (by omega) rfl (show i ≤ 1000 by omega) ?_)
      (first | refine And.intro (show gR _ from by first | assumption | omega | decide | exact b2i_R _ | exact gR_of (by omega) (by omega)) ?_ | refine And.intro (show gHas _ _ _ from by first | exact gW.has (gD.w (by assumption)) (by omega) | exact gD.has (by assumption) | exact gRu.has (gD.ru (by assumption)) | exact gGr.has (gD.gr (by assumption) _ (by omega))) ?_ | refine gCall_mk (by decide) (by decide) ?_ | refine if_yes (by first | assumption | omega | decide | exact b2i_R _ | exact gR_of (by omega) (by omega)) ?_ | refine if_no (by first | assumption | omega | decide | exact b2i_R _ | exact gR_of (by omega) (by omega)) ?_)
      generalize stands (U w) (U v) i = b
      cases b
      · refine if_yes rfl ?_
        rw [show (i : Int) + 1 = ((i + 1 : Nat) : Int) by omega]
        exact s_find_L d hw hv k z (i + 1) (by omega) (by omega)
      · exact if_no (by decide) (k _ (by omega) (by omega))
def m_find (st : GSt) (x o y : Int) : Nat × (Int → Prop) × GSt := if okS x then if okS o then if 0 ≤ y ∧ y ≤ ((st.S x.toNat).length : Int) then says st (fun r => -1 ≤ r ∧ r ≤ 64) else bad 1 st else bad 1 st else bad 1 st
theorem c_find (d : gD A G h U st) {o : Int} (hx : gR x) (ho : gR o) (hy : gR y) (k : gRes A G h [eI] X Q (m_find st x o y)) : w_X5_find X (A 22) x o y h Q := by
  unfold w_X5_find
  (first | refine And.intro (show gR _ from by first | assumption | omega | decide | exact b2i_R _ | exact gR_of (by omega) (by omega)) ?_ | refine And.intro (show gHas _ _ _ from by first | exact gW.has (gD.w (by assumption)) (by omega) | exact gD.has (by assumption) | exact gRu.has (gD.ru (by assumption)) | exact gGr.has (gD.gr (by assumption) _ (by omega))) ?_ | refine gCall_mk (by decide) (by decide) ?_ | refine if_yes (by first | assumption | omega | decide | exact b2i_R _ | exact gR_of (by omega) (by omega)) ?_ | refine if_no (by first | assumption | omega | decide | exact b2i_R _ | exact gR_of (by omega) (by omega)) ?_); (first | refine And.intro (show gR _ from by first | assumption | omega | decide | exact b2i_R _ | exact gR_of (by omega) (by omega)) ?_ | refine And.intro (show gHas _ _ _ from by first | exact gW.has (gD.w (by assumption)) (by omega) | exact gD.has (by assumption) | exact gRu.has (gD.ru (by assumption)) | exact gGr.has (gD.gr (by assumption) _ (by omega))) ?_ | refine gCall_mk (by decide) (by decide) ?_ | refine if_yes (by first | assumption | omega | decide | exact b2i_R _ | exact gR_of (by omega) (by omega)) ?_ | refine if_no (by first | assumption | omega | decide | exact b2i_R _ | exact gR_of (by omega) (by omega)) ?_)
  refine c_wordOf d hx (fun q => by rw [m_find, if_neg q] at k; exact k.ex d gFr.rf) (fun w hw e => ?_)
  subst e
  rw [m_find, if_pos (show okS (w : Int) by omega), Int.toNat_natCast, ← d.s w hw] at k
  have l1 := d.w.le (show w < 11 by omega)
  (first | refine And.intro (show gR _ from by first | assumption | omega | decide | exact b2i_R _ | exact gR_of (by omega) (by omega)) ?_ | refine And.intro (show gHas _ _ _ from by first | exact gW.has (gD.w (by assumption)) (by omega) | exact gD.has (by assumption) | exact gRu.has (gD.ru (by assumption)) | exact gGr.has (gD.gr (by assumption) _ (by omega))) ?_ | refine gCall_mk (by decide) (by decide) ?_ | refine if_yes (by first | assumption | omega | decide | exact b2i_R _ | exact gR_of (by omega) (by omega)) ?_ | refine if_no (by first | assumption | omega | decide | exact b2i_R _ | exact gR_of (by omega) (by omega)) ?_); (first | refine And.intro (show gR _ from by first | assumption | omega | decide | exact b2i_R _ | exact gR_of (by omega) (by omega)) ?_ | refine And.intro (show gHas _ _ _ from by first | exact gW.has (gD.w (by assumption)) (by omega) | exact gD.has (by assumption) | exact gRu.has (gD.ru (by assumption)) | exact gGr.has (gD.gr (by assumption) _ (by omega))) ?_ | refine gCall_mk (by decide) (by decide) ?_ | refine if_yes (by first | assumption | omega | decide | exact b2i_R _ | exact gR_of (by omega) (by omega)) ?_ | refine if_no (by first | assumption | omega | decide | exact b2i_R _ | exact gR_of (by omega) (by omega)) ?_)
  refine c_wordOf d ho (fun q => by rw [if_neg q] at k; exact k.ex d gFr.rf) (fun v hv e => ?_)
  subst e
  rw [if_pos (show okS (v : Int) by omega)] at k
  have bd : ¬ (0 ≤ y ∧ y ≤ ((U w).length : Int)) → w_X5_find_J31 X Q y (A w) (A v) h 1 6 := fun q => by
    rw [if_neg q] at k
    unfold w_X5_find_J31 w_X5_find_J32
    (first | refine And.intro (show gR _ from by first | assumption | omega | decide | exact b2i_R _ | exact gR_of (by omega) (by omega)) ?_ | refine And.intro (show gHas _ _ _ from by first | exact gW.has (gD.w (by assumption)) (by omega) | exact gD.has (by assumption) | exact gRu.has (gD.ru (by assumption)) | exact gGr.has (gD.gr (by assumption) _ (by omega))) ?_ | refine gCall_mk (by decide) (by decide) ?_ | refine if_yes (by first | assumption | omega | decide | exact b2i_R _ | exact gR_of (by omega) (by omega)) ?_ | refine if_no (by first | assumption | omega | decide | exact b2i_R _ | exact gR_of (by omega) (by omega)) ?_)
    exact c_nI0 (k.ex d gFr.rf)
  (first | refine And.intro (show gR _ from by first | assumption | omega | decide | exact b2i_R _ | exact gR_of (by omega) (by omega)) ?_ | refine And.intro (show gHas _ _ _ from by first | exact gW.has (gD.w (by assumption)) (by omega) | exact gD.has (by assumption) | exact gRu.has (gD.ru (by assumption)) | exact gGr.has (gD.gr (by assumption) _ (by omega))) ?_ | refine gCall_mk (by decide) (by decide) ?_ | refine if_yes (by first | assumption | omega | decide | exact b2i_R _ | exact gR_of (by omega) (by omega)) ?_ | refine if_no (by first | assumption | omega | decide | exact b2i_R _ | exact gR_of (by omega) (by omega)) ?_)
  by_cases q1 : y < 0
  · exact if_yes q1 (bd (by omega))
  (first | refine And.intro (show gR _ from by first | assumption | omega | decide | exact b2i_R _ | exact gR_of (by omega) (by omega)) ?_ | refine And.intro (show gHas _ _ _ from by first | exact gW.has (gD.w (by assumption)) (by omega) | exact gD.has (by assumption) | exact gRu.has (gD.ru (by assumption)) | exact gGr.has (gD.gr (by assumption) _ (by omega))) ?_ | refine gCall_mk (by decide) (by decide) ?_ | refine if_yes (by first | assumption | omega | decide | exact b2i_R _ | exact gR_of (by omega) (by omega)) ?_ | refine if_no (by first | assumption | omega | decide | exact b2i_R _ | exact gR_of (by omega) (by omega)) ?_)
  refine d.w.many (by omega) ?_
  (first | refine And.intro (show gR _ from by first | assumption | omega | decide | exact b2i_R _ | exact gR_of (by omega) (by omega)) ?_ | refine And.intro (show gHas _ _ _ from by first | exact gW.has (gD.w (by assumption)) (by omega) | exact gD.has (by assumption) | exact gRu.has (gD.ru (by assumption)) | exact gGr.has (gD.gr (by assumption) _ (by omega))) ?_ | refine gCall_mk (by decide) (by decide) ?_ | refine if_yes (by first | assumption | omega | decide | exact b2i_R _ | exact gR_of (by omega) (by omega)) ?_ | refine if_no (by first | assumption | omega | decide | exact b2i_R _ | exact gR_of (by omega) (by omega)) ?_); (first | refine And.intro (show gR _ from by first | assumption | omega | decide | exact b2i_R _ | exact gR_of (by omega) (by omega)) ?_ | refine And.intro (show gHas _ _ _ from by first | exact gW.has (gD.w (by assumption)) (by omega) | exact gD.has (by assumption) | exact gRu.has (gD.ru (by assumption)) | exact gGr.has (gD.gr (by assumption) _ (by omega))) ?_ | refine gCall_mk (by decide) (by decide) ?_ | refine if_yes (by first | assumption | omega | decide | exact b2i_R _ | exact gR_of (by omega) (by omega)) ?_ | refine if_no (by first | assumption | omega | decide | exact b2i_R _ | exact gR_of (by omega) (by omega)) ?_)
  by_cases q2 : ((U w).length : Int) < y
  · exact if_yes q2 (bd (by omega))
  (first | refine And.intro (show gR _ from by first | assumption | omega | decide | exact b2i_R _ | exact gR_of (by omega) (by omega)) ?_ | refine And.intro (show gHas _ _ _ from by first | exact gW.has (gD.w (by assumption)) (by omega) | exact gD.has (by assumption) | exact gRu.has (gD.ru (by assumption)) | exact gGr.has (gD.gr (by assumption) _ (by omega))) ?_ | refine gCall_mk (by decide) (by decide) ?_ | refine if_yes (by first | assumption | omega | decide | exact b2i_R _ | exact gR_of (by omega) (by omega)) ?_ | refine if_no (by first | assumption | omega | decide | exact b2i_R _ | exact gR_of (by omega) (by omega)) ?_)
  rw [if_pos ⟨by omega, by omega⟩] at k
  obtain ⟨y, rfl⟩ : ∃ m : Nat, y = m := ⟨y.toNat, by omega⟩
  unfold w_X5_find_J32
  (first | refine And.intro (show gR _ from by first | assumption | omega | decide | exact b2i_R _ | exact gR_of (by omega) (by omega)) ?_ | refine And.intro (show gHas _ _ _ from by first | exact gW.has (gD.w (by assumption)) (by omega) | exact gD.has (by assumption) | exact gRu.has (gD.ru (by assumption)) | exact gGr.has (gD.gr (by assumption) _ (by omega))) ?_ | refine gCall_mk (by decide) (by decide) ?_ | refine if_yes (by first | assumption | omega | decide | exact b2i_R _ | exact gR_of (by omega) (by omega)) ?_ | refine if_no (by first | assumption | omega | decide | exact b2i_R _ | exact gR_of (by omega) (by omega)) ?_)
  refine c_nI1 ?_
  exact ⟨66, s_find_L d hw hv (fun r h1 h2 => k.ok d gFr.rf ⟨h1, h2⟩) 66 y (by omega) (by omega)⟩
theorem s_findLast_L (d : gD A G h U st) (hw : w < 3) (hv : v < 3) {kc ks : Nat} (k : ∀ r : Int, -1 ≤ r → r ≤ 64 → Q r h) : ∀ (z i : Nat), i ≤ 65 → i < z → w_X5_findLast_L38 X Q z (A w) (A v) ((i : Int) - 1) h kc ks
  | 0, _, _, h1 => absurd h1 (Nat.not_lt_zero _)
  | z + 1, i, hi, h1 => by
    have l1 := d.w.le (show w < 11 by omega)
    unfold w_X5_findLast_L38
    (first | refine And.intro (show gR _ from by first | assumption | omega | decide | exact b2i_R _ | exact gR_of (by omega) (by omega)) ?_ | refine And.intro (show gHas _ _ _ from by first | exact gW.has (gD.w (by assumption)) (by omega) | exact gD.has (by assumption) | exact gRu.has (gD.ru (by assumption)) | exact gGr.has (gD.gr (by assumption) _ (by omega))) ?_ | refine gCall_mk (by decide) (by decide) ?_ | refine if_yes (by first | assumption | omega | decide | exact b2i_R _ | exact gR_of (by omega) (by omega)) ?_ | refine if_no (by first | assumption | omega | decide | exact b2i_R _ | exact gR_of (by omega) (by omega)) ?_)
    by_cases q : (i : Int) - 1 < 0
    · exact if_yes q (k _ (by decide) (by decide))
    · refine if_no q (s_standsAt d.w (by omega) (by omega) (show (i : Int) - 1 = ((i - 1 : Nat) : Int) by omega) (show i - 1 ≤ 1000 by omega) ?_)
      (first | refine And.intro (show gR _ from by first | assumption | omega | decide | exact b2i_R _ | exact gR_of (by omega) (by omega)) ?_ | refine And.intro (show gHas _ _ _ from by first | exact gW.has (gD.w (by assumption)) (by omega) | exact gD.has (by assumption) | exact gRu.has (gD.ru (by assumption)) | exact gGr.has (gD.gr (by assumption) _ (by omega))) ?_ | refine gCall_mk (by decide) (by decide) ?_ | refine if_yes (by first | assumption | omega | decide | exact b2i_R _ | exact gR_of (by omega) (by omega)) ?_ | refine if_no (by first | assumption | omega | decide | exact b2i_R _ | exact gR_of (by omega) (by omega)) ?_)
      generalize stands (U w) (U v) (i - 1) = b
      cases b
      · refine if_yes rfl ?_
        rw [show (i : Int) - 1 + -1 = ((i - 1 : Nat) : Int) - 1 by omega]
        exact s_findLast_L d hw hv k z (i - 1) (by omega) (by omega)
      · exact if_no (by decide) (k _ (by omega) (by omega))
def m_findLast (st : GSt) (x o y : Int) : Nat × (Int → Prop) × GSt := if okS x then if okS o then if 0 ≤ y ∧ y ≤ ((st.S x.toNat).length : Int) then says st (fun r => -1 ≤ r ∧ r ≤ 64) else bad 1 st else bad 1 st else bad 1 st
theorem c_findLast (d : gD A G h U st) {o : Int} (hx : gR x) (ho : gR o) (hy : gR y) (k : gRes A G h [eI] X Q (m_findLast st x o y)) : w_X5_findLast X (A 22) x o y h Q := by
  unfold w_X5_findLast
  (first | refine And.intro (show gR _ from by first | assumption | omega | decide | exact b2i_R _ | exact gR_of (by omega) (by omega)) ?_ | refine And.intro (show gHas _ _ _ from by first | exact gW.has (gD.w (by assumption)) (by omega) | exact gD.has (by assumption) | exact gRu.has (gD.ru (by assumption)) | exact gGr.has (gD.gr (by assumption) _ (by omega))) ?_ | refine gCall_mk (by decide) (by decide) ?_ | refine if_yes (by first | assumption | omega | decide | exact b2i_R _ | exact gR_of (by omega) (by omega)) ?_ | refine if_no (by first | assumption | omega | decide | exact b2i_R _ | exact gR_of (by omega) (by omega)) ?_); (first | refine And.intro (show gR _ from by first | assumption | omega | decide | exact b2i_R _ | exact gR_of (by omega) (by omega)) ?_ | refine And.intro (show gHas _ _ _ from by first | exact gW.has (gD.w (by assumption)) (by omega) | exact gD.has (by assumption) | exact gRu.has (gD.ru (by assumption)) | exact gGr.has (gD.gr (by assumption) _ (by omega))) ?_ | refine gCall_mk (by decide) (by decide) ?_ | refine if_yes (by first | assumption | omega | decide | exact b2i_R _ | exact gR_of (by omega) (by omega)) ?_ | refine if_no (by first | assumption | omega | decide | exact b2i_R _ | exact gR_of (by omega) (by omega)) ?_)
  refine c_wordOf d hx (fun q => by rw [m_findLast, if_neg q] at k; exact k.ex d gFr.rf) (fun w hw e => ?_)
  subst e
  rw [m_findLast, if_pos (show okS (w : Int) by omega), Int.toNat_natCast, ← d.s w hw] at k
  have l1 := d.w.le (show w < 11 by omega)
  (first | refine And.intro (show gR _ from by first | assumption | omega | decide | exact b2i_R _ | exact gR_of (by omega) (by omega)) ?_ | refine And.intro (show gHas _ _ _ from by first | exact gW.has (gD.w (by assumption)) (by omega) | exact gD.has (by assumption) | exact gRu.has (gD.ru (by assumption)) | exact gGr.has (gD.gr (by assumption) _ (by omega))) ?_ | refine gCall_mk (by decide) (by decide) ?_ | refine if_yes (by first | assumption | omega | decide | exact b2i_R _ | exact gR_of (by omega) (by omega)) ?_ | refine if_no (by first | assumption | omega | decide | exact b2i_R _ | exact gR_of (by omega) (by omega)) ?_); (first | refine And.intro (show gR _ from by first | assumption | omega | decide | exact b2i_R _ | exact gR_of (by omega) (by omega)) ?_ | refine And.intro (show gHas _ _ _ from by first | exact gW.has (gD.w (by assumption)) (by omega) | exact gD.has (by assumption) | exact gRu.has (gD.ru (by assumption)) | exact gGr.has (gD.gr (by assumption) _ (by omega))) ?_ | refine gCall_mk (by decide) (by decide) ?_ | refine if_yes (by first | assumption | omega | decide | exact b2i_R _ | exact gR_of (by omega) (by omega)) ?_ | refine if_no (by first | assumption | omega | decide | exact b2i_R _ | exact gR_of (by omega) (by omega)) ?_)
  refine c_wordOf d ho (fun q => by rw [if_neg q] at k; exact k.ex d gFr.rf) (fun v hv e => ?_)
  subst e
  rw [if_pos (show okS (v : Int) by omega)] at k
  have bd : ¬ (0 ≤ y ∧ y ≤ ((U w).length : Int)) → w_X5_findLast_J31 X Q y (A w) (A v) h 1 6 := fun q => by
    rw [if_neg q] at k
    unfold w_X5_findLast_J31 w_X5_findLast_J32
    (first | refine And.intro (show gR _ from by first | assumption | omega | decide | exact b2i_R _ | exact gR_of (by omega) (by omega)) ?_ | refine And.intro (show gHas _ _ _ from by first | exact gW.has (gD.w (by assumption)) (by omega) | exact gD.has (by assumption) | exact gRu.has (gD.ru (by assumption)) | exact gGr.has (gD.gr (by assumption) _ (by omega))) ?_ | refine gCall_mk (by decide) (by decide) ?_ | refine if_yes (by first | assumption | omega | decide | exact b2i_R _ | exact gR_of (by omega) (by omega)) ?_ | refine if_no (by first | assumption | omega | decide | exact b2i_R _ | exact gR_of (by omega) (by omega)) ?_)
    exact c_nI0 (k.ex d gFr.rf)
  (first | refine And.intro (show gR _ from by first | assumption | omega | decide | exact b2i_R _ | exact gR_of (by omega) (by omega)) ?_ | refine And.intro (show gHas _ _ _ from by first | exact gW.has (gD.w (by assumption)) (by omega) | exact gD.has (by assumption) | exact gRu.has (gD.ru (by assumption)) | exact gGr.has (gD.gr (by assumption) _ (by omega))) ?_ | refine gCall_mk (by decide) (by decide) ?_ | refine if_yes (by first | assumption | omega | decide | exact b2i_R _ | exact gR_of (by omega) (by omega)) ?_ | refine if_no (by first | assumption | omega | decide | exact b2i_R _ | exact gR_of (by omega) (by omega)) ?_)
  by_cases q1 : y < 0
  · exact if_yes q1 (bd (by omega))
  (first | refine And.intro (show gR _ from by first | assumption | omega | decide | exact b2i_R _ | exact gR_of (by omega) (by omega)) ?_ | refine And.intro (show gHas _ _ _ from by first | exact gW.has (gD.w (by assumption)) (by omega) | exact gD.has (by assumption) | exact gRu.has (gD.ru (by assumption)) | exact gGr.has (gD.gr (by assumption) _ (by omega))) ?_ | refine gCall_mk (by decide) (by decide) ?_ | refine if_yes (by first | assumption | omega | decide | exact b2i_R _ | exact gR_of (by omega) (by omega)) ?_ | refine if_no (by first | assumption | omega | decide | exact b2i_R _ | exact gR_of (by omega) (by omega)) ?_)
  refine d.w.many (by omega) ?_
  (first | refine And.intro (show gR _ from by first | assumption | omega | decide | exact b2i_R _ | exact gR_of (by omega) (by omega)) ?_ | refine And.intro (show gHas _ _ _ from by first | exact gW.has (gD.w (by assumption)) (by omega) | exact gD.has (by assumption) | exact gRu.has (gD.ru (by assumption)) | exact gGr.has (gD.gr (by assumption) _ (by omega))) ?_ | refine gCall_mk (by decide) (by decide) ?_ | refine if_yes (by first | assumption | omega | decide | exact b2i_R _ | exact gR_of (by omega) (by omega)) ?_ | refine if_no (by first | assumption | omega | decide | exact b2i_R _ | exact gR_of (by omega) (by omega)) ?_); (first | refine And.intro (show gR _ from by first | assumption | omega | decide | exact b2i_R _ | exact gR_of (by omega) (by omega)) ?_ | refine And.intro (show gHas _ _ _ from by first | exact gW.has (gD.w (by assumption)) (by omega) | exact gD.has (by assumption) | exact gRu.has (gD.ru (by assumption)) | exact gGr.has (gD.gr (by assumption) _ (by omega))) ?_ | refine gCall_mk (by decide) (by decide) ?_ | refine if_yes (by first | assumption | omega | decide | exact b2i_R _ | exact gR_of (by omega) (by omega)) ?_ | refine if_no (by first | assumption | omega | decide | exact b2i_R _ | exact gR_of (by omega) (by omega)) ?_)
  by_cases q2 : ((U w).length : Int) < y
  · exact if_yes q2 (bd (by omega))
  (first | refine And.intro (show gR _ from by first | assumption | omega | decide | exact b2i_R _ | exact gR_of (by omega) (by omega)) ?_ | refine And.intro (show gHas _ _ _ from by first | exact gW.has (gD.w (by assumption)) (by omega) | exact gD.has (by assumption) | exact gRu.has (gD.ru (by assumption)) | exact gGr.has (gD.gr (by assumption) _ (by omega))) ?_ | refine gCall_mk (by decide) (by decide) ?_ | refine if_yes (by first | assumption | omega | decide | exact b2i_R _ | exact gR_of (by omega) (by omega)) ?_ | refine if_no (by first | assumption | omega | decide | exact b2i_R _ | exact gR_of (by omega) (by omega)) ?_)
  rw [if_pos ⟨by omega, by omega⟩] at k
  obtain ⟨y, rfl⟩ : ∃ m : Nat, y = m := ⟨y.toNat, by omega⟩
  unfold w_X5_findLast_J32
  (first | refine And.intro (show gR _ from by first | assumption | omega | decide | exact b2i_R _ | exact gR_of (by omega) (by omega)) ?_ | refine And.intro (show gHas _ _ _ from by first | exact gW.has (gD.w (by assumption)) (by omega) | exact gD.has (by assumption) | exact gRu.has (gD.ru (by assumption)) | exact gGr.has (gD.gr (by assumption) _ (by omega))) ?_ | refine gCall_mk (by decide) (by decide) ?_ | refine if_yes (by first | assumption | omega | decide | exact b2i_R _ | exact gR_of (by omega) (by omega)) ?_ | refine if_no (by first | assumption | omega | decide | exact b2i_R _ | exact gR_of (by omega) (by omega)) ?_)
  refine c_nI1 ?_
  refine ⟨67, ?_⟩
  rw [show ((y : Nat) : Int) = ((y + 1 : Nat) : Int) - 1 by omega]
  exact s_findLast_L d hw hv (fun r h1 h2 => k.ok d gFr.rf ⟨h1, h2⟩) 67 (y + 1) (by omega) (by omega)
def m_order (st : GSt) (x y : Int) : Nat × (Int → Prop) × GSt := if okS x then if okS y then done st (cmpL (st.S x.toNat) (st.S y.toNat)) else bad 1 st else bad 1 st
theorem c_order (d : gD A G h U st) (hx : gR x) (hy : gR y) (k : gRes A G h [eI] X Q (m_order st x y)) : w_X5_order X (A 22) x y h Q := by
  unfold w_X5_order
  (first | refine And.intro (show gR _ from by first | assumption | omega | decide | exact b2i_R _ | exact gR_of (by omega) (by omega)) ?_ | refine And.intro (show gHas _ _ _ from by first | exact gW.has (gD.w (by assumption)) (by omega) | exact gD.has (by assumption) | exact gRu.has (gD.ru (by assumption)) | exact gGr.has (gD.gr (by assumption) _ (by omega))) ?_ | refine gCall_mk (by decide) (by decide) ?_ | refine if_yes (by first | assumption | omega | decide | exact b2i_R _ | exact gR_of (by omega) (by omega)) ?_ | refine if_no (by first | assumption | omega | decide | exact b2i_R _ | exact gR_of (by omega) (by omega)) ?_); (first | refine And.intro (show gR _ from by first | assumption | omega | decide | exact b2i_R _ | exact gR_of (by omega) (by omega)) ?_ | refine And.intro (show gHas _ _ _ from by first | exact gW.has (gD.w (by assumption)) (by omega) | exact gD.has (by assumption) | exact gRu.has (gD.ru (by assumption)) | exact gGr.has (gD.gr (by assumption) _ (by omega))) ?_ | refine gCall_mk (by decide) (by decide) ?_ | refine if_yes (by first | assumption | omega | decide | exact b2i_R _ | exact gR_of (by omega) (by omega)) ?_ | refine if_no (by first | assumption | omega | decide | exact b2i_R _ | exact gR_of (by omega) (by omega)) ?_)
  refine c_wordOf d hx (fun q => by rw [m_order, if_neg q] at k; exact k.ex d gFr.rf) (fun w hw e => ?_)
  subst e
  rw [m_order, if_pos (show okS (w : Int) by omega), Int.toNat_natCast, ← d.s w hw] at k
  (first | refine And.intro (show gR _ from by first | assumption | omega | decide | exact b2i_R _ | exact gR_of (by omega) (by omega)) ?_ | refine And.intro (show gHas _ _ _ from by first | exact gW.has (gD.w (by assumption)) (by omega) | exact gD.has (by assumption) | exact gRu.has (gD.ru (by assumption)) | exact gGr.has (gD.gr (by assumption) _ (by omega))) ?_ | refine gCall_mk (by decide) (by decide) ?_ | refine if_yes (by first | assumption | omega | decide | exact b2i_R _ | exact gR_of (by omega) (by omega)) ?_ | refine if_no (by first | assumption | omega | decide | exact b2i_R _ | exact gR_of (by omega) (by omega)) ?_); (first | refine And.intro (show gR _ from by first | assumption | omega | decide | exact b2i_R _ | exact gR_of (by omega) (by omega)) ?_ | refine And.intro (show gHas _ _ _ from by first | exact gW.has (gD.w (by assumption)) (by omega) | exact gD.has (by assumption) | exact gRu.has (gD.ru (by assumption)) | exact gGr.has (gD.gr (by assumption) _ (by omega))) ?_ | refine gCall_mk (by decide) (by decide) ?_ | refine if_yes (by first | assumption | omega | decide | exact b2i_R _ | exact gR_of (by omega) (by omega)) ?_ | refine if_no (by first | assumption | omega | decide | exact b2i_R _ | exact gR_of (by omega) (by omega)) ?_)
  refine c_wordOf d hy (fun q => by rw [if_neg q] at k; exact k.ex d gFr.rf) (fun v hv e => ?_)
  subst e
  rw [if_pos (show okS (v : Int) by omega), Int.toNat_natCast, ← d.s v hv] at k
  exact s_orderOf d.w (by omega) (by omega) (k.ok d gFr.rf rfl)
def m_isApart (st : GSt) (x y : Int) : Nat × (Int → Prop) × GSt := if okP x y then done st (b2i (decide (unlike (codeW x.toNat) (codeW y.toNat) ≠ -1))) else bad 1 st
theorem c_isApart (d : gD A G h U st) (hx : gR x) (hy : gR y) (k : gRes A G h [eA] X Q (m_isApart st x y)) : w_X5_isApart X (A 22) x y h Q := by
  unfold w_X5_isApart
  (first | refine And.intro (show gR _ from by first | assumption | omega | decide | exact b2i_R _ | exact gR_of (by omega) (by omega)) ?_ | refine And.intro (show gHas _ _ _ from by first | exact gW.has (gD.w (by assumption)) (by omega) | exact gD.has (by assumption) | exact gRu.has (gD.ru (by assumption)) | exact gGr.has (gD.gr (by assumption) _ (by omega))) ?_ | refine gCall_mk (by decide) (by decide) ?_ | refine if_yes (by first | assumption | omega | decide | exact b2i_R _ | exact gR_of (by omega) (by omega)) ?_ | refine if_no (by first | assumption | omega | decide | exact b2i_R _ | exact gR_of (by omega) (by omega)) ?_); (first | refine And.intro (show gR _ from by first | assumption | omega | decide | exact b2i_R _ | exact gR_of (by omega) (by omega)) ?_ | refine And.intro (show gHas _ _ _ from by first | exact gW.has (gD.w (by assumption)) (by omega) | exact gD.has (by assumption) | exact gRu.has (gD.ru (by assumption)) | exact gGr.has (gD.gr (by assumption) _ (by omega))) ?_ | refine gCall_mk (by decide) (by decide) ?_ | refine if_yes (by first | assumption | omega | decide | exact b2i_R _ | exact gR_of (by omega) (by omega)) ?_ | refine if_no (by first | assumption | omega | decide | exact b2i_R _ | exact gR_of (by omega) (by omega)) ?_)
  refine c_takeRule d hx hy (fun q => by rw [m_isApart, if_neg q] at k; exact k.ex d gFr.rf) (fun q h1 d1 s1 => ?_)
  rw [m_isApart, if_pos q] at k
  refine d1.f2 ?_
  (first | refine And.intro (show gR _ from by first | assumption | omega | decide | exact b2i_R _ | exact gR_of (by omega) (by omega)) ?_ | refine And.intro (show gHas _ _ _ from by first | exact gW.has (gD.w (by assumption)) (by omega) | exact gD.has (by assumption) | exact gRu.has (gD.ru (by assumption)) | exact gGr.has (gD.gr (by assumption) _ (by omega))) ?_ | refine gCall_mk (by decide) (by decide) ?_ | refine if_yes (by first | assumption | omega | decide | exact b2i_R _ | exact gR_of (by omega) (by omega)) ?_ | refine if_no (by first | assumption | omega | decide | exact b2i_R _ | exact gR_of (by omega) (by omega)) ?_)
  refine s_keepsApart d1.w d1.ru ?_
  rw [show pu (pu U 9 (codeW x.toNat)) 10 (codeW y.toNat) 9 = codeW x.toNat by rw [pu_ne _ _ (by decide), pu_self], pu_self]
  exact ⟨b2i_nar _, k.ok d1 (gFr.sm s1) rfl⟩
def gWd (ts : List Nat) (b : Bool) : List Bool := if b = true then (grw ts).1 else (grw ts).2
def m_size (st : GSt) (x : Int) (b : Bool) : Nat × (Int → Prop) × GSt := if okG x then done st ((gWd (st.T x.toNat) b).length : Int) else bad 1 st
theorem c_size (d : gD A G h U st) {b : Bool} (hx : gR x) (hy : y = b2i b) (k : gRes A G h [eI] X Q (m_size st x b)) : w_X5_size X (A 22) x y h Q := by
  subst hy
  unfold w_X5_size
  (first | refine And.intro (show gR _ from by first | assumption | omega | decide | exact b2i_R _ | exact gR_of (by omega) (by omega)) ?_ | refine And.intro (show gHas _ _ _ from by first | exact gW.has (gD.w (by assumption)) (by omega) | exact gD.has (by assumption) | exact gRu.has (gD.ru (by assumption)) | exact gGr.has (gD.gr (by assumption) _ (by omega))) ?_ | refine gCall_mk (by decide) (by decide) ?_ | refine if_yes (by first | assumption | omega | decide | exact b2i_R _ | exact gR_of (by omega) (by omega)) ?_ | refine if_no (by first | assumption | omega | decide | exact b2i_R _ | exact gR_of (by omega) (by omega)) ?_); (first | refine And.intro (show gR _ from by first | assumption | omega | decide | exact b2i_R _ | exact gR_of (by omega) (by omega)) ?_ | refine And.intro (show gHas _ _ _ from by first | exact gW.has (gD.w (by assumption)) (by omega) | exact gD.has (by assumption) | exact gRu.has (gD.ru (by assumption)) | exact gGr.has (gD.gr (by assumption) _ (by omega))) ?_ | refine gCall_mk (by decide) (by decide) ?_ | refine if_yes (by first | assumption | omega | decide | exact b2i_R _ | exact gR_of (by omega) (by omega)) ?_ | refine if_no (by first | assumption | omega | decide | exact b2i_R _ | exact gR_of (by omega) (by omega)) ?_)
  refine c_growthOf d hx (fun q => by rw [m_size, if_neg q] at k; exact k.ex d gFr.rf) (fun g hg e => ?_)
  subst e
  rw [m_size, if_pos (show okG (g : Int) by omega), Int.toNat_natCast] at k
  obtain ⟨u1, u2⟩ := d.gw g hg
  (first | refine And.intro (show gR _ from by first | assumption | omega | decide | exact b2i_R _ | exact gR_of (by omega) (by omega)) ?_ | refine And.intro (show gHas _ _ _ from by first | exact gW.has (gD.w (by assumption)) (by omega) | exact gD.has (by assumption) | exact gRu.has (gD.ru (by assumption)) | exact gGr.has (gD.gr (by assumption) _ (by omega))) ?_ | refine gCall_mk (by decide) (by decide) ?_ | refine if_yes (by first | assumption | omega | decide | exact b2i_R _ | exact gR_of (by omega) (by omega)) ?_ | refine if_no (by first | assumption | omega | decide | exact b2i_R _ | exact gR_of (by omega) (by omega)) ?_)
  refine s_wordBy (d.gr g hg) (by cases b <;> simp [b2i]) (fun q => ?_) (fun q => ?_)
  · cases b
    · exact d.w.many (by omega) (k.ok d gFr.rf (by rw [u2]; rfl))
    · exact absurd q (by decide)
  · cases b
    · exact absurd q (by decide)
    · exact d.w.many (by omega) (k.ok d gFr.rf (by rw [u1]; rfl))
def m_ups (st : GSt) (x : Int) (b : Bool) : Nat × (Int → Prop) × GSt := if okG x then done st (ones (gWd (st.T x.toNat) b) : Int) else bad 1 st
theorem c_ups (d : gD A G h U st) {b : Bool} (hx : gR x) (hy : y = b2i b) (k : gRes A G h [eI] X Q (m_ups st x b)) : w_X5_ups X (A 22) x y h Q := by
  subst hy
  unfold w_X5_ups
  (first | refine And.intro (show gR _ from by first | assumption | omega | decide | exact b2i_R _ | exact gR_of (by omega) (by omega)) ?_ | refine And.intro (show gHas _ _ _ from by first | exact gW.has (gD.w (by assumption)) (by omega) | exact gD.has (by assumption) | exact gRu.has (gD.ru (by assumption)) | exact gGr.has (gD.gr (by assumption) _ (by omega))) ?_ | refine gCall_mk (by decide) (by decide) ?_ | refine if_yes (by first | assumption | omega | decide | exact b2i_R _ | exact gR_of (by omega) (by omega)) ?_ | refine if_no (by first | assumption | omega | decide | exact b2i_R _ | exact gR_of (by omega) (by omega)) ?_); (first | refine And.intro (show gR _ from by first | assumption | omega | decide | exact b2i_R _ | exact gR_of (by omega) (by omega)) ?_ | refine And.intro (show gHas _ _ _ from by first | exact gW.has (gD.w (by assumption)) (by omega) | exact gD.has (by assumption) | exact gRu.has (gD.ru (by assumption)) | exact gGr.has (gD.gr (by assumption) _ (by omega))) ?_ | refine gCall_mk (by decide) (by decide) ?_ | refine if_yes (by first | assumption | omega | decide | exact b2i_R _ | exact gR_of (by omega) (by omega)) ?_ | refine if_no (by first | assumption | omega | decide | exact b2i_R _ | exact gR_of (by omega) (by omega)) ?_)
  refine c_growthOf d hx (fun q => by rw [m_ups, if_neg q] at k; exact k.ex d gFr.rf) (fun g hg e => ?_)
  subst e
  rw [m_ups, if_pos (show okG (g : Int) by omega), Int.toNat_natCast] at k
  obtain ⟨u1, u2⟩ := d.gw g hg
  (first | refine And.intro (show gR _ from by first | assumption | omega | decide | exact b2i_R _ | exact gR_of (by omega) (by omega)) ?_ | refine And.intro (show gHas _ _ _ from by first | exact gW.has (gD.w (by assumption)) (by omega) | exact gD.has (by assumption) | exact gRu.has (gD.ru (by assumption)) | exact gGr.has (gD.gr (by assumption) _ (by omega))) ?_ | refine gCall_mk (by decide) (by decide) ?_ | refine if_yes (by first | assumption | omega | decide | exact b2i_R _ | exact gR_of (by omega) (by omega)) ?_ | refine if_no (by first | assumption | omega | decide | exact b2i_R _ | exact gR_of (by omega) (by omega)) ?_)
  refine s_wordBy (d.gr g hg) (by cases b <;> simp [b2i]) (fun q => ?_) (fun q => ?_)
  · cases b
    · exact s_upsOf d.w (by omega) (k.ok d gFr.rf (by rw [u2]; rfl))
    · exact absurd q (by decide)
  · cases b
    · exact absurd q (by decide)
    · exact s_upsOf d.w (by omega) (k.ok d gFr.rf (by rw [u1]; rfl))
def crossG (ts : List Nat) : Int := ((grw ts).2.length : Int) * (ones (grw ts).1 : Int) - ((grw ts).1.length : Int) * (ones (grw ts).2 : Int)
def m_cross (st : GSt) (x : Int) : Nat × (Int → Prop) × GSt := if okG x then done st (crossG (st.T x.toNat)) else bad 1 st
theorem c_cross (d : gD A G h U st) (hx : gR x) (k : gRes A G h [eI] X Q (m_cross st x)) : w_X5_cross X (A 22) x h Q := by
  unfold w_X5_cross
  (first | refine And.intro (show gR _ from by first | assumption | omega | decide | exact b2i_R _ | exact gR_of (by omega) (by omega)) ?_ | refine And.intro (show gHas _ _ _ from by first | exact gW.has (gD.w (by assumption)) (by omega) | exact gD.has (by assumption) | exact gRu.has (gD.ru (by assumption)) | exact gGr.has (gD.gr (by assumption) _ (by omega))) ?_ | refine gCall_mk (by decide) (by decide) ?_ | refine if_yes (by first | assumption | omega | decide | exact b2i_R _ | exact gR_of (by omega) (by omega)) ?_ | refine if_no (by first | assumption | omega | decide | exact b2i_R _ | exact gR_of (by omega) (by omega)) ?_); (first | refine And.intro (show gR _ from by first | assumption | omega | decide | exact b2i_R _ | exact gR_of (by omega) (by omega)) ?_ | refine And.intro (show gHas _ _ _ from by first | exact gW.has (gD.w (by assumption)) (by omega) | exact gD.has (by assumption) | exact gRu.has (gD.ru (by assumption)) | exact gGr.has (gD.gr (by assumption) _ (by omega))) ?_ | refine gCall_mk (by decide) (by decide) ?_ | refine if_yes (by first | assumption | omega | decide | exact b2i_R _ | exact gR_of (by omega) (by omega)) ?_ | refine if_no (by first | assumption | omega | decide | exact b2i_R _ | exact gR_of (by omega) (by omega)) ?_)
  refine c_growthOf d hx (fun q => by rw [m_cross, if_neg q] at k; exact k.ex d gFr.rf) (fun g hg e => ?_)
  subst e
  rw [m_cross, if_pos (show okG (g : Int) by omega), Int.toNat_natCast] at k
  obtain ⟨u1, u2⟩ := d.gw g hg
  have hr := d.gr g hg
  refine hr.yo (d.w.many (by omega) (hr.el (s_upsOf d.w (by omega) (hr.el (d.w.many (by omega) (hr.yo (s_upsOf d.w (by omega) (k.ok d gFr.rf ?_))))))))
  rw [u1, u2]; rfl
def m_alike (st : GSt) (x : Int) : Nat × (Int → Prop) × GSt := if okG x then done st (unlike (grw (st.T x.toNat)).2 (grw (st.T x.toNat)).1) else bad 1 st
theorem c_alike (d : gD A G h U st) (hx : gR x) (k : gRes A G h [eI] X Q (m_alike st x)) : w_X5_alike X (A 22) x h Q := by
  unfold w_X5_alike
  (first | refine And.intro (show gR _ from by first | assumption | omega | decide | exact b2i_R _ | exact gR_of (by omega) (by omega)) ?_ | refine And.intro (show gHas _ _ _ from by first | exact gW.has (gD.w (by assumption)) (by omega) | exact gD.has (by assumption) | exact gRu.has (gD.ru (by assumption)) | exact gGr.has (gD.gr (by assumption) _ (by omega))) ?_ | refine gCall_mk (by decide) (by decide) ?_ | refine if_yes (by first | assumption | omega | decide | exact b2i_R _ | exact gR_of (by omega) (by omega)) ?_ | refine if_no (by first | assumption | omega | decide | exact b2i_R _ | exact gR_of (by omega) (by omega)) ?_); (first | refine And.intro (show gR _ from by first | assumption | omega | decide | exact b2i_R _ | exact gR_of (by omega) (by omega)) ?_ | refine And.intro (show gHas _ _ _ from by first | exact gW.has (gD.w (by assumption)) (by omega) | exact gD.has (by assumption) | exact gRu.has (gD.ru (by assumption)) | exact gGr.has (gD.gr (by assumption) _ (by omega))) ?_ | refine gCall_mk (by decide) (by decide) ?_ | refine if_yes (by first | assumption | omega | decide | exact b2i_R _ | exact gR_of (by omega) (by omega)) ?_ | refine if_no (by first | assumption | omega | decide | exact b2i_R _ | exact gR_of (by omega) (by omega)) ?_)
  refine c_growthOf d hx (fun q => by rw [m_alike, if_neg q] at k; exact k.ex d gFr.rf) (fun g hg e => ?_)
  subst e
  rw [m_alike, if_pos (show okG (g : Int) by omega), Int.toNat_natCast] at k
  obtain ⟨u1, u2⟩ := d.gw g hg
  have hr := d.gr g hg
  refine hr.yo (hr.el (s_unlike d.w (by omega) (by omega) (k.ok d gFr.rf ?_)))
  rw [u1, u2]
def m_house (st : GSt) (x : Int) : Nat × (Int → Prop) × GSt := if 0 ≤ x ∧ x ≤ 3 then done st (st.C x.toNat) else bad 1 st
theorem c_house (d : gD A G h U st) (hx : gR x) (k : gRes A G h [eA] X Q (m_house st x)) : w_X5_house X (A 22) x h Q := by
  unfold w_X5_house
  have bd : ¬ (0 ≤ x ∧ x ≤ 3) → w_X5_house_J13 X Q (A 22) x h 1 6 := fun q => by
    rw [m_house, if_neg q] at k
    unfold w_X5_house_J13 w_X5_house_J14
    (first | refine And.intro (show gR _ from by first | assumption | omega | decide | exact b2i_R _ | exact gR_of (by omega) (by omega)) ?_ | refine And.intro (show gHas _ _ _ from by first | exact gW.has (gD.w (by assumption)) (by omega) | exact gD.has (by assumption) | exact gRu.has (gD.ru (by assumption)) | exact gGr.has (gD.gr (by assumption) _ (by omega))) ?_ | refine gCall_mk (by decide) (by decide) ?_ | refine if_yes (by first | assumption | omega | decide | exact b2i_R _ | exact gR_of (by omega) (by omega)) ?_ | refine if_no (by first | assumption | omega | decide | exact b2i_R _ | exact gR_of (by omega) (by omega)) ?_)
    exact c_nA0 (k.ex d gFr.rf)
  (first | refine And.intro (show gR _ from by first | assumption | omega | decide | exact b2i_R _ | exact gR_of (by omega) (by omega)) ?_ | refine And.intro (show gHas _ _ _ from by first | exact gW.has (gD.w (by assumption)) (by omega) | exact gD.has (by assumption) | exact gRu.has (gD.ru (by assumption)) | exact gGr.has (gD.gr (by assumption) _ (by omega))) ?_ | refine gCall_mk (by decide) (by decide) ?_ | refine if_yes (by first | assumption | omega | decide | exact b2i_R _ | exact gR_of (by omega) (by omega)) ?_ | refine if_no (by first | assumption | omega | decide | exact b2i_R _ | exact gR_of (by omega) (by omega)) ?_)
  by_cases q1 : x < 0
  · exact if_yes q1 (bd (by omega))
  (first | refine And.intro (show gR _ from by first | assumption | omega | decide | exact b2i_R _ | exact gR_of (by omega) (by omega)) ?_ | refine And.intro (show gHas _ _ _ from by first | exact gW.has (gD.w (by assumption)) (by omega) | exact gD.has (by assumption) | exact gRu.has (gD.ru (by assumption)) | exact gGr.has (gD.gr (by assumption) _ (by omega))) ?_ | refine gCall_mk (by decide) (by decide) ?_ | refine if_yes (by first | assumption | omega | decide | exact b2i_R _ | exact gR_of (by omega) (by omega)) ?_ | refine if_no (by first | assumption | omega | decide | exact b2i_R _ | exact gR_of (by omega) (by omega)) ?_); (first | refine And.intro (show gR _ from by first | assumption | omega | decide | exact b2i_R _ | exact gR_of (by omega) (by omega)) ?_ | refine And.intro (show gHas _ _ _ from by first | exact gW.has (gD.w (by assumption)) (by omega) | exact gD.has (by assumption) | exact gRu.has (gD.ru (by assumption)) | exact gGr.has (gD.gr (by assumption) _ (by omega))) ?_ | refine gCall_mk (by decide) (by decide) ?_ | refine if_yes (by first | assumption | omega | decide | exact b2i_R _ | exact gR_of (by omega) (by omega)) ?_ | refine if_no (by first | assumption | omega | decide | exact b2i_R _ | exact gR_of (by omega) (by omega)) ?_)
  by_cases q2 : 3 < x
  · exact if_yes q2 (bd (by omega))
  (first | refine And.intro (show gR _ from by first | assumption | omega | decide | exact b2i_R _ | exact gR_of (by omega) (by omega)) ?_ | refine And.intro (show gHas _ _ _ from by first | exact gW.has (gD.w (by assumption)) (by omega) | exact gD.has (by assumption) | exact gRu.has (gD.ru (by assumption)) | exact gGr.has (gD.gr (by assumption) _ (by omega))) ?_ | refine gCall_mk (by decide) (by decide) ?_ | refine if_yes (by first | assumption | omega | decide | exact b2i_R _ | exact gR_of (by omega) (by omega)) ?_ | refine if_no (by first | assumption | omega | decide | exact b2i_R _ | exact gR_of (by omega) (by omega)) ?_)
  rw [m_house, if_pos ⟨by omega, by omega⟩] at k
  unfold w_X5_house_J14
  (first | refine And.intro (show gR _ from by first | assumption | omega | decide | exact b2i_R _ | exact gR_of (by omega) (by omega)) ?_ | refine And.intro (show gHas _ _ _ from by first | exact gW.has (gD.w (by assumption)) (by omega) | exact gD.has (by assumption) | exact gRu.has (gD.ru (by assumption)) | exact gGr.has (gD.gr (by assumption) _ (by omega))) ?_ | refine gCall_mk (by decide) (by decide) ?_ | refine if_yes (by first | assumption | omega | decide | exact b2i_R _ | exact gR_of (by omega) (by omega)) ?_ | refine if_no (by first | assumption | omega | decide | exact b2i_R _ | exact gR_of (by omega) (by omega)) ?_)
  refine c_nA1 ?_
  (first | refine And.intro (show gR _ from by first | assumption | omega | decide | exact b2i_R _ | exact gR_of (by omega) (by omega)) ?_ | refine And.intro (show gHas _ _ _ from by first | exact gW.has (gD.w (by assumption)) (by omega) | exact gD.has (by assumption) | exact gRu.has (gD.ru (by assumption)) | exact gGr.has (gD.gr (by assumption) _ (by omega))) ?_ | refine gCall_mk (by decide) (by decide) ?_ | refine if_yes (by first | assumption | omega | decide | exact b2i_R _ | exact gR_of (by omega) (by omega)) ?_ | refine if_no (by first | assumption | omega | decide | exact b2i_R _ | exact gR_of (by omega) (by omega)) ?_)
  by_cases c0 : x = 0
  · subst c0; exact if_yes rfl (d.cn (i := 0) rfl (by decide) (k.ok d gFr.rf rfl))
  refine if_no c0 ?_
  (first | refine And.intro (show gR _ from by first | assumption | omega | decide | exact b2i_R _ | exact gR_of (by omega) (by omega)) ?_ | refine And.intro (show gHas _ _ _ from by first | exact gW.has (gD.w (by assumption)) (by omega) | exact gD.has (by assumption) | exact gRu.has (gD.ru (by assumption)) | exact gGr.has (gD.gr (by assumption) _ (by omega))) ?_ | refine gCall_mk (by decide) (by decide) ?_ | refine if_yes (by first | assumption | omega | decide | exact b2i_R _ | exact gR_of (by omega) (by omega)) ?_ | refine if_no (by first | assumption | omega | decide | exact b2i_R _ | exact gR_of (by omega) (by omega)) ?_)
  by_cases c1 : x = 1
  · subst c1; exact if_yes rfl (d.cn (i := 1) rfl (by decide) (k.ok d gFr.rf rfl))
  refine if_no c1 ?_
  (first | refine And.intro (show gR _ from by first | assumption | omega | decide | exact b2i_R _ | exact gR_of (by omega) (by omega)) ?_ | refine And.intro (show gHas _ _ _ from by first | exact gW.has (gD.w (by assumption)) (by omega) | exact gD.has (by assumption) | exact gRu.has (gD.ru (by assumption)) | exact gGr.has (gD.gr (by assumption) _ (by omega))) ?_ | refine gCall_mk (by decide) (by decide) ?_ | refine if_yes (by first | assumption | omega | decide | exact b2i_R _ | exact gR_of (by omega) (by omega)) ?_ | refine if_no (by first | assumption | omega | decide | exact b2i_R _ | exact gR_of (by omega) (by omega)) ?_)
  by_cases c2 : x = 2
  · subst c2; exact if_yes rfl (d.cn (i := 2) rfl (by decide) (k.ok d gFr.rf rfl))
  refine if_no c2 ?_
  obtain rfl : x = 3 := by omega
  exact d.cn (i := 3) rfl (by decide) (k.ok d gFr.rf rfl)
end CR
/-! The garden as a whole: isSound, digest. -/
section CW
variable {A : Nat → Nat} {G : gaG} {h : gaH} {U : Nat → List Bool} {st : GSt} {X : String → gaH → Prop} {Q : Int → gaH → Prop} {w v g : Nat} {x y z : Int}
theorem gRes.mk {E : List String} {P : Int → Prop} {st' : GSt} (k : ∀ h' U' r, gD A G h' U' st' → gFr A h h' → P r → Q r h') : gRes A G h E X Q (0, P, st') := fun h' U' d f => ⟨fun _ r hr => k h' U' r d f hr, fun q => absurd rfl q⟩
theorem cc_count (d : gD A G h U st) (hw : w < 3) {b : Bool} (hx : x = (w : Int)) (hy : y = b2i b) (k : Q (if b = true then (ones (U w) : Int) else ((U w).length : Int) - (ones (U w) : Int)) h) : w_X5_count X (A 22) x y h Q := by
  subst hy; subst hx
  unfold w_X5_count
  (first | refine And.intro (show gR _ from by first | assumption | omega | decide | exact b2i_R _ | exact gR_of (by omega) (by omega)) ?_ | refine And.intro (show gHas _ _ _ from by first | exact gW.has (gD.w (by assumption)) (by omega) | exact gD.has (by assumption) | exact gRu.has (gD.ru (by assumption)) | exact gGr.has (gD.gr (by assumption) _ (by omega))) ?_ | refine gCall_mk (by decide) (by decide) ?_ | refine if_yes (by first | assumption | omega | decide | exact b2i_R _ | exact gR_of (by omega) (by omega)) ?_ | refine if_no (by first | assumption | omega | decide | exact b2i_R _ | exact gR_of (by omega) (by omega)) ?_); (first | refine And.intro (show gR _ from by first | assumption | omega | decide | exact b2i_R _ | exact gR_of (by omega) (by omega)) ?_ | refine And.intro (show gHas _ _ _ from by first | exact gW.has (gD.w (by assumption)) (by omega) | exact gD.has (by assumption) | exact gRu.has (gD.ru (by assumption)) | exact gGr.has (gD.gr (by assumption) _ (by omega))) ?_ | refine gCall_mk (by decide) (by decide) ?_ | refine if_yes (by first | assumption | omega | decide | exact b2i_R _ | exact gR_of (by omega) (by omega)) ?_ | refine if_no (by first | assumption | omega | decide | exact b2i_R _ | exact gR_of (by omega) (by omega)) ?_)
  refine c_wordOf d (by omega) (fun q => absurd (show okS (w : Int) by omega) q) (fun v hv e => ?_)
  obtain rfl : w = v := by omega
  refine s_upsOf d.w (show w < 11 by omega) ?_
  (first | refine And.intro (show gR _ from by first | assumption | omega | decide | exact b2i_R _ | exact gR_of (by omega) (by omega)) ?_ | refine And.intro (show gHas _ _ _ from by first | exact gW.has (gD.w (by assumption)) (by omega) | exact gD.has (by assumption) | exact gRu.has (gD.ru (by assumption)) | exact gGr.has (gD.gr (by assumption) _ (by omega))) ?_ | refine gCall_mk (by decide) (by decide) ?_ | refine if_yes (by first | assumption | omega | decide | exact b2i_R _ | exact gR_of (by omega) (by omega)) ?_ | refine if_no (by first | assumption | omega | decide | exact b2i_R _ | exact gR_of (by omega) (by omega)) ?_)
  cases b
  · exact if_yes rfl (d.w.many (by omega) k)
  · exact if_no (by decide) k
theorem cc_cross (d : gD A G h U st) (hg : g < 2) (hx : x = (g : Int)) (k : Q (crossG (st.T g)) h) : w_X5_cross X (A 22) x h Q := by
  subst hx
  unfold w_X5_cross
  (first | refine And.intro (show gR _ from by first | assumption | omega | decide | exact b2i_R _ | exact gR_of (by omega) (by omega)) ?_ | refine And.intro (show gHas _ _ _ from by first | exact gW.has (gD.w (by assumption)) (by omega) | exact gD.has (by assumption) | exact gRu.has (gD.ru (by assumption)) | exact gGr.has (gD.gr (by assumption) _ (by omega))) ?_ | refine gCall_mk (by decide) (by decide) ?_ | refine if_yes (by first | assumption | omega | decide | exact b2i_R _ | exact gR_of (by omega) (by omega)) ?_ | refine if_no (by first | assumption | omega | decide | exact b2i_R _ | exact gR_of (by omega) (by omega)) ?_); (first | refine And.intro (show gR _ from by first | assumption | omega | decide | exact b2i_R _ | exact gR_of (by omega) (by omega)) ?_ | refine And.intro (show gHas _ _ _ from by first | exact gW.has (gD.w (by assumption)) (by omega) | exact gD.has (by assumption) | exact gRu.has (gD.ru (by assumption)) | exact gGr.has (gD.gr (by assumption) _ (by omega))) ?_ | refine gCall_mk (by decide) (by decide) ?_ | refine if_yes (by first | assumption | omega | decide | exact b2i_R _ | exact gR_of (by omega) (by omega)) ?_ | refine if_no (by first | assumption | omega | decide | exact b2i_R _ | exact gR_of (by omega) (by omega)) ?_)
  refine c_growthOf d (by omega) (fun q => absurd (show okG (g : Int) by omega) q) (fun v hv e => ?_)
  obtain rfl : g = v := by omega
  obtain ⟨u1, u2⟩ := d.gw g hg
  have hr := d.gr g hg
  refine hr.yo (d.w.many (by omega) (hr.el (s_upsOf d.w (by omega) (hr.el (d.w.many (by omega) (hr.yo (s_upsOf d.w (by omega) ?_)))))))
  rw [u1, u2]; exact k
theorem cc_alike (d : gD A G h U st) (hg : g < 2) (hx : x = (g : Int)) (k : Q (unlike (grw (st.T g)).2 (grw (st.T g)).1) h) : w_X5_alike X (A 22) x h Q := by
  subst hx
  unfold w_X5_alike
  (first | refine And.intro (show gR _ from by first | assumption | omega | decide | exact b2i_R _ | exact gR_of (by omega) (by omega)) ?_ | refine And.intro (show gHas _ _ _ from by first | exact gW.has (gD.w (by assumption)) (by omega) | exact gD.has (by assumption) | exact gRu.has (gD.ru (by assumption)) | exact gGr.has (gD.gr (by assumption) _ (by omega))) ?_ | refine gCall_mk (by decide) (by decide) ?_ | refine if_yes (by first | assumption | omega | decide | exact b2i_R _ | exact gR_of (by omega) (by omega)) ?_ | refine if_no (by first | assumption | omega | decide | exact b2i_R _ | exact gR_of (by omega) (by omega)) ?_); (first | refine And.intro (show gR _ from by first | assumption | omega | decide | exact b2i_R _ | exact gR_of (by omega) (by omega)) ?_ | refine And.intro (show gHas _ _ _ from by first | exact gW.has (gD.w (by assumption)) (by omega) | exact gD.has (by assumption) | exact gRu.has (gD.ru (by assumption)) | exact gGr.has (gD.gr (by assumption) _ (by omega))) ?_ | refine gCall_mk (by decide) (by decide) ?_ | refine if_yes (by first | assumption | omega | decide | exact b2i_R _ | exact gR_of (by omega) (by omega)) ?_ | refine if_no (by first | assumption | omega | decide | exact b2i_R _ | exact gR_of (by omega) (by omega)) ?_)
  refine c_growthOf d (by omega) (fun q => absurd (show okG (g : Int) by omega) q) (fun v hv e => ?_)
  obtain rfl : g = v := by omega
  obtain ⟨u1, u2⟩ := d.gw g hg
  have hr := d.gr g hg
  refine hr.yo (hr.el (s_unlike d.w (by omega) (by omega) ?_))
  rw [u1, u2]; exact k
theorem s_sheetSound (d : gD A G h U st) (hw : w < 3) (hx : x = (w : Int)) (k : ∀ h' U', gD A G h' U' st → gFr A h h' → Q 1 h') : w_X5_isSheetSound X (A 22) x h Q := by
  subst hx
  have l1 := d.w.le (show w < 11 by omega)
  have l2 := ones_le (U w)
  unfold w_X5_isSheetSound
  (first | refine And.intro (show gR _ from by first | assumption | omega | decide | exact b2i_R _ | exact gR_of (by omega) (by omega)) ?_ | refine And.intro (show gHas _ _ _ from by first | exact gW.has (gD.w (by assumption)) (by omega) | exact gD.has (by assumption) | exact gRu.has (gD.ru (by assumption)) | exact gGr.has (gD.gr (by assumption) _ (by omega))) ?_ | refine gCall_mk (by decide) (by decide) ?_ | refine if_yes (by first | assumption | omega | decide | exact b2i_R _ | exact gR_of (by omega) (by omega)) ?_ | refine if_no (by first | assumption | omega | decide | exact b2i_R _ | exact gR_of (by omega) (by omega)) ?_); (first | refine And.intro (show gR _ from by first | assumption | omega | decide | exact b2i_R _ | exact gR_of (by omega) (by omega)) ?_ | refine And.intro (show gHas _ _ _ from by first | exact gW.has (gD.w (by assumption)) (by omega) | exact gD.has (by assumption) | exact gRu.has (gD.ru (by assumption)) | exact gGr.has (gD.gr (by assumption) _ (by omega))) ?_ | refine gCall_mk (by decide) (by decide) ?_ | refine if_yes (by first | assumption | omega | decide | exact b2i_R _ | exact gR_of (by omega) (by omega)) ?_ | refine if_no (by first | assumption | omega | decide | exact b2i_R _ | exact gR_of (by omega) (by omega)) ?_)
  refine c_wordOf d (by omega) (fun q => absurd (show okS (w : Int) by omega) q) (fun v hv e => ?_)
  obtain rfl : w = v := by omega
  refine d.f3 ?_
  (first | refine And.intro (show gR _ from by first | assumption | omega | decide | exact b2i_R _ | exact gR_of (by omega) (by omega)) ?_ | refine And.intro (show gHas _ _ _ from by first | exact gW.has (gD.w (by assumption)) (by omega) | exact gD.has (by assumption) | exact gRu.has (gD.ru (by assumption)) | exact gGr.has (gD.gr (by assumption) _ (by omega))) ?_ | refine gCall_mk (by decide) (by decide) ?_ | refine if_yes (by first | assumption | omega | decide | exact b2i_R _ | exact gR_of (by omega) (by omega)) ?_ | refine if_no (by first | assumption | omega | decide | exact b2i_R _ | exact gR_of (by omega) (by omega)) ?_)
  refine v_takeTurned d.w (show 3 < 11 by decide) (show w < 11 by omega) (by omega) (fun h1 V1 w1 s1 e1 o1 => ?_)
  have d1 := d.b w1 s1 (fun v hv => o1 _ (by omega)) (fun v h5 _ => o1 _ (by omega))
  refine d1.f4 (d1.f3 ?_)
  (first | refine And.intro (show gR _ from by first | assumption | omega | decide | exact b2i_R _ | exact gR_of (by omega) (by omega)) ?_ | refine And.intro (show gHas _ _ _ from by first | exact gW.has (gD.w (by assumption)) (by omega) | exact gD.has (by assumption) | exact gRu.has (gD.ru (by assumption)) | exact gGr.has (gD.gr (by assumption) _ (by omega))) ?_ | refine gCall_mk (by decide) (by decide) ?_ | refine if_yes (by first | assumption | omega | decide | exact b2i_R _ | exact gR_of (by omega) (by omega)) ?_ | refine if_no (by first | assumption | omega | decide | exact b2i_R _ | exact gR_of (by omega) (by omega)) ?_)
  refine v_takeTurned d1.w (show 4 < 11 by decide) (show 3 < 11 by decide) (by omega) (fun h2 V2 w2 s2 e2 o2 => ?_)
  have d2 := d1.b w2 s2 (fun v hv => o2 _ (by omega)) (fun v h5 _ => o2 _ (by omega))
  have a2 : V2 w = U w := (o2 w (by omega)).trans (o1 w (by omega))
  refine d2.w.many (show w < 11 by omega) ?_
  rw [a2]
  (first | refine And.intro (show gR _ from by first | assumption | omega | decide | exact b2i_R _ | exact gR_of (by omega) (by omega)) ?_ | refine And.intro (show gHas _ _ _ from by first | exact gW.has (gD.w (by assumption)) (by omega) | exact gD.has (by assumption) | exact gRu.has (gD.ru (by assumption)) | exact gGr.has (gD.gr (by assumption) _ (by omega))) ?_ | refine gCall_mk (by decide) (by decide) ?_ | refine if_yes (by first | assumption | omega | decide | exact b2i_R _ | exact gR_of (by omega) (by omega)) ?_ | refine if_no (by first | assumption | omega | decide | exact b2i_R _ | exact gR_of (by omega) (by omega)) ?_); (first | refine And.intro (show gR _ from by first | assumption | omega | decide | exact b2i_R _ | exact gR_of (by omega) (by omega)) ?_ | refine And.intro (show gHas _ _ _ from by first | exact gW.has (gD.w (by assumption)) (by omega) | exact gD.has (by assumption) | exact gRu.has (gD.ru (by assumption)) | exact gGr.has (gD.gr (by assumption) _ (by omega))) ?_ | refine gCall_mk (by decide) (by decide) ?_ | refine if_yes (by first | assumption | omega | decide | exact b2i_R _ | exact gR_of (by omega) (by omega)) ?_ | refine if_no (by first | assumption | omega | decide | exact b2i_R _ | exact gR_of (by omega) (by omega)) ?_); (first | refine And.intro (show gR _ from by first | assumption | omega | decide | exact b2i_R _ | exact gR_of (by omega) (by omega)) ?_ | refine And.intro (show gHas _ _ _ from by first | exact gW.has (gD.w (by assumption)) (by omega) | exact gD.has (by assumption) | exact gRu.has (gD.ru (by assumption)) | exact gGr.has (gD.gr (by assumption) _ (by omega))) ?_ | refine gCall_mk (by decide) (by decide) ?_ | refine if_yes (by first | assumption | omega | decide | exact b2i_R _ | exact gR_of (by omega) (by omega)) ?_ | refine if_no (by first | assumption | omega | decide | exact b2i_R _ | exact gR_of (by omega) (by omega)) ?_); (first | refine And.intro (show gR _ from by first | assumption | omega | decide | exact b2i_R _ | exact gR_of (by omega) (by omega)) ?_ | refine And.intro (show gHas _ _ _ from by first | exact gW.has (gD.w (by assumption)) (by omega) | exact gD.has (by assumption) | exact gRu.has (gD.ru (by assumption)) | exact gGr.has (gD.gr (by assumption) _ (by omega))) ?_ | refine gCall_mk (by decide) (by decide) ?_ | refine if_yes (by first | assumption | omega | decide | exact b2i_R _ | exact gR_of (by omega) (by omega)) ?_ | refine if_no (by first | assumption | omega | decide | exact b2i_R _ | exact gR_of (by omega) (by omega)) ?_)
  refine cc_count d2 hw (b := false) rfl rfl ?_
  (first | refine And.intro (show gR _ from by first | assumption | omega | decide | exact b2i_R _ | exact gR_of (by omega) (by omega)) ?_ | refine And.intro (show gHas _ _ _ from by first | exact gW.has (gD.w (by assumption)) (by omega) | exact gD.has (by assumption) | exact gRu.has (gD.ru (by assumption)) | exact gGr.has (gD.gr (by assumption) _ (by omega))) ?_ | refine gCall_mk (by decide) (by decide) ?_ | refine if_yes (by first | assumption | omega | decide | exact b2i_R _ | exact gR_of (by omega) (by omega)) ?_ | refine if_no (by first | assumption | omega | decide | exact b2i_R _ | exact gR_of (by omega) (by omega)) ?_); (first | refine And.intro (show gR _ from by first | assumption | omega | decide | exact b2i_R _ | exact gR_of (by omega) (by omega)) ?_ | refine And.intro (show gHas _ _ _ from by first | exact gW.has (gD.w (by assumption)) (by omega) | exact gD.has (by assumption) | exact gRu.has (gD.ru (by assumption)) | exact gGr.has (gD.gr (by assumption) _ (by omega))) ?_ | refine gCall_mk (by decide) (by decide) ?_ | refine if_yes (by first | assumption | omega | decide | exact b2i_R _ | exact gR_of (by omega) (by omega)) ?_ | refine if_no (by first | assumption | omega | decide | exact b2i_R _ | exact gR_of (by omega) (by omega)) ?_)
  refine cc_count d2 hw (b := true) rfl rfl (d2.w.many (show w < 11 by omega) ?_)
  rw [a2, if_neg (by decide), if_pos rfl]
  (first | refine And.intro (show gR _ from by first | assumption | omega | decide | exact b2i_R _ | exact gR_of (by omega) (by omega)) ?_ | refine And.intro (show gHas _ _ _ from by first | exact gW.has (gD.w (by assumption)) (by omega) | exact gD.has (by assumption) | exact gRu.has (gD.ru (by assumption)) | exact gGr.has (gD.gr (by assumption) _ (by omega))) ?_ | refine gCall_mk (by decide) (by decide) ?_ | refine if_yes (by first | assumption | omega | decide | exact b2i_R _ | exact gR_of (by omega) (by omega)) ?_ | refine if_no (by first | assumption | omega | decide | exact b2i_R _ | exact gR_of (by omega) (by omega)) ?_); (first | refine And.intro (show gR _ from by first | assumption | omega | decide | exact b2i_R _ | exact gR_of (by omega) (by omega)) ?_ | refine And.intro (show gHas _ _ _ from by first | exact gW.has (gD.w (by assumption)) (by omega) | exact gD.has (by assumption) | exact gRu.has (gD.ru (by assumption)) | exact gGr.has (gD.gr (by assumption) _ (by omega))) ?_ | refine gCall_mk (by decide) (by decide) ?_ | refine if_yes (by first | assumption | omega | decide | exact b2i_R _ | exact gR_of (by omega) (by omega)) ?_ | refine if_no (by first | assumption | omega | decide | exact b2i_R _ | exact gR_of (by omega) (by omega)) ?_)
  refine if_yes (by omega) (d2.f4 (s_orderOf d2.w (show w < 11 by omega) (by decide) ?_))
  rw [a2, e2, e1, List.reverse_reverse, (cmpL_eq _ _).mpr rfl]
  (first | refine And.intro (show gR _ from by first | assumption | omega | decide | exact b2i_R _ | exact gR_of (by omega) (by omega)) ?_ | refine And.intro (show gHas _ _ _ from by first | exact gW.has (gD.w (by assumption)) (by omega) | exact gD.has (by assumption) | exact gRu.has (gD.ru (by assumption)) | exact gGr.has (gD.gr (by assumption) _ (by omega))) ?_ | refine gCall_mk (by decide) (by decide) ?_ | refine if_yes (by first | assumption | omega | decide | exact b2i_R _ | exact gR_of (by omega) (by omega)) ?_ | refine if_no (by first | assumption | omega | decide | exact b2i_R _ | exact gR_of (by omega) (by omega)) ?_); (first | refine And.intro (show gR _ from by first | assumption | omega | decide | exact b2i_R _ | exact gR_of (by omega) (by omega)) ?_ | refine And.intro (show gHas _ _ _ from by first | exact gW.has (gD.w (by assumption)) (by omega) | exact gD.has (by assumption) | exact gRu.has (gD.ru (by assumption)) | exact gGr.has (gD.gr (by assumption) _ (by omega))) ?_ | refine gCall_mk (by decide) (by decide) ?_ | refine if_yes (by first | assumption | omega | decide | exact b2i_R _ | exact gR_of (by omega) (by omega)) ?_ | refine if_no (by first | assumption | omega | decide | exact b2i_R _ | exact gR_of (by omega) (by omega)) ?_)
  exact k h2 V2 d2 ((gFr.sm s1).tr (gFr.sm s2))
def soundB (ts : List Nat) : Bool := decide (byL ts = (grw ts).2) && (decide (crossG ts = if ts.length % 2 = 0 then 1 else -1) && decide (unlike (grw ts).2 (grw ts).1 = ((grw ts).2.length : Int) + ((grw ts).1.length : Int) - 2))
theorem crossG_R {ts : List Nat} (hok : gOk ts) : -10000 ≤ crossG ts ∧ crossG ts ≤ 10000 := by
  have h1 := hok.2
  have h2 := hok.elder
  have h3 := ones_le (grw ts).1
  have h4 := ones_le (grw ts).2
  have a1 : (grw ts).2.length * ones (grw ts).1 ≤ 64 * 64 := Nat.mul_le_mul h1 (by omega)
  have a2 : (grw ts).1.length * ones (grw ts).2 ≤ 64 * 64 := Nat.mul_le_mul h2 (by omega)
  unfold crossG
  have e1 : ((grw ts).2.length : Int) * (ones (grw ts).1 : Int) = (((grw ts).2.length * ones (grw ts).1 : Nat) : Int) := by push_cast; rfl
  have e2 : ((grw ts).1.length : Int) * (ones (grw ts).2 : Int) = (((grw ts).1.length * ones (grw ts).2 : Nat) : Int) := by push_cast; rfl
  rw [e1, e2]
  omega
theorem unlike_R {u v : List Bool} (h1 : u.length ≤ 64) (h2 : v.length ≤ 64) : -1 ≤ unlike u v ∧ unlike u v ≤ 1000 := unl_R u v _ 0 (by simp; omega)
theorem s_growthSound (d : gD A G h U st) (hg : g < 2) (hx : x = (g : Int)) (k : ∀ h' U', gD A G h' U' st → gFr A h h' → Q (b2i (soundB (st.T g))) h') : w_X5_isGrowthSound G X (A 22) x h Q := by
  subst hx
  have ho := d.ok g hg
  have hl := ho.len
  have l1 := ho.2
  have l2 := ho.elder
  have r1 := crossG_R ho
  have r2 := unlike_R l1 l2
  unfold w_X5_isGrowthSound
  (first | refine And.intro (show gR _ from by first | assumption | omega | decide | exact b2i_R _ | exact gR_of (by omega) (by omega)) ?_ | refine And.intro (show gHas _ _ _ from by first | exact gW.has (gD.w (by assumption)) (by omega) | exact gD.has (by assumption) | exact gRu.has (gD.ru (by assumption)) | exact gGr.has (gD.gr (by assumption) _ (by omega))) ?_ | refine gCall_mk (by decide) (by decide) ?_ | refine if_yes (by first | assumption | omega | decide | exact b2i_R _ | exact gR_of (by omega) (by omega)) ?_ | refine if_no (by first | assumption | omega | decide | exact b2i_R _ | exact gR_of (by omega) (by omega)) ?_); (first | refine And.intro (show gR _ from by first | assumption | omega | decide | exact b2i_R _ | exact gR_of (by omega) (by omega)) ?_ | refine And.intro (show gHas _ _ _ from by first | exact gW.has (gD.w (by assumption)) (by omega) | exact gD.has (by assumption) | exact gRu.has (gD.ru (by assumption)) | exact gGr.has (gD.gr (by assumption) _ (by omega))) ?_ | refine gCall_mk (by decide) (by decide) ?_ | refine if_yes (by first | assumption | omega | decide | exact b2i_R _ | exact gR_of (by omega) (by omega)) ?_ | refine if_no (by first | assumption | omega | decide | exact b2i_R _ | exact gR_of (by omega) (by omega)) ?_)
  refine c_growthOf d (by omega) (fun q => absurd (show okG (g : Int) by omega) q) (fun v hv e => ?_)
  obtain rfl : g = v := by omega
  refine (d.gr g hg).ct ?_
  have e0 : gRem ((st.T g).length : Int) 2 = (((st.T g).length % 2 : Nat) : Int) := gRem_nat (b := 2) (by omega) (by decide)
  rw [e0]
  (first | refine And.intro (show gR _ from by first | assumption | omega | decide | exact b2i_R _ | exact gR_of (by omega) (by omega)) ?_ | refine And.intro (show gHas _ _ _ from by first | exact gW.has (gD.w (by assumption)) (by omega) | exact gD.has (by assumption) | exact gRu.has (gD.ru (by assumption)) | exact gGr.has (gD.gr (by assumption) _ (by omega))) ?_ | refine gCall_mk (by decide) (by decide) ?_ | refine if_yes (by first | assumption | omega | decide | exact b2i_R _ | exact gR_of (by omega) (by omega)) ?_ | refine if_no (by first | assumption | omega | decide | exact b2i_R _ | exact gR_of (by omega) (by omega)) ?_)
  have main : ∀ t0 : Int, t0 = (if (st.T g).length % 2 = 0 then 1 else -1) → w_X5_isGrowthSound_J20 G X Q (A 22) (g : Int) (A (26 + g)) t0 h 2 12 := by
    intro t0 ht
    have hr := d.gr g hg
    unfold w_X5_isGrowthSound_J20
    refine hr.yo (d.w.many (by omega) (hr.el (d.w.many (by omega) (d.f4 (d.f3 (d.f2 ?_))))))
    (first | refine And.intro (show gR _ from by first | assumption | omega | decide | exact b2i_R _ | exact gR_of (by omega) (by omega)) ?_ | refine And.intro (show gHas _ _ _ from by first | exact gW.has (gD.w (by assumption)) (by omega) | exact gD.has (by assumption) | exact gRu.has (gD.ru (by assumption)) | exact gGr.has (gD.gr (by assumption) _ (by omega))) ?_ | refine gCall_mk (by decide) (by decide) ?_ | refine if_yes (by first | assumption | omega | decide | exact b2i_R _ | exact gR_of (by omega) (by omega)) ?_ | refine if_no (by first | assumption | omega | decide | exact b2i_R _ | exact gR_of (by omega) (by omega)) ?_)
    obtain ⟨u1, u2⟩ := d.gw g hg
    rw [u1, u2]
    refine s_layByRules hg d.w hr d.ru ho d.ne d.mc (show 4 ≠ 3 by omega) (by omega) (by omega) (fun h1 V1 w1 o1 e1 s1 => ?_)
    have d1 := d.b w1 s1 (fun v hv => o1 _ (by omega) (by omega) (by omega) (by omega)) (fun v h5 _ => o1 _ (by omega) (by omega) (by omega) (by omega))
    have hr1 := d1.gr g hg
    obtain ⟨v1, v2⟩ := d1.gw g hg
    refine hr1.yo (d1.f4 (s_orderOf d1.w (by omega) (by omega) ?_))
    rw [e1, v2, (cmpL_eq _ _).mpr rfl]
    (first | refine And.intro (show gR _ from by first | assumption | omega | decide | exact b2i_R _ | exact gR_of (by omega) (by omega)) ?_ | refine And.intro (show gHas _ _ _ from by first | exact gW.has (gD.w (by assumption)) (by omega) | exact gD.has (by assumption) | exact gRu.has (gD.ru (by assumption)) | exact gGr.has (gD.gr (by assumption) _ (by omega))) ?_ | refine gCall_mk (by decide) (by decide) ?_ | refine if_yes (by first | assumption | omega | decide | exact b2i_R _ | exact gR_of (by omega) (by omega)) ?_ | refine if_no (by first | assumption | omega | decide | exact b2i_R _ | exact gR_of (by omega) (by omega)) ?_); (first | refine And.intro (show gR _ from by first | assumption | omega | decide | exact b2i_R _ | exact gR_of (by omega) (by omega)) ?_ | refine And.intro (show gHas _ _ _ from by first | exact gW.has (gD.w (by assumption)) (by omega) | exact gD.has (by assumption) | exact gRu.has (gD.ru (by assumption)) | exact gGr.has (gD.gr (by assumption) _ (by omega))) ?_ | refine gCall_mk (by decide) (by decide) ?_ | refine if_yes (by first | assumption | omega | decide | exact b2i_R _ | exact gR_of (by omega) (by omega)) ?_ | refine if_no (by first | assumption | omega | decide | exact b2i_R _ | exact gR_of (by omega) (by omega)) ?_)
    unfold w_X5_isGrowthSound_J75
    refine d1.f4 ?_
    (first | refine And.intro (show gR _ from by first | assumption | omega | decide | exact b2i_R _ | exact gR_of (by omega) (by omega)) ?_ | refine And.intro (show gHas _ _ _ from by first | exact gW.has (gD.w (by assumption)) (by omega) | exact gD.has (by assumption) | exact gRu.has (gD.ru (by assumption)) | exact gGr.has (gD.gr (by assumption) _ (by omega))) ?_ | refine gCall_mk (by decide) (by decide) ?_ | refine if_yes (by first | assumption | omega | decide | exact b2i_R _ | exact gR_of (by omega) (by omega)) ?_ | refine if_no (by first | assumption | omega | decide | exact b2i_R _ | exact gR_of (by omega) (by omega)) ?_)
    refine s_layByLine hg (show 4 < 11 by decide) ho d1.w hr1 (fun h2 w2 s2 => ?_)
    have d2 := d1.b w2 s2 (fun v hv => pu_ne _ _ (by omega)) (fun v h5 _ => pu_ne _ _ (by omega))
    have f2 := (gFr.sm s1).tr (gFr.sm s2)
    have hr2 := d2.gr g hg
    obtain ⟨z1, z2⟩ := d2.gw g hg
    refine hr2.yo (d2.f4 (s_orderOf d2.w (by omega) (by omega) ?_))
    rw [z2, pu_self]
    have c1 := cmpL_R (grw (st.T g)).2 (byL (st.T g))
    have c2 := cmpL_eq (grw (st.T g)).2 (byL (st.T g))
    have kk := k h2 _ d2 f2
    (first | refine And.intro (show gR _ from by first | assumption | omega | decide | exact b2i_R _ | exact gR_of (by omega) (by omega)) ?_ | refine And.intro (show gHas _ _ _ from by first | exact gW.has (gD.w (by assumption)) (by omega) | exact gD.has (by assumption) | exact gRu.has (gD.ru (by assumption)) | exact gGr.has (gD.gr (by assumption) _ (by omega))) ?_ | refine gCall_mk (by decide) (by decide) ?_ | refine if_yes (by first | assumption | omega | decide | exact b2i_R _ | exact gR_of (by omega) (by omega)) ?_ | refine if_no (by first | assumption | omega | decide | exact b2i_R _ | exact gR_of (by omega) (by omega)) ?_)
    by_cases q1 : byL (st.T g) = (grw (st.T g)).2
    · refine if_yes (c2.mpr q1.symm) ?_
      unfold w_X5_isGrowthSound_J104
      (first | refine And.intro (show gR _ from by first | assumption | omega | decide | exact b2i_R _ | exact gR_of (by omega) (by omega)) ?_ | refine And.intro (show gHas _ _ _ from by first | exact gW.has (gD.w (by assumption)) (by omega) | exact gD.has (by assumption) | exact gRu.has (gD.ru (by assumption)) | exact gGr.has (gD.gr (by assumption) _ (by omega))) ?_ | refine gCall_mk (by decide) (by decide) ?_ | refine if_yes (by first | assumption | omega | decide | exact b2i_R _ | exact gR_of (by omega) (by omega)) ?_ | refine if_no (by first | assumption | omega | decide | exact b2i_R _ | exact gR_of (by omega) (by omega)) ?_); (first | refine And.intro (show gR _ from by first | assumption | omega | decide | exact b2i_R _ | exact gR_of (by omega) (by omega)) ?_ | refine And.intro (show gHas _ _ _ from by first | exact gW.has (gD.w (by assumption)) (by omega) | exact gD.has (by assumption) | exact gRu.has (gD.ru (by assumption)) | exact gGr.has (gD.gr (by assumption) _ (by omega))) ?_ | refine gCall_mk (by decide) (by decide) ?_ | refine if_yes (by first | assumption | omega | decide | exact b2i_R _ | exact gR_of (by omega) (by omega)) ?_ | refine if_no (by first | assumption | omega | decide | exact b2i_R _ | exact gR_of (by omega) (by omega)) ?_); (first | refine And.intro (show gR _ from by first | assumption | omega | decide | exact b2i_R _ | exact gR_of (by omega) (by omega)) ?_ | refine And.intro (show gHas _ _ _ from by first | exact gW.has (gD.w (by assumption)) (by omega) | exact gD.has (by assumption) | exact gRu.has (gD.ru (by assumption)) | exact gGr.has (gD.gr (by assumption) _ (by omega))) ?_ | refine gCall_mk (by decide) (by decide) ?_ | refine if_yes (by first | assumption | omega | decide | exact b2i_R _ | exact gR_of (by omega) (by omega)) ?_ | refine if_no (by first | assumption | omega | decide | exact b2i_R _ | exact gR_of (by omega) (by omega)) ?_); (first | refine And.intro (show gR _ from by first | assumption | omega | decide | exact b2i_R _ | exact gR_of (by omega) (by omega)) ?_ | refine And.intro (show gHas _ _ _ from by first | exact gW.has (gD.w (by assumption)) (by omega) | exact gD.has (by assumption) | exact gRu.has (gD.ru (by assumption)) | exact gGr.has (gD.gr (by assumption) _ (by omega))) ?_ | refine gCall_mk (by decide) (by decide) ?_ | refine if_yes (by first | assumption | omega | decide | exact b2i_R _ | exact gR_of (by omega) (by omega)) ?_ | refine if_no (by first | assumption | omega | decide | exact b2i_R _ | exact gR_of (by omega) (by omega)) ?_)
      refine cc_cross d2 hg rfl ?_
      (first | refine And.intro (show gR _ from by first | assumption | omega | decide | exact b2i_R _ | exact gR_of (by omega) (by omega)) ?_ | refine And.intro (show gHas _ _ _ from by first | exact gW.has (gD.w (by assumption)) (by omega) | exact gD.has (by assumption) | exact gRu.has (gD.ru (by assumption)) | exact gGr.has (gD.gr (by assumption) _ (by omega))) ?_ | refine gCall_mk (by decide) (by decide) ?_ | refine if_yes (by first | assumption | omega | decide | exact b2i_R _ | exact gR_of (by omega) (by omega)) ?_ | refine if_no (by first | assumption | omega | decide | exact b2i_R _ | exact gR_of (by omega) (by omega)) ?_)
      refine And.intro (by rw [ht]; split <;> decide) ?_
      by_cases q2 : crossG (st.T g) = (if (st.T g).length % 2 = 0 then 1 else -1)
      · refine if_yes (by rw [ht]; exact q2) ?_
        (first | refine And.intro (show gR _ from by first | assumption | omega | decide | exact b2i_R _ | exact gR_of (by omega) (by omega)) ?_ | refine And.intro (show gHas _ _ _ from by first | exact gW.has (gD.w (by assumption)) (by omega) | exact gD.has (by assumption) | exact gRu.has (gD.ru (by assumption)) | exact gGr.has (gD.gr (by assumption) _ (by omega))) ?_ | refine gCall_mk (by decide) (by decide) ?_ | refine if_yes (by first | assumption | omega | decide | exact b2i_R _ | exact gR_of (by omega) (by omega)) ?_ | refine if_no (by first | assumption | omega | decide | exact b2i_R _ | exact gR_of (by omega) (by omega)) ?_); (first | refine And.intro (show gR _ from by first | assumption | omega | decide | exact b2i_R _ | exact gR_of (by omega) (by omega)) ?_ | refine And.intro (show gHas _ _ _ from by first | exact gW.has (gD.w (by assumption)) (by omega) | exact gD.has (by assumption) | exact gRu.has (gD.ru (by assumption)) | exact gGr.has (gD.gr (by assumption) _ (by omega))) ?_ | refine gCall_mk (by decide) (by decide) ?_ | refine if_yes (by first | assumption | omega | decide | exact b2i_R _ | exact gR_of (by omega) (by omega)) ?_ | refine if_no (by first | assumption | omega | decide | exact b2i_R _ | exact gR_of (by omega) (by omega)) ?_)
        refine cc_alike d2 hg rfl ?_
        (first | refine And.intro (show gR _ from by first | assumption | omega | decide | exact b2i_R _ | exact gR_of (by omega) (by omega)) ?_ | refine And.intro (show gHas _ _ _ from by first | exact gW.has (gD.w (by assumption)) (by omega) | exact gD.has (by assumption) | exact gRu.has (gD.ru (by assumption)) | exact gGr.has (gD.gr (by assumption) _ (by omega))) ?_ | refine gCall_mk (by decide) (by decide) ?_ | refine if_yes (by first | assumption | omega | decide | exact b2i_R _ | exact gR_of (by omega) (by omega)) ?_ | refine if_no (by first | assumption | omega | decide | exact b2i_R _ | exact gR_of (by omega) (by omega)) ?_); (first | refine And.intro (show gR _ from by first | assumption | omega | decide | exact b2i_R _ | exact gR_of (by omega) (by omega)) ?_ | refine And.intro (show gHas _ _ _ from by first | exact gW.has (gD.w (by assumption)) (by omega) | exact gD.has (by assumption) | exact gRu.has (gD.ru (by assumption)) | exact gGr.has (gD.gr (by assumption) _ (by omega))) ?_ | refine gCall_mk (by decide) (by decide) ?_ | refine if_yes (by first | assumption | omega | decide | exact b2i_R _ | exact gR_of (by omega) (by omega)) ?_ | refine if_no (by first | assumption | omega | decide | exact b2i_R _ | exact gR_of (by omega) (by omega)) ?_)
        by_cases q3 : unlike (grw (st.T g)).2 (grw (st.T g)).1 = ((grw (st.T g)).2.length : Int) + ((grw (st.T g)).1.length : Int) - 2
        · refine if_yes q3 ?_
          rw [soundB, decide_eq_true q1, decide_eq_true q2, decide_eq_true q3] at kk
          exact kk
        · refine if_no q3 ?_
          rw [soundB, decide_eq_true q1, decide_eq_true q2, decide_eq_false q3] at kk
          exact kk
      · refine if_no (by rw [ht]; exact q2) ?_
        rw [soundB, decide_eq_true q1, decide_eq_false q2] at kk
        exact kk
    · refine if_no (fun q => q1 (c2.mp q).symm) ?_
      unfold w_X5_isGrowthSound_J104
      rw [soundB, decide_eq_false q1] at kk
      (repeat (first | refine And.intro (show gR _ from by first | assumption | omega | decide | exact b2i_R _ | exact gR_of (by omega) (by omega)) ?_ | refine And.intro (show gHas _ _ _ from by first | exact gW.has (gD.w (by assumption)) (by omega) | exact gD.has (by assumption) | exact gRu.has (gD.ru (by assumption)) | exact gGr.has (gD.gr (by assumption) _ (by omega))) ?_ | refine gCall_mk (by decide) (by decide) ?_ | refine if_yes (by first | assumption | omega | decide | exact b2i_R _ | exact gR_of (by omega) (by omega)) ?_ | refine if_no (by first | assumption | omega | decide | exact b2i_R _ | exact gR_of (by omega) (by omega)) ?_))
      exact kk
  by_cases q : (st.T g).length % 2 = 0
  · exact if_yes (by omega) (main 1 (by rw [if_pos q]))
  · exact if_no (by omega) (main (-1) (by rw [if_neg q]))
theorem s_isSound_L25 {b0 : Bool} : ∀ (n i : Nat) (h : gaH) (U : Nat → List Bool) (kc ks : Nat), gD A G h U st → i ≤ 2 → 2 - i < n → 3 * (2 - i) ≤ kc → 18 * (2 - i) ≤ ks → (∀ h' U', gD A G h' U' st → gFr A h h' → Q (b2i (((i ≥ 1 ∨ soundB (st.T 0) = true) && (i ≥ 2 ∨ soundB (st.T 1) = true)))) h') → w_X5_isSound_L25 G X Q n (A 22) (i : Int) h kc ks
  | 0, _, _, _, _, _, _, _, h1, _, _, _ => absurd h1 (Nat.not_lt_zero _)
  | n + 1, i, h, U, kc, ks, d, hi, h1, hc, hs, k => by
    unfold w_X5_isSound_L25
    (first | refine And.intro (show gR _ from by first | assumption | omega | decide | exact b2i_R _ | exact gR_of (by omega) (by omega)) ?_ | refine And.intro (show gHas _ _ _ from by first | exact gW.has (gD.w (by assumption)) (by omega) | exact gD.has (by assumption) | exact gRu.has (gD.ru (by assumption)) | exact gGr.has (gD.gr (by assumption) _ (by omega))) ?_ | refine gCall_mk (by decide) (by decide) ?_ | refine if_yes (by first | assumption | omega | decide | exact b2i_R _ | exact gR_of (by omega) (by omega)) ?_ | refine if_no (by first | assumption | omega | decide | exact b2i_R _ | exact gR_of (by omega) (by omega)) ?_)
    by_cases q : 2 ≤ i
    · obtain rfl : i = 2 := by omega
      exact if_yes (by omega) (k h U d gFr.rf)
    · refine if_no (by omega) ?_
      (first | refine And.intro (show gR _ from by first | assumption | omega | decide | exact b2i_R _ | exact gR_of (by omega) (by omega)) ?_ | refine And.intro (show gHas _ _ _ from by first | exact gW.has (gD.w (by assumption)) (by omega) | exact gD.has (by assumption) | exact gRu.has (gD.ru (by assumption)) | exact gGr.has (gD.gr (by assumption) _ (by omega))) ?_ | refine gCall_mk (by decide) (by decide) ?_ | refine if_yes (by first | assumption | omega | decide | exact b2i_R _ | exact gR_of (by omega) (by omega)) ?_ | refine if_no (by first | assumption | omega | decide | exact b2i_R _ | exact gR_of (by omega) (by omega)) ?_)
      refine gCall_mk (by omega) (by omega) (s_growthSound d (show i < 2 by omega) rfl (fun h1 U1 d1 f1 => ?_))
      (first | refine And.intro (show gR _ from by first | assumption | omega | decide | exact b2i_R _ | exact gR_of (by omega) (by omega)) ?_ | refine And.intro (show gHas _ _ _ from by first | exact gW.has (gD.w (by assumption)) (by omega) | exact gD.has (by assumption) | exact gRu.has (gD.ru (by assumption)) | exact gGr.has (gD.gr (by assumption) _ (by omega))) ?_ | refine gCall_mk (by decide) (by decide) ?_ | refine if_yes (by first | assumption | omega | decide | exact b2i_R _ | exact gR_of (by omega) (by omega)) ?_ | refine if_no (by first | assumption | omega | decide | exact b2i_R _ | exact gR_of (by omega) (by omega)) ?_)
      by_cases e : soundB (st.T i) = true
      · rw [e]
        (first | refine And.intro (show gR _ from by first | assumption | omega | decide | exact b2i_R _ | exact gR_of (by omega) (by omega)) ?_ | refine And.intro (show gHas _ _ _ from by first | exact gW.has (gD.w (by assumption)) (by omega) | exact gD.has (by assumption) | exact gRu.has (gD.ru (by assumption)) | exact gGr.has (gD.gr (by assumption) _ (by omega))) ?_ | refine gCall_mk (by decide) (by decide) ?_ | refine if_yes (by first | assumption | omega | decide | exact b2i_R _ | exact gR_of (by omega) (by omega)) ?_ | refine if_no (by first | assumption | omega | decide | exact b2i_R _ | exact gR_of (by omega) (by omega)) ?_)
        rw [show (i : Int) + 1 = ((i + 1 : Nat) : Int) by omega]
        refine s_isSound_L25 (b0 := b0) n (i + 1) h1 U1 _ _ d1 (by omega) (by omega) (by omega) (by omega) (fun h2 U2 d2 f2 => ?_)
        have kk := k h2 U2 d2 (f1.tr f2)
        rcases (show i = 0 ∨ i = 1 by omega) with rfl | rfl
        · simpa [e] using kk
        · simpa [e] using kk
      · rw [Bool.not_eq_true] at e
        rw [e]
        (first | refine And.intro (show gR _ from by first | assumption | omega | decide | exact b2i_R _ | exact gR_of (by omega) (by omega)) ?_ | refine And.intro (show gHas _ _ _ from by first | exact gW.has (gD.w (by assumption)) (by omega) | exact gD.has (by assumption) | exact gRu.has (gD.ru (by assumption)) | exact gGr.has (gD.gr (by assumption) _ (by omega))) ?_ | refine gCall_mk (by decide) (by decide) ?_ | refine if_yes (by first | assumption | omega | decide | exact b2i_R _ | exact gR_of (by omega) (by omega)) ?_ | refine if_no (by first | assumption | omega | decide | exact b2i_R _ | exact gR_of (by omega) (by omega)) ?_)
        have kk := k h1 U1 d1 f1
        rcases (show i = 0 ∨ i = 1 by omega) with rfl | rfl
        · simpa [e, b2i] using kk
        · simpa [e, b2i] using kk
theorem s_isSound_L2 : ∀ (n i : Nat) (h : gaH) (U : Nat → List Bool) (kc ks : Nat), gD A G h U st → i ≤ 3 → 3 - i < n → 3 * (3 - i) + 6 ≤ kc → 18 * (3 - i) + 36 ≤ ks → (∀ h' U', gD A G h' U' st → gFr A h h' → Q (b2i (soundB (st.T 0) && soundB (st.T 1))) h') → w_X5_isSound_L2 G X Q n (A 22) (i : Int) h kc ks
  | 0, _, _, _, _, _, _, _, h1, _, _, _ => absurd h1 (Nat.not_lt_zero _)
  | n + 1, i, h, U, kc, ks, d, hi, h1, hc, hs, k => by
    unfold w_X5_isSound_L2
    (first | refine And.intro (show gR _ from by first | assumption | omega | decide | exact b2i_R _ | exact gR_of (by omega) (by omega)) ?_ | refine And.intro (show gHas _ _ _ from by first | exact gW.has (gD.w (by assumption)) (by omega) | exact gD.has (by assumption) | exact gRu.has (gD.ru (by assumption)) | exact gGr.has (gD.gr (by assumption) _ (by omega))) ?_ | refine gCall_mk (by decide) (by decide) ?_ | refine if_yes (by first | assumption | omega | decide | exact b2i_R _ | exact gR_of (by omega) (by omega)) ?_ | refine if_no (by first | assumption | omega | decide | exact b2i_R _ | exact gR_of (by omega) (by omega)) ?_)
    by_cases q : 3 ≤ i
    · refine if_yes (by omega) ⟨3, s_isSound_L25 (b0 := true) 3 0 h U kc ks d (by decide) (by decide) (by omega) (by omega) (fun h' U' d' f' => ?_)⟩
      have kk := k h' U' d' f'
      simpa using kk
    · refine if_no (by omega) ?_
      (first | refine And.intro (show gR _ from by first | assumption | omega | decide | exact b2i_R _ | exact gR_of (by omega) (by omega)) ?_ | refine And.intro (show gHas _ _ _ from by first | exact gW.has (gD.w (by assumption)) (by omega) | exact gD.has (by assumption) | exact gRu.has (gD.ru (by assumption)) | exact gGr.has (gD.gr (by assumption) _ (by omega))) ?_ | refine gCall_mk (by decide) (by decide) ?_ | refine if_yes (by first | assumption | omega | decide | exact b2i_R _ | exact gR_of (by omega) (by omega)) ?_ | refine if_no (by first | assumption | omega | decide | exact b2i_R _ | exact gR_of (by omega) (by omega)) ?_)
      refine gCall_mk (by omega) (by omega) (s_sheetSound d (show i < 3 by omega) rfl (fun h1 U1 d1 f1 => ?_))
      (first | refine And.intro (show gR _ from by first | assumption | omega | decide | exact b2i_R _ | exact gR_of (by omega) (by omega)) ?_ | refine And.intro (show gHas _ _ _ from by first | exact gW.has (gD.w (by assumption)) (by omega) | exact gD.has (by assumption) | exact gRu.has (gD.ru (by assumption)) | exact gGr.has (gD.gr (by assumption) _ (by omega))) ?_ | refine gCall_mk (by decide) (by decide) ?_ | refine if_yes (by first | assumption | omega | decide | exact b2i_R _ | exact gR_of (by omega) (by omega)) ?_ | refine if_no (by first | assumption | omega | decide | exact b2i_R _ | exact gR_of (by omega) (by omega)) ?_); (first | refine And.intro (show gR _ from by first | assumption | omega | decide | exact b2i_R _ | exact gR_of (by omega) (by omega)) ?_ | refine And.intro (show gHas _ _ _ from by first | exact gW.has (gD.w (by assumption)) (by omega) | exact gD.has (by assumption) | exact gRu.has (gD.ru (by assumption)) | exact gGr.has (gD.gr (by assumption) _ (by omega))) ?_ | refine gCall_mk (by decide) (by decide) ?_ | refine if_yes (by first | assumption | omega | decide | exact b2i_R _ | exact gR_of (by omega) (by omega)) ?_ | refine if_no (by first | assumption | omega | decide | exact b2i_R _ | exact gR_of (by omega) (by omega)) ?_)
      rw [show (i : Int) + 1 = ((i + 1 : Nat) : Int) by omega]
      exact s_isSound_L2 n (i + 1) h1 U1 _ _ d1 (by omega) (by omega) (by omega) (by omega) (fun h2 U2 d2 f2 => k h2 U2 d2 (f1.tr f2))
def m_isSound (st : GSt) : Nat × (Int → Prop) × GSt := done st (b2i (soundB (st.T 0) && soundB (st.T 1)))
theorem c_isSound {E : List String} (d : gD A G h U st) (k : gRes A G h E X Q (m_isSound st)) : w_X5_isSound G X (A 22) h Q :=
  ⟨4, s_isSound_L2 4 0 h U 18 108 d (by decide) (by decide) (by decide) (by decide) (fun h' U' d' f' => k.ok d' f' rfl)⟩
end CW
/-! The garden's digest, as far as it goes through. -/
section CD
variable {A : Nat → Nat} {G : gaG} {h : gaH} {U : Nat → List Bool} {st : GSt} {X : String → gaH → Prop} {w v g : Nat} {x y z : Int}
theorem gRes.to {E : List String} {Q : Int → gaH → Prop} {o : Nat × (Int → Prop) × GSt} {P : Int → Prop} {st' : GSt} (e : o = (0, P, st')) (k : ∀ h' U' r, gD A G h' U' st' → gFr A h h' → P r → Q r h') : gRes A G h E X Q o := by subst e; exact gRes.mk k
theorem s_digestSheet_L {Q : Int64 → gaH → Prop} (hw : w < 3) : ∀ (n i : Nat) (h : gaH) (U : Nat → List Bool) (kc ks : Nat) (t : Int64), gD A G h U st → i ≤ (U w).length → (U w).length - i < n → 6 ≤ kc → 36 ≤ ks → (∀ h' U' r, gD A G h' U' st → gFr A h h' → Q r h') → w_X5_digestSheet_L22 X Q n (A 22) (w : Int) (A w) t (i : Int) h kc ks
  | 0, _, _, _, _, _, _, _, _, h1, _, _, _ => absurd h1 (Nat.not_lt_zero _)
  | n + 1, i, h, U, kc, ks, t, d, hi, h1, hc, hs, k => by
    have l1 := d.w.le (show w < 11 by omega)
    have hS : okS (w : Int) := by omega
    unfold w_X5_digestSheet_L22
    refine d.w.many (by omega) ?_
    (first | refine And.intro (show gR _ from by first | assumption | omega | decide | exact b2i_R _ | exact gR_of (by omega) (by omega)) ?_ | refine And.intro (show gHas _ _ _ from by first | exact gW.has (gD.w (by assumption)) (by omega) | exact gD.has (by assumption) | exact gRu.has (gD.ru (by assumption)) | exact gGr.has (gD.gr (by assumption) _ (by omega))) ?_ | refine gCall_mk (by decide) (by decide) ?_ | refine if_yes (by first | assumption | omega | decide | exact b2i_R _ | exact gR_of (by omega) (by omega)) ?_ | refine if_no (by first | assumption | omega | decide | exact b2i_R _ | exact gR_of (by omega) (by omega)) ?_); (first | refine And.intro (show gR _ from by first | assumption | omega | decide | exact b2i_R _ | exact gR_of (by omega) (by omega)) ?_ | refine And.intro (show gHas _ _ _ from by first | exact gW.has (gD.w (by assumption)) (by omega) | exact gD.has (by assumption) | exact gRu.has (gD.ru (by assumption)) | exact gGr.has (gD.gr (by assumption) _ (by omega))) ?_ | refine gCall_mk (by decide) (by decide) ?_ | refine if_yes (by first | assumption | omega | decide | exact b2i_R _ | exact gR_of (by omega) (by omega)) ?_ | refine if_no (by first | assumption | omega | decide | exact b2i_R _ | exact gR_of (by omega) (by omega)) ?_)
    by_cases q : (U w).length ≤ i
    · refine if_yes (by omega) ?_
      (first | refine And.intro (show gR _ from by first | assumption | omega | decide | exact b2i_R _ | exact gR_of (by omega) (by omega)) ?_ | refine And.intro (show gHas _ _ _ from by first | exact gW.has (gD.w (by assumption)) (by omega) | exact gD.has (by assumption) | exact gRu.has (gD.ru (by assumption)) | exact gGr.has (gD.gr (by assumption) _ (by omega))) ?_ | refine gCall_mk (by decide) (by decide) ?_ | refine if_yes (by first | assumption | omega | decide | exact b2i_R _ | exact gR_of (by omega) (by omega)) ?_ | refine if_no (by first | assumption | omega | decide | exact b2i_R _ | exact gR_of (by omega) (by omega)) ?_)
      refine gCall_mk (by omega) (by omega) (c_count d (b := true) (by omega) rfl (gRes.to (if_pos hS) (fun h1 U1 r1 d1 f1 p1 => ?_)))
      show gHas _ _ _ ∧ _
      (first | refine And.intro (show gR _ from by first | assumption | omega | decide | exact b2i_R _ | exact gR_of (by omega) (by omega)) ?_ | refine And.intro (show gHas _ _ _ from by first | exact gW.has (gD.w (by assumption)) (by omega) | exact gD.has (by assumption) | exact gRu.has (gD.ru (by assumption)) | exact gGr.has (gD.gr (by assumption) _ (by omega))) ?_ | refine gCall_mk (by decide) (by decide) ?_ | refine if_yes (by first | assumption | omega | decide | exact b2i_R _ | exact gR_of (by omega) (by omega)) ?_ | refine if_no (by first | assumption | omega | decide | exact b2i_R _ | exact gR_of (by omega) (by omega)) ?_)
      refine gCall_mk (by omega) (by omega) (c_isMirrored d1 (by omega) (gRes.to (if_pos hS) (fun h2 U2 r2 d2 f2 p2 => ?_)))
      have one : ∀ {K : Int → gaH → Prop}, (∀ r, K r h2) → w_X5_oneIf r2 h2 K := fun k => by
        unfold w_X5_oneIf
        refine ⟨by rcases p2 with rfl | rfl <;> decide, ite_both (fun _ => k _) (fun _ => k _)⟩
      refine one (fun r3 => ?_)
      show gHas _ _ _ ∧ _
      (first | refine And.intro (show gR _ from by first | assumption | omega | decide | exact b2i_R _ | exact gR_of (by omega) (by omega)) ?_ | refine And.intro (show gHas _ _ _ from by first | exact gW.has (gD.w (by assumption)) (by omega) | exact gD.has (by assumption) | exact gRu.has (gD.ru (by assumption)) | exact gGr.has (gD.gr (by assumption) _ (by omega))) ?_ | refine gCall_mk (by decide) (by decide) ?_ | refine if_yes (by first | assumption | omega | decide | exact b2i_R _ | exact gR_of (by omega) (by omega)) ?_ | refine if_no (by first | assumption | omega | decide | exact b2i_R _ | exact gR_of (by omega) (by omega)) ?_)
      refine gCall_mk (by omega) (by omega) (c_times d2 (by omega) (gRes.to (if_pos hS) (fun h3 U3 r4 d3 f3 p3 => ?_)))
      show gHas _ _ _ ∧ _
      (first | refine And.intro (show gR _ from by first | assumption | omega | decide | exact b2i_R _ | exact gR_of (by omega) (by omega)) ?_ | refine And.intro (show gHas _ _ _ from by first | exact gW.has (gD.w (by assumption)) (by omega) | exact gD.has (by assumption) | exact gRu.has (gD.ru (by assumption)) | exact gGr.has (gD.gr (by assumption) _ (by omega))) ?_ | refine gCall_mk (by decide) (by decide) ?_ | refine if_yes (by first | assumption | omega | decide | exact b2i_R _ | exact gR_of (by omega) (by omega)) ?_ | refine if_no (by first | assumption | omega | decide | exact b2i_R _ | exact gR_of (by omega) (by omega)) ?_)
      refine gCall_mk (by omega) (by omega) (c_overlaps d3 (by omega) (gRes.to (if_pos hS) (fun h4 U4 r5 d4 f4 p4 => ?_)))
      show gHas _ _ _ ∧ _
      (first | refine And.intro (show gR _ from by first | assumption | omega | decide | exact b2i_R _ | exact gR_of (by omega) (by omega)) ?_ | refine And.intro (show gHas _ _ _ from by first | exact gW.has (gD.w (by assumption)) (by omega) | exact gD.has (by assumption) | exact gRu.has (gD.ru (by assumption)) | exact gGr.has (gD.gr (by assumption) _ (by omega))) ?_ | refine gCall_mk (by decide) (by decide) ?_ | refine if_yes (by first | assumption | omega | decide | exact b2i_R _ | exact gR_of (by omega) (by omega)) ?_ | refine if_no (by first | assumption | omega | decide | exact b2i_R _ | exact gR_of (by omega) (by omega)) ?_)
      refine gCall_mk (by omega) (by omega) (c_folds d4 (by omega) (gRes.to (if_pos hS) (fun h5 U5 r6 d5 f5 p5 => ?_)))
      show gHas _ _ _ ∧ _
      (first | refine And.intro (show gR _ from by first | assumption | omega | decide | exact b2i_R _ | exact gR_of (by omega) (by omega)) ?_ | refine And.intro (show gHas _ _ _ from by first | exact gW.has (gD.w (by assumption)) (by omega) | exact gD.has (by assumption) | exact gRu.has (gD.ru (by assumption)) | exact gGr.has (gD.gr (by assumption) _ (by omega))) ?_ | refine gCall_mk (by decide) (by decide) ?_ | refine if_yes (by first | assumption | omega | decide | exact b2i_R _ | exact gR_of (by omega) (by omega)) ?_ | refine if_no (by first | assumption | omega | decide | exact b2i_R _ | exact gR_of (by omega) (by omega)) ?_)
      refine gCall_mk (by omega) (by omega) (c_least d5 (by omega) (gRes.to (if_pos hS) (fun h6 U6 r7 d6 f6 p6 => ?_)))
      exact k h6 U6 _ d6 (f1.tr (f2.tr (f3.tr (f4.tr (f5.tr f6)))))
    · refine if_no (by omega) ?_
      (first | refine And.intro (show gR _ from by first | assumption | omega | decide | exact b2i_R _ | exact gR_of (by omega) (by omega)) ?_ | refine And.intro (show gHas _ _ _ from by first | exact gW.has (gD.w (by assumption)) (by omega) | exact gD.has (by assumption) | exact gRu.has (gD.ru (by assumption)) | exact gGr.has (gD.gr (by assumption) _ (by omega))) ?_ | refine gCall_mk (by decide) (by decide) ?_ | refine if_yes (by first | assumption | omega | decide | exact b2i_R _ | exact gR_of (by omega) (by omega)) ?_ | refine if_no (by first | assumption | omega | decide | exact b2i_R _ | exact gR_of (by omega) (by omega)) ?_)
      refine s_isUp d.w (show w < 11 by omega) rfl (by omega) ?_
      (first | refine And.intro (show gR _ from by first | assumption | omega | decide | exact b2i_R _ | exact gR_of (by omega) (by omega)) ?_ | refine And.intro (show gHas _ _ _ from by first | exact gW.has (gD.w (by assumption)) (by omega) | exact gD.has (by assumption) | exact gRu.has (gD.ru (by assumption)) | exact gGr.has (gD.gr (by assumption) _ (by omega))) ?_ | refine gCall_mk (by decide) (by decide) ?_ | refine if_yes (by first | assumption | omega | decide | exact b2i_R _ | exact gR_of (by omega) (by omega)) ?_ | refine if_no (by first | assumption | omega | decide | exact b2i_R _ | exact gR_of (by omega) (by omega)) ?_)
      have go : ∀ t2 : Int64, w_X5_digestSheet_J51 X Q (w_X5_digestSheet_L22 X Q n) (A 22) (w : Int) (A w) (i : Int) t t2 h kc ks := fun t2 => by
        unfold w_X5_digestSheet_J51 w_X5_digestWith
        rw [show (i : Int) + 1 = ((i + 1 : Nat) : Int) by omega]
        exact s_digestSheet_L hw n (i + 1) h U kc ks _ d (by omega) (by omega) hc hs k
      exact ite_both (fun _ => go _) (fun _ => go _)
theorem s_digestSheet {Q : Int64 → gaH → Prop} {t : Int64} (d : gD A G h U st) (hw : w < 3) (k : ∀ h' U' r, gD A G h' U' st → gFr A h h' → Q r h') : w_X5_digestSheet X (A 22) t (w : Int) h Q := by
  have l1 := d.w.le (show w < 11 by omega)
  unfold w_X5_digestSheet
  (first | refine And.intro (show gR _ from by first | assumption | omega | decide | exact b2i_R _ | exact gR_of (by omega) (by omega)) ?_ | refine And.intro (show gHas _ _ _ from by first | exact gW.has (gD.w (by assumption)) (by omega) | exact gD.has (by assumption) | exact gRu.has (gD.ru (by assumption)) | exact gGr.has (gD.gr (by assumption) _ (by omega))) ?_ | refine gCall_mk (by decide) (by decide) ?_ | refine if_yes (by first | assumption | omega | decide | exact b2i_R _ | exact gR_of (by omega) (by omega)) ?_ | refine if_no (by first | assumption | omega | decide | exact b2i_R _ | exact gR_of (by omega) (by omega)) ?_); (first | refine And.intro (show gR _ from by first | assumption | omega | decide | exact b2i_R _ | exact gR_of (by omega) (by omega)) ?_ | refine And.intro (show gHas _ _ _ from by first | exact gW.has (gD.w (by assumption)) (by omega) | exact gD.has (by assumption) | exact gRu.has (gD.ru (by assumption)) | exact gGr.has (gD.gr (by assumption) _ (by omega))) ?_ | refine gCall_mk (by decide) (by decide) ?_ | refine if_yes (by first | assumption | omega | decide | exact b2i_R _ | exact gR_of (by omega) (by omega)) ?_ | refine if_no (by first | assumption | omega | decide | exact b2i_R _ | exact gR_of (by omega) (by omega)) ?_)
  refine c_wordOf d (by omega) (fun q => absurd (show okS (w : Int) by omega) q) (fun v hv e => ?_)
  obtain rfl : w = v := by omega
  refine d.w.many (by omega) ⟨66, s_digestSheet_L hw 66 0 h U _ _ _ d (Nat.zero_le _) (by omega) (by decide) (by decide) k⟩
theorem s_digestGrowth_L {Q : Int64 → gaH → Prop} (hg : g < 2) : ∀ (n i : Nat) (h : gaH) (U : Nat → List Bool) (kc ks : Nat) (t : Int64), gD A G h U st → i ≤ (st.T g).length → (st.T g).length - i < n → 6 ≤ kc → 36 ≤ ks → (∀ h' U' r, gD A G h' U' st → gFr A h h' → Q r h') → w_X5_digestGrowth_L22 X Q n (A 22) (g : Int) (A (26 + g)) t (i : Int) h kc ks
  | 0, _, _, _, _, _, _, _, _, h1, _, _, _ => absurd h1 (Nat.not_lt_zero _)
  | n + 1, i, h, U, kc, ks, t, d, hi, h1, hc, hs, k => by
    have l1 := (d.ok g hg).len
    have hS : okG (g : Int) := by omega
    unfold w_X5_digestGrowth_L22
    refine (d.gr g hg).ct ?_
    (first | refine And.intro (show gR _ from by first | assumption | omega | decide | exact b2i_R _ | exact gR_of (by omega) (by omega)) ?_ | refine And.intro (show gHas _ _ _ from by first | exact gW.has (gD.w (by assumption)) (by omega) | exact gD.has (by assumption) | exact gRu.has (gD.ru (by assumption)) | exact gGr.has (gD.gr (by assumption) _ (by omega))) ?_ | refine gCall_mk (by decide) (by decide) ?_ | refine if_yes (by first | assumption | omega | decide | exact b2i_R _ | exact gR_of (by omega) (by omega)) ?_ | refine if_no (by first | assumption | omega | decide | exact b2i_R _ | exact gR_of (by omega) (by omega)) ?_); (first | refine And.intro (show gR _ from by first | assumption | omega | decide | exact b2i_R _ | exact gR_of (by omega) (by omega)) ?_ | refine And.intro (show gHas _ _ _ from by first | exact gW.has (gD.w (by assumption)) (by omega) | exact gD.has (by assumption) | exact gRu.has (gD.ru (by assumption)) | exact gGr.has (gD.gr (by assumption) _ (by omega))) ?_ | refine gCall_mk (by decide) (by decide) ?_ | refine if_yes (by first | assumption | omega | decide | exact b2i_R _ | exact gR_of (by omega) (by omega)) ?_ | refine if_no (by first | assumption | omega | decide | exact b2i_R _ | exact gR_of (by omega) (by omega)) ?_)
    by_cases q : (st.T g).length ≤ i
    · refine if_yes (by omega) ?_
      (first | refine And.intro (show gR _ from by first | assumption | omega | decide | exact b2i_R _ | exact gR_of (by omega) (by omega)) ?_ | refine And.intro (show gHas _ _ _ from by first | exact gW.has (gD.w (by assumption)) (by omega) | exact gD.has (by assumption) | exact gRu.has (gD.ru (by assumption)) | exact gGr.has (gD.gr (by assumption) _ (by omega))) ?_ | refine gCall_mk (by decide) (by decide) ?_ | refine if_yes (by first | assumption | omega | decide | exact b2i_R _ | exact gR_of (by omega) (by omega)) ?_ | refine if_no (by first | assumption | omega | decide | exact b2i_R _ | exact gR_of (by omega) (by omega)) ?_)
      refine gCall_mk (by omega) (by omega) (c_size d (b := false) (by omega) rfl (gRes.to (if_pos hS) (fun h1 U1 r1 d1 f1 p1 => ?_)))
      show gHas _ _ _ ∧ _
      (first | refine And.intro (show gR _ from by first | assumption | omega | decide | exact b2i_R _ | exact gR_of (by omega) (by omega)) ?_ | refine And.intro (show gHas _ _ _ from by first | exact gW.has (gD.w (by assumption)) (by omega) | exact gD.has (by assumption) | exact gRu.has (gD.ru (by assumption)) | exact gGr.has (gD.gr (by assumption) _ (by omega))) ?_ | refine gCall_mk (by decide) (by decide) ?_ | refine if_yes (by first | assumption | omega | decide | exact b2i_R _ | exact gR_of (by omega) (by omega)) ?_ | refine if_no (by first | assumption | omega | decide | exact b2i_R _ | exact gR_of (by omega) (by omega)) ?_)
      refine gCall_mk (by omega) (by omega) (c_size d1 (b := true) (by omega) rfl (gRes.to (if_pos hS) (fun h2 U2 r2 d2 f2 p2 => ?_)))
      show gHas _ _ _ ∧ _
      (first | refine And.intro (show gR _ from by first | assumption | omega | decide | exact b2i_R _ | exact gR_of (by omega) (by omega)) ?_ | refine And.intro (show gHas _ _ _ from by first | exact gW.has (gD.w (by assumption)) (by omega) | exact gD.has (by assumption) | exact gRu.has (gD.ru (by assumption)) | exact gGr.has (gD.gr (by assumption) _ (by omega))) ?_ | refine gCall_mk (by decide) (by decide) ?_ | refine if_yes (by first | assumption | omega | decide | exact b2i_R _ | exact gR_of (by omega) (by omega)) ?_ | refine if_no (by first | assumption | omega | decide | exact b2i_R _ | exact gR_of (by omega) (by omega)) ?_)
      refine gCall_mk (by omega) (by omega) (c_ups d2 (b := false) (by omega) rfl (gRes.to (if_pos hS) (fun h3 U3 r4 d3 f3 p3 => ?_)))
      show gHas _ _ _ ∧ _
      (first | refine And.intro (show gR _ from by first | assumption | omega | decide | exact b2i_R _ | exact gR_of (by omega) (by omega)) ?_ | refine And.intro (show gHas _ _ _ from by first | exact gW.has (gD.w (by assumption)) (by omega) | exact gD.has (by assumption) | exact gRu.has (gD.ru (by assumption)) | exact gGr.has (gD.gr (by assumption) _ (by omega))) ?_ | refine gCall_mk (by decide) (by decide) ?_ | refine if_yes (by first | assumption | omega | decide | exact b2i_R _ | exact gR_of (by omega) (by omega)) ?_ | refine if_no (by first | assumption | omega | decide | exact b2i_R _ | exact gR_of (by omega) (by omega)) ?_)
      refine gCall_mk (by omega) (by omega) (c_ups d3 (b := true) (by omega) rfl (gRes.to (if_pos hS) (fun h4 U4 r5 d4 f4 p4 => ?_)))
      show gHas _ _ _ ∧ _
      (first | refine And.intro (show gR _ from by first | assumption | omega | decide | exact b2i_R _ | exact gR_of (by omega) (by omega)) ?_ | refine And.intro (show gHas _ _ _ from by first | exact gW.has (gD.w (by assumption)) (by omega) | exact gD.has (by assumption) | exact gRu.has (gD.ru (by assumption)) | exact gGr.has (gD.gr (by assumption) _ (by omega))) ?_ | refine gCall_mk (by decide) (by decide) ?_ | refine if_yes (by first | assumption | omega | decide | exact b2i_R _ | exact gR_of (by omega) (by omega)) ?_ | refine if_no (by first | assumption | omega | decide | exact b2i_R _ | exact gR_of (by omega) (by omega)) ?_)
      refine gCall_mk (by omega) (by omega) (c_cross d4 (by omega) (gRes.to (if_pos hS) (fun h5 U5 r6 d5 f5 p5 => ?_)))
      show gHas _ _ _ ∧ _
      (first | refine And.intro (show gR _ from by first | assumption | omega | decide | exact b2i_R _ | exact gR_of (by omega) (by omega)) ?_ | refine And.intro (show gHas _ _ _ from by first | exact gW.has (gD.w (by assumption)) (by omega) | exact gD.has (by assumption) | exact gRu.has (gD.ru (by assumption)) | exact gGr.has (gD.gr (by assumption) _ (by omega))) ?_ | refine gCall_mk (by decide) (by decide) ?_ | refine if_yes (by first | assumption | omega | decide | exact b2i_R _ | exact gR_of (by omega) (by omega)) ?_ | refine if_no (by first | assumption | omega | decide | exact b2i_R _ | exact gR_of (by omega) (by omega)) ?_)
      refine gCall_mk (by omega) (by omega) (c_alike d5 (by omega) (gRes.to (if_pos hS) (fun h6 U6 r7 d6 f6 p6 => ?_)))
      exact k h6 U6 _ d6 (f1.tr (f2.tr (f3.tr (f4.tr (f5.tr f6)))))
    · refine if_no (by omega) ?_
      (first | refine And.intro (show gR _ from by first | assumption | omega | decide | exact b2i_R _ | exact gR_of (by omega) (by omega)) ?_ | refine And.intro (show gHas _ _ _ from by first | exact gW.has (gD.w (by assumption)) (by omega) | exact gD.has (by assumption) | exact gRu.has (gD.ru (by assumption)) | exact gGr.has (gD.gr (by assumption) _ (by omega))) ?_ | refine gCall_mk (by decide) (by decide) ?_ | refine if_yes (by first | assumption | omega | decide | exact b2i_R _ | exact gR_of (by omega) (by omega)) ?_ | refine if_no (by first | assumption | omega | decide | exact b2i_R _ | exact gR_of (by omega) (by omega)) ?_)
      refine s_turnAt (d.gr g hg) rfl (by omega) ?_
      show w_X5_digestGrowth_L22 X Q n (A 22) (g : Int) (A (26 + g)) _ ((i : Int) + 1) h kc ks
      rw [show (i : Int) + 1 = ((i + 1 : Nat) : Int) by omega]
      exact s_digestGrowth_L hg n (i + 1) h U kc ks _ d (by omega) (by omega) hc hs k
theorem s_digestGrowth {Q : Int64 → gaH → Prop} {t : Int64} (d : gD A G h U st) (hg : g < 2) (k : ∀ h' U' r, gD A G h' U' st → gFr A h h' → Q r h') : w_X5_digestGrowth X (A 22) t (g : Int) h Q := by
  have l1 := (d.ok g hg).len
  unfold w_X5_digestGrowth
  (first | refine And.intro (show gR _ from by first | assumption | omega | decide | exact b2i_R _ | exact gR_of (by omega) (by omega)) ?_ | refine And.intro (show gHas _ _ _ from by first | exact gW.has (gD.w (by assumption)) (by omega) | exact gD.has (by assumption) | exact gRu.has (gD.ru (by assumption)) | exact gGr.has (gD.gr (by assumption) _ (by omega))) ?_ | refine gCall_mk (by decide) (by decide) ?_ | refine if_yes (by first | assumption | omega | decide | exact b2i_R _ | exact gR_of (by omega) (by omega)) ?_ | refine if_no (by first | assumption | omega | decide | exact b2i_R _ | exact gR_of (by omega) (by omega)) ?_); (first | refine And.intro (show gR _ from by first | assumption | omega | decide | exact b2i_R _ | exact gR_of (by omega) (by omega)) ?_ | refine And.intro (show gHas _ _ _ from by first | exact gW.has (gD.w (by assumption)) (by omega) | exact gD.has (by assumption) | exact gRu.has (gD.ru (by assumption)) | exact gGr.has (gD.gr (by assumption) _ (by omega))) ?_ | refine gCall_mk (by decide) (by decide) ?_ | refine if_yes (by first | assumption | omega | decide | exact b2i_R _ | exact gR_of (by omega) (by omega)) ?_ | refine if_no (by first | assumption | omega | decide | exact b2i_R _ | exact gR_of (by omega) (by omega)) ?_)
  refine c_growthOf d (by omega) (fun q => absurd (show okG (g : Int) by omega) q) (fun v hv e => ?_)
  obtain rfl : g = v := by omega
  exact (d.gr g hg).ct ⟨66, s_digestGrowth_L hg 66 0 h U _ _ _ d (Nat.zero_le _) (by omega) (by decide) (by decide) k⟩
theorem s_digest_L46 {Q : Int64 → gaH → Prop} : ∀ (n i : Nat) (h : gaH) (U : Nat → List Bool) (kc ks : Nat) (t : Int64), gD A G h U st → i ≤ 4 → 4 - i < n → (4 - i) + 18 ≤ kc → 6 * (4 - i) + 108 ≤ ks → (∀ h' U' r, gD A G h' U' st → gFr A h h' → Q r h') → w_X5_digest_L46 G X Q n (A 22) t (i : Int) h kc ks
  | 0, _, _, _, _, _, _, _, _, h1, _, _, _ => absurd h1 (Nat.not_lt_zero _)
  | n + 1, i, h, U, kc, ks, t, d, hi, h1, hc, hs, k => by
    unfold w_X5_digest_L46
    (first | refine And.intro (show gR _ from by first | assumption | omega | decide | exact b2i_R _ | exact gR_of (by omega) (by omega)) ?_ | refine And.intro (show gHas _ _ _ from by first | exact gW.has (gD.w (by assumption)) (by omega) | exact gD.has (by assumption) | exact gRu.has (gD.ru (by assumption)) | exact gGr.has (gD.gr (by assumption) _ (by omega))) ?_ | refine gCall_mk (by decide) (by decide) ?_ | refine if_yes (by first | assumption | omega | decide | exact b2i_R _ | exact gR_of (by omega) (by omega)) ?_ | refine if_no (by first | assumption | omega | decide | exact b2i_R _ | exact gR_of (by omega) (by omega)) ?_)
    by_cases q : 4 ≤ i
    · refine if_yes (by omega) ?_
      (first | refine And.intro (show gR _ from by first | assumption | omega | decide | exact b2i_R _ | exact gR_of (by omega) (by omega)) ?_ | refine And.intro (show gHas _ _ _ from by first | exact gW.has (gD.w (by assumption)) (by omega) | exact gD.has (by assumption) | exact gRu.has (gD.ru (by assumption)) | exact gGr.has (gD.gr (by assumption) _ (by omega))) ?_ | refine gCall_mk (by decide) (by decide) ?_ | refine if_yes (by first | assumption | omega | decide | exact b2i_R _ | exact gR_of (by omega) (by omega)) ?_ | refine if_no (by first | assumption | omega | decide | exact b2i_R _ | exact gR_of (by omega) (by omega)) ?_)
      refine gCall_mk (by omega) (by omega) (c_isSound (E := []) d (gRes.to rfl (fun h1 U1 r1 d1 f1 p1 => ?_)))
      unfold w_X5_oneIf
      rw [p1]
      exact ⟨b2i_R _, ite_both (fun _ => k h1 U1 _ d1 f1) (fun _ => k h1 U1 _ d1 f1)⟩
    · refine if_no (by omega) ?_
      (first | refine And.intro (show gR _ from by first | assumption | omega | decide | exact b2i_R _ | exact gR_of (by omega) (by omega)) ?_ | refine And.intro (show gHas _ _ _ from by first | exact gW.has (gD.w (by assumption)) (by omega) | exact gD.has (by assumption) | exact gRu.has (gD.ru (by assumption)) | exact gGr.has (gD.gr (by assumption) _ (by omega))) ?_ | refine gCall_mk (by decide) (by decide) ?_ | refine if_yes (by first | assumption | omega | decide | exact b2i_R _ | exact gR_of (by omega) (by omega)) ?_ | refine if_no (by first | assumption | omega | decide | exact b2i_R _ | exact gR_of (by omega) (by omega)) ?_)
      refine gCall_mk (by omega) (by omega) (c_house d (by omega) (gRes.to (if_pos ⟨by omega, by omega⟩) (fun h1 U1 r1 d1 f1 p1 => ?_)))
      show w_X5_digest_L46 G X Q n (A 22) _ ((i : Int) + 1) h1 _ _
      rw [show (i : Int) + 1 = ((i + 1 : Nat) : Int) by omega]
      exact s_digest_L46 n (i + 1) h1 U1 _ _ _ d1 (by omega) (by omega) (by omega) (by omega) (fun h' U' r d' f' => k h' U' r d' (f1.tr f'))
theorem s_digest_L26 {Q : Int64 → gaH → Prop} : ∀ (n i : Nat) (h : gaH) (U : Nat → List Bool) (kc ks : Nat) (t : Int64), gD A G h U st → i ≤ 2 → 2 - i < n → 7 * (2 - i) + 22 ≤ kc → 42 * (2 - i) + 132 ≤ ks → (∀ h' U' r, gD A G h' U' st → gFr A h h' → Q r h') → w_X5_digest_L26 G X Q n (A 22) t (i : Int) h kc ks
  | 0, _, _, _, _, _, _, _, _, h1, _, _, _ => absurd h1 (Nat.not_lt_zero _)
  | n + 1, i, h, U, kc, ks, t, d, hi, h1, hc, hs, k => by
    unfold w_X5_digest_L26
    (first | refine And.intro (show gR _ from by first | assumption | omega | decide | exact b2i_R _ | exact gR_of (by omega) (by omega)) ?_ | refine And.intro (show gHas _ _ _ from by first | exact gW.has (gD.w (by assumption)) (by omega) | exact gD.has (by assumption) | exact gRu.has (gD.ru (by assumption)) | exact gGr.has (gD.gr (by assumption) _ (by omega))) ?_ | refine gCall_mk (by decide) (by decide) ?_ | refine if_yes (by first | assumption | omega | decide | exact b2i_R _ | exact gR_of (by omega) (by omega)) ?_ | refine if_no (by first | assumption | omega | decide | exact b2i_R _ | exact gR_of (by omega) (by omega)) ?_)
    by_cases q : 2 ≤ i
    · exact if_yes (by omega) ⟨5, s_digest_L46 5 0 h U kc ks _ d (by omega) (by omega) (by omega) (by omega) k⟩
    · refine if_no (by omega) ?_
      (first | refine And.intro (show gR _ from by first | assumption | omega | decide | exact b2i_R _ | exact gR_of (by omega) (by omega)) ?_ | refine And.intro (show gHas _ _ _ from by first | exact gW.has (gD.w (by assumption)) (by omega) | exact gD.has (by assumption) | exact gRu.has (gD.ru (by assumption)) | exact gGr.has (gD.gr (by assumption) _ (by omega))) ?_ | refine gCall_mk (by decide) (by decide) ?_ | refine if_yes (by first | assumption | omega | decide | exact b2i_R _ | exact gR_of (by omega) (by omega)) ?_ | refine if_no (by first | assumption | omega | decide | exact b2i_R _ | exact gR_of (by omega) (by omega)) ?_)
      refine gCall_mk (by omega) (by omega) (s_digestGrowth d (show i < 2 by omega) (fun h1 U1 r1 d1 f1 => ?_))
      show w_X5_digest_L26 G X Q n (A 22) _ ((i : Int) + 1) h1 _ _
      rw [show (i : Int) + 1 = ((i + 1 : Nat) : Int) by omega]
      exact s_digest_L26 n (i + 1) h1 U1 _ _ _ d1 (by omega) (by omega) (by omega) (by omega) (fun h' U' r d' f' => k h' U' r d' (f1.tr f'))
theorem s_digest_L6 {Q : Int64 → gaH → Prop} : ∀ (n i : Nat) (h : gaH) (U : Nat → List Bool) (kc ks : Nat) (t : Int64), gD A G h U st → i ≤ 3 → 3 - i < n → 7 * (3 - i) + 36 ≤ kc → 42 * (3 - i) + 216 ≤ ks → (∀ h' U' r, gD A G h' U' st → gFr A h h' → Q r h') → w_X5_digest_L6 G X Q n (A 22) t (i : Int) h kc ks
  | 0, _, _, _, _, _, _, _, _, h1, _, _, _ => absurd h1 (Nat.not_lt_zero _)
  | n + 1, i, h, U, kc, ks, t, d, hi, h1, hc, hs, k => by
    unfold w_X5_digest_L6
    (first | refine And.intro (show gR _ from by first | assumption | omega | decide | exact b2i_R _ | exact gR_of (by omega) (by omega)) ?_ | refine And.intro (show gHas _ _ _ from by first | exact gW.has (gD.w (by assumption)) (by omega) | exact gD.has (by assumption) | exact gRu.has (gD.ru (by assumption)) | exact gGr.has (gD.gr (by assumption) _ (by omega))) ?_ | refine gCall_mk (by decide) (by decide) ?_ | refine if_yes (by first | assumption | omega | decide | exact b2i_R _ | exact gR_of (by omega) (by omega)) ?_ | refine if_no (by first | assumption | omega | decide | exact b2i_R _ | exact gR_of (by omega) (by omega)) ?_)
    by_cases q : 3 ≤ i
    · exact if_yes (by omega) ⟨3, s_digest_L26 3 0 h U kc ks _ d (by omega) (by omega) (by omega) (by omega) k⟩
    · refine if_no (by omega) ?_
      (first | refine And.intro (show gR _ from by first | assumption | omega | decide | exact b2i_R _ | exact gR_of (by omega) (by omega)) ?_ | refine And.intro (show gHas _ _ _ from by first | exact gW.has (gD.w (by assumption)) (by omega) | exact gD.has (by assumption) | exact gRu.has (gD.ru (by assumption)) | exact gGr.has (gD.gr (by assumption) _ (by omega))) ?_ | refine gCall_mk (by decide) (by decide) ?_ | refine if_yes (by first | assumption | omega | decide | exact b2i_R _ | exact gR_of (by omega) (by omega)) ?_ | refine if_no (by first | assumption | omega | decide | exact b2i_R _ | exact gR_of (by omega) (by omega)) ?_)
      refine gCall_mk (by omega) (by omega) (s_digestSheet d (show i < 3 by omega) (fun h1 U1 r1 d1 f1 => ?_))
      show w_X5_digest_L6 G X Q n (A 22) _ ((i : Int) + 1) h1 _ _
      rw [show (i : Int) + 1 = ((i + 1 : Nat) : Int) by omega]
      exact s_digest_L6 n (i + 1) h1 U1 _ _ _ d1 (by omega) (by omega) (by omega) (by omega) (fun h' U' r d' f' => k h' U' r d' (f1.tr f'))
theorem s_digest {Q : Int64 → gaH → Prop} (d : gD A G h U st) (k : ∀ h' U' r, gD A G h' U' st → gFr A h h' → Q r h') : w_X5_digest G X (A 22) h Q :=
  ⟨4, s_digest_L6 4 0 h U 78 468 _ d (by decide) (by decide) (by decide) (by decide) k⟩
end CD
/-! Texts, as far as they go through: what a StringBuilder holds is told by its length. -/
def sbd (h0 h : gaH) (b : Nat) (n : Nat) : Prop := ∃ v bs, h b = some (1, [.ref v, gi 0, gi 0, gi (n : Int)]) ∧ h v = some (101, bs) ∧ (∀ x ∈ bs, fits (gaTy 101) x = true) ∧ (bs.length = 16 ∨ bs.length = 34 ∨ bs.length = 70) ∧ n ≤ bs.length ∧ b ≠ v ∧ h0 b = none ∧ h0 v = none ∧ ∀ a e, h0 a = some e → h a = some e
theorem gNA_mk {h : gaH} {t : Nat} {v : Value} {x : Int} {c s : Nat} {K : Nat → gaH → Nat → Nat → Prop} {n : Nat} (hx : x = (n : Int)) (h1 : n ≤ 100000) (h2 : 1 ≤ c) (h3 : n ≤ s) (k : ∀ a, h a = none → K a (gaUp h a (t, List.replicate n v)) (c - 1) (s - n)) : gNA h t v x c s K := by
  subst hx
  exact ⟨by omega, by omega, h2, by omega, fun a ha => ⟨_, _, rfl, rfl, by rw [Int.toNat_natCast]; exact k a ha⟩⟩
theorem gNO_mk {h : gaH} {ci n : Nat} {fs : List Value} {c s : Nat} {K : Nat → gaH → Nat → Nat → Prop} (h2 : 1 ≤ c) (h3 : n ≤ s) (k : ∀ a, h a = none → K a (gaUp h a (ci, fs)) (c - 1) (s - n)) : gNO h ci n fs c s K := ⟨h2, h3, fun a ha => ⟨_, _, rfl, rfl, k a ha⟩⟩
theorem up_keep {h : gaH} {a b : Nat} {e f : gaE} (hb : h b = none) (ha : h a = some e) : gaUp h b f a = some e := by
  rw [gaUp_ne _ _ (fun q => by rw [q, hb] at ha; cases ha)]; exact ha
theorem new_ne {h : gaH} {a b : Nat} {e : gaE} (ha : h a = some e) (hb : h b = none) : a ≠ b := fun q => by rw [q, hb] at ha; cases ha
theorem fits0 {n : Nat} : ∀ x ∈ List.replicate n (gi 0), fits (gaTy 101) x = true := fun x hx => by rw [List.eq_of_mem_replicate hx]; decide +kernel
section SB
variable {G : gaG} {h0 h : gaH} {b n : Nat}
theorem sb_init {Q : gaH → Prop} {b : Nat} (hb : h0 b = none) (k : ∀ h', sbd h0 h' b 0 → Q h') : w_J4_init_da8c8 G b (gaUp h0 b (1, [.null, gi 0, gi 0, gi 0])) Q := by
  unfold w_J4_init_da8c8
  refine gCall_mk (by decide) (by decide) ?_
  unfold w_J5_init_d00df
  refine gNA_mk (n := 16) rfl (by decide) (by decide) (by decide) (fun v hv => ?_)
  have hvb : v ≠ b := fun q => by rw [q, gaUp_self] at hv; cases hv
  rw [gaUp_ne _ _ hvb] at hv
  refine gPF_mk (fs := [.null, gi 0, gi 0, gi 0]) (by rw [gaUp_ne _ _ (Ne.symm hvb), gaUp_self]) (by simp) (gPF_mk (gaUp_self _ _ _) (by simp) (k _ ⟨v, List.replicate 16 (gi 0), ?_, ?_, fits0, by simp, by decide, Ne.symm hvb, hb, hv, fun a e ha => ?_⟩))
  · rw [gaUp_self]; rfl
  · rw [gaUp_ne _ _ hvb, gaUp_ne _ _ hvb, gaUp_self]
  · rw [gaUp_ne _ _ (new_ne ha hb), gaUp_ne _ _ (new_ne ha hb), gaUp_ne _ _ (new_ne ha hv), gaUp_ne _ _ (new_ne ha hb)]; exact ha
theorem gShr0 {n : Nat} (hn : n < 2147483648) : gShr (n : Int) 0 = (n : Int) := by have := gShr_nat (n := n) (d := 0) hn (by decide); simpa using this
theorem gShl0 {n : Nat} (hn : n < 2147483648) : gShl (n : Int) 0 = (n : Int) := by have := gShl_nat (n := n) (d := 0) (by omega) (by decide); simpa using this
theorem sb_ensure {Q : gaH → Prop} (sb : sbd h0 h b n) {m : Nat} {x : Int} (hx : x = (m : Int)) (hm : m ≤ 65) (hmn : n ≤ m) (hnm : m ≤ n + 1) (k : ∀ h', sbd h0 h' b n → (∀ v bs, h' b = some (1, [.ref v, gi 0, gi 0, gi (n : Int)]) → h' v = some (101, bs) → m ≤ bs.length) → Q h') : w_J5_ensureCapacityInternal_d00df b x h Q := by
  subst hx
  obtain ⟨v, bs, a1, a2, a3, a4, a5, a6, a7, a8, a9⟩ := id sb
  unfold w_J5_ensureCapacityInternal_d00df
  refine gA_mk a1 rfl (gAL_mk a2 rfl (gI_mk a1 rfl (x := 0) ?_))
  rw [gShr0 (by omega)]
  (first | refine And.intro (show gR _ from by first | assumption | omega | decide | exact b2i_R _ | exact gR_of (by omega) (by omega)) ?_ | refine And.intro (show gHas _ _ _ from by first | exact gW.has (gD.w (by assumption)) (by omega) | exact gD.has (by assumption) | exact gRu.has (gD.ru (by assumption)) | exact gGr.has (gD.gr (by assumption) _ (by omega))) ?_ | refine gCall_mk (by decide) (by decide) ?_ | refine if_yes (by first | assumption | omega | decide | exact b2i_R _ | exact gR_of (by omega) (by omega)) ?_ | refine if_no (by first | assumption | omega | decide | exact b2i_R _ | exact gR_of (by omega) (by omega)) ?_)
  by_cases q : m ≤ bs.length
  · exact if_yes (by omega) (k h sb (fun v2 bs2 e1 e2 => by
      rw [a1] at e1; cases e1; rw [a2] at e2; cases e2; exact q))
  · refine if_no (by omega) (gA_mk a1 rfl ⟨⟨_, a1⟩, ?_⟩)
    have hl : bs.length = 16 ∨ bs.length = 34 := by omega
    have nn : n = bs.length := by omega
    unfold w_J5_newCapacity_0f7a4
    refine gA_mk a1 rfl (gAL_mk a2 rfl (gI_mk a1 rfl (x := 0) (gI_mk a1 rfl (x := 0) ?_)))
    rw [gShl0 (by omega), show gShl 2 0 = 2 by decide +kernel]
    unfold w_J8_newLength_cabcc
    (first | refine And.intro (show gR _ from by first | assumption | omega | decide | exact b2i_R _ | exact gR_of (by omega) (by omega)) ?_ | refine And.intro (show gHas _ _ _ from by first | exact gW.has (gD.w (by assumption)) (by omega) | exact gD.has (by assumption) | exact gRu.has (gD.ru (by assumption)) | exact gGr.has (gD.gr (by assumption) _ (by omega))) ?_ | refine gCall_mk (by decide) (by decide) ?_ | refine if_yes (by first | assumption | omega | decide | exact b2i_R _ | exact gR_of (by omega) (by omega)) ?_ | refine if_no (by first | assumption | omega | decide | exact b2i_R _ | exact gR_of (by omega) (by omega)) ?_); (first | refine And.intro (show gR _ from by first | assumption | omega | decide | exact b2i_R _ | exact gR_of (by omega) (by omega)) ?_ | refine And.intro (show gHas _ _ _ from by first | exact gW.has (gD.w (by assumption)) (by omega) | exact gD.has (by assumption) | exact gRu.has (gD.ru (by assumption)) | exact gGr.has (gD.gr (by assumption) _ (by omega))) ?_ | refine gCall_mk (by decide) (by decide) ?_ | refine if_yes (by first | assumption | omega | decide | exact b2i_R _ | exact gR_of (by omega) (by omega)) ?_ | refine if_no (by first | assumption | omega | decide | exact b2i_R _ | exact gR_of (by omega) (by omega)) ?_); (first | refine And.intro (show gR _ from by first | assumption | omega | decide | exact b2i_R _ | exact gR_of (by omega) (by omega)) ?_ | refine And.intro (show gHas _ _ _ from by first | exact gW.has (gD.w (by assumption)) (by omega) | exact gD.has (by assumption) | exact gRu.has (gD.ru (by assumption)) | exact gGr.has (gD.gr (by assumption) _ (by omega))) ?_ | refine gCall_mk (by decide) (by decide) ?_ | refine if_yes (by first | assumption | omega | decide | exact b2i_R _ | exact gR_of (by omega) (by omega)) ?_ | refine if_no (by first | assumption | omega | decide | exact b2i_R _ | exact gR_of (by omega) (by omega)) ?_); (first | refine And.intro (show gR _ from by first | assumption | omega | decide | exact b2i_R _ | exact gR_of (by omega) (by omega)) ?_ | refine And.intro (show gHas _ _ _ from by first | exact gW.has (gD.w (by assumption)) (by omega) | exact gD.has (by assumption) | exact gRu.has (gD.ru (by assumption)) | exact gGr.has (gD.gr (by assumption) _ (by omega))) ?_ | refine gCall_mk (by decide) (by decide) ?_ | refine if_yes (by first | assumption | omega | decide | exact b2i_R _ | exact gR_of (by omega) (by omega)) ?_ | refine if_no (by first | assumption | omega | decide | exact b2i_R _ | exact gR_of (by omega) (by omega)) ?_); (first | refine And.intro (show gR _ from by first | assumption | omega | decide | exact b2i_R _ | exact gR_of (by omega) (by omega)) ?_ | refine And.intro (show gHas _ _ _ from by first | exact gW.has (gD.w (by assumption)) (by omega) | exact gD.has (by assumption) | exact gRu.has (gD.ru (by assumption)) | exact gGr.has (gD.gr (by assumption) _ (by omega))) ?_ | refine gCall_mk (by decide) (by decide) ?_ | refine if_yes (by first | assumption | omega | decide | exact b2i_R _ | exact gR_of (by omega) (by omega)) ?_ | refine if_no (by first | assumption | omega | decide | exact b2i_R _ | exact gR_of (by omega) (by omega)) ?_); (first | refine And.intro (show gR _ from by first | assumption | omega | decide | exact b2i_R _ | exact gR_of (by omega) (by omega)) ?_ | refine And.intro (show gHas _ _ _ from by first | exact gW.has (gD.w (by assumption)) (by omega) | exact gD.has (by assumption) | exact gRu.has (gD.ru (by assumption)) | exact gGr.has (gD.gr (by assumption) _ (by omega))) ?_ | refine gCall_mk (by decide) (by decide) ?_ | refine if_yes (by first | assumption | omega | decide | exact b2i_R _ | exact gR_of (by omega) (by omega)) ?_ | refine if_no (by first | assumption | omega | decide | exact b2i_R _ | exact gR_of (by omega) (by omega)) ?_)
    (first | refine And.intro (show gR _ from by first | assumption | omega | decide | exact b2i_R _ | exact gR_of (by omega) (by omega)) ?_ | refine And.intro (show gHas _ _ _ from by first | exact gW.has (gD.w (by assumption)) (by omega) | exact gD.has (by assumption) | exact gRu.has (gD.ru (by assumption)) | exact gGr.has (gD.gr (by assumption) _ (by omega))) ?_ | refine gCall_mk (by decide) (by decide) ?_ | refine if_yes (by first | assumption | omega | decide | exact b2i_R _ | exact gR_of (by omega) (by omega)) ?_ | refine if_no (by first | assumption | omega | decide | exact b2i_R _ | exact gR_of (by omega) (by omega)) ?_); (first | refine And.intro (show gR _ from by first | assumption | omega | decide | exact b2i_R _ | exact gR_of (by omega) (by omega)) ?_ | refine And.intro (show gHas _ _ _ from by first | exact gW.has (gD.w (by assumption)) (by omega) | exact gD.has (by assumption) | exact gRu.has (gD.ru (by assumption)) | exact gGr.has (gD.gr (by assumption) _ (by omega))) ?_ | refine gCall_mk (by decide) (by decide) ?_ | refine if_yes (by first | assumption | omega | decide | exact b2i_R _ | exact gR_of (by omega) (by omega)) ?_ | refine if_no (by first | assumption | omega | decide | exact b2i_R _ | exact gR_of (by omega) (by omega)) ?_)
    refine gI_mk a1 rfl (x := 0) ?_
    have emax : (bs.length : Int) + max ((m : Int) - (bs.length : Int)) ((bs.length : Int) + 2) = ((2 * bs.length + 2 : Nat) : Int) := by omega
    rw [emax, gShr0 (by omega)]
    refine gI_mk a1 rfl (x := 0) (gCall_mk (by decide) (by decide) ?_)
    rw [gShl0 (by omega)]
    unfold w_J7_copyOf_9075b
    refine gAL_mk a2 rfl ?_
    (first | refine And.intro (show gR _ from by first | assumption | omega | decide | exact b2i_R _ | exact gR_of (by omega) (by omega)) ?_ | refine And.intro (show gHas _ _ _ from by first | exact gW.has (gD.w (by assumption)) (by omega) | exact gD.has (by assumption) | exact gRu.has (gD.ru (by assumption)) | exact gGr.has (gD.gr (by assumption) _ (by omega))) ?_ | refine gCall_mk (by decide) (by decide) ?_ | refine if_yes (by first | assumption | omega | decide | exact b2i_R _ | exact gR_of (by omega) (by omega)) ?_ | refine if_no (by first | assumption | omega | decide | exact b2i_R _ | exact gR_of (by omega) (by omega)) ?_); (first | refine And.intro (show gR _ from by first | assumption | omega | decide | exact b2i_R _ | exact gR_of (by omega) (by omega)) ?_ | refine And.intro (show gHas _ _ _ from by first | exact gW.has (gD.w (by assumption)) (by omega) | exact gD.has (by assumption) | exact gRu.has (gD.ru (by assumption)) | exact gGr.has (gD.gr (by assumption) _ (by omega))) ?_ | refine gCall_mk (by decide) (by decide) ?_ | refine if_yes (by first | assumption | omega | decide | exact b2i_R _ | exact gR_of (by omega) (by omega)) ?_ | refine if_no (by first | assumption | omega | decide | exact b2i_R _ | exact gR_of (by omega) (by omega)) ?_)
    refine if_no (by omega) (gNA_mk (n := 2 * bs.length + 2) rfl (by omega) (by decide) (by omega) (fun c hc => ?_))
    have cv := new_ne a2 hc
    have cb := new_ne a1 hc
    refine gAL_mk (up_keep hc a2) rfl ?_
    (first | refine And.intro (show gR _ from by first | assumption | omega | decide | exact b2i_R _ | exact gR_of (by omega) (by omega)) ?_ | refine And.intro (show gHas _ _ _ from by first | exact gW.has (gD.w (by assumption)) (by omega) | exact gD.has (by assumption) | exact gRu.has (gD.ru (by assumption)) | exact gGr.has (gD.gr (by assumption) _ (by omega))) ?_ | refine gCall_mk (by decide) (by decide) ?_ | refine if_yes (by first | assumption | omega | decide | exact b2i_R _ | exact gR_of (by omega) (by omega)) ?_ | refine if_no (by first | assumption | omega | decide | exact b2i_R _ | exact gR_of (by omega) (by omega)) ?_); (first | refine And.intro (show gR _ from by first | assumption | omega | decide | exact b2i_R _ | exact gR_of (by omega) (by omega)) ?_ | refine And.intro (show gHas _ _ _ from by first | exact gW.has (gD.w (by assumption)) (by omega) | exact gD.has (by assumption) | exact gRu.has (gD.ru (by assumption)) | exact gGr.has (gD.gr (by assumption) _ (by omega))) ?_ | refine gCall_mk (by decide) (by decide) ?_ | refine if_yes (by first | assumption | omega | decide | exact b2i_R _ | exact gR_of (by omega) (by omega)) ?_ | refine if_no (by first | assumption | omega | decide | exact b2i_R _ | exact gR_of (by omega) (by omega)) ?_)
    refine ⟨cv, ⟨bs, _, up_keep hc a2, gaUp_self _ _ _, by omega, by omega, by omega, by omega, by omega, by omega, by simp; omega, a3, fun us e1 e2 => ?_⟩⟩
    rw [List.length_replicate] at e1
    have hc0 : h0 c = none := by
      cases q2 : h0 c with
      | none => rfl
      | some e => rw [a9 c e q2] at hc; cases hc
    refine gPF_mk (fs := [.ref v, gi 0, gi 0, gi (n : Int)]) (by rw [gaUp_ne _ _ cb, gaUp_ne _ _ cb]; exact a1) (by simp) (k _ ⟨c, us, ?_, ?_, fun x hx => ?_, by omega, by omega, cb, a7, hc0, fun a e ha => ?_⟩ (fun v2 bs2 f1 f2 => ?_))
    · rw [gaUp_self]; rfl
    · rw [gaUp_ne _ _ (Ne.symm cb), gaUp_self]
    · rcases e2.1 x hx with q3 | q3
      · exact a3 x q3
      · exact fits0 x q3
    · have := a9 a e ha
      rw [gaUp_ne _ _ (new_ne ha a7), gaUp_ne _ _ (new_ne this hc), gaUp_ne _ _ (new_ne this hc)]; exact this
    · rw [gaUp_self] at f1
      cases f1
      rw [gaUp_ne _ _ (Ne.symm cb), gaUp_self] at f2
      cases f2
      omega
theorem gI2b_byte {c : Int} (h1 : 0 ≤ c) (h2 : c ≤ 127) : gI2b c = c := by
  obtain ⟨n, rfl⟩ : ∃ n : Nat, c = n := ⟨c.toNat, by omega⟩
  have : ∀ m, m < 128 → gI2b ((m : Nat) : Int) = (m : Int) := by decide +kernel
  exact this n (by omega)
theorem narrow_byte2 {c : Int} (h1 : 0 ≤ c) (h2 : c ≤ 127) : narrow .byte (gi c) = gi c ∧ fits (gaTy 101) (gi c) = true := by
  obtain ⟨n, rfl⟩ : ∃ n : Nat, c = n := ⟨c.toNat, by omega⟩
  have : ∀ m, m < 128 → narrow .byte (gi ((m : Nat) : Int)) = gi (m : Int) ∧ fits (gaTy 101) (gi (m : Int)) = true := by decide +kernel
  exact this n (by omega)
theorem sb_put {K : gaH → Prop} (sb : sbd h0 h b n) {v : Nat} {bs : List Value} (a1 : h b = some (1, [.ref v, gi 0, gi 0, gi (n : Int)])) (a2 : h v = some (101, bs)) {c : Int} (h1 : 0 ≤ c) (h2 : c ≤ 127) {x : Int} {p : Nat} (hx : x = (p : Int)) (hp : p < bs.length) (k : ∀ h' bs', sbd h0 h' b n → h' b = some (1, [.ref v, gi 0, gi 0, gi (n : Int)]) → h' v = some (101, bs') → bs'.length = bs.length → K h') : gSI h v 101 x (gi c) K := by
  subst hx
  obtain ⟨v', bs', b1, b2, b3, b4, b5, b6, b7, b8, b9⟩ := sb
  rw [a1] at b1; cases b1
  rw [a2] at b2; cases b2
  refine gSI_mk a2 (by omega) (by omega) (by omega) (k _ (bs.set p (gi c)) ⟨v, bs.set p (gi c), ?_, ?_, ?_, by simpa using b4, by simpa using b5, b6, b7, b8, fun a e ha => ?_⟩ ?_ ?_ (by simp))
  · rw [gaUp_ne _ _ b6]; exact a1
  · rw [gaUp_self, Int.toNat_natCast]
  · intro x hx
    rcases List.mem_or_eq_of_mem_set hx with q | q
    · exact b3 x q
    · rw [q]; exact (narrow_byte2 h1 h2).2
  · rw [gaUp_ne _ _ (new_ne ha b8)]; exact b9 a e ha
  · rw [gaUp_ne _ _ b6]; exact a1
  · rw [gaUp_self, Int.toNat_natCast]
theorem sb_cnt {K : gaH → Prop} (sb : sbd h0 h b n) {m : Nat} {x : Int} (hx : x = (m : Int)) (hm : ∀ v bs, h b = some (1, [.ref v, gi 0, gi 0, gi (n : Int)]) → h v = some (101, bs) → m ≤ bs.length) (k : ∀ h', sbd h0 h' b m → (∀ a, a ≠ b → h' a = h a) → (∀ v, h b = some (1, [.ref v, gi 0, gi 0, gi (n : Int)]) → h' b = some (1, [.ref v, gi 0, gi 0, gi (m : Int)])) → K h') : gPF h b 1 3 (gi x) K := by
  subst hx
  obtain ⟨v, bs, b1, b2, b3, b4, b5, b6, b7, b8, b9⟩ := sb
  refine gPF_mk b1 (by simp) (k _ ⟨v, bs, by rw [gaUp_self]; rfl, by rw [gaUp_ne _ _ (Ne.symm b6)]; exact b2, b3, b4, hm v bs b1 b2, b6, b7, b8, fun a e ha => by rw [gaUp_ne _ _ (new_ne ha b7)]; exact b9 a e ha⟩ (fun a ha => gaUp_ne _ _ ha) (fun w q => by rw [b1] at q; cases q; rw [gaUp_self]; rfl))
theorem sb_lat {Q : Int → gaH → Prop} (sb : sbd h0 h b n) (k : Q 1 h) : w_J5_isLatin1_aae02 G b h Q := by
  obtain ⟨v, bs, b1, -⟩ := sb
  unfold w_J5_isLatin1_aae02
  exact gI_mk b1 rfl (x := 0) ⟨by decide, if_yes rfl k⟩
theorem sbd.has (sb : sbd h0 h b n) : gHas h b 1 := by obtain ⟨v, bs, b1, -⟩ := sb; exact ⟨_, b1⟩
/-- a sign is added -/
theorem sb_char {Q : Nat → gaH → Prop} (sb : sbd h0 h b n) (hn : n < 65) {c : Int} (h1 : 0 ≤ c) (h2 : c ≤ 127) (k : ∀ h', sbd h0 h' b (n + 1) → Q b h') : w_J4_append_cf468 G b c h Q := by
  unfold w_J4_append_cf468
  refine ⟨sb.has, gCall_mk (by decide) (by decide) ?_⟩
  unfold w_J5_append_3fe6f
  obtain ⟨v0, bs0, b1, -⟩ := id sb
  refine gI_mk b1 rfl (x := (n : Int)) ⟨sb.has, gCall_mk (by decide) (by decide) (sb_ensure sb (m := n + 1) (by omega) (by omega) (by omega) (by omega) (fun h' s1 le => ⟨s1.has, sb_lat s1 ?_⟩))⟩
  (first | refine And.intro (show gR _ from by first | assumption | omega | decide | exact b2i_R _ | exact gR_of (by omega) (by omega)) ?_ | refine And.intro (show gHas _ _ _ from by first | exact gW.has (gD.w (by assumption)) (by omega) | exact gD.has (by assumption) | exact gRu.has (gD.ru (by assumption)) | exact gGr.has (gD.gr (by assumption) _ (by omega))) ?_ | refine gCall_mk (by decide) (by decide) ?_ | refine if_yes (by first | assumption | omega | decide | exact b2i_R _ | exact gR_of (by omega) (by omega)) ?_ | refine if_no (by first | assumption | omega | decide | exact b2i_R _ | exact gR_of (by omega) (by omega)) ?_); (first | refine And.intro (show gR _ from by first | assumption | omega | decide | exact b2i_R _ | exact gR_of (by omega) (by omega)) ?_ | refine And.intro (show gHas _ _ _ from by first | exact gW.has (gD.w (by assumption)) (by omega) | exact gD.has (by assumption) | exact gRu.has (gD.ru (by assumption)) | exact gGr.has (gD.gr (by assumption) _ (by omega))) ?_ | refine gCall_mk (by decide) (by decide) ?_ | refine if_yes (by first | assumption | omega | decide | exact b2i_R _ | exact gR_of (by omega) (by omega)) ?_ | refine if_no (by first | assumption | omega | decide | exact b2i_R _ | exact gR_of (by omega) (by omega)) ?_)
  refine if_no (by omega) ⟨by decide, if_no (by decide) ?_⟩
  obtain ⟨v, bs, a1, a2, -⟩ := id s1
  have hl := le v bs a1 a2
  refine gA_mk a1 rfl (gI_mk a1 rfl (x := (n : Int)) (sb_cnt s1 (m := n + 1) (by omega) le (fun h2' s2 keep e => ?_)))
  rw [gI2b_byte h1 h2]
  refine ⟨(narrow_byte2 h1 h2).1, sb_put s2 (e v a1) (by
    obtain ⟨_, _, _, _, _, _, _, q, -⟩ := id s1
    rw [keep v (fun z => by
      obtain ⟨v3, bs3, c1, c2, c3, c4, c5, c6, -⟩ := s1
      rw [a1] at c1; cases c1; exact c6 z.symm)]; exact a2) h1 h2 rfl (by omega) (fun h3 bs3 s3 _ _ _ => k h3 s3)⟩
/-- a turn is added -/
theorem sb_turn {Q : Nat → gaH → Prop} (sb : sbd h0 h b n) (hn : n < 65) (m3 : h0 (G.2.2.2 1) = some (1101, gaOnes)) {t : Nat} (ht : 1 ≤ t ∧ t ≤ 3) (k : ∀ h', sbd h0 h' b (n + 1) → Q b h') : w_J4_append_bf812 G b (t : Int) h Q := by
  unfold w_J4_append_bf812
  refine ⟨sb.has, gCall_mk (by decide) (by decide) ?_⟩
  unfold w_J5_append_c97b9
  obtain ⟨v0, bs0, b1, -⟩ := id sb
  refine gI_mk b1 rfl (x := (n : Int)) ?_
  unfold w_J6_stringSize_0f7a4
  refine ⟨by omega, if_no (by omega) ⟨1, ?_⟩⟩
  unfold w_J6_stringSize_0f7a4_L16
  refine ⟨by decide, if_no (by decide) ⟨by omega, by decide, if_no (by omega) ⟨sb.has, gCall_mk (by decide) (by decide) (sb_ensure sb (m := n + 1) (by omega) (by omega) (by omega) (by omega) (fun h' s1 le => ⟨s1.has, sb_lat s1 ?_⟩))⟩⟩⟩
  (first | refine And.intro (show gR _ from by first | assumption | omega | decide | exact b2i_R _ | exact gR_of (by omega) (by omega)) ?_ | refine And.intro (show gHas _ _ _ from by first | exact gW.has (gD.w (by assumption)) (by omega) | exact gD.has (by assumption) | exact gRu.has (gD.ru (by assumption)) | exact gGr.has (gD.gr (by assumption) _ (by omega))) ?_ | refine gCall_mk (by decide) (by decide) ?_ | refine if_yes (by first | assumption | omega | decide | exact b2i_R _ | exact gR_of (by omega) (by omega)) ?_ | refine if_no (by first | assumption | omega | decide | exact b2i_R _ | exact gR_of (by omega) (by omega)) ?_); (first | refine And.intro (show gR _ from by first | assumption | omega | decide | exact b2i_R _ | exact gR_of (by omega) (by omega)) ?_ | refine And.intro (show gHas _ _ _ from by first | exact gW.has (gD.w (by assumption)) (by omega) | exact gD.has (by assumption) | exact gRu.has (gD.ru (by assumption)) | exact gGr.has (gD.gr (by assumption) _ (by omega))) ?_ | refine gCall_mk (by decide) (by decide) ?_ | refine if_yes (by first | assumption | omega | decide | exact b2i_R _ | exact gR_of (by omega) (by omega)) ?_ | refine if_no (by first | assumption | omega | decide | exact b2i_R _ | exact gR_of (by omega) (by omega)) ?_)
  obtain ⟨v, bs, a1, a2, a3, a4, a5, a6, a7, a8, a9⟩ := id s1
  have hl := le v bs a1 a2
  refine gA_mk a1 rfl ?_
  unfold w_J6_getChars_ba4f3
  refine ⟨by omega, if_yes (by omega) ?_⟩
  unfold w_J6_getChars_ba4f3_J12
  refine ⟨by decide, if_yes rfl ⟨1, ?_⟩⟩
  unfold w_J6_getChars_ba4f3_L22
  refine ⟨by omega, if_yes (by omega) ⟨1101, gaOnes, ((48 + t % 10 : Nat) : Int), a9 _ _ m3, Or.inr rfl, by omega, by omega, ?_, ?_⟩⟩
  · rw [Int.neg_neg, Int.toNat_natCast]
    rcases (show t = 1 ∨ t = 2 ∨ t = 3 by omega) with rfl | rfl | rfl <;> rfl
  · refine ⟨(narrow_byte2 (by omega) (by omega)).1, sb_put s1 a1 a2 (by omega) (by omega) (p := n) (by omega) (by omega) (fun h2 bs2 s2 e1 e2 e3 => ⟨by omega, if_yes (by omega) ?_⟩)⟩
    unfold w_J6_getChars_ba4f3_J104
    refine ⟨by decide, if_yes rfl ?_⟩
    refine sb_cnt s2 (m := n + 1) (by omega) (fun v2 bs3 f1 f2 => ?_) (fun h3 s3 _ _ => k h3 s3)
    rw [e1] at f1; cases f1
    rw [e2] at f2; cases f2
    omega
theorem sb_toString {Q : Nat → gaH → Prop} (sb : sbd h0 h b n) (hn : n ≤ 64) (k : ∀ h' o, (∀ a e, h0 a = some e → h' a = some e) → h0 o = none → Q o h') : w_J4_toString_0e30d G b h Q := by
  obtain ⟨v, bs, a1, a2, a3, a4, a5, a6, a7, a8, a9⟩ := id sb
  unfold w_J4_toString_0e30d
  refine gNO_mk (by decide) (by decide) (fun o ho => gCall_mk (by decide) (by decide) ?_)
  have ob := new_ne a1 ho
  have ov := new_ne a2 ho
  have ho0 : h0 o = none := by
    cases q2 : h0 o with
    | none => rfl
    | some e => rw [a9 o e q2] at ho; cases ho
  unfold w_J0_init_81219
  refine gCall_mk (by decide) (by decide) ?_
  unfold w_J0_init_db425 w_J5_getValue_6d5f1
  have e1 : gaUp h o (0, [.null, gi 0, gi 0, gi 0]) b = some (1, [.ref v, gi 0, gi 0, gi (n : Int)]) := up_keep ho a1
  refine ⟨⟨_, e1⟩, gA_mk e1 rfl ⟨⟨_, e1⟩, ?_⟩⟩
  unfold w_J4_length_8abf5 w_J5_length_8abf5
  refine ⟨⟨_, e1⟩, gI_mk e1 rfl (x := (n : Int)) ⟨⟨_, e1⟩, ?_⟩⟩
  unfold w_J5_isLatin1_aae02
  refine gI_mk e1 rfl (x := 0) ⟨by decide, if_yes rfl ⟨by decide, if_no (by decide) (gPF_mk (gaUp_self _ _ _) (by decide) (gCall_mk (by decide) (by decide) ?_))⟩⟩
  have e2 : gaUp (gaUp h o (0, [.null, gi 0, gi 0, gi 0])) o (0, [.null, gi 0, gi 0, gi 0].set 1 (gi 0)) v = some (101, bs) := by rw [gaUp_ne _ _ ov, gaUp_ne _ _ ov]; exact a2
  have e3 : ∀ a e, h0 a = some e → gaUp (gaUp h o (0, [.null, gi 0, gi 0, gi 0])) o (0, [.null, gi 0, gi 0, gi 0].set 1 (gi 0)) a = some e := fun a e ha => by rw [gaUp_ne _ _ (new_ne ha ho0), gaUp_ne _ _ (new_ne ha ho0)]; exact a9 a e ha
  have e4 : gaUp (gaUp h o (0, [.null, gi 0, gi 0, gi 0])) o (0, [.null, gi 0, gi 0, gi 0].set 1 (gi 0)) o = some (0, [.null, gi 0, gi 0, gi 0]) := gaUp_self _ _ _
  generalize gaUp (gaUp h o (0, [.null, gi 0, gi 0, gi 0])) o (0, [.null, gi 0, gi 0, gi 0].set 1 (gi 0)) = g at e2 e3 e4 ⊢
  have fin : ∀ c f, g c = none → ∀ f2, gPF (gaUp (gaUp g c f) c f2) o 0 0 (.ref c) (fun h' => Q o h') := fun c f hc f2 => by
    have oc := new_ne e4 hc
    exact gPF_mk (by rw [gaUp_ne _ _ oc, gaUp_ne _ _ oc]; exact e4) (by decide) (k _ o (fun a e ha => by
      have h9 := e3 a e ha
      rw [gaUp_ne _ _ (new_ne ha ho0), gaUp_ne _ _ (new_ne h9 hc), gaUp_ne _ _ (new_ne h9 hc)]; exact h9) ho0)
  have fin1 : ∀ c f, g c = none → gPF (gaUp g c f) o 0 0 (.ref c) (fun h' => Q o h') := fun c f hc => by
    have oc := new_ne e4 hc
    exact gPF_mk (by rw [gaUp_ne _ _ oc]; exact e4) (by decide) (k _ o (fun a e ha => by
      have h9 := e3 a e ha
      rw [gaUp_ne _ _ (new_ne ha ho0), gaUp_ne _ _ (new_ne h9 hc)]; exact h9) ho0)
  unfold w_J7_copyOfRange_39247
  refine ⟨by decide, if_yes rfl (gAL_mk e2 rfl ⟨by omega, by omega, ?_⟩)⟩
  by_cases q : n = bs.length
  · refine if_yes (by omega) ⟨bs, e2, a3, by decide, by omega, fun c hc => ⟨_, _, rfl, rfl, ⟨_, gaUp_self _ _ _⟩, ?_⟩⟩
    exact fin1 c _ hc
  · refine if_no (by omega) ?_
    unfold w_J7_copyOfRange_39247_J10 w_J7_copyOfRangeByte_39247 w_J7_checkLength_df160
    refine gCall_mk (by decide) (by decide) ⟨by omega, by decide, if_yes (by omega) ?_⟩
    refine gNA_mk (n := n) (by omega) (by omega) (by decide) (by omega) (fun c hc => ?_)
    refine gAL_mk (up_keep hc e2) rfl ?_
    refine ⟨by omega, by omega, new_ne e2 hc, ?_⟩
    refine ⟨bs, _, up_keep hc e2, gaUp_self _ _ _, by omega, by omega, by omega, by omega, by omega, by omega, by simp; omega, a3, fun us _ _ => ?_⟩
    exact fin c _ hc _
end SB
/-! The garden's texts, as far as they go through. -/
section CT
variable {A : Nat → Nat} {G : gaG} {h h0 : gaH} {U : Nat → List Bool} {st : GSt} {X : String → gaH → Prop} {Q : Nat → gaH → Prop} {w v g b : Nat} {x y z : Int}
/-- all that was there is there -/
theorem gD.kp (d : gD A G h U st) {h' : gaH} (k : ∀ a e, h a = some e → h' a = some e) : gD A G h' U st := by
  obtain ⟨⟨R, N, ⟨i1, i2, m, m1, m2⟩, e⟩, ru, ⟨x1, x2, x3⟩, gr, ok, gw, s, mc, ne⟩ := d
  exact ⟨⟨R, N, ⟨i1, fun w hw => ⟨(i2 w hw).1, (i2 w hw).2.1, k _ _ (i2 w hw).2.2.1, k _ _ (i2 w hw).2.2.2⟩, m, m1, k _ _ m2⟩, e⟩, k _ _ ru, ⟨k _ _ x1, k _ _ x2, k _ _ x3⟩, fun g hg => by
    obtain ⟨a0, row, a1, a2, a3, a4⟩ := gr g hg
    exact ⟨k _ _ a0, row, a1, a2, k _ _ a3, a4⟩, ok, gw, s, k _ _ mc, ne⟩
theorem gFr.kp {h h' : gaH} (k : ∀ a e, h a = some e → h' a = some e) : gFr A h h' := fun a e _ q => k a e q
theorem s_textOf_L (hw : w < 11) (d0 : gD A G h0 U st) (k : ∀ h' o, (∀ a e, h0 a = some e → h' a = some e) → h0 o = none → Q o h') : ∀ (n i : Nat) (h : gaH) (kc ks : Nat), sbd h0 h b i → i ≤ (U w).length → (U w).length - i < n → 2 * ((U w).length - i) + 5 ≤ kc → 134 * ((U w).length - i) + 272 ≤ ks → w_X1_textOf_L10 G Q n (A w) b (i : Int) h kc ks
  | 0, _, _, _, _, _, _, h1, _, _ => absurd h1 (Nat.not_lt_zero _)
  | n + 1, i, h, kc, ks, sb, hi, h1, hc, hs => by
    have kp : ∀ a e, h0 a = some e → h a = some e := by obtain ⟨_, _, _, _, _, _, _, _, _, _, q⟩ := sb; exact q
    have d := d0.kp kp
    have l1 := d.w.le hw
    unfold w_X1_textOf_L10
    refine d.w.many hw ?_
    refine ⟨by omega, by omega, ?_⟩
    by_cases q : (U w).length ≤ i
    · refine if_yes (by omega) ⟨sb.has, gCall_mk (by omega) (by omega) (sb_toString sb (by omega) k)⟩
    · refine if_no (by omega) ⟨d.w.has hw, s_isUp d.w hw rfl (by omega) ⟨b2i_R _, ?_⟩⟩
      have go : ∀ c : Int, 0 ≤ c → c ≤ 127 → w_X1_textOf_J34 G Q (w_X1_textOf_L10 G Q n) (A w) b (i : Int) b c h kc ks := fun c c1 c2 => by
        unfold w_X1_textOf_J34
        refine ⟨sb.has, gCall_mk (by omega) (by omega) (sb_char sb (by omega) c1 c2 (fun h' s' => ?_))⟩
        rw [show (i : Int) + 1 = ((i + 1 : Nat) : Int) by omega]
        exact s_textOf_L hw d0 k n (i + 1) h' _ _ s' (by omega) (by omega) (by omega) (by omega)
      exact ite_both (fun _ => go 97 (by decide) (by decide)) (fun _ => go 98 (by decide) (by decide))
theorem s_textOf (hw : w < 11) (d0 : gD A G h0 U st) (k : ∀ h' o, (∀ a e, h0 a = some e → h' a = some e) → h0 o = none → Q o h') : w_X1_textOf G (A w) h0 Q := by
  have l1 := d0.w.le hw
  unfold w_X1_textOf
  refine gNO_mk (by decide) (by decide) (fun o ho => gCall_mk (by decide) (by decide) (sb_init ho (fun h' sb => ⟨66, ?_⟩)))
  exact s_textOf_L hw d0 k 66 0 h' _ _ sb (Nat.zero_le _) (by omega) (by omega) (by omega)
theorem c_text (d : gD A G h U st) (hx : gR x) (e : ¬ okS x → X eI h) (k : okS x → ∀ h' o, (∀ a e, h a = some e → h' a = some e) → h o = none → Q o h') : w_X5_text G X (A 22) x h Q := by
  unfold w_X5_text
  (first | refine And.intro (show gR _ from by first | assumption | omega | decide | exact b2i_R _ | exact gR_of (by omega) (by omega)) ?_ | refine And.intro (show gHas _ _ _ from by first | exact gW.has (gD.w (by assumption)) (by omega) | exact gD.has (by assumption) | exact gRu.has (gD.ru (by assumption)) | exact gGr.has (gD.gr (by assumption) _ (by omega))) ?_ | refine gCall_mk (by decide) (by decide) ?_ | refine if_yes (by first | assumption | omega | decide | exact b2i_R _ | exact gR_of (by omega) (by omega)) ?_ | refine if_no (by first | assumption | omega | decide | exact b2i_R _ | exact gR_of (by omega) (by omega)) ?_)
  refine gCall_mk (by decide) (by decide) (c_wordOf d hx e (fun w hw e => gCall_mk (by decide) (by decide) (s_textOf (by omega) d (k (by omega)))))
theorem c_grown (d : gD A G h U st) (hx : gR x) (hy : y = 0 ∨ y = 1) (e : ¬ okG x → X eI h) (k : okG x → ∀ h' o, (∀ a e, h a = some e → h' a = some e) → h o = none → Q o h') : w_X5_grown G X (A 22) x y h Q := by
  unfold w_X5_grown
  (first | refine And.intro (show gR _ from by first | assumption | omega | decide | exact b2i_R _ | exact gR_of (by omega) (by omega)) ?_ | refine And.intro (show gHas _ _ _ from by first | exact gW.has (gD.w (by assumption)) (by omega) | exact gD.has (by assumption) | exact gRu.has (gD.ru (by assumption)) | exact gGr.has (gD.gr (by assumption) _ (by omega))) ?_ | refine gCall_mk (by decide) (by decide) ?_ | refine if_yes (by first | assumption | omega | decide | exact b2i_R _ | exact gR_of (by omega) (by omega)) ?_ | refine if_no (by first | assumption | omega | decide | exact b2i_R _ | exact gR_of (by omega) (by omega)) ?_)
  refine gCall_mk (by decide) (by decide) (c_growthOf d hx e (fun g hg e => ?_))
  (first | refine And.intro (show gR _ from by first | assumption | omega | decide | exact b2i_R _ | exact gR_of (by omega) (by omega)) ?_ | refine And.intro (show gHas _ _ _ from by first | exact gW.has (gD.w (by assumption)) (by omega) | exact gD.has (by assumption) | exact gRu.has (gD.ru (by assumption)) | exact gGr.has (gD.gr (by assumption) _ (by omega))) ?_ | refine gCall_mk (by decide) (by decide) ?_ | refine if_yes (by first | assumption | omega | decide | exact b2i_R _ | exact gR_of (by omega) (by omega)) ?_ | refine if_no (by first | assumption | omega | decide | exact b2i_R _ | exact gR_of (by omega) (by omega)) ?_)
  exact s_wordBy (d.gr g hg) hy (fun _ => gCall_mk (by decide) (by decide) (s_textOf (by omega) d (k (by omega)))) (fun _ => gCall_mk (by decide) (by decide) (s_textOf (by omega) d (k (by omega))))
theorem s_turns_L (hg : g < 2) (d0 : gD A G h0 U st) (m3 : h0 (G.2.2.2 1) = some (1101, gaOnes)) (k : ∀ h' o, (∀ a e, h0 a = some e → h' a = some e) → h0 o = none → Q o h') : ∀ (n i : Nat) (h : gaH) (kc ks : Nat), sbd h0 h b i → i ≤ (st.T g).length → (st.T g).length - i < n → 2 * ((st.T g).length - i) + 5 ≤ kc → 134 * ((st.T g).length - i) + 272 ≤ ks → w_X5_turns_L17 G X Q n (A (26 + g)) b (i : Int) h kc ks
  | 0, _, _, _, _, _, _, h1, _, _ => absurd h1 (Nat.not_lt_zero _)
  | n + 1, i, h, kc, ks, sb, hi, h1, hc, hs => by
    have kp : ∀ a e, h0 a = some e → h a = some e := by obtain ⟨_, _, _, _, _, _, _, _, _, _, q⟩ := sb; exact q
    have d := d0.kp kp
    have l1 := (d.ok g hg).len
    unfold w_X5_turns_L17
    refine (d.gr g hg).ct ⟨by omega, by omega, ?_⟩
    by_cases q : (st.T g).length ≤ i
    · refine if_yes (by omega) ⟨sb.has, gCall_mk (by omega) (by omega) (sb_toString sb (by omega) k)⟩
    · refine if_no (by omega) ⟨(d.gr g hg).has, s_turnAt (d.gr g hg) rfl (by omega) ⟨sb.has, gCall_mk (by omega) (by omega) (sb_turn sb (by omega) m3 ?_ (fun h' s' => ?_))⟩⟩
      · have hm : (st.T g).getD i 0 ∈ st.T g := by
          rw [List.getD_eq_getElem?_getD, List.getElem?_eq_getElem (by omega)]
          exact List.getElem_mem _
        exact (d.ok g hg).1 _ hm
      · rw [show (i : Int) + 1 = ((i + 1 : Nat) : Int) by omega]
        exact s_turns_L hg d0 m3 k n (i + 1) h' _ _ s' (by omega) (by omega) (by omega) (by omega)
theorem c_turns (d : gD A G h U st) (hx : gR x) (m3 : h (G.2.2.2 1) = some (1101, gaOnes)) (e : ¬ okG x → X eI h) (k : okG x → ∀ h' o, (∀ a e, h a = some e → h' a = some e) → h o = none → Q o h') : w_X5_turns G X (A 22) x h Q := by
  unfold w_X5_turns
  (first | refine And.intro (show gR _ from by first | assumption | omega | decide | exact b2i_R _ | exact gR_of (by omega) (by omega)) ?_ | refine And.intro (show gHas _ _ _ from by first | exact gW.has (gD.w (by assumption)) (by omega) | exact gD.has (by assumption) | exact gRu.has (gD.ru (by assumption)) | exact gGr.has (gD.gr (by assumption) _ (by omega))) ?_ | refine gCall_mk (by decide) (by decide) ?_ | refine if_yes (by first | assumption | omega | decide | exact b2i_R _ | exact gR_of (by omega) (by omega)) ?_ | refine if_no (by first | assumption | omega | decide | exact b2i_R _ | exact gR_of (by omega) (by omega)) ?_)
  refine gCall_mk (by decide) (by decide) (c_growthOf d hx e (fun g hg e => gNO_mk (by decide) (by decide) (fun o ho => gCall_mk (by decide) (by decide) (sb_init ho (fun h' sb => ⟨66, ?_⟩)))))
  have l1 := (d.ok g hg).len
  exact s_turns_L hg d m3 (k (by omega)) 66 0 h' _ _ sb (Nat.zero_le _) (by omega) (by omega) (by omega)
end CT
