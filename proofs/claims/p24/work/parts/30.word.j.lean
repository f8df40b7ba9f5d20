/-! WORDS, pure. Eleven words of a garden lie at A 0 .. A 10, their rows at A 11 .. A 21; R: the rows, N: how many signs count; U: the words. -/
def b2i (b : Bool) : Int := if b = true then 1 else 0
theorem b2i_nar (b : Bool) : narrow .boolean (gi (b2i b)) = gi (b2i b) := by cases b <;> rfl
theorem b2i_R (b : Bool) : gR (b2i b) := by cases b <;> exact ⟨by decide, by decide⟩
theorem gR_of {x : Int} (h1 : -1000000 ≤ x) (h2 : x ≤ 1000000) : gR x := ⟨by omega, by omega⟩
def gRow (row : List Bool) : List Value := row.map (fun b => gi (b2i b))
def pu {α : Type} (U : Nat → α) (w : Nat) (x : α) : Nat → α := fun v => if v = w then x else U v
theorem pu_self {α : Type} (U : Nat → α) (w : Nat) (x : α) : pu U w x w = x := if_pos rfl
theorem pu_ne {α : Type} (U : Nat → α) {w v : Nat} (x : α) (h : v ≠ w) : pu U w x v = U v := if_neg h
def gInj (A : Nat → Nat) : Prop := ∀ i j, i < 31 → j < 31 → A i = A j → i = j
def gWR (A : Nat → Nat) (h : gaH) (R : Nat → List Bool) (N : Nat → Nat) : Prop := gInj A ∧ (∀ w, w < 11 → (R w).length = 64 ∧ N w ≤ 64 ∧ h (A w) = some (4, [.ref (A (11 + w)), gi (N w : Int)]) ∧ h (A (11 + w)) = some (100, gRow (R w))) ∧ ∃ m : List Bool, m.length = 65 ∧ h (A 30) = some (100, gRow m)
def gW (A : Nat → Nat) (h : gaH) (U : Nat → List Bool) : Prop := ∃ (R : Nat → List Bool) (N : Nat → Nat), gWR A h R N ∧ ∀ w, w < 11 → U w = (R w).take (N w)
/-- nothing but words has changed -/
def gSm (A : Nat → Nat) (h h' : gaH) : Prop := ∀ b, (∀ w, w < 22 → b ≠ A w) → h' b = h b
theorem gSm.rf {A : Nat → Nat} {h : gaH} : gSm A h h := fun _ _ => rfl
theorem gSm.tr {A : Nat → Nat} {h h1 h2 : gaH} (x : gSm A h h1) (y : gSm A h1 h2) : gSm A h h2 := fun b hb => (y b hb).trans (x b hb)
theorem gSm.up {A : Nat → Nat} {h h1 : gaH} (x : gSm A h h1) {w : Nat} (hw : w < 22) (e : gaE) : gSm A h (gaUp h1 (A w) e) := fun b hb => by rw [gaUp_ne _ _ (hb w hw)]; exact x b hb
theorem gSm.at {A : Nat → Nat} {h h' : gaH} (x : gSm A h h') (hA : gInj A) {i : Nat} (h1 : 22 ≤ i) (h2 : i < 31) : h' (A i) = h (A i) := x _ (fun w hw q => by
  have := hA i w (by omega) (by omega) q
  omega)
theorem gI_mk {h : gaH} {a ci f : Nat} {K : Int → Prop} {fs : List Value} {x : Int} (ha : h a = some (ci, fs)) (hv : fs[f]? = some (gi x)) (k : K x) : gI h a ci f K := ⟨fs, x, ha, hv, k⟩
theorem gA_mk {h : gaH} {a ci f : Nat} {K : Nat → Prop} {fs : List Value} {x : Nat} (ha : h a = some (ci, fs)) (hv : fs[f]? = some (.ref x)) (k : K x) : gA h a ci f K := ⟨fs, x, ha, hv, k⟩
theorem gPF_mk {h : gaH} {a ci f : Nat} {v : Value} {K : gaH → Prop} {fs : List Value} (ha : h a = some (ci, fs)) (hf : f < fs.length) (k : K (gaUp h a (ci, fs.set f v))) : gPF h a ci f v K := ⟨fs, ha, hf, k⟩
theorem gAL_mk {h : gaH} {a t : Nat} {K : Int → Prop} {vs : List Value} {x : Int} (ha : h a = some (t, vs)) (hx : (vs.length : Int) = x) (k : K x) : gAL h a t K := ⟨t, vs, ha, Or.inl rfl, by rw [hx]; exact k⟩
theorem gLI_mk {h : gaH} {a t : Nat} {i : Int} {K : Int → Prop} {vs : List Value} {x : Int} (ha : h a = some (t, vs)) (h0 : 0 ≤ i) (h9 : i ≤ 2147483647) (hv : vs[i.toNat]? = some (gi x)) (k : K x) : gLI h a t i K := ⟨t, vs, x, ha, Or.inl rfl, h0, h9, hv, k⟩
theorem gSI_mk {h : gaH} {a t : Nat} {i : Int} {v : Value} {K : gaH → Prop} {vs : List Value} (ha : h a = some (t, vs)) (h0 : 0 ≤ i) (h9 : i ≤ 2147483647) (hi : i.toNat < vs.length) (k : K (gaUp h a (t, vs.set i.toNat v))) : gSI h a t i v K := ⟨vs, ha, h0, h9, hi, k⟩
theorem if_yes {c : Prop} [Decidable c] {X Y : Prop} (hc : c) (k : X) : (if c then X else Y) := by rw [if_pos hc]; exact k
theorem if_no {c : Prop} [Decidable c] {X Y : Prop} (hc : ¬ c) (k : Y) : (if c then X else Y) := by rw [if_neg hc]; exact k
theorem gRow_len (r : List Bool) : (gRow r).length = r.length := by simp [gRow]
theorem gRow_at {r : List Bool} {i : Nat} (hi : i < r.length) : (gRow r)[i]? = some (gi (b2i (r.getD i false))) := by
  simp [gRow, List.getElem?_map, List.getElem?_eq_getElem hi, List.getD_eq_getElem?_getD]
theorem gRow_set (r : List Bool) (i : Nat) (b : Bool) : (gRow r).set i (gi (b2i b)) = gRow (r.set i b) := by simp [gRow, List.map_set]
section PW
variable {A : Nat → Nat} {h : gaH} {R : Nat → List Bool} {N : Nat → Nat} {U : Nat → List Bool} {w v : Nat}
theorem gWR.ne (g : gWR A h R N) {i j : Nat} (hi : i < 31) (hj : j < 31) (hn : i ≠ j) : A i ≠ A j := fun q => hn (g.1 i j hi hj q)
theorem gWR.has (g : gWR A h R N) (hw : w < 11) : gHas h (A w) 4 := ⟨_, (g.2.1 w hw).2.2.1⟩
theorem gWR.len (g : gWR A h R N) (hw : w < 11) : (R w).length = 64 := (g.2.1 w hw).1
theorem gWR.many (g : gWR A h R N) (hw : w < 11) {K : Int → Prop} (k : K (N w : Int)) : gI h (A w) 4 1 K := gI_mk (g.2.1 w hw).2.2.1 rfl k
theorem gWR.row (g : gWR A h R N) (hw : w < 11) {K : Nat → Prop} (k : K (A (11 + w))) : gA h (A w) 4 0 K := gA_mk (g.2.1 w hw).2.2.1 rfl k
theorem gWR.al (g : gWR A h R N) (hw : w < 11) {K : Int → Prop} (k : K 64) : gAL h (A (11 + w)) 100 K := gAL_mk (g.2.1 w hw).2.2.2 (by rw [gRow_len, (g.2.1 w hw).1]; rfl) k
/-- how many signs count is set -/
theorem gWR.setN (g : gWR A h R N) (hw : w < 11) {n : Nat} (hn : n ≤ 64) {x : Int} (hx : x = (n : Int)) {K : gaH → Prop} (k : ∀ h', gWR A h' R (pu N w n) → gSm A h h' → K h') : gPF h (A w) 4 1 (gi x) K := by
  subst hx
  refine gPF_mk (g.2.1 w hw).2.2.1 (show 1 < 2 by decide) (k _ ⟨g.1, fun v hv => ?_, by obtain ⟨m, m1, m2⟩ := g.2.2; exact ⟨m, m1, by rw [gaUp_ne _ _ (g.ne (by omega) (by omega) (by omega))]; exact m2⟩⟩ (gSm.rf.up (by omega) _))
  obtain ⟨a1, a2, a3, a4⟩ := g.2.1 v hv
  refine ⟨a1, ?_, ?_, ?_⟩
  · by_cases e : v = w
    · rw [e, pu_self]; exact hn
    · rw [pu_ne _ _ e]; exact a2
  · by_cases e : v = w
    · rw [e, pu_self, gaUp_self]; rfl
    · rw [pu_ne _ _ e, gaUp_ne _ _ (g.ne (by omega) (by omega) e)]; exact a3
  · rw [gaUp_ne _ _ (g.ne (by omega) (by omega) (by omega))]; exact a4
/-- a sign is set -/
theorem gWR.setR (g : gWR A h R N) (hw : w < 11) {i : Nat} (hi : i < 64) {x : Int} (hx : x = (i : Int)) {b : Bool} {K : gaH → Prop} (k : ∀ h', gWR A h' (pu R w ((R w).set i b)) N → gSm A h h' → K h') : gSI h (A (11 + w)) 100 x (gi (b2i b)) K := by
  subst hx
  have hl := g.len hw
  refine gSI_mk (g.2.1 w hw).2.2.2 (by omega) (by omega) (by rw [gRow_len, hl]; omega) (k _ ⟨g.1, fun v hv => ?_, by obtain ⟨m, m1, m2⟩ := g.2.2; exact ⟨m, m1, by rw [gaUp_ne _ _ (g.ne (by omega) (by omega) (by omega))]; exact m2⟩⟩ (gSm.rf.up (by omega) _))
  obtain ⟨a1, a2, a3, a4⟩ := g.2.1 v hv
  refine ⟨?_, a2, ?_, ?_⟩
  · by_cases e : v = w
    · rw [e, pu_self, List.length_set]; exact hl
    · rw [pu_ne _ _ e]; exact a1
  · rw [gaUp_ne _ _ (g.ne (by omega) (by omega) (by omega))]; exact a3
  · by_cases e : v = w
    · rw [e, pu_self, gaUp_self, gRow_set, Int.toNat_natCast]
    · rw [pu_ne _ _ e, gaUp_ne _ _ (g.ne (by omega) (by omega) (by omega))]; exact a4
theorem sr_isUp (g : gWR A h R N) (hw : w < 11) {p : Int} {i : Nat} (hp : p = (i : Int)) (hi : i < 64) {Q : Int → gaH → Prop} (k : Q (b2i ((R w).getD i false)) h) : w_X4_isUp (A w) p h Q := by
  subst hp
  unfold w_X4_isUp
  refine ⟨gR_of (by omega) (by omega), if_no (by omega) (g.row hw (g.al hw ⟨gR_of (by omega) (by omega), gR_of (by decide) (by decide), if_no (by omega) (g.row hw ?_)⟩))⟩
  refine gLI_mk (g.2.1 w hw).2.2.2 (by omega) (by omega) (by rw [Int.toNat_natCast]; exact gRow_at (by rw [g.len hw]; exact hi)) ⟨b2i_R _, ?_⟩
  generalize (R w).getD i false = z at k
  cases z
  · exact if_yes rfl k
  · exact if_no (by decide) k
theorem sr_clear (g : gWR A h R N) (hw : w < 11) {Q : gaH → Prop} (k : ∀ h', gWR A h' R (pu N w 0) → gSm A h h' → Q h') : w_X4_clear (A w) h Q := g.setN hw (by decide) rfl k
theorem sr_add (g : gWR A h R N) (hw : w < 11) (hn : N w < 64) {b : Bool} {Q : gaH → Prop} (k : ∀ h', gWR A h' (pu R w ((R w).set (N w) b)) (pu N w (N w + 1)) → gSm A h h' → Q h') : w_X4_add (A w) (b2i b) h Q := by
  unfold w_X4_add
  refine g.many hw ⟨gR_of (by omega) (by omega), if_no (by omega) (g.many hw (g.row hw (g.al hw ⟨gR_of (by omega) (by omega), gR_of (by decide) (by decide), if_no (by omega) (g.row hw (g.many hw ⟨b2i_nar b, ?_⟩))⟩)))⟩
  refine g.setR hw hn rfl (fun h1 g1 s1 => g1.many hw (g1.setN hw (by omega) (by push_cast; rfl) (fun h2 g2 s2 => k h2 g2 (s1.tr s2))))
theorem sr_put (g : gWR A h R N) (hw : w < 11) {p : Int} {i : Nat} (hp : p = (i : Int)) (hi : i < 64) {b : Bool} {Q : gaH → Prop} (k : ∀ h', gWR A h' (pu R w ((R w).set i b)) N → gSm A h h' → Q h') : w_X4_put (A w) p (b2i b) h Q := by
  subst hp
  unfold w_X4_put
  refine ⟨gR_of (by omega) (by omega), if_no (by omega) (g.row hw (g.al hw ⟨gR_of (by omega) (by omega), gR_of (by decide) (by decide), if_no (by omega) (g.row hw ⟨b2i_nar b, ?_⟩)⟩))⟩
  exact g.setR hw hi rfl k
-- words
theorem gW.le (g : gW A h U) (hw : w < 11) : (U w).length ≤ 64 := by
  obtain ⟨R, N, g, e⟩ := g
  rw [e w hw, List.length_take]
  have := (g.2.1 w hw).2.1
  omega
theorem gW.many (g : gW A h U) (hw : w < 11) {K : Int → Prop} (k : K ((U w).length : Int)) : gI h (A w) 4 1 K := by
  obtain ⟨R, N, g, e⟩ := g
  refine g.many hw ?_
  have : (U w).length = N w := by
    rw [e w hw, List.length_take, g.len hw]
    have := (g.2.1 w hw).2.1
    omega
  rw [← this]
  exact k
theorem gW.has (g : gW A h U) (hw : w < 11) : gHas h (A w) 4 := by
  obtain ⟨R, N, g, e⟩ := g
  exact g.has hw
theorem gWR.wd (g : gWR A h R N) : gW A h (fun w => (R w).take (N w)) := ⟨R, N, g, fun _ _ => rfl⟩
theorem gW.eq (g : gW A h U) {V : Nat → List Bool} (e : ∀ w, w < 11 → V w = U w) : gW A h V := by
  obtain ⟨R, N, g, e2⟩ := g
  exact ⟨R, N, g, fun w hw => (e w hw).trans (e2 w hw)⟩
theorem s_isUp (g : gW A h U) (hw : w < 11) {p : Int} {i : Nat} (hp : p = (i : Int)) (hi : i < (U w).length) {Q : Int → gaH → Prop} (k : Q (b2i ((U w).getD i false)) h) : w_X4_isUp (A w) p h Q := by
  have hle := g.le hw
  obtain ⟨R, N, g, e⟩ := g
  refine sr_isUp g hw hp (by omega) ?_
  have hi2 := hi
  rw [e w hw] at k hi2
  rw [List.length_take] at hi2
  have : ((R w).take (N w)).getD i false = (R w).getD i false := by
    rw [List.getD_eq_getElem?_getD, List.getD_eq_getElem?_getD, List.getElem?_take_of_lt (by omega)]
  rw [this] at k
  exact k
theorem s_clear (g : gW A h U) (hw : w < 11) {Q : gaH → Prop} (k : ∀ h', gW A h' (pu U w []) → gSm A h h' → Q h') : w_X4_clear (A w) h Q := by
  obtain ⟨R, N, g, e⟩ := g
  refine sr_clear g hw (fun h' g' s => k h' ⟨R, _, g', fun v hv => ?_⟩ s)
  by_cases q : v = w
  · subst q; rw [pu_self, pu_self, List.take_zero]
  · rw [pu_ne _ _ q, pu_ne _ _ q]; exact e v hv
theorem s_add (g : gW A h U) (hw : w < 11) (hl : (U w).length < 64) {x : Int} {b : Bool} (hx : x = b2i b) {Q : gaH → Prop} (k : ∀ h', gW A h' (pu U w (U w ++ [b])) → gSm A h h' → Q h') : w_X4_add (A w) x h Q := by
  subst hx
  obtain ⟨R, N, g, e⟩ := g
  have hN : (U w).length = N w := by
    rw [e w hw, List.length_take, g.len hw]
    have := (g.2.1 w hw).2.1
    omega
  refine sr_add g hw (by omega) (fun h' g' s => k h' ⟨_, _, g', fun v hv => ?_⟩ s)
  by_cases q : v = w
  · subst q
    rw [pu_self, pu_self, pu_self, e v hw]
    have hlt : N v < (R v).length := by rw [g.len hw]; omega
    rw [List.take_succ, List.take_set_of_le (by omega), List.getElem?_set_self hlt]
    rfl
  · rw [pu_ne _ _ q, pu_ne _ _ q, pu_ne _ _ q]; exact e v hv
theorem s_put (g : gW A h U) (hw : w < 11) {p x : Int} {i : Nat} (hp : p = (i : Int)) (hi : i < (U w).length) {b : Bool} (hx : x = b2i b) {Q : gaH → Prop} (k : ∀ h', gW A h' (pu U w ((U w).set i b)) → gSm A h h' → Q h') : w_X4_put (A w) p x h Q := by
  subst hx
  have hle := g.le hw
  obtain ⟨R, N, g, e⟩ := g
  refine sr_put g hw hp (by omega) (fun h' g' s => k h' ⟨_, _, g', fun v hv => ?_⟩ s)
  by_cases q : v = w
  · subst q
    rw [pu_self, pu_self, e v hw, List.take_set]
  · rw [pu_ne _ _ q, pu_ne _ _ q]; exact e v hv
theorem s_take_L (hw : w < 11) (hv : v < 11) {u : List Bool} (hu : u.length ≤ 64) {Q : gaH → Prop} : ∀ (n i : Nat) (h : gaH) (R : Nat → List Bool), gWR A h R N → u.length = N v → i ≤ u.length → u.length - i < n → (∀ j, j < i → (R w)[j]? = u[j]?) → (∀ j, i ≤ j → j < u.length → (R v)[j]? = u[j]?) →
    (∀ h' R', gWR A h' R' (pu N w u.length) → (R' w).take u.length = u → (∀ x, x ≠ w → R' x = R x) → gSm A h h' → Q h') → w_X4_take_L2 Q n (A w) (A v) (i : Int) h
  | 0, i, h, R, _, _, _, h1, _, _, _ => absurd h1 (Nat.not_lt_zero _)
  | n + 1, i, h, R, g, hN, hi, h1, p1, p2, k => by
    unfold w_X4_take_L2
    refine g.many hv ⟨gR_of (by omega) (by omega), gR_of (by omega) (by omega), ?_⟩
    by_cases q : i = u.length
    · refine if_yes (by omega) (g.many hv (g.setN hw hu (by omega) (fun h' g' s => k h' R g' ?_ (fun _ _ => rfl) s)))
      apply List.ext_getElem?
      intro j
      by_cases hj : j < u.length
      · rw [List.getElem?_take_of_lt hj]; exact p1 j (by omega)
      · rw [List.getElem?_eq_none (by rw [List.length_take]; omega), List.getElem?_eq_none (by omega)]
    · refine if_no (by omega) ⟨g.has hv, sr_isUp g hv rfl (by omega) ⟨g.has hw, sr_put g hw rfl (by omega) (fun h' g' s => ?_)⟩⟩
      have e1 : (R v).getD i false = u.getD i false := by rw [List.getD_eq_getElem?_getD, List.getD_eq_getElem?_getD, p2 i (Nat.le_refl _) (by omega)]
      have e2 : u[i]? = some (u.getD i false) := by rw [List.getD_eq_getElem?_getD, List.getElem?_eq_getElem (by omega)]; rfl
      refine s_take_L hw hv hu n (i + 1) h' _ g' hN (by omega) (by omega) (fun j hj => ?_) (fun j h2 h3 => ?_) (fun h2 R2 g2 t2 f2 s2 => k h2 R2 g2 t2 (fun x hx => by rw [f2 x hx, pu_ne _ _ hx]) (s.tr s2))
      · rw [pu_self]
        by_cases hji : j = i
        · subst hji
          rw [List.getElem?_set_self (by rw [g.len hw]; omega), e1, e2]
        · rw [List.getElem?_set_ne (fun q => hji q.symm)]; exact p1 j (by omega)
      · by_cases hvw : v = w
        · subst hvw
          rw [pu_self, List.getElem?_set_ne (by omega)]
          exact p2 j (by omega) h3
        · rw [pu_ne _ _ hvw]; exact p2 j (by omega) h3
theorem s_take (g : gW A h U) (hw : w < 11) (hv : v < 11) {Q : gaH → Prop} (k : ∀ h', gW A h' (pu U w (U v)) → gSm A h h' → Q h') : w_X4_take (A w) (A v) h Q := by
  have hle := g.le hv
  obtain ⟨R, N, g, e⟩ := g
  have hN : (U v).length = N v := by
    rw [e v hv, List.length_take, g.len hv]
    have := (g.2.1 v hv).2.1
    omega
  refine ⟨65, ?_⟩
  refine s_take_L (u := U v) hw hv hle 65 0 h R g hN (Nat.zero_le _) (by omega) (fun j hj => absurd hj (Nat.not_lt_zero _)) (fun j _ hj => ?_) (fun h' R' g' t f s => k h' ⟨R', _, g', fun x hx => ?_⟩ s)
  · rw [e v hv, List.getElem?_take_of_lt (by omega)]
  · by_cases q : x = w
    · subst q; rw [pu_self, pu_self, t]
    · rw [pu_ne _ _ q, pu_ne _ _ q, f x q]; exact e x hx
end PW
/-! Bits, quotients and remainders of small numbers. -/
theorem ar_n (n : Nat) : Int32.ofInt (n : Int) = nI n := gi_len n ▸ rfl
theorem ar_toInt {n : Nat} (h : n < 2147483648) : (nI n).toInt = (n : Int) := Int32.toInt_ofNat_of_lt (by omega)
theorem ar_sh : ∀ d, d < 32 → ((nI d &&& 31).toBitVec.smod 32).toNat = d := by decide +kernel
theorem gShr_nat {n d : Nat} (hn : n < 2147483648) (hd : d < 32) : gShr (n : Int) (d : Int) = ((n / 2 ^ d : Nat) : Int) := by
  unfold gShr
  rw [ar_n, ar_n, pk_shrN (by omega) _ d (ar_sh d hd)]
  exact ar_toInt (Nat.lt_of_le_of_lt (Nat.div_le_self _ _) hn)
theorem gShl_nat {n d : Nat} (hn : n * 2 ^ d < 2147483648) (hd : d < 32) : gShl (n : Int) (d : Int) = ((n * 2 ^ d : Nat) : Int) := by
  unfold gShl
  rw [ar_n, ar_n, pk_shlN _ d (ar_sh d hd) (by omega)]
  exact ar_toInt hn
theorem ar_and (a b : Nat) : nI a &&& nI b = nI (a &&& b) := by
  apply Int32.toBitVec_inj.1
  show BitVec.ofNat 32 a &&& BitVec.ofNat 32 b = BitVec.ofNat 32 (a &&& b)
  apply BitVec.eq_of_getLsbD_eq
  intro i hi
  simp [hi]
theorem gAnd1_nat {n : Nat} (hn : n < 2147483648) : gAnd (n : Int) 1 = ((n % 2 : Nat) : Int) := by
  unfold gAnd
  rw [ar_n, show (1 : Int) = ((1 : Nat) : Int) from rfl, ar_n, ar_and, show n &&& 1 = n % 2 from Nat.and_one_is_mod n]
  exact ar_toInt (by omega)
theorem gAnd_bit (a b : Bool) : gAnd (b2i a) (b2i b) = b2i (a && b) := by cases a <;> cases b <;> decide
theorem gAnd63 (x : Int) : 0 ≤ gAnd x 63 ∧ gAnd x 63 ≤ 63 := by
  unfold gAnd
  have hb : ((Int32.ofInt x &&& Int32.ofInt 63).toBitVec).toNat ≤ 63 := by
    show ((Int32.ofInt x).toBitVec &&& (Int32.ofInt 63).toBitVec).toNat ≤ 63
    rw [BitVec.toNat_and]
    exact Nat.le_trans Nat.and_le_right (by decide)
  have e : (Int32.ofInt x &&& Int32.ofInt 63).toInt = (((Int32.ofInt x &&& Int32.ofInt 63).toBitVec).toNat : Int) := BitVec.toInt_eq_toNat_of_lt (by omega)
  rw [e]
  omega
theorem gDiv_nat {a b : Nat} (ha : a < 2147483648) (hb : b < 2147483648) : gDiv (a : Int) (b : Int) = ((a / b : Nat) : Int) := by
  unfold gDiv
  rw [ar_n, ar_n]
  show (Int32.ofNat a / Int32.ofNat b).toInt = _
  rw [← Int32.ofNat_div (by omega) (by omega)]
  exact ar_toInt (Nat.lt_of_le_of_lt (Nat.div_le_self _ _) ha)
theorem gRem_nat {a b : Nat} (ha : a < 2147483648) (hb : b < 2147483648) : gRem (a : Int) (b : Int) = ((a % b : Nat) : Int) := by
  unfold gRem
  rw [ar_n, ar_n]
  show (Int32.ofNat a - Int32.ofNat a / Int32.ofNat b * Int32.ofNat b).toInt = _
  have h1 : a / b * b ≤ a := Nat.div_mul_le_self a b
  rw [← Int32.ofNat_div (by omega) (by omega), ← Int32.ofNat_mul, ← Int32.ofNat_sub _ _ h1]
  have h2 : a - a / b * b = a % b := by
    have := Nat.div_add_mod a b
    rw [Nat.mul_comm] at this
    omega
  rw [h2]
  exact ar_toInt (Nat.lt_of_le_of_lt (Nat.mod_le _ _) ha)
/-! More of words: parts, turned words, words of codes; joined words; rules. -/
section PR
variable {A : Nat → Nat} {h : gaH} {U : Nat → List Bool} {w v : Nat}
theorem gW.inj (g : gW A h U) : gInj A := by obtain ⟨R, N, g, -⟩ := g; exact g.1
theorem getD_lt {u : List Bool} {i : Nat} (hi : i < u.length) : u[i]? = some (u.getD i false) := by
  rw [List.getD_eq_getElem?_getD, List.getElem?_eq_getElem hi]; rfl
theorem take_one {u : List Bool} {i : Nat} (hi : i < u.length) : u.drop i = u.getD i false :: u.drop (i + 1) := by
  rw [List.drop_eq_getElem_cons hi, List.getD_eq_getElem?_getD, List.getElem?_eq_getElem hi]; rfl
theorem s_addPart_L (hw : w < 11) (hv : v < 11) (hne : v ≠ w) {t : Nat} {Q : gaH → Prop} : ∀ (n i : Nat) (h : gaH) (U : Nat → List Bool), gW A h U → i ≤ t → t ≤ (U v).length → t - i < n → (U w).length + (t - i) ≤ 64 →
    (∀ h', gW A h' (pu U w (U w ++ ((U v).drop i).take (t - i))) → gSm A h h' → Q h') → w_X4_addPart_L3 Q n (A w) (A v) (t : Int) (i : Int) h
  | 0, i, h, U, _, _, _, h1, _, _ => absurd h1 (Nat.not_lt_zero _)
  | n + 1, i, h, U, g, hi, ht, h1, hl, k => by
    have hle := g.le hv
    unfold w_X4_addPart_L3
    refine ⟨gR_of (by omega) (by omega), gR_of (by omega) (by omega), ?_⟩
    by_cases q : i = t
    · subst q
      refine if_yes (Int.le_refl _) (k h ?_ gSm.rf)
      refine g.eq (fun x _ => ?_)
      by_cases e : x = w
      · rw [e, pu_self, Nat.sub_self, List.take_zero, List.append_nil]
      · exact pu_ne _ _ e
    · refine if_no (by omega) ⟨g.has hv, s_isUp g hv rfl (by omega) ⟨g.has hw, s_add g hw (by omega) rfl (fun h' g' s => ?_)⟩⟩
      refine s_addPart_L hw hv hne n (i + 1) h' _ g' (by omega) (by rw [pu_ne _ _ hne]; exact ht) (by omega) (by rw [pu_self, List.length_append]; simp only [List.length_cons, List.length_nil]; omega) (fun h2 g2 s2 => k h2 (g2.eq (fun x _ => ?_)) (s.tr s2))
      by_cases e : x = w
      · subst e
        rw [pu_self, pu_self, pu_self, pu_ne _ _ hne, take_one (u := U v) (i := i) (by omega), show t - i = (t - (i + 1)) + 1 by omega, List.take_succ_cons, List.append_assoc]
        rfl
      · rw [pu_ne _ _ e, pu_ne _ _ e, pu_ne _ _ e]
theorem s_addPart (g : gW A h U) (hw : w < 11) (hv : v < 11) (hne : v ≠ w) {x y : Int} {i t : Nat} (hx : x = (i : Int)) (hy : y = (t : Int)) (hi : i ≤ t) (ht : t ≤ (U v).length) (hl : (U w).length + (t - i) ≤ 64) {Q : gaH → Prop}
    (k : ∀ h', gW A h' (pu U w (U w ++ ((U v).drop i).take (t - i))) → gSm A h h' → Q h') : w_X4_addPart (A w) (A v) x y h Q := by
  subst hx; subst hy
  exact ⟨t - i + 1, s_addPart_L hw hv hne _ i h U g hi ht (by omega) hl k⟩
theorem s_takeTurned_L (hw : w < 11) (hv : v < 11) (hne : v ≠ w) {Q : gaH → Prop} : ∀ (n i : Nat) (h : gaH) (U : Nat → List Bool), gW A h U → i ≤ (U v).length → i < n → (U w).length + i ≤ 64 →
    (∀ h', gW A h' (pu U w (U w ++ ((U v).take i).reverse)) → gSm A h h' → Q h') → w_X4_takeTurned_L11 Q n (A w) (A v) ((i : Int) - 1) h
  | 0, i, h, U, _, _, h1, _, _ => absurd h1 (Nat.not_lt_zero _)
  | n + 1, i, h, U, g, hi, h1, hl, k => by
    have hle := g.le hv
    unfold w_X4_takeTurned_L11
    refine ⟨gR_of (by omega) (by omega), ?_⟩
    cases i with
    | zero =>
      refine if_yes (by omega) (k h ?_ gSm.rf)
      refine g.eq (fun x _ => ?_)
      by_cases e : x = w
      · rw [e, pu_self, List.take_zero, List.reverse_nil, List.append_nil]
      · exact pu_ne _ _ e
    | succ i =>
      refine if_no (by omega) ⟨g.has hv, s_isUp (i := i) g hv (by omega) (by omega) ⟨g.has hw, s_add g hw (by omega) rfl (fun h' g' s => ?_)⟩⟩
      rw [show ((i + 1 : Nat) : Int) - 1 + -1 = (i : Int) - 1 by omega]
      refine s_takeTurned_L hw hv hne n i h' _ g' (by rw [pu_ne _ _ hne]; omega) (by omega) (by rw [pu_self, List.length_append]; simp only [List.length_cons, List.length_nil]; omega) (fun h2 g2 s2 => k h2 (g2.eq (fun x _ => ?_)) (s.tr s2))
      by_cases e : x = w
      · subst e
        rw [pu_self, pu_self, pu_self, pu_ne _ _ hne, List.take_succ, getD_lt (u := U v) (i := i) (by omega)]
        simp
      · rw [pu_ne _ _ e, pu_ne _ _ e, pu_ne _ _ e]
theorem s_takeTurned (g : gW A h U) (hw : w < 11) (hv : v < 11) (hne : v ≠ w) {Q : gaH → Prop} (k : ∀ h', gW A h' (pu U w (U v).reverse) → gSm A h h' → Q h') : w_X4_takeTurned (A w) (A v) h Q := by
  unfold w_X4_takeTurned
  refine ⟨g.has hw, s_clear g hw (fun h' g' s => ?_)⟩
  refine g'.many hv ⟨65, ?_⟩
  have hle := g.le hv
  have e0 : pu U w [] v = U v := pu_ne _ _ hne
  refine s_takeTurned_L hw hv hne 65 _ h' _ g' (Nat.le_refl _) (by rw [e0]; omega) (by rw [pu_self, e0]; simpa using hle) (fun h2 g2 s2 => k h2 (g2.eq (fun x _ => ?_)) (s.tr s2))
  by_cases e : x = w
  · subst e; rw [pu_self, pu_self, pu_self, e0, List.take_length]; rfl
  · rw [pu_ne _ _ e, pu_ne _ _ e, pu_ne _ _ e]
/-- the word of a code -/
def codeL : Nat → Nat → List Bool
  | 0, _ => []
  | f + 1, n => if n ≤ 1 then [] else codeL f (n / 2) ++ [decide (n % 2 = 1)]
theorem codeL_fuel : ∀ (f g n : Nat), n < 2 ^ f → n < 2 ^ g → codeL f n = codeL g n
  | 0, g, n, h1, h2 => by
    have : n = 0 := by simpa using h1
    subst this
    cases g <;> simp [codeL]
  | f + 1, 0, n, h1, h2 => by
    have : n = 0 := by simpa using h2
    subst this
    simp [codeL]
  | f + 1, g + 1, n, h1, h2 => by
    unfold codeL
    rw [codeL_fuel f g (n / 2) (by rw [Nat.pow_succ] at h1; omega) (by rw [Nat.pow_succ] at h2; omega)]
/-- the word of a code of at most 16 digits -/
abbrev codeW (n : Nat) : List Bool := codeL 16 n
theorem codeW_step {n : Nat} (hn : n < 65536) : codeW n = if n ≤ 1 then [] else codeW (n / 2) ++ [decide (n % 2 = 1)] := by
  show codeL 16 n = _
  rw [codeL, codeL_fuel 15 16 (n / 2) (by omega) (by omega)]
theorem codeL_len : ∀ (f n : Nat), (codeL f n).length ≤ f
  | 0, _ => Nat.zero_le _
  | f + 1, n => by
    unfold codeL
    split
    · simp
    · have := codeL_len f (n / 2)
      simp; omega
theorem s_takeCode_L (hw : w < 11) {c : Nat} (hc : c < 65536) {Q : gaH → Prop} : ∀ (n d : Nat) (h : gaH) (U : Nat → List Bool) (f : Int), gW A h U → d ≤ 16 → d < n → f = b2i (decide (1 ≤ c / 2 ^ d)) → U w = codeW (c / 2 ^ d) →
    (∀ h', gW A h' (pu U w (codeW c)) → gSm A h h' → Q h') → w_X4_takeCode_L9 Q n (A w) (c : Int) f ((d : Int) - 1) h
  | 0, d, h, U, f, _, _, h1, _, _, _ => absurd h1 (Nat.not_lt_zero _)
  | n + 1, d, h, U, f, g, hd, h1, hf, hu, k => by
    unfold w_X4_takeCode_L9
    refine ⟨gR_of (by omega) (by omega), ?_⟩
    cases d with
    | zero =>
      refine if_yes (by omega) (k h ?_ gSm.rf)
      refine g.eq (fun x _ => ?_)
      by_cases e : x = w
      · rw [e, pu_self, hu, Nat.pow_zero, Nat.div_one]
      · exact pu_ne _ _ e
    | succ d =>
      have e1 : ((d + 1 : Nat) : Int) - 1 = (d : Int) := by omega
      have hs : gShr (c : Int) (((d + 1 : Nat) : Int) - 1) = ((c / 2 ^ d : Nat) : Int) := by rw [e1]; exact gShr_nat (by omega) (by omega)
      have hle : c / 2 ^ d ≤ c := Nat.div_le_self _ _
      have ha : gAnd (gShr (c : Int) (((d + 1 : Nat) : Int) - 1)) 1 = ((c / 2 ^ d % 2 : Nat) : Int) := by rw [hs]; exact gAnd1_nat (by omega)
      have hh : c / 2 ^ d / 2 = c / 2 ^ (d + 1) := by rw [Nat.div_div_eq_div_mul, Nat.pow_succ]
      have hst := codeW_step (n := c / 2 ^ d) (by omega)
      rw [hh] at hst
      have hlen : (U w).length ≤ 16 := by rw [hu]; exact codeL_len 16 _
      -- what goes on behind the sign
      have next : ∀ (h' : gaH) (V : Nat → List Bool) (f' : Int), gW A h' V → gSm A h h' → (∀ x, x ≠ w → V x = U x) → f' = b2i (decide (1 ≤ c / 2 ^ d)) → V w = codeW (c / 2 ^ d) → w_X4_takeCode_L9 Q n (A w) (c : Int) f' (((d + 1 : Nat) : Int) - 1 + -1) h' := by
        intro h' V f' g' s hV hf' hw'
        rw [e1, show (d : Int) + -1 = (d : Int) - 1 by omega]
        refine s_takeCode_L hw hc n d h' V f' g' (by omega) (by omega) hf' hw' (fun h2 g2 s2 => k h2 (g2.eq (fun x _ => ?_)) (s.tr s2))
        by_cases e : x = w
        · rw [e, pu_self, pu_self]
        · rw [pu_ne _ _ e, pu_ne _ _ e, hV x e]
      have bit : ∀ t : Int, t = b2i (decide (c / 2 ^ d % 2 = 1)) → w_X4_takeCode_J27 Q (w_X4_takeCode_L9 Q n) (A w) (c : Int) f (((d + 1 : Nat) : Int) - 1) t h := by
        intro t ht
        unfold w_X4_takeCode_J27
        rw [hf]
        refine ⟨b2i_R _, ?_⟩
        by_cases q : 1 ≤ c / 2 ^ (d + 1)
        · have q2 : 1 ≤ c / 2 ^ d := by omega
          rw [decide_eq_true q]
          refine if_no (by decide) ⟨g.has hw, s_add g hw (by omega) ht (fun h' g' s => ?_)⟩
          unfold w_X4_takeCode_J39
          refine ⟨gR_of (by decide) (by decide), if_no (by decide) ?_⟩
          unfold w_X4_takeCode_J48
          refine next h' _ 1 g' s (fun x hx => pu_ne _ _ hx) (by rw [decide_eq_true q2]; rfl) ?_
          rw [pu_self, hst, if_neg (by omega), hu]
        · have q0 : c / 2 ^ (d + 1) = 0 := Nat.lt_one_iff.mp (Nat.not_le.mp q)
          have q1 : c / 2 ^ d ≤ 1 := by omega
          rw [decide_eq_false q]
          refine if_yes rfl ?_
          unfold w_X4_takeCode_J39
          refine ⟨gR_of (by decide) (by decide), if_yes rfl ?_⟩
          have hu0 : U w = codeW (c / 2 ^ d) := by
            rw [hst, if_pos q1, hu, q0]
            rfl
          rw [ht]
          refine ⟨b2i_R _, ?_⟩
          by_cases z : c / 2 ^ d % 2 = 1
          · rw [decide_eq_true z]
            refine if_no (by decide) ?_
            unfold w_X4_takeCode_J48
            exact next h U 1 g gSm.rf (fun _ _ => rfl) (by rw [decide_eq_true (by omega)]; rfl) hu0
          · rw [decide_eq_false z]
            refine if_yes rfl ?_
            exact next h U 0 g gSm.rf (fun _ _ => rfl) (by rw [decide_eq_false (by omega)]; rfl) hu0
      refine if_no (by omega) ?_
      rw [ha]
      refine ⟨gR_of (by omega) (by omega), ?_⟩
      by_cases z : c / 2 ^ d % 2 = 1
      · exact if_yes (by omega) (bit 1 (by rw [decide_eq_true z]; rfl))
      · exact if_no (by omega) (bit 0 (by rw [decide_eq_false z]; rfl))
theorem s_takeCode (g : gW A h U) (hw : w < 11) {x : Int} {c : Nat} (hx : x = (c : Int)) (hc : c < 65536) {Q : gaH → Prop} (k : ∀ h', gW A h' (pu U w (codeW c)) → gSm A h h' → Q h') : w_X4_takeCode (A w) x h Q := by
  subst hx
  unfold w_X4_takeCode
  refine ⟨g.has hw, s_clear g hw (fun h' g' s => ⟨17, ?_⟩)⟩
  have e : c / 2 ^ 16 = 0 := Nat.div_eq_of_lt (by omega)
  refine s_takeCode_L hw hc 17 16 h' _ 0 g' (Nat.le_refl _) (by decide) (by rw [e]; rfl) (by rw [pu_self, e]; rfl) (fun h2 g2 s2 => k h2 (g2.eq (fun x _ => ?_)) (s.tr s2))
  by_cases q : x = w
  · subst q; rw [pu_self, pu_self]
  · rw [pu_ne _ _ q, pu_ne _ _ q, pu_ne _ _ q]
end PR
/-! Rules: how many b's, parts, joined words, images. -/
def ones : List Bool → Nat
  | [] => 0
  | b :: t => (if b = true then 1 else 0) + ones t
theorem ones_app : ∀ (u v : List Bool), ones (u ++ v) = ones u + ones v
  | [], v => by simp [ones]
  | b :: t, v => by simp only [List.cons_append, ones, ones_app t v]; omega
theorem ones_le : ∀ u : List Bool, ones u ≤ u.length
  | [] => Nat.le_refl _
  | b :: t => by
    have := ones_le t
    simp only [ones, List.length_cons]
    split <;> omega
def img (x y : List Bool) : List Bool → List Bool
  | [] => []
  | b :: t => (if b = true then y else x) ++ img x y t
theorem img_app (x y : List Bool) : ∀ (u v : List Bool), img x y (u ++ v) = img x y u ++ img x y v
  | [], v => by simp [img]
  | b :: t, v => by simp only [List.cons_append, img, img_app x y t v, List.append_assoc]
theorem img_len (x y : List Bool) : ∀ u : List Bool, (img x y u).length = (u.length - ones u) * x.length + ones u * y.length
  | [] => by simp [img, ones]
  | b :: t => by
    have h1 := ones_le t
    simp only [img, ones, List.length_append, List.length_cons, img_len x y t]
    cases b
    · simp only [Bool.false_eq_true, if_false, Nat.zero_add]
      rw [show t.length + 1 - ones t = (t.length - ones t) + 1 by omega, Nat.add_mul, Nat.one_mul]
      omega
    · simp only [if_true]
      rw [show t.length + 1 - (1 + ones t) = t.length - ones t by omega, Nat.add_mul, Nat.one_mul]
      omega
/-- the first place at which two words joined both ways are unlike -/
def unl (u v : List Bool) : Nat → Nat → Int
  | 0, _ => -1
  | f + 1, i => if (u ++ v).length ≤ i then -1 else if (u ++ v).getD i false = (v ++ u).getD i false then unl u v f (i + 1) else (i : Int)
def unlike (u v : List Bool) : Int := unl u v ((u ++ v).length + 1) 0
section PU
variable {A : Nat → Nat} {h : gaH} {U : Nat → List Bool} {w v : Nat}
theorem b2i_eq (a b : Bool) : (b2i a = b2i b) = (a = b) := by cases a <;> cases b <;> simp [b2i]
theorem s_upsOf_L (g : gW A h U) (hw : w < 11) {Q : Int → gaH → Prop} : ∀ (n i c : Nat), i ≤ (U w).length → (U w).length - i < n → c ≤ i → Q ((c + ones ((U w).drop i) : Nat) : Int) h → w_X1_upsOf_L4 Q n (A w) (c : Int) (i : Int) h
  | 0, i, c, _, h1, _, _ => absurd h1 (Nat.not_lt_zero _)
  | n + 1, i, c, hi, h1, hc, k => by
    have hle := g.le hw
    unfold w_X1_upsOf_L4
    refine g.many hw ⟨gR_of (by omega) (by omega), gR_of (by omega) (by omega), ?_⟩
    by_cases q : i = (U w).length
    · rw [q, List.drop_length] at k
      exact if_yes (by omega) k
    · rw [take_one (show i < (U w).length by omega)] at k
      refine if_no (by omega) ⟨g.has hw, s_isUp g hw rfl (by omega) ⟨b2i_R _, ?_⟩⟩
      generalize (U w).getD i false = z at k
      cases z
      · refine if_yes rfl (s_upsOf_L g hw n (i + 1) c (by omega) (by omega) (by omega) ?_)
        simpa [ones] using k
      · refine if_no (by decide) ?_
        rw [show (c : Int) + 1 = ((c + 1 : Nat) : Int) by omega]
        refine s_upsOf_L g hw n (i + 1) (c + 1) (by omega) (by omega) (by omega) ?_
        simp only [ones, if_true] at k
        rw [show c + 1 + ones ((U w).drop (i + 1)) = c + (1 + ones ((U w).drop (i + 1))) by omega]
        exact k
theorem s_upsOf (g : gW A h U) (hw : w < 11) {Q : Int → gaH → Prop} (k : Q (ones (U w) : Int) h) : w_X1_upsOf (A w) h Q := by
  refine ⟨(U w).length + 1, s_upsOf_L g hw _ 0 0 (Nat.zero_le _) (by omega) (Nat.le_refl _) ?_⟩
  rw [List.drop_zero, Nat.zero_add]
  exact k
/-- v stands in w at a place -/
def stands (u v : List Bool) (i : Nat) : Bool := decide (i + v.length ≤ u.length) && decide ((u.drop i).take v.length = v)
theorem s_standsAt_L (g : gW A h U) (hw : w < 11) (hv : v < 11) {p : Nat} (hp : p + (U v).length ≤ (U w).length) {Q : Int → gaH → Prop} : ∀ (n i : Nat), i ≤ (U v).length → (U v).length - i < n → Q (b2i (decide (((U w).drop (p + i)).take ((U v).length - i) = (U v).drop i))) h → w_X1_standsAt_L17 Q n (A w) (p : Int) (A v) (i : Int) h
  | 0, i, _, h1, _ => absurd h1 (Nat.not_lt_zero _)
  | n + 1, i, hi, h1, k => by
    have hle := g.le hw
    unfold w_X1_standsAt_L17
    refine g.many hv ⟨gR_of (by omega) (by omega), gR_of (by omega) (by omega), ?_⟩
    by_cases q : i = (U v).length
    · refine if_yes (by omega) ?_
      rw [q, List.drop_length, Nat.sub_self, List.take_zero, decide_eq_true rfl] at k
      exact k
    · refine if_no (by omega) ⟨g.has hw, s_isUp (i := p + i) g hw (by omega) (by omega) ⟨g.has hv, s_isUp g hv rfl (by omega) ⟨b2i_R _, b2i_R _, ?_⟩⟩⟩
      rw [take_one (u := U w) (i := p + i) (by omega), take_one (u := U v) (i := i) (by omega), show (U v).length - i = ((U v).length - (i + 1)) + 1 by omega, List.take_succ_cons] at k
      by_cases z : (U w).getD (p + i) false = (U v).getD i false
      · refine if_yes (congrArg b2i z) ?_
        rw [show (i : Int) + 1 = ((i + 1 : Nat) : Int) by omega]
        refine s_standsAt_L g hw hv hp n (i + 1) (by omega) (by omega) ?_
        rw [z] at k
        simp only [List.cons.injEq, true_and] at k
        exact k
      · refine if_no (fun q9 => z ((b2i_eq _ _).mp q9)) ?_
        rw [decide_eq_false (by intro e; exact z (List.cons.inj e).1)] at k
        exact k
theorem s_standsAt (g : gW A h U) (hw : w < 11) (hv : v < 11) {x : Int} {p : Nat} (hx : x = (p : Int)) (hp : p ≤ 1000) {Q : Int → gaH → Prop} (k : Q (b2i (stands (U w) (U v) p)) h) : w_X1_standsAt (A w) x (A v) h Q := by
  subst hx
  have h1 := g.le hw
  have h2 := g.le hv
  unfold w_X1_standsAt
  refine g.many hv (g.many hw ⟨gR_of (by omega) (by omega), gR_of (by omega) (by omega), ?_⟩)
  by_cases q : p + (U v).length ≤ (U w).length
  · refine if_yes (by omega) ⟨(U v).length + 1, s_standsAt_L g hw hv q _ 0 (Nat.zero_le _) (by omega) ?_⟩
    unfold stands at k
    rw [decide_eq_true q, Bool.true_and] at k
    simpa using k
  · refine if_no (by omega) ?_
    unfold stands at k
    rw [decide_eq_false q, Bool.false_and] at k
    exact k
theorem s_isUpJoined (g : gW A h U) (hw : w < 11) (hv : v < 11) {x : Int} {p : Nat} (hx : x = (p : Int)) (hp : p < (U w ++ U v).length) {Q : Int → gaH → Prop} (k : Q (b2i ((U w ++ U v).getD p false)) h) : w_X1_isUpJoined (A w) (A v) x h Q := by
  subst hx
  have h1 := g.le hw
  have h2 := g.le hv
  rw [List.length_append] at hp
  unfold w_X1_isUpJoined
  refine g.many hw ⟨gR_of (by omega) (by omega), gR_of (by omega) (by omega), ?_⟩
  by_cases q : (U w).length ≤ p
  · refine if_yes (by omega) (g.many hw ⟨g.has hv, s_isUp (i := p - (U w).length) g hv (by omega) (by omega) ⟨b2i_nar _, ?_⟩⟩)
    rw [List.getD_eq_getElem?_getD, List.getElem?_append_right q, ← List.getD_eq_getElem?_getD] at k
    exact k
  · refine if_no (by omega) ⟨g.has hw, s_isUp g hw rfl (by omega) ⟨b2i_nar _, ?_⟩⟩
    rw [List.getD_eq_getElem?_getD, List.getElem?_append_left (by omega), ← List.getD_eq_getElem?_getD] at k
    exact k
theorem s_unlike_L (g : gW A h U) (hw : w < 11) (hv : v < 11) {Q : Int → gaH → Prop} : ∀ (n i f : Nat), i ≤ (U w ++ U v).length → (U w ++ U v).length - i < n → (U w ++ U v).length - i < f → Q (unl (U w) (U v) f i) h → w_X1_firstUnlikeJoined_L2 Q n (A w) (A v) (i : Int) h
  | 0, i, f, _, h1, _, _ => absurd h1 (Nat.not_lt_zero _)
  | n + 1, i, 0, _, _, h1, _ => absurd h1 (Nat.not_lt_zero _)
  | n + 1, i, f + 1, hi, h1, h2, k => by
    have l1 := g.le hw
    have l2 := g.le hv
    have e1 : (U w ++ U v).length = (U w).length + (U v).length := List.length_append
    have e2 : (U v ++ U w).length = (U v).length + (U w).length := List.length_append
    unfold w_X1_firstUnlikeJoined_L2
    refine g.many hw (g.many hv ⟨gR_of (by omega) (by omega), gR_of (by omega) (by omega), ?_⟩)
    unfold unl at k
    by_cases q : (U w ++ U v).length ≤ i
    · rw [if_pos q] at k
      exact if_yes (by omega) k
    · rw [if_neg q] at k
      refine if_no (by omega) (s_isUpJoined g hw hv rfl (by omega) (s_isUpJoined g hv hw rfl (by omega) ⟨b2i_R _, b2i_R _, ?_⟩))
      by_cases z : (U w ++ U v).getD i false = (U v ++ U w).getD i false
      · rw [if_pos z] at k
        refine if_yes (congrArg b2i z) ?_
        rw [show (i : Int) + 1 = ((i + 1 : Nat) : Int) by omega]
        exact s_unlike_L g hw hv n (i + 1) f (by omega) (by omega) (by omega) k
      · rw [if_neg z] at k
        exact if_no (fun q9 => z ((b2i_eq _ _).mp q9)) k
theorem s_unlike (g : gW A h U) (hw : w < 11) (hv : v < 11) {Q : Int → gaH → Prop} (k : Q (unlike (U w) (U v)) h) : w_X1_firstUnlikeJoined (A w) (A v) h Q :=
  ⟨(U w ++ U v).length + 1, s_unlike_L g hw hv _ 0 _ (Nat.zero_le _) (by omega) (by omega) k⟩
theorem unl_R (u v : List Bool) : ∀ (f i : Nat), f + i ≤ 1000 → -1 ≤ unl u v f i ∧ unl u v f i ≤ 1000
  | 0, i, _ => by unfold unl; omega
  | f + 1, i, hf => by
    unfold unl
    split
    · omega
    · split
      · exact unl_R u v f (i + 1) (by omega)
      · omega
/-- the object of the rule -/
def gRu (A : Nat → Nat) (h : gaH) : Prop := h (A 25) = some (3, [.ref (A 9), .ref (A 10), .ref (A 30)])
theorem gRu.on (r : gRu A h) (hA : gInj A) {h' : gaH} (s : gSm A h h') : gRu A h' := (s.at hA (by decide) (by decide)).trans r
theorem gRu.has (r : gRu A h) : gHas h (A 25) 3 := ⟨_, r⟩
theorem s_keepsApart (g : gW A h U) (r : gRu A h) {Q : Int → gaH → Prop} (k : Q (b2i (decide (unlike (U 9) (U 10) ≠ -1))) h) : w_X2_keepsApart (A 25) h Q := by
  have h1 := g.le (w := 9) (by decide)
  have h2 := g.le (w := 10) (by decide)
  unfold w_X2_keepsApart
  refine gA_mk r rfl (gA_mk r rfl (s_unlike g (w := 9) (v := 10) (by decide) (by decide) ?_))
  have := unl_R (U 9) (U 10) ((U 9 ++ U 10).length + 1) 0 (by rw [List.length_append]; omega)
  unfold unlike at k ⊢
  refine ⟨gR_of (by omega) (by omega), ?_⟩
  by_cases q : unl (U 9) (U 10) ((U 9 ++ U 10).length + 1) 0 = -1
  · rw [decide_eq_false (fun z => z q)] at k
    exact if_yes q k
  · rw [decide_eq_true q] at k
    exact if_no q k
theorem s_ruleTake (g : gW A h U) (r : gRu A h) {x y : Int} {c d : Nat} (hx : x = (c : Int)) (hy : y = (d : Int)) (hc : c < 65536) (hd : d < 65536) {Q : gaH → Prop} (k : ∀ h', gW A h' (pu (pu U 9 (codeW c)) 10 (codeW d)) → gSm A h h' → Q h') : w_X2_take (A 25) x y h Q := by
  unfold w_X2_take
  refine gA_mk r rfl ⟨g.has (w := 9) (by decide), s_takeCode g (w := 9) (by decide) hx hc (fun h1 g1 s1 => ?_)⟩
  refine gA_mk (r.on g.inj s1) rfl ⟨g1.has (w := 10) (by decide), s_takeCode g1 (w := 10) (by decide) hy hd (fun h2 g2 s2 => k h2 g2 (s1.tr s2))⟩
theorem s_imageLength (g : gW A h U) (r : gRu A h) (hw : w < 11) {Q : Int → gaH → Prop} (k : Q ((img (U 9) (U 10) (U w)).length : Int) h) : w_X2_imageLength (A 25) (A w) h Q := by
  unfold w_X2_imageLength
  refine s_upsOf g hw (g.many hw (gA_mk r rfl (g.many (w := 9) (by decide) (gA_mk r rfl (g.many (w := 10) (by decide) ?_)))))
  have e := img_len (U 9) (U 10) (U w)
  have h1 := ones_le (U w)
  rw [e] at k
  rw [show (((U w).length : Int) - (ones (U w) : Int)) = (((U w).length - ones (U w) : Nat) : Int) by omega]
  rw [← Int.natCast_mul, ← Int.natCast_mul, ← Int.natCast_add]
  exact k
theorem s_layImage_L (r0 : gInj A) (hw : w < 11) (hv : v < 9) (hne : v ≠ w) {Q : gaH → Prop} : ∀ (n i : Nat) (h : gaH) (U : Nat → List Bool), gW A h U → gRu A h → i ≤ (U w).length → (U w).length - i < n → (U v).length + (img (U 9) (U 10) ((U w).drop i)).length ≤ 64 →
    (∀ h', gW A h' (pu U v (U v ++ img (U 9) (U 10) ((U w).drop i))) → gSm A h h' → Q h') → w_X2_layImage_L6 Q n (A 25) (A w) (A v) (i : Int) h
  | 0, i, h, U, _, _, _, h1, _, _ => absurd h1 (Nat.not_lt_zero _)
  | n + 1, i, h, U, g, r, hi, h1, hl, k => by
    have hle := g.le hw
    unfold w_X2_layImage_L6
    refine g.many hw ⟨gR_of (by omega) (by omega), gR_of (by omega) (by omega), ?_⟩
    by_cases q : i = (U w).length
    · refine if_yes (by omega) (k h (g.eq (fun x _ => ?_)) gSm.rf)
      by_cases e : x = v
      · rw [e, pu_self, q, List.drop_length]; simp [img]
      · exact pu_ne _ _ e
    · refine if_no (by omega) ⟨g.has hw, s_isUp g hw rfl (by omega) ⟨b2i_R _, ?_⟩⟩
      have hd := take_one (u := U w) (i := i) (by omega)
      -- with the sign's part p
      have part : ∀ p : Nat, (p = 9 ∨ p = 10) → (if (U w).getD i false = true then U 10 else U 9) = U p → w_X2_layImage_J33 Q (w_X2_layImage_L6 Q n) (A 25) (A w) (A v) (i : Int) (A p) h := by
        intro p hp he
        have e3 : img (U 9) (U 10) ((U w).drop i) = U p ++ img (U 9) (U 10) ((U w).drop (i + 1)) := by rw [hd, img, he]
        rw [e3] at hl k
        rw [List.length_append] at hl
        unfold w_X2_layImage_J33
        refine g.many (w := p) (by omega) ⟨g.has (show v < 11 by omega), s_addPart (i := 0) g (show v < 11 by omega) (show p < 11 by omega) (by omega) rfl rfl (Nat.zero_le _) (Nat.le_refl _) (by omega) (fun h' g' s => ?_)⟩
        have n1 : ∀ x, x ≠ v → pu U v (U v ++ ((U p).drop 0).take ((U p).length - 0)) x = U x := fun x hx => pu_ne _ _ hx
        have n2 : pu U v (U v ++ ((U p).drop 0).take ((U p).length - 0)) v = U v ++ U p := by rw [pu_self, List.drop_zero, Nat.sub_zero, List.take_length]
        rw [show (i : Int) + 1 = ((i + 1 : Nat) : Int) by omega]
        refine s_layImage_L r0 hw hv hne n (i + 1) h' _ g' (r.on r0 s) (by rw [n1 w hne.symm]; omega) (by rw [n1 w hne.symm]; omega) (by rw [n2, n1 w hne.symm, n1 9 (by omega), n1 10 (by omega), List.length_append]; omega) (fun h2 g2 s2 => k h2 (g2.eq (fun x _ => ?_)) (s.tr s2))
        by_cases e : x = v
        · subst e
          rw [pu_self, pu_self, n2, n1 w hne.symm, n1 9 (by omega), n1 10 (by omega), List.append_assoc]
        · rw [pu_ne _ _ e, pu_ne _ _ e, n1 x e]
      cases hz : (U w).getD i false
      · exact if_yes rfl (gA_mk r rfl (part 9 (Or.inl rfl) (by rw [hz]; rfl)))
      · exact if_no (by decide) (gA_mk r rfl (part 10 (Or.inr rfl) (by rw [hz]; rfl)))
theorem s_layImage (g : gW A h U) (r : gRu A h) (hw : w < 11) (hv : v < 9) (hne : v ≠ w) (hl : (img (U 9) (U 10) (U w)).length ≤ 64) {Q : gaH → Prop} (k : ∀ h', gW A h' (pu U v (img (U 9) (U 10) (U w))) → gSm A h h' → Q h') : w_X2_layImage (A 25) (A w) (A v) h Q := by
  unfold w_X2_layImage
  refine ⟨g.has (show v < 11 by omega), s_clear g (show v < 11 by omega) (fun h1 g1 s1 => ⟨65, ?_⟩)⟩
  have hle := g.le hw
  have n1 : ∀ x, x ≠ v → pu U v [] x = U x := fun x hx => pu_ne _ _ hx
  refine s_layImage_L g.inj hw hv hne 65 0 h1 _ g1 (r.on g.inj s1) (Nat.zero_le _) (by rw [n1 w hne.symm]; omega) (by rw [pu_self, n1 w hne.symm, n1 9 (by omega), n1 10 (by omega), List.drop_zero]; simpa using hl) (fun h2 g2 s2 => k h2 (g2.eq (fun x _ => ?_)) (s1.tr s2))
  by_cases e : x = v
  · subst e
    rw [pu_self, pu_self, pu_self, n1 w hne.symm, n1 9 (by omega), n1 10 (by omega), List.drop_zero]; rfl
  · rw [pu_ne _ _ e, pu_ne _ _ e, n1 x e]
end PU
/-! The way back through a rule. -/
/-- is what stands from i on the image of some word? -/
def okR (x y u : List Bool) (i : Nat) : Bool :=
  if h : i < u.length ∧ 0 < x.length ∧ 0 < y.length then (stands u x i && okR x y u (i + x.length)) || (stands u y i && okR x y u (i + y.length)) else decide (i = u.length)
termination_by u.length - i
decreasing_by all_goals omega
/-- that word -/
def walkR (x y u : List Bool) (i : Nat) : List Bool :=
  if h : i < u.length ∧ 0 < x.length ∧ 0 < y.length then (if (stands u x i && okR x y u (i + x.length)) = true then false :: walkR x y u (i + x.length) else true :: walkR x y u (i + y.length)) else []
termination_by u.length - i
decreasing_by all_goals omega
theorem stands_le {u v : List Bool} {i : Nat} (h : stands u v i = true) : i + v.length ≤ u.length := by
  unfold stands at h
  rw [Bool.and_eq_true, decide_eq_true_eq] at h
  exact h.1
/-- nothing but words and the rule's marks has changed -/
def gSk (A : Nat → Nat) (h h' : gaH) : Prop := ∀ b, (∀ w, w < 22 → b ≠ A w) → b ≠ A 30 → h' b = h b
theorem gSk.of {A : Nat → Nat} {h h' : gaH} (x : gSm A h h') : gSk A h h' := fun b hb _ => x b hb
theorem gSk.tr {A : Nat → Nat} {h h1 h2 : gaH} (x : gSk A h h1) (y : gSk A h1 h2) : gSk A h h2 := fun b hb hc => (y b hb hc).trans (x b hb hc)
theorem gSk.at {A : Nat → Nat} {h h' : gaH} (x : gSk A h h') (hA : gInj A) {i : Nat} (h1 : 22 ≤ i) (h2 : i < 30) : h' (A i) = h (A i) := x _ (fun w hw q => by
  have := hA i w (by omega) (by omega) q
  omega) (fun q => by
  have := hA i 30 (by omega) (by omega) q
  omega)
theorem gRu.onk {A : Nat → Nat} {h h' : gaH} (r : gRu A h) (hA : gInj A) (s : gSk A h h') : gRu A h' := (s.at hA (by decide) (by decide)).trans r
section PM
variable {A : Nat → Nat} {h : gaH} {U : Nat → List Bool} {w v : Nat} {m : List Bool}
theorem gW.setM (g : gW A h U) (hm : h (A 30) = some (100, gRow m)) (hl : m.length = 65) {i : Nat} (hi : i < 65) {x : Int} (hx : x = (i : Int)) {b : Bool} {K : gaH → Prop} (k : ∀ h', gW A h' U → gSk A h h' → h' (A 30) = some (100, gRow (m.set i b)) → K h') : gSI h (A 30) 100 x (gi (b2i b)) K := by
  subst hx
  obtain ⟨R, N, g, e⟩ := g
  have hu : gaUp h (A 30) (100, (gRow m).set (i : Int).toNat (gi (b2i b))) (A 30) = some (100, gRow (m.set i b)) := by rw [gaUp_self, gRow_set, Int.toNat_natCast]
  refine gSI_mk hm (by omega) (by omega) (by rw [gRow_len, hl]; omega) (k _ ⟨R, N, ⟨g.1, fun x hx => ?_, m.set i b, by rw [List.length_set]; exact hl, hu⟩, e⟩ (fun b _ hb => gaUp_ne _ _ hb) hu)
  obtain ⟨a1, a2, a3, a4⟩ := g.2.1 x hx
  exact ⟨a1, a2, by rw [gaUp_ne _ _ (g.ne (by omega) (by omega) (by omega))]; exact a3, by rw [gaUp_ne _ _ (g.ne (by omega) (by omega) (by omega))]; exact a4⟩
theorem gW.marks (g : gW A h U) : ∃ m : List Bool, m.length = 65 ∧ h (A 30) = some (100, gRow m) := by obtain ⟨R, N, g, -⟩ := g; exact g.2.2
theorem s_isMarked (r : gRu A h) (hm : h (A 30) = some (100, gRow m)) (hl : m.length = 65) {x : Int} {p : Nat} (hx : x = (p : Int)) (hp : p < 65) {Q : Int → gaH → Prop} (k : Q (b2i (m.getD p false)) h) : w_X2_isMarked (A 25) x h Q := by
  subst hx
  unfold w_X2_isMarked
  refine ⟨gR_of (by omega) (by omega), if_no (by omega) (gA_mk r rfl (gAL_mk hm (by rw [gRow_len, hl]) ⟨gR_of (by omega) (by omega), gR_of (by decide) (by decide), if_no (by omega) (gA_mk r rfl (gLI_mk hm (by omega) (by omega) (by rw [Int.toNat_natCast]; exact gRow_at (by rw [hl]; exact hp)) ⟨b2i_R _, ?_⟩))⟩))⟩
  generalize m.getD p false = z at k
  cases z
  · exact if_yes rfl k
  · exact if_no (by decide) k
theorem s_goesOn (g : gW A h U) (r : gRu A h) (hm : h (A 30) = some (100, gRow m)) (hl : m.length = 65) (hw : w < 11) {q : Nat} (hq : q < 11) {x : Int} {p : Nat} (hx : x = (p : Int)) (hp : p ≤ 64) {Q : Int → gaH → Prop} (k : Q (b2i (stands (U w) (U q) p && m.getD (p + (U q).length) false)) h) : w_X2_goesOn (A 25) (A w) x (A q) h Q := by
  have hle := g.le hw
  unfold w_X2_goesOn
  refine s_standsAt g hw hq hx (by omega) ⟨b2i_R _, ?_⟩
  cases hz : stands (U w) (U q) p
  · rw [hz, Bool.false_and] at k
    exact if_yes rfl k
  · have h1 := stands_le hz
    rw [hz, Bool.true_and] at k
    refine if_no (by decide) (g.many hq ⟨r.has, s_isMarked (p := p + (U q).length) r hm hl (by subst hx; omega) (by omega) ⟨b2i_R _, ?_⟩⟩)
    generalize m.getD (p + (U q).length) false = z at k
    cases z
    · exact if_yes rfl k
    · exact if_no (by decide) k
theorem okR_at {x y u : List Bool} (hx : 0 < x.length) (hy : 0 < y.length) (i : Nat) : okR x y u i = (decide (i = u.length) || ((stands u x i && okR x y u (i + x.length)) || (stands u y i && okR x y u (i + y.length)))) := by
  rw [okR]
  by_cases h1 : i < u.length
  · rw [dif_pos ⟨h1, hx, hy⟩, decide_eq_false (by omega), Bool.false_or]
  · rw [dif_neg (fun z => h1 z.1)]
    have s1 : stands u x i = false := by
      cases hz : stands u x i
      · rfl
      · have := stands_le hz; omega
    have s2 : stands u y i = false := by
      cases hz : stands u y i
      · rfl
      · have := stands_le hz; omega
    rw [s1, s2, Bool.false_and, Bool.false_and, Bool.or_false, Bool.or_false]
theorem s_markImages_L (hA : gInj A) (hw : w < 11) (hw2 : w ≠ 9) {Q : gaH → Prop} (p1 : 0 < (U 9).length) (p2 : 0 < (U 10).length) : ∀ (n i : Nat) (h : gaH) (m : List Bool), gW A h U → gRu A h → h (A 30) = some (100, gRow m) → m.length = 65 → i ≤ 65 → i < n → (∀ j, i ≤ j → j < 65 → m.getD j false = okR (U 9) (U 10) (U w) j) →
    (∀ h' m', gW A h' U → gSk A h h' → h' (A 30) = some (100, gRow m') → m'.length = 65 → (∀ j, j < 65 → m'.getD j false = okR (U 9) (U 10) (U w) j) → Q h') → w_X2_markImages_L8 Q n (A 25) (A w) ((i : Int) - 1) h
  | 0, i, h, m, _, _, _, _, _, h1, _, _ => absurd h1 (Nat.not_lt_zero _)
  | n + 1, i, h, m, g, r, hm, hl, hi, h1, hj, k => by
    have hle := g.le hw
    unfold w_X2_markImages_L8
    refine ⟨gR_of (by omega) (by omega), ?_⟩
    cases i with
    | zero => exact if_yes (by omega) (k h m g (fun _ _ _ => rfl) hm hl (fun j hj2 => hj j (Nat.zero_le _) hj2))
    | succ i =>
      have e1 : ((i + 1 : Nat) : Int) - 1 = (i : Int) := by omega
      rw [e1]
      have fin : ∀ b : Bool, b = okR (U 9) (U 10) (U w) i → w_X2_markImages_J56 Q (w_X2_markImages_L8 Q n) (A 25) (A w) (i : Int) (A 30) (i : Int) (b2i b) h := by
        intro b hb
        unfold w_X2_markImages_J56
        refine ⟨b2i_nar b, g.setM hm hl (i := i) (by omega) rfl (fun h' g' s hm' => ?_)⟩
        rw [show (i : Int) + -1 = (i : Int) - 1 by omega]
        refine s_markImages_L hA hw hw2 p1 p2 n i h' _ g' (r.onk hA s) hm' (by rw [List.length_set]; exact hl) (by omega) (by omega) (fun j q1 q2 => ?_) (fun h2 m2 g2 s2 t1 t2 t3 => k h2 m2 g2 (s.tr s2) t1 t2 t3)
        by_cases q : j = i
        · subst q
          rw [List.getD_eq_getElem?_getD, List.getElem?_set_self (by omega)]
          exact hb
        · rw [List.getD_eq_getElem?_getD, List.getElem?_set_ne (fun z => q z.symm), ← List.getD_eq_getElem?_getD]
          exact hj j (by omega) q2
      have hok := okR_at (x := U 9) (y := U 10) (u := U w) p1 p2 i
      have mk : ∀ q, 0 < (U q).length → (stands (U w) (U q) i && m.getD (i + (U q).length) false) = (stands (U w) (U q) i && okR (U 9) (U 10) (U w) (i + (U q).length)) := by
        intro q hq
        cases hz : stands (U w) (U q) i
        · rfl
        · have := stands_le hz
          rw [hj _ (by omega) (by omega)]
      refine if_no (by omega) (gA_mk r rfl (g.many hw ⟨gR_of (by omega) (by omega), gR_of (by omega) (by omega), ?_⟩))
      by_cases z : i = (U w).length
      · refine if_yes (by omega) ?_
        unfold w_X2_markImages_J51
        refine fin true ?_
        rw [hok, decide_eq_true z, Bool.true_or]
      · rw [decide_eq_false z, Bool.false_or] at hok
        refine if_no (by omega) (gA_mk r rfl ⟨r.has, s_goesOn g r hm hl hw (q := 9) (by decide) rfl (by omega) ⟨b2i_R _, ?_⟩⟩)
        rw [mk 9 p1]
        cases hz : (stands (U w) (U 9) i && okR (U 9) (U 10) (U w) (i + (U 9).length))
        · rw [hz, Bool.false_or] at hok
          refine if_yes rfl (gA_mk r rfl ⟨r.has, s_goesOn g r hm hl hw (q := 10) (by decide) rfl (by omega) ⟨b2i_R _, ?_⟩⟩)
          rw [mk 10 p2, ← hok]
          cases hy : okR (U 9) (U 10) (U w) i
          · exact if_yes rfl (fin false hy.symm)
          · refine if_no (by decide) ?_
            unfold w_X2_markImages_J51
            exact fin true hy.symm
        · rw [hz, Bool.true_or] at hok
          refine if_no (by decide) ?_
          unfold w_X2_markImages_J51
          exact fin true hok.symm
theorem s_layOrigin_L (hA : gInj A) (hw : w < 9) (hv : v < 9) (hne : v ≠ w) {Q : Int → gaH → Prop} : ∀ (n i nx : Nat) (h : gaH) (U : Nat → List Bool), gW A h U → gRu A h → 0 < (U 9).length → 0 < (U 10).length → h (A 30) = some (100, gRow m) → m.length = 65 → (∀ j, j < 65 → m.getD j false = okR (U 9) (U 10) (U w) j) → i ≤ (U w).length → i ≤ nx → nx ≤ (U w).length → (U w).length - i < n →
    okR (U 9) (U 10) (U w) nx = true → (U v).length ≤ i →
    (∀ h', gW A h' (pu U v (U v ++ walkR (U 9) (U 10) (U w) nx)) → gSm A h h' → Q 1 h') → w_X2_layOrigin_L24 Q n (A 25) (A w) (A v) (nx : Int) (i : Int) h
  | 0, i, nx, h, U, _, _, _, _, _, _, _, _, _, _, h1, _, _, _ => absurd h1 (Nat.not_lt_zero _)
  | n + 1, i, nx, h, U, g, r, p1, p2, hm, hl, hj, hi, hn, hn2, h1, hok, hc, k => by
    have hle := g.le (show w < 11 by omega)
    unfold w_X2_layOrigin_L24
    refine g.many (show w < 11 by omega) ⟨gR_of (by omega) (by omega), gR_of (by omega) (by omega), ?_⟩
    by_cases q : i = (U w).length
    · have e : nx = (U w).length := by omega
      refine if_yes (by omega) (k h (g.eq (fun x _ => ?_)) gSm.rf)
      by_cases z : x = v
      · rw [z, pu_self, walkR, dif_neg (by omega), List.append_nil]
      · exact pu_ne _ _ z
    · refine if_no (by omega) ⟨gR_of (by omega) (by omega), gR_of (by omega) (by omega), ?_⟩
      by_cases z : i = nx
      · subst z
        have hlt : i < (U w).length := by omega
        have mk : (stands (U w) (U 9) i && m.getD (i + (U 9).length) false) = (stands (U w) (U 9) i && okR (U 9) (U 10) (U w) (i + (U 9).length)) := by
          cases hz : stands (U w) (U 9) i
          · rfl
          · have := stands_le hz
            rw [hj _ (by omega)]
        have hw1 : walkR (U 9) (U 10) (U w) i = (if (stands (U w) (U 9) i && okR (U 9) (U 10) (U w) (i + (U 9).length)) = true then false :: walkR (U 9) (U 10) (U w) (i + (U 9).length) else true :: walkR (U 9) (U 10) (U w) (i + (U 10).length)) := by
          rw [walkR, dif_pos ⟨hlt, p1, p2⟩]
        -- the sign b is laid, by the word of q
        have fin : ∀ (b : Bool) (q : Nat), q = (if b = true then 10 else 9) → (stands (U w) (U q) i && okR (U 9) (U 10) (U w) (i + (U q).length)) = true → walkR (U 9) (U 10) (U w) i = b :: walkR (U 9) (U 10) (U w) (i + (U q).length) → w_X2_layOrigin_J58 Q (w_X2_layOrigin_L24 Q n) (A 25) (A w) (A v) (i : Int) (b2i b) h := by
          intro b q hq hs hwk
          rw [Bool.and_eq_true] at hs
          have hst := stands_le hs.1
          unfold w_X2_layOrigin_J58
          refine ⟨g.has (show v < 11 by omega), s_add g (show v < 11 by omega) (by omega) rfl (fun h' g' s => ⟨b2i_R _, ?_⟩)⟩
          have n1 : ∀ x, x ≠ v → pu U v (U v ++ [b]) x = U x := fun x hx => pu_ne _ _ hx
          have goon : ∀ (hm2 : h' (A 30) = some (100, gRow m)), w_X2_layOrigin_L24 Q n (A 25) (A w) (A v) ((i : Int) + ((U q).length : Int)) ((i : Int) + 1) h' := by
            intro hm2
            rw [show (i : Int) + ((U q).length : Int) = ((i + (U q).length : Nat) : Int) by omega, show (i : Int) + 1 = ((i + 1 : Nat) : Int) by omega]
            have hq0 : 0 < (U q).length := by rw [hq]; cases b <;> simp <;> assumption
            refine s_layOrigin_L hA hw hv hne n (i + 1) (i + (U q).length) h' _ g' (r.on hA s) (by rw [n1 9 (by omega)]; exact p1) (by rw [n1 10 (by omega)]; exact p2) hm2 hl (by rw [n1 9 (by omega), n1 10 (by omega), n1 w hne.symm]; exact hj) (by rw [n1 w hne.symm]; omega) (by omega) (by rw [n1 w hne.symm]; exact hst) (by rw [n1 w hne.symm]; omega) (by rw [n1 9 (by omega), n1 10 (by omega), n1 w hne.symm]; exact hs.2) (by rw [pu_self, List.length_append]; simp only [List.length_cons, List.length_nil]; omega) (fun h2 g2 s2 => k h2 (g2.eq (fun x _ => ?_)) (s.tr s2))
            by_cases e : x = v
            · subst e
              rw [pu_self, pu_self, pu_self, n1 9 (by omega), n1 10 (by omega), n1 w hne.symm, hwk, List.append_assoc]
              rfl
            · rw [pu_ne _ _ e, pu_ne _ _ e, n1 x e]
          have hm2 : h' (A 30) = some (100, gRow m) := (s.at hA (by decide) (by decide)).trans hm
          have r' := r.on hA s
          subst hq
          cases b
          · refine if_yes rfl (gA_mk r' rfl ?_)
            refine g'.many (w := 9) (by decide) ?_
            rw [n1 9 (by omega)]
            exact goon hm2
          · refine if_no (by decide) (gA_mk r' rfl ?_)
            refine g'.many (w := 10) (by decide) ?_
            rw [n1 10 (by omega)]
            exact goon hm2
        refine if_yes rfl (gA_mk r rfl ⟨r.has, s_goesOn g r hm hl (show w < 11 by omega) (q := 9) (by decide) rfl (by omega) ⟨b2i_R _, ?_⟩⟩)
        rw [mk]
        cases hz : (stands (U w) (U 9) i && okR (U 9) (U 10) (U w) (i + (U 9).length))
        · have h2 := okR_at (x := U 9) (y := U 10) (u := U w) p1 p2 i
          rw [hok, decide_eq_false (by omega), hz, Bool.false_or, Bool.false_or] at h2
          exact if_yes rfl (fin true 10 rfl h2.symm (by rw [hw1, hz]; rfl))
        · exact if_no (by decide) (fin false 9 rfl hz (by rw [hw1, hz]; rfl))
      · refine if_no (by omega) ?_
        rw [show (i : Int) + 1 = ((i + 1 : Nat) : Int) by omega]
        exact s_layOrigin_L hA hw hv hne n (i + 1) nx h U g r p1 p2 hm hl hj (by omega) (by omega) hn2 (by omega) hok (by omega) k
/-- the word whose image is told, if there is one -/
theorem s_layOrigin (g : gW A h U) (r : gRu A h) (hw : w < 9) (hv : v < 9) (hne : v ≠ w) (p1 : 0 < (U 9).length) (p2 : 0 < (U 10).length) {Q : Int → gaH → Prop}
    (k0 : ∀ h', gW A h' U → gSk A h h' → okR (U 9) (U 10) (U w) 0 = false → Q 0 h') (k1 : ∀ h', gW A h' (pu U v (walkR (U 9) (U 10) (U w) 0)) → gSk A h h' → okR (U 9) (U 10) (U w) 0 = true → Q 1 h') : w_X2_layOrigin (A 25) (A w) (A v) h Q := by
  have hA := g.inj
  have hle := g.le (show w < 11 by omega)
  obtain ⟨m, hl, hm⟩ := g.marks
  unfold w_X2_layOrigin w_X2_markImages
  refine ⟨r.has, gA_mk r rfl (gAL_mk hm (by rw [gRow_len, hl]) ⟨66, ?_⟩)⟩
  refine s_markImages_L hA (show w < 11 by omega) (by omega) p1 p2 66 65 h m g r hm hl (Nat.le_refl _) (by decide) (fun j q1 q2 => by omega) (fun h1 m1 g1 s1 hm1 hl1 hj1 => ?_)
  have r1 := r.onk hA s1
  refine ⟨r1.has, s_isMarked (p := 0) r1 hm1 hl1 rfl (by decide) ⟨b2i_R _, ?_⟩⟩
  rw [hj1 0 (by decide)]
  cases hok : okR (U 9) (U 10) (U w) 0
  · exact if_yes rfl (k0 h1 g1 s1 hok)
  · refine if_no (by decide) ⟨g1.has (show v < 11 by omega), s_clear g1 (show v < 11 by omega) (fun h2 g2 s2 => ⟨65, ?_⟩)⟩
    have n1 : ∀ x, x ≠ v → pu U v [] x = U x := fun x hx => pu_ne _ _ hx
    refine s_layOrigin_L (m := m1) hA hw hv hne 65 0 0 h2 _ g2 (r1.on hA s2) (by rw [n1 9 (by omega)]; exact p1) (by rw [n1 10 (by omega)]; exact p2) ((s2.at hA (by decide) (by decide)).trans hm1) hl1 (by rw [n1 9 (by omega), n1 10 (by omega), n1 w hne.symm]; exact hj1) (Nat.zero_le _) (Nat.le_refl _) (Nat.zero_le _) (by rw [n1 w hne.symm]; omega) (by rw [n1 9 (by omega), n1 10 (by omega), n1 w hne.symm]; exact hok) (by rw [pu_self]; exact Nat.le_refl _) (fun h3 g3 s3 => k1 h3 (g3.eq (fun x _ => ?_)) (s1.tr ((gSk.of s2).tr (gSk.of s3))) hok)
    by_cases e : x = v
    · subst e
      rw [pu_self, pu_self, pu_self, n1 9 (by omega), n1 10 (by omega), n1 w hne.symm]; rfl
    · rw [pu_ne _ _ e, pu_ne _ _ e, n1 x e]
end PM
/-! Growths: their words by copies, by rules, by their line. -/
def rep (t : Nat) (y : List Bool) : List Bool := (List.replicate t y).flatten
theorem rep_succ (t : Nat) (y : List Bool) : rep (t + 1) y = rep t y ++ y := by
  unfold rep
  rw [List.replicate_succ']
  simp
theorem rep_len (t : Nat) (y : List Bool) : (rep t y).length = t * y.length := by simp [rep]
/-- elder and younger -/
def gstep (p : List Bool × List Bool) (t : Nat) : List Bool × List Bool := (p.2, rep t p.2 ++ p.1)
def grw (ts : List Nat) : List Bool × List Bool := ts.foldl gstep ([true], [false])
theorem grw_snoc (ts : List Nat) (t : Nat) : grw (ts ++ [t]) = gstep (grw ts) t := by simp [grw]
def cf (t : Nat) : Nat := if t = 1 then 5 else if t = 2 then 9 else if t = 3 then 17 else 0
def phi (ts : List Nat) (w : List Bool) : List Bool := ts.foldr (fun t w => img (codeW (cf t)) (codeW 2) w) w
def tOk (ts : List Nat) : Prop := ∀ t ∈ ts, 1 ≤ t ∧ t ≤ 3
theorem tOk.snoc {ts : List Nat} {t : Nat} (h : tOk (ts ++ [t])) : tOk ts ∧ (1 ≤ t ∧ t ≤ 3) := ⟨fun x hx => h x (List.mem_append_left _ hx), h t (by simp)⟩
theorem phi_app (ts : List Nat) : ∀ (u v : List Bool), phi ts (u ++ v) = phi ts u ++ phi ts v := by
  induction ts with
  | nil => intro u v; rfl
  | cons t ts ih => intro u v; show img _ _ (phi ts (u ++ v)) = _; rw [ih, img_app]; rfl
theorem phi_rep (ts : List Nat) (u : List Bool) : ∀ n, phi ts (rep n u) = rep n (phi ts u)
  | 0 => by
    show phi ts [] = []
    induction ts with
    | nil => rfl
    | cons t ts ih => show img _ _ (phi ts []) = []; rw [ih]; rfl
  | n + 1 => by rw [rep_succ, phi_app, phi_rep ts u n, rep_succ]
theorem phi_snoc (ts : List Nat) (t : Nat) (w : List Bool) : phi (ts ++ [t]) w = phi ts (img (codeW (cf t)) (codeW 2) w) := by simp [phi]
theorem cf_len {t : Nat} (h : 1 ≤ t ∧ t ≤ 3) : 1 ≤ (codeW (cf t)).length ∧ cf t < 65536 ∧ codeW (cf t) = rep t [false] ++ [true] ∧ codeW 2 = [false] := by
  obtain ⟨h1, h2⟩ := h
  rcases (show t = 1 ∨ t = 2 ∨ t = 3 by omega) with rfl | rfl | rfl <;> decide
theorem grw_phi : ∀ (n : Nat) (ts : List Nat), ts.length = n → tOk ts → grw ts = (phi ts [true], phi ts [false])
  | 0, ts, hn, _ => by
    rw [List.length_eq_zero_iff.mp hn]; rfl
  | n + 1, ts, hn, hok => by
    obtain ⟨us, t, rfl⟩ : ∃ us t, ts = us ++ [t] := ⟨ts.dropLast, ts.getLast (by intro h; rw [h] at hn; simp at hn), (List.dropLast_concat_getLast _).symm⟩
    obtain ⟨h1, h2⟩ := hok.snoc
    obtain ⟨-, -, c1, c2⟩ := cf_len h2
    have e1 : img (codeW (cf t)) (codeW 2) [true] = [false] := by rw [c2]; rfl
    have e2 : img (codeW (cf t)) (codeW 2) [false] = rep t [false] ++ [true] := by rw [c1]; simp [img]
    rw [grw_snoc, grw_phi n us (by simpa using hn) h1, phi_snoc, phi_snoc, e1, e2, phi_app, phi_rep]
    rfl
theorem img_ge (x y : List Bool) (hx : 1 ≤ x.length) (hy : 1 ≤ y.length) : ∀ u : List Bool, u.length ≤ (img x y u).length
  | [] => Nat.zero_le _
  | b :: t => by
    have := img_ge x y hx hy t
    simp only [img, List.length_append, List.length_cons]
    split <;> omega
theorem phi_ge (ts : List Nat) (hok : tOk ts) (w : List Bool) : w.length ≤ (phi ts w).length := by
  induction ts with
  | nil => exact Nat.le_refl _
  | cons t ts ih =>
    have h1 := ih (fun x hx => hok x (List.mem_cons_of_mem _ hx))
    obtain ⟨c0, -, c1, c2⟩ := cf_len (hok t List.mem_cons_self)
    exact Nat.le_trans h1 (img_ge _ _ c0 (by rw [c2]; decide) _)
theorem phi_split (ts us : List Nat) (w : List Bool) : phi (ts ++ us) w = phi ts (phi us w) := by simp [phi]
/-- the younger word's length is that of the turns and one at least -/
theorem grw_len : ∀ (n : Nat) (ts : List Nat), ts.length = n → tOk ts → n + 1 ≤ (grw ts).2.length ∧ 1 ≤ (grw ts).1.length
  | 0, ts, hn, _ => by rw [List.length_eq_zero_iff.mp hn]; decide
  | n + 1, ts, hn, hok => by
    obtain ⟨us, t, rfl⟩ : ∃ us t, ts = us ++ [t] := ⟨ts.dropLast, ts.getLast (by intro h; rw [h] at hn; simp at hn), (List.dropLast_concat_getLast _).symm⟩
    obtain ⟨h1, h2⟩ := hok.snoc
    obtain ⟨a1, a2⟩ := grw_len n us (by simpa using hn) h1
    rw [grw_snoc]
    show n + 1 + 1 ≤ (rep t (grw us).2 ++ (grw us).1).length ∧ 1 ≤ (grw us).2.length
    rw [List.length_append, rep_len]
    have : 1 * (grw us).2.length ≤ t * (grw us).2.length := Nat.mul_le_mul_right _ h2.1
    omega
theorem grw_mono (ts : List Nat) (t : Nat) (h2 : 1 ≤ t ∧ t ≤ 3) : (grw ts).2.length ≤ (grw (ts ++ [t])).2.length := by
  rw [grw_snoc]
  show _ ≤ (rep t (grw ts).2 ++ (grw ts).1).length
  rw [List.length_append, rep_len]
  have : 1 * (grw ts).2.length ≤ t * (grw ts).2.length := Nat.mul_le_mul_right _ h2.1
  omega
def gOk (ts : List Nat) : Prop := tOk ts ∧ (grw ts).2.length ≤ 64
theorem gOk.len {ts : List Nat} (h : gOk ts) : ts.length ≤ 63 := by
  have := (grw_len _ ts rfl h.1).1
  have := h.2
  omega
theorem gOk.pre {ts : List Nat} {t : Nat} (h : gOk (ts ++ [t])) : gOk ts := ⟨h.1.snoc.1, Nat.le_trans (grw_mono ts t h.1.snoc.2) h.2⟩
theorem gOk.elder {ts : List Nat} (h : gOk ts) : (grw ts).1.length ≤ 64 := by
  by_cases hn : ts = []
  · rw [hn]; decide
  · obtain ⟨us, t, rfl⟩ : ∃ us t, ts = us ++ [t] := ⟨ts.dropLast, ts.getLast hn, (List.dropLast_concat_getLast _).symm⟩
    rw [grw_snoc]
    exact h.pre.2
/-- lengths and b's by the numbers alone: elder's length, b's, younger's length, b's -/
def nstep (p : Nat × Nat × Nat × Nat) (t : Nat) : Nat × Nat × Nat × Nat := (p.2.2.1, p.2.2.2, t * p.2.2.1 + p.1, t * p.2.2.2 + p.2.1)
def nums (ts : List Nat) : Nat × Nat × Nat × Nat := ts.foldl nstep (1, 1, 1, 0)
theorem rep_ones (t : Nat) (y : List Bool) : ones (rep t y) = t * ones y := by
  induction t with
  | zero => simp [rep, ones]
  | succ t ih => rw [rep_succ, ones_app, ih, Nat.succ_mul]
theorem nums_grw : ∀ (n : Nat) (ts : List Nat), ts.length = n → nums ts = ((grw ts).1.length, ones (grw ts).1, (grw ts).2.length, ones (grw ts).2)
  | 0, ts, hn => by rw [List.length_eq_zero_iff.mp hn]; rfl
  | n + 1, ts, hn => by
    obtain ⟨us, t, rfl⟩ : ∃ us t, ts = us ++ [t] := ⟨ts.dropLast, ts.getLast (by intro h; rw [h] at hn; simp at hn), (List.dropLast_concat_getLast _).symm⟩
    have ih := nums_grw n us (by simpa using hn)
    rw [grw_snoc, show nums (us ++ [t]) = nstep (nums us) t by simp [nums], ih]
    simp only [nstep, gstep, List.length_append, rep_len, ones_app, rep_ones]
/-- a sign of a line -/
def lineB (n p s i : Nat) : Bool := decide (n ≤ (i * p + s) % n + p)
/-- the younger word by its line -/
def byL (ts : List Nat) : List Bool :=
  if ts = [] then [false] else (List.range ((nums ts).2.2.1 - 2)).map (fun j => lineB (nums ts).2.2.1 (nums ts).2.2.2 0 (j + 1)) ++ [decide (ts.length % 2 = 0), decide (ts.length % 2 = 1)]
theorem s_lineB {n p s i : Nat} (hn : 0 < n) (hb : n ≤ 1000) (hp : p ≤ 1000) (hs : s ≤ 1000) (hi : i ≤ 1000) {x1 x2 x3 x4 : Int} (h1 : x1 = (n : Int)) (h2 : x2 = (p : Int)) (h3 : x3 = (s : Int)) (h4 : x4 = (i : Int)) {h : gaH} {Q : Int → gaH → Prop} (k : Q (b2i (lineB n p s i)) h) : w_X5_isUpOnLine x1 x2 x3 x4 h Q := by
  subst h1; subst h2; subst h3; subst h4
  unfold w_X5_isUpOnLine
  have hm : i * p ≤ 1000 * 1000 := Nat.mul_le_mul hi hp
  have e1 : ((i : Int) * (p : Int) + (s : Int)) = ((i * p + s : Nat) : Int) := by rw [Int.natCast_add, Int.natCast_mul]
  have e2 : gRem ((i : Int) * (p : Int) + (s : Int)) (n : Int) = (((i * p + s) % n : Nat) : Int) := by rw [e1]; exact gRem_nat (by omega) (by omega)
  have hr : (i * p + s) % n < n := Nat.mod_lt _ hn
  refine ⟨gR_of (by omega) (by omega), ?_⟩
  refine if_no (by omega) ⟨gR_of (by omega) (by omega), by omega, ?_⟩
  rw [e2]
  refine ⟨gR_of (by omega) (by omega), gR_of (by omega) (by omega), ?_⟩
  unfold lineB at k
  by_cases q : n ≤ (i * p + s) % n + p
  · rw [decide_eq_true q] at k
    exact if_no (by omega) k
  · rw [decide_eq_false q] at k
    exact if_yes (by omega) k
/-! Growths: what their methods do. -/
def gGr (A : Nat → Nat) (h : gaH) (g : Nat) (ts : List Nat) : Prop := h (A (26 + g)) = some (2, [.ref (A (28 + g)), gi (ts.length : Int), .ref (A (5 + 2 * g)), .ref (A (6 + 2 * g))]) ∧ ∃ row : List Int, row.length = 64 ∧ ts.length ≤ 63 ∧ h (A (28 + g)) = some (102, row.map gi) ∧ ∀ i, i < ts.length → row[i]? = (ts[i]?).map (fun t => (t : Int))
/-- nothing but words and this growth has changed -/
def gSg (A : Nat → Nat) (g : Nat) (h h' : gaH) : Prop := ∀ b, (∀ w, w < 22 → b ≠ A w) → b ≠ A (26 + g) → b ≠ A (28 + g) → h' b = h b
theorem gSg.of {A : Nat → Nat} {g : Nat} {h h' : gaH} (x : gSm A h h') : gSg A g h h' := fun b hb _ _ => x b hb
theorem gSg.tr {A : Nat → Nat} {g : Nat} {h h1 h2 : gaH} (x : gSg A g h h1) (y : gSg A g h1 h2) : gSg A g h h2 := fun b hb hc hd => (y b hb hc hd).trans (x b hb hc hd)
theorem gSg.at {A : Nat → Nat} {g : Nat} {h h' : gaH} (x : gSg A g h h') (hA : gInj A) (hg : g < 2) {i : Nat} (h1 : 22 ≤ i) (h2 : i < 31) (h3 : i ≠ 26 + g) (h4 : i ≠ 28 + g) : h' (A i) = h (A i) := x _ (fun w hw q => by
  have := hA i w (by omega) (by omega) q
  omega) (fun q => h3 (hA i _ h2 (by omega) q)) (fun q => h4 (hA i _ h2 (by omega) q))
section PG
variable {A : Nat → Nat} {h : gaH} {U : Nat → List Bool} {w v g : Nat} {ts : List Nat} {G : gaG}
theorem gW.off (gw : gW A h U) {i : Nat} (h1 : 22 ≤ i) (h2 : i < 30) (e : gaE) : gW A (gaUp h (A i) e) U := by
  obtain ⟨R, N, x, y⟩ := gw
  refine ⟨R, N, ⟨x.1, fun z hz => ?_, ?_⟩, y⟩
  · obtain ⟨a1, a2, a3, a4⟩ := x.2.1 z hz
    exact ⟨a1, a2, by rw [gaUp_ne _ _ (x.ne (by omega) (by omega) (by omega))]; exact a3, by rw [gaUp_ne _ _ (x.ne (by omega) (by omega) (by omega))]; exact a4⟩
  · obtain ⟨m, m1, m2⟩ := x.2.2
    exact ⟨m, m1, by rw [gaUp_ne _ _ (x.ne (by omega) (by omega) (by omega))]; exact m2⟩
theorem gGr.has (gr : gGr A h g ts) : gHas h (A (26 + g)) 2 := ⟨_, gr.1⟩
theorem gGr.on (gr : gGr A h g ts) (hA : gInj A) (hg : g < 2) {h' : gaH} (s : gSm A h h') : gGr A h' g ts := by
  obtain ⟨x, row, a, b, c, d⟩ := gr
  exact ⟨(s.at hA (by omega) (by omega)).trans x, row, a, b, (s.at hA (by omega) (by omega)).trans c, d⟩
theorem gGr.onk (gr : gGr A h g ts) (hA : gInj A) (hg : g < 2) {h' : gaH} (s : gSk A h h') : gGr A h' g ts := by
  obtain ⟨x, row, a, b, c, d⟩ := gr
  exact ⟨(s.at hA (by omega) (by omega)).trans x, row, a, b, (s.at hA (by omega) (by omega)).trans c, d⟩
theorem gGr.el (gr : gGr A h g ts) {K : Nat → Prop} (k : K (A (5 + 2 * g))) : gA h (A (26 + g)) 2 2 K := gA_mk gr.1 rfl k
theorem gGr.yo (gr : gGr A h g ts) {K : Nat → Prop} (k : K (A (6 + 2 * g))) : gA h (A (26 + g)) 2 3 K := gA_mk gr.1 rfl k
theorem gGr.ct (gr : gGr A h g ts) {K : Int → Prop} (k : K (ts.length : Int)) : gI h (A (26 + g)) 2 1 K := gI_mk gr.1 rfl k
theorem s_turnAt (gr : gGr A h g ts) {x : Int} {p : Nat} (hx : x = (p : Int)) (hp : p < ts.length) {Q : Int → gaH → Prop} (k : Q ((ts.getD p 0 : Nat) : Int) h) : w_X0_turnAt (A (26 + g)) x h Q := by
  subst hx
  obtain ⟨a0, row, a1, a2, a3, a4⟩ := gr
  unfold w_X0_turnAt
  refine ⟨gR_of (by omega) (by omega), if_no (by omega) (gA_mk a0 rfl (gAL_mk a3 (by rw [List.length_map, a1]) ⟨gR_of (by omega) (by omega), gR_of (by decide) (by decide), if_no (by omega) (gA_mk a0 rfl (gLI_mk (x := ((ts.getD p 0 : Nat) : Int)) a3 (by omega) (by omega) ?_ k))⟩))⟩
  rw [Int.toNat_natCast, List.getElem?_map, a4 p hp, List.getD_eq_getElem?_getD, List.getElem?_eq_getElem hp]
  rfl
theorem s_wordBy (gr : gGr A h g ts) {x : Int} (hx : x = 0 ∨ x = 1) {Q : Nat → gaH → Prop} (k0 : x = 0 → Q (A (6 + 2 * g)) h) (k1 : x = 1 → Q (A (5 + 2 * g)) h) : w_X0_wordBy (A (26 + g)) x h Q := by
  unfold w_X0_wordBy
  refine ⟨gR_of (by omega) (by omega), ?_⟩
  by_cases q : x = 0
  · exact if_yes q (gr.yo (k0 q))
  · exact if_no q (gr.el (k1 (by omega)))
/-- the count of turns is set -/
theorem gGr.setC (gr : gGr A h g ts) (gw : gW A h U) (hg : g < 2) {x : Int} {us : List Nat} (hx : x = (us.length : Int)) (hl : us.length ≤ ts.length) (hu : ∀ i, i < us.length → us[i]? = ts[i]?) {K : gaH → Prop} (k : ∀ h', gW A h' U → gGr A h' g us → gSg A g h h' → K h') : gPF h (A (26 + g)) 2 1 (gi x) K := by
  subst hx
  obtain ⟨a0, row, a1, a2, a3, a4⟩ := gr
  have hA := gw.inj
  refine gPF_mk a0 (show 1 < 4 by decide) (k _ (gw.off (by omega) (by omega) _) ⟨gaUp_self _ _ _, row, a1, by omega, ?_, fun i hi => by rw [a4 i (by omega), hu i hi]⟩ (fun b _ hb _ => gaUp_ne _ _ hb))
  rw [gaUp_ne _ _ (fun q => by have := hA _ _ (by omega) (by omega) q; omega)]
  exact a3
theorem s_begin (gr : gGr A h g ts) (gw : gW A h U) (hg : g < 2) {Q : gaH → Prop} (k : ∀ h', gW A h' (pu (pu U (5 + 2 * g) [true]) (6 + 2 * g) [false]) → gGr A h' g [] → gSg A g h h' → Q h') : w_X0_begin (A (26 + g)) h Q := by
  unfold w_X0_begin
  refine gr.setC gw hg (us := []) rfl (Nat.zero_le _) (fun i hi => absurd hi (Nat.not_lt_zero _)) (fun h1 w1 r1 s1 => ?_)
  have hA := gw.inj
  refine r1.el ⟨w1.has (show 5 + 2 * g < 11 by omega), s_clear w1 (show 5 + 2 * g < 11 by omega) (fun h2 w2 s2 => ?_)⟩
  have r2 := r1.on hA hg s2
  refine r2.el ⟨w2.has (show 5 + 2 * g < 11 by omega), s_add w2 (show 5 + 2 * g < 11 by omega) (by rw [pu_self]; decide) (b := true) rfl (fun h3 w3 s3 => ?_)⟩
  have r3 := r2.on hA hg s3
  refine r3.yo ⟨w3.has (show 6 + 2 * g < 11 by omega), s_clear w3 (show 6 + 2 * g < 11 by omega) (fun h4 w4 s4 => ?_)⟩
  have r4 := r3.on hA hg s4
  refine r4.yo ⟨w4.has (show 6 + 2 * g < 11 by omega), s_add w4 (show 6 + 2 * g < 11 by omega) (by rw [pu_self]; decide) (b := false) rfl (fun h5 w5 s5 => k h5 (w5.eq (fun x _ => ?_)) (r4.on hA hg s5) (s1.tr ((gSg.of s2).tr ((gSg.of s3).tr ((gSg.of s4).tr (gSg.of s5))))))⟩
  by_cases e : x = 6 + 2 * g
  · subst e
    simp only [pu_self]; rfl
  · simp only [pu_ne _ _ e]
    by_cases e2 : x = 5 + 2 * g
    · subst e2; simp only [pu_self]; rfl
    · simp only [pu_ne _ _ e2]
theorem s_goOn_L (hg : g < 2) {t : Nat} (ht : t ≤ 3) {Q : Int → gaH → Prop} : ∀ (n i : Nat) (h : gaH) (U : Nat → List Bool), gW A h U → gGr A h g ts → ts.length < 63 → i ≤ t → t - i < n → U 3 = rep i (U (6 + 2 * g)) → t * (U (6 + 2 * g)).length + (U (5 + 2 * g)).length ≤ 64 →
    (∀ h', gW A h' (pu (pu (pu U 3 (rep t (U (6 + 2 * g)) ++ U (5 + 2 * g))) (5 + 2 * g) (U (6 + 2 * g))) (6 + 2 * g) (rep t (U (6 + 2 * g)) ++ U (5 + 2 * g))) → gGr A h' g (ts ++ [t]) → gSg A g h h' → Q 1 h') → w_X0_goOn_L60 Q n (A (26 + g)) (t : Int) (A 3) (i : Int) h
  | 0, i, h, U, _, _, _, _, h1, _, _, _ => absurd h1 (Nat.not_lt_zero _)
  | n + 1, i, h, U, gw, gr, hts, hi, h1, h3, hl, k => by
    have hA := gw.inj
    have hm : i * (U (6 + 2 * g)).length ≤ t * (U (6 + 2 * g)).length := Nat.mul_le_mul_right _ hi
    have e3 : (U 3).length = i * (U (6 + 2 * g)).length := by rw [h3, rep_len]
    unfold w_X0_goOn_L60
    refine ⟨gR_of (by omega) (by omega), gR_of (by omega) (by omega), ?_⟩
    by_cases q : i = t
    · subst q
      refine if_yes (Int.le_refl _) (gr.el (gr.el (gw.many (show 5 + 2 * g < 11 by omega) ⟨gw.has (w := 3) (by decide), s_addPart (i := 0) gw (w := 3) (by decide) (show 5 + 2 * g < 11 by omega) (by omega) rfl rfl (Nat.zero_le _) (Nat.le_refl _) (by omega) (fun h2 w2 s2 => ?_)⟩)))
      have r2 := gr.on hA hg s2
      refine r2.el (r2.yo ⟨w2.has (show 5 + 2 * g < 11 by omega), s_take w2 (show 5 + 2 * g < 11 by omega) (show 6 + 2 * g < 11 by omega) (fun h3' w3 s3 => ?_)⟩)
      have r3 := r2.on hA hg s3
      refine r3.yo ⟨w3.has (show 6 + 2 * g < 11 by omega), s_take w3 (show 6 + 2 * g < 11 by omega) (show 3 < 11 by decide) (fun h4 w4 s4 => ?_)⟩
      have r4 := r3.on hA hg s4
      obtain ⟨a0, row, a1, a2, a3, a4⟩ := id r4
      refine gA_mk a0 rfl (r4.ct (gSI_mk a3 (by omega) (by omega) (by rw [List.length_map, a1, Int.toNat_natCast]; omega) ?_))
      have a0' : (gaUp h4 (A (28 + g)) (102, (row.map gi).set ((ts.length : Int)).toNat (gi (i : Int)))) (A (26 + g)) = some (2, [.ref (A (28 + g)), gi (ts.length : Int), .ref (A (5 + 2 * g)), .ref (A (6 + 2 * g))]) := by
        rw [gaUp_ne _ _ (fun q => by have := hA _ _ (by omega) (by omega) q; omega)]; exact a0
      refine gI_mk a0' rfl (gPF_mk a0' (show 1 < 4 by decide) (k _ (((w4.off (i := 28 + g) (by omega) (by omega) _).off (i := 26 + g) (by omega) (by omega) _).eq (fun x hx => ?_)) ⟨?_, row.set ts.length (i : Int), by rw [List.length_set]; exact a1, by rw [List.length_append]; simp; omega, ?_, fun j hj => ?_⟩ ?_))
      · have f0 : ∀ x, x ≠ 3 → pu U 3 (U 3 ++ List.take ((U (5 + 2 * g)).length - 0) (List.drop 0 (U (5 + 2 * g)))) x = U x := fun x hx => pu_ne _ _ hx
        by_cases e6 : x = 6 + 2 * g
        · subst e6
          simp only [pu_self]
          rw [pu_ne _ _ (show 3 ≠ 5 + 2 * g by omega), pu_self, h3, List.drop_zero, Nat.sub_zero, List.take_length]
        · simp only [pu_ne _ _ e6]
          by_cases e5 : x = 5 + 2 * g
          · subst e5
            simp only [pu_self]
            rw [f0 _ (by omega)]
          · simp only [pu_ne _ _ e5]
            by_cases e33 : x = 3
            · subst e33
              simp only [pu_self]
              rw [h3, List.drop_zero, Nat.sub_zero, List.take_length]
            · simp only [pu_ne _ _ e33]
      · rw [gaUp_self, List.length_append]
        simp only [List.length_cons, List.length_nil, List.set_cons_succ, List.set_cons_zero, Int.natCast_add, Int.natCast_one]
        rfl
      · rw [gaUp_ne _ _ (fun q => by have := hA _ _ (by omega) (by omega) q; omega), gaUp_self, Int.toNat_natCast, List.map_set]
      · rw [List.length_append] at hj
        simp only [List.length_cons, List.length_nil] at hj
        by_cases z : j = ts.length
        · subst z
          rw [List.getElem?_set_self (by omega), List.getElem?_append_right (Nat.le_refl _), Nat.sub_self]
          rfl
        · rw [List.getElem?_set_ne (fun q => z q.symm), List.getElem?_append_left (by omega)]
          exact a4 j (by omega)
      · intro b b1 b2 b3
        rw [gaUp_ne _ _ b2, gaUp_ne _ _ b3]
        exact ((gSg.of (g := g) s2).tr ((gSg.of s3).tr (gSg.of s4))) b b1 b2 b3
    · have hm2 : (i + 1) * (U (6 + 2 * g)).length ≤ t * (U (6 + 2 * g)).length := Nat.mul_le_mul_right _ (by omega)
      rw [Nat.succ_mul] at hm2
      refine if_no (by omega) (gr.yo (gr.yo (gw.many (show 6 + 2 * g < 11 by omega) ⟨gw.has (w := 3) (by decide), s_addPart (i := 0) gw (w := 3) (by decide) (show 6 + 2 * g < 11 by omega) (by omega) rfl rfl (Nat.zero_le _) (Nat.le_refl _) (by omega) (fun h2 w2 s2 => ?_)⟩)))
      have n1 : ∀ x, x ≠ 3 → pu U 3 (U 3 ++ List.take ((U (6 + 2 * g)).length - 0) (List.drop 0 (U (6 + 2 * g)))) x = U x := fun x hx => pu_ne _ _ hx
      rw [show (i : Int) + 1 = ((i + 1 : Nat) : Int) by omega]
      refine s_goOn_L hg ht n (i + 1) h2 _ w2 (gr.on hA hg s2) hts (by omega) (by omega) ?_ (by rw [n1 _ (by omega), n1 _ (by omega)]; exact hl) (fun h' w' r' s' => k h' (w'.eq (fun x hx => ?_)) r' ((gSg.of s2).tr s'))
      · rw [pu_self, n1 _ (by omega), List.drop_zero, Nat.sub_zero, List.take_length, h3, rep_succ]
      · rw [n1 (6 + 2 * g) (by omega), n1 (5 + 2 * g) (by omega)]
        by_cases e6 : x = 6 + 2 * g
        · subst e6; simp only [pu_self]
        · simp only [pu_ne _ _ e6]
          by_cases e5 : x = 5 + 2 * g
          · subst e5; simp only [pu_self]
          · simp only [pu_ne _ _ e5]
            by_cases e33 : x = 3
            · subst e33; simp only [pu_self]
            · simp only [pu_ne _ _ e33]
theorem s_goOn (hg : g < 2) (gw : gW A h U) (gr : gGr A h g ts) (hok : gOk ts) (hu : U (5 + 2 * g) = (grw ts).1 ∧ U (6 + 2 * g) = (grw ts).2) {x : Int} {t : Nat} (hx : x = (t : Int)) (ht : 1 ≤ t ∧ t ≤ 3) {Q : Int → gaH → Prop}
    (k0 : (t * (grw ts).2.length + (grw ts).1.length > 64) → Q 0 h)
    (k1 : ∀ h', t * (grw ts).2.length + (grw ts).1.length ≤ 64 → gW A h' (pu (pu (pu U 3 (grw (ts ++ [t])).2) (5 + 2 * g) (grw (ts ++ [t])).1) (6 + 2 * g) (grw (ts ++ [t])).2) → gGr A h' g (ts ++ [t]) → gSg A g h h' → Q 1 h') : w_X0_goOn (A (26 + g)) x (A 3) h Q := by
  subst hx
  have hA := gw.inj
  have hl := hok.len
  obtain ⟨a0, row, a1, a2, a3, a4⟩ := id gr
  have hy := gw.le (show 6 + 2 * g < 11 by omega)
  have he := gw.le (show 5 + 2 * g < 11 by omega)
  have hm : t * (U (6 + 2 * g)).length ≤ 3 * 64 := Nat.mul_le_mul ht.2 hy
  unfold w_X0_goOn
  refine gr.ct ⟨gR_of (by omega) (by omega), if_no (by omega) (gr.ct (gA_mk a0 rfl (gAL_mk a3 (by rw [List.length_map, a1]) ⟨gR_of (by omega) (by omega), gR_of (by decide) (by decide), if_no (by omega) ?_⟩)))⟩
  unfold w_X0_goOn_J24
  refine ⟨gR_of (by decide) (by decide), if_no (by decide) (gr.yo (gw.many (show 6 + 2 * g < 11 by omega) (gr.el (gw.many (show 5 + 2 * g < 11 by omega) ?_))))⟩
  rw [show (t : Int) * ((U (6 + 2 * g)).length : Int) + ((U (5 + 2 * g)).length : Int) = ((t * (U (6 + 2 * g)).length + (U (5 + 2 * g)).length : Nat) : Int) by rw [Int.natCast_add, Int.natCast_mul]]
  refine ⟨gR_of (by omega) (by omega), ?_⟩
  by_cases q : t * (U (6 + 2 * g)).length + (U (5 + 2 * g)).length ≤ 64
  · refine if_yes (by omega) ⟨gw.has (w := 3) (by decide), s_clear gw (w := 3) (by decide) (fun h1 w1 s1 => ⟨4, ?_⟩)⟩
    have n1 : ∀ x, x ≠ 3 → pu U 3 [] x = U x := fun x hx => pu_ne _ _ hx
    have hlt : ts.length < 63 := by
      have h2 := (grw_len _ ts rfl hok.1)
      rw [hu.1, hu.2] at q
      have : 1 * (grw ts).2.length ≤ t * (grw ts).2.length := Nat.mul_le_mul_right _ ht.1
      omega
    refine s_goOn_L hg ht.2 4 0 h1 _ w1 (gr.on hA hg s1) hlt (Nat.zero_le _) (by omega) (by rw [pu_self]; rfl) (by rw [n1 _ (by omega), n1 _ (by omega)]; exact q) (fun h' w' r' s' => k1 h' (by rw [← hu.1, ← hu.2]; exact q) (w'.eq (fun x hx => ?_)) r' ((gSg.of s1).tr s'))
    rw [n1 (6 + 2 * g) (by omega), n1 (5 + 2 * g) (by omega), grw_snoc, hu.1, hu.2]
    simp only [gstep]
    by_cases e6 : x = 6 + 2 * g
    · subst e6; simp only [pu_self]
    · simp only [pu_ne _ _ e6]
      by_cases e5 : x = 5 + 2 * g
      · subst e5; simp only [pu_self]
      · simp only [pu_ne _ _ e5]
        by_cases e33 : x = 3
        · subst e33; simp only [pu_self]
        · simp only [pu_ne _ _ e33]
  · exact if_no (by omega) (k0 (by rw [← hu.1, ← hu.2]; omega))
end PG
/-! Growths: back, by rules, by their line. -/
section PH
variable {A : Nat → Nat} {h : gaH} {U : Nat → List Bool} {w v g : Nat} {ts : List Nat} {G : gaG}
theorem s_goBack {us : List Nat} {t : Nat} (hg : g < 2) (gw : gW A h U) (gr : gGr A h g (us ++ [t])) (hok : gOk (us ++ [t])) (hu : U (5 + 2 * g) = (grw (us ++ [t])).1 ∧ U (6 + 2 * g) = (grw (us ++ [t])).2) {Q : Int → gaH → Prop}
    (k : ∀ h', gW A h' (pu (pu (pu U 3 (grw us).1) (6 + 2 * g) (grw us).2) (5 + 2 * g) (grw us).1) → gGr A h' g us → gSg A g h h' → Q (t : Int) h') : w_X0_goBack (A (26 + g)) (A 3) h Q := by
  have hA := gw.inj
  have hl := hok.len
  have e0 : (us ++ [t]).length = us.length + 1 := by simp
  have hy := gw.le (show 6 + 2 * g < 11 by omega)
  have he := gw.le (show 5 + 2 * g < 11 by omega)
  have ey : U (6 + 2 * g) = rep t (grw us).2 ++ (grw us).1 := by rw [hu.2, grw_snoc]; rfl
  have ee : U (5 + 2 * g) = (grw us).2 := by rw [hu.1, grw_snoc]; rfl
  have ly : (U (6 + 2 * g)).length = t * (U (5 + 2 * g)).length + (grw us).1.length := by rw [ey, ee, List.length_append, rep_len]
  unfold w_X0_goBack
  refine gr.ct ⟨gr.has, s_turnAt (p := us.length) gr (by rw [e0]; omega) (by rw [e0]; omega) ?_⟩
  rw [show (us ++ [t]).getD us.length 0 = t by rw [List.getD_eq_getElem?_getD, List.getElem?_append_right (Nat.le_refl _), Nat.sub_self]; rfl]
  refine ⟨gw.has (w := 3) (by decide), s_clear gw (w := 3) (by decide) (fun h1 w1 s1 => ?_)⟩
  have n1 : ∀ x, x ≠ 3 → pu U 3 [] x = U x := fun x hx => pu_ne _ _ hx
  have r1 := gr.on hA hg s1
  refine r1.yo (r1.el (w1.many (show 5 + 2 * g < 11 by omega) (r1.yo (w1.many (show 6 + 2 * g < 11 by omega) ⟨w1.has (w := 3) (by decide), ?_⟩))))
  rw [n1 (5 + 2 * g) (by omega), n1 (6 + 2 * g) (by omega)]
  refine s_addPart (i := t * (U (5 + 2 * g)).length) w1 (w := 3) (by decide) (show 6 + 2 * g < 11 by omega) (by omega) (by rw [Int.natCast_mul]) rfl (by omega) (by rw [n1 _ (by omega)]; exact Nat.le_refl _) (by rw [pu_self]; simp only [List.length_nil]; omega) (fun h2 w2 s2 => ?_)
  have r2 := r1.on hA hg s2
  refine r2.yo (r2.el ⟨w2.has (show 6 + 2 * g < 11 by omega), s_take w2 (show 6 + 2 * g < 11 by omega) (show 5 + 2 * g < 11 by omega) (fun h3 w3 s3 => ?_)⟩)
  have r3 := r2.on hA hg s3
  refine r3.el ⟨w3.has (show 5 + 2 * g < 11 by omega), s_take w3 (show 5 + 2 * g < 11 by omega) (show 3 < 11 by decide) (fun h4 w4 s4 => ?_)⟩
  have r4 := r3.on hA hg s4
  refine r4.ct (r4.setC w4 hg (us := us) (by rw [e0]; omega) (by rw [e0]; omega) (fun i hi => by rw [List.getElem?_append_left hi]) (fun h5 w5 r5 s5 => k h5 (w5.eq (fun x hx => ?_)) r5 ((gSg.of s1).tr ((gSg.of s2).tr ((gSg.of s3).tr ((gSg.of s4).tr s5))))))
  have eb : List.take ((U (6 + 2 * g)).length - t * (U (5 + 2 * g)).length) (List.drop (t * (U (5 + 2 * g)).length) (U (6 + 2 * g))) = (grw us).1 := by
    have hr : t * (U (5 + 2 * g)).length = (rep t (grw us).2).length := by rw [ee, rep_len]
    rw [ly, ey, hr, List.drop_left, Nat.add_sub_cancel_left, List.take_length]
  by_cases e5 : x = 5 + 2 * g
  · subst e5
    simp only [pu_self]
    rw [pu_ne _ _ (show 3 ≠ 6 + 2 * g by omega)]
    simp only [pu_self]
    rw [n1 (6 + 2 * g) (by omega), eb]
    rfl
  · simp only [pu_ne _ _ e5]
    by_cases e6 : x = 6 + 2 * g
    · subst e6
      simp only [pu_self]
      rw [pu_ne _ _ (show 5 + 2 * g ≠ 3 by omega), n1 (5 + 2 * g) (by omega), ee]
    · simp only [pu_ne _ _ e6]
      by_cases e3 : x = 3
      · subst e3
        simp only [pu_self]
        rw [n1 (6 + 2 * g) (by omega), eb]
        rfl
      · simp only [pu_ne _ _ e3]
theorem s_codeForA (m2 : h (G.2.2.2 0) = some (1102, gaCodes)) {x : Int} {t : Nat} (hx : x = (t : Int)) (ht : t ≤ 3) {Q : Int → gaH → Prop} (k : Q ((cf t : Nat) : Int) h) : w_X0_codeForA G x h Q := by
  subst hx
  unfold w_X0_codeForA
  refine ⟨gR_of (by omega) (by omega), if_no (by omega) ⟨1102, gaCodes, m2, Or.inr rfl, ⟨gR_of (by omega) (by omega), gR_of (by decide) (by decide), if_no (show ¬ ((gaCodes.length : Nat) : Int) ≤ (t : Int) by show ¬ ((4 : Nat) : Int) ≤ _; omega) ⟨1102, gaCodes, ((cf t : Nat) : Int), m2, Or.inr rfl, by omega, by omega, ?_, k⟩⟩⟩⟩
  rw [Int.toNat_natCast]
  rcases (show t = 0 ∨ t = 1 ∨ t = 2 ∨ t = 3 by omega) with rfl | rfl | rfl | rfl <;> rfl
theorem gSm.pc {h' : gaH} {a : Nat} {e : gaE} (s : gSm A h h') (hne : ∀ i, i < 31 → a ≠ A i) (ha : h a = some e) : h' a = some e := (s a (fun w hw => hne w (by omega))).trans ha
theorem s_layByRules_L (hg : g < 2) (hok : gOk ts) (hne : ∀ i, i < 31 → G.2.2.2 0 ≠ A i) (hw : w < 11) (hw3 : w ≠ 3) (hw9 : w < 9) {Q : gaH → Prop} : ∀ (n i : Nat) (h : gaH) (U : Nat → List Bool), gW A h U → gGr A h g ts → gRu A h → h (G.2.2.2 0) = some (1102, gaCodes) → i ≤ ts.length → i < n → U w = phi (ts.drop i) [false] →
    (∀ h' V, gW A h' V → (∀ x, x ≠ w → x ≠ 3 → x ≠ 9 → x ≠ 10 → V x = U x) → V w = phi ts [false] → gSm A h h' → Q h') → w_X0_layByRules_L17 G Q n (A (26 + g)) (A w) (A 3) (A 25) ((i : Int) - 1) h
  | 0, i, h, U, _, _, _, _, _, h1, _, _ => absurd h1 (Nat.not_lt_zero _)
  | n + 1, i, h, U, gw, gr, ru, mc, hi, h1, hu, k => by
    have hA := gw.inj
    have hl := hok.len
    unfold w_X0_layByRules_L17
    refine ⟨gR_of (by omega) (by omega), ?_⟩
    cases i with
    | zero => exact if_yes (by omega) (k h U gw (fun _ _ _ _ _ => rfl) (by rw [hu, List.drop_zero]) gSm.rf)
    | succ i =>
      have e1 : ((i + 1 : Nat) : Int) - 1 = (i : Int) := by omega
      rw [e1]
      have hmem : ts.getD i 0 ∈ ts := by
        rw [List.getD_eq_getElem?_getD, List.getElem?_eq_getElem (by omega)]
        exact List.getElem_mem _
      have ht := hok.1 _ hmem
      obtain ⟨c0, c1, c2, c3⟩ := cf_len ht
      have hd : ts.drop i = ts.getD i 0 :: ts.drop (i + 1) := by
        rw [List.drop_eq_getElem_cons (by omega), List.getD_eq_getElem?_getD, List.getElem?_eq_getElem (by omega)]; rfl
      have hphi : phi (ts.drop i) [false] = img (codeW (cf (ts.getD i 0))) (codeW 2) (U w) := by rw [hd, hu]; rfl
      have hle : (phi (ts.drop i) [false]).length ≤ 64 := by
        have h2 := phi_ge (ts.take i) (fun x hx => hok.1 x (List.mem_of_mem_take hx)) (phi (ts.drop i) [false])
        rw [← phi_split, List.take_append_drop] at h2
        have h3 : (grw ts).2 = phi ts [false] := by rw [grw_phi _ ts rfl hok.1]
        have h4 := hok.2
        rw [h3] at h4
        omega
      refine if_no (by omega) ⟨gr.has, s_turnAt gr rfl (by omega) (s_codeForA mc rfl ht.2 ⟨ru.has, s_ruleTake gw ru rfl (d := 2) rfl c1 (by decide) (fun h1 w1 s1 => ?_)⟩)⟩
      have ru1 := ru.on hA s1
      have n1 : ∀ x, x ≠ 9 → x ≠ 10 → pu (pu U 9 (codeW (cf (ts.getD i 0)))) 10 (codeW 2) x = U x := fun x h9 h10 => by rw [pu_ne _ _ h10, pu_ne _ _ h9]
      have n9 : pu (pu U 9 (codeW (cf (ts.getD i 0)))) 10 (codeW 2) 9 = codeW (cf (ts.getD i 0)) := by rw [pu_ne _ _ (by decide), pu_self]
      have n10 : pu (pu U 9 (codeW (cf (ts.getD i 0)))) 10 (codeW 2) 10 = codeW 2 := pu_self _ _ _
      have hi2 : img (pu (pu U 9 (codeW (cf (ts.getD i 0)))) 10 (codeW 2) 9) (pu (pu U 9 (codeW (cf (ts.getD i 0)))) 10 (codeW 2) 10) (pu (pu U 9 (codeW (cf (ts.getD i 0)))) 10 (codeW 2) w) = phi (ts.drop i) [false] := by rw [n9, n10, n1 w (by omega) (by omega), hphi]
      refine ⟨ru1.has, s_layImage w1 ru1 hw (v := 3) (by decide) (fun q => hw3 q.symm) (by rw [hi2]; exact hle) (fun h2 w2 s2 => ⟨w2.has hw, s_take w2 hw (v := 3) (by decide) (fun h3 w3 s3 => ?_)⟩)⟩
      rw [hi2] at w2 w3
      rw [show (i : Int) + -1 = (i : Int) - 1 by omega]
      have s13 := s1.tr (s2.tr s3)
      refine s_layByRules_L hg hok hne hw hw3 hw9 n i h3 _ w3 (gr.on hA hg s13) (ru.on hA s13) (s13.pc hne mc) (by omega) (by omega) (by rw [pu_self, pu_self]) (fun h' V wV hV e s' => k h' V wV (fun x x1 x2 x3 x4 => ?_) e (s13.tr s'))
      rw [hV x x1 x2 x3 x4, pu_ne _ _ x1, pu_ne _ _ x2, n1 x x3 x4]
theorem s_layByRules (hg : g < 2) (gw : gW A h U) (gr : gGr A h g ts) (ru : gRu A h) (hok : gOk ts) (hne : ∀ i, i < 31 → G.2.2.2 0 ≠ A i) (mc : h (G.2.2.2 0) = some (1102, gaCodes)) (hw3 : w ≠ 3) (hw : w < 9) (hwg : w < 5) {Q : gaH → Prop}
    (k : ∀ h' V, gW A h' V → (∀ x, x ≠ w → x ≠ 3 → x ≠ 9 → x ≠ 10 → V x = U x) → V w = (grw ts).2 → gSm A h h' → Q h') : w_X0_layByRules G (A (26 + g)) (A w) (A 3) (A 25) h Q := by
  have hA := gw.inj
  have h3 : (grw ts).2 = phi ts [false] := by rw [grw_phi _ ts rfl hok.1]
  have hl := hok.len
  unfold w_X0_layByRules
  refine ⟨gw.has (show w < 11 by omega), s_clear gw (show w < 11 by omega) (fun h1 w1 s1 => ⟨w1.has (show w < 11 by omega), s_add w1 (show w < 11 by omega) (by rw [pu_self]; decide) (b := false) rfl (fun h2 w2 s2 => ?_)⟩)⟩
  have s12 := s1.tr s2
  refine (gr.on hA hg s12).ct ⟨65, ?_⟩
  refine s_layByRules_L hg hok hne (show w < 11 by omega) hw3 hw 65 ts.length h2 _ w2 (gr.on hA hg s12) (ru.on hA s12) (s12.pc hne mc) (Nat.le_refl _) (by omega) (by rw [pu_self, pu_self, List.drop_length]; rfl) (fun h' V wV hV e s' => k h' V wV (fun x x1 x2 x3 x4 => by rw [hV x x1 x2 x3 x4, pu_ne _ _ x1, pu_ne _ _ x1]) (by rw [e, h3]) (s12.tr s'))
theorem s_addLineEnd (hg : g < 2) (gw : gW A h U) (gr : gGr A h g ts) (hw : w < 11) (hl : (U w).length + 2 ≤ 64) {Q : gaH → Prop}
    (k : ∀ h', gW A h' (pu U w (U w ++ (if ts = [] then [false] else [decide (ts.length % 2 = 0), decide (ts.length % 2 = 1)]))) → gSm A h h' → Q h') : w_X0_addLineEnd (A (26 + g)) (A w) h Q := by
  have hA := gw.inj
  have hts : ts.length ≤ 63 := by obtain ⟨-, row, -, q, -⟩ := gr; exact q
  have em : gRem (ts.length : Int) 2 = ((ts.length % 2 : Nat) : Int) := gRem_nat (b := 2) (by omega) (by decide)
  unfold w_X0_addLineEnd
  refine gr.ct ?_
  rw [em]
  refine ⟨gR_of (by omega) (by omega), ?_⟩
  have body : ∀ b : Bool, b = decide (ts.length % 2 = 1) → w_X0_addLineEnd_J15 Q (A (26 + g)) (A w) (b2i b) h := by
    intro b hb
    unfold w_X0_addLineEnd_J15
    refine gr.ct ⟨gR_of (by omega) (by omega), ?_⟩
    by_cases q : ts = []
    · rw [if_pos q] at k
      refine if_yes (by rw [q]; decide) ?_
      unfold w_X0_addLineEnd_J36
      have hb0 : b = false := by rw [hb, q]; rfl
      refine ⟨gw.has hw, s_add gw hw (by omega) rfl (fun h1 w1 s1 => k h1 ?_ s1)⟩
      rw [hb0] at w1
      exact w1
    · have hp : 0 < ts.length := List.length_pos_iff.mpr q
      rw [if_neg q] at k
      refine if_no (by omega) ⟨b2i_R _, ?_⟩
      have tail : ∀ c : Bool, c = !b → w_X0_addLineEnd_J33 Q (A w) (b2i b) (A w) (b2i c) h := by
        intro c hc
        unfold w_X0_addLineEnd_J33
        refine ⟨gw.has hw, s_add gw hw (by omega) rfl (fun h1 w1 s1 => ?_)⟩
        unfold w_X0_addLineEnd_J36
        refine ⟨w1.has hw, s_add w1 hw (by rw [pu_self, List.length_append]; simp only [List.length_cons, List.length_nil]; omega) rfl (fun h2 w2 s2 => k h2 (w2.eq (fun x _ => ?_)) (s1.tr s2))⟩
        by_cases e : x = w
        · subst e
          have hc2 : c = decide (ts.length % 2 = 0) := by
            rw [hc, hb]
            rcases (show ts.length % 2 = 0 ∨ ts.length % 2 = 1 by omega) with z | z <;> rw [z] <;> rfl
          rw [pu_self, pu_self, pu_self, List.append_assoc, hc2, hb]
          rfl
        · rw [pu_ne _ _ e, pu_ne _ _ e, pu_ne _ _ e]
      cases b
      · exact if_yes rfl (tail true rfl)
      · exact if_no (by decide) (tail false rfl)
  by_cases z : ts.length % 2 = 1
  · exact if_yes (by omega) (body true (by rw [decide_eq_true z]))
  · exact if_no (by omega) (body false (by rw [decide_eq_false z]))
theorem range_snoc {α : Type} (f : Nat → α) (n : Nat) : (List.range (n + 1)).map f = (List.range n).map f ++ [f n] := by rw [List.range_succ, List.map_append]; rfl
theorem s_layByLine_L2 (hg : g < 2) (hw : w < 11) {N P : Nat} (hN : 1 ≤ N ∧ N ≤ 64) (hP : P ≤ 64) {Q : gaH → Prop} : ∀ (n i : Nat) (h : gaH) (U : Nat → List Bool), gW A h U → gGr A h g ts → i ≤ N - 2 → (N - 2) - i < n → U w = (List.range i).map (fun j => lineB N P 0 (j + 1)) →
    (∀ h', gW A h' (pu U w ((List.range (N - 2)).map (fun j => lineB N P 0 (j + 1)) ++ (if ts = [] then [false] else [decide (ts.length % 2 = 0), decide (ts.length % 2 = 1)]))) → gSm A h h' → Q h') → w_X0_layByLine_L75 Q n (A (26 + g)) (A w) (N : Int) (P : Int) ((i : Int) + 1) h
  | 0, i, h, U, _, _, _, h1, _, _ => absurd h1 (Nat.not_lt_zero _)
  | n + 1, i, h, U, gw, gr, hi, h1, hu, k => by
    have hA := gw.inj
    have hul : (U w).length = i := by rw [hu, List.length_map, List.length_range]
    unfold w_X0_layByLine_L75
    refine ⟨gR_of (by omega) (by omega), gR_of (by omega) (by omega), ?_⟩
    by_cases q : i = N - 2
    · refine if_yes (by omega) ⟨gr.has, s_addLineEnd hg gw gr hw (by omega) (fun h' w' s' => k h' (w'.eq (fun x _ => ?_)) s')⟩
      by_cases e : x = w
      · subst e; rw [pu_self, pu_self, hu, q]
      · rw [pu_ne _ _ e, pu_ne _ _ e]
    · refine if_no (by omega) (s_lineB (n := N) (p := P) (s := 0) (i := i + 1) (by omega) (by omega) (by omega) (by decide) (by omega) rfl rfl rfl (by omega) ⟨gw.has hw, s_add gw hw (by omega) rfl (fun h1 w1 s1 => ?_)⟩)
      rw [show (i : Int) + 1 + 1 = ((i + 1 : Nat) : Int) + 1 by omega]
      refine s_layByLine_L2 hg hw hN hP n (i + 1) h1 _ w1 (gr.on hA hg s1) (by omega) (by omega) (by rw [pu_self, hu, range_snoc]) (fun h' w' s' => k h' (w'.eq (fun x _ => ?_)) (s1.tr s'))
      by_cases e : x = w
      · subst e; rw [pu_self, pu_self]
      · rw [pu_ne _ _ e, pu_ne _ _ e, pu_ne _ _ e]
theorem nums_app (ts : List Nat) (t : Nat) : nums (ts ++ [t]) = nstep (nums ts) t := by simp [nums]
theorem s_layByLine_L1 (hg : g < 2) (hw : w < 11) (hok : gOk ts) (gw : gW A h U) (gr : gGr A h g ts) {Q : gaH → Prop} : ∀ (n i : Nat), i ≤ ts.length → ts.length - i < n →
    (∀ h', gW A h' (pu U w (byL ts)) → gSm A h h' → Q h') → w_X0_layByLine_L13 Q n (A (26 + g)) (A w) ((nums (ts.take i)).1 : Int) ((nums (ts.take i)).2.1 : Int) ((nums (ts.take i)).2.2.1 : Int) ((nums (ts.take i)).2.2.2 : Int) (i : Int) h
  | 0, i, _, h1, _ => absurd h1 (Nat.not_lt_zero _)
  | n + 1, i, hi, h1, k => by
    have hA := gw.inj
    have hl := hok.len
    unfold w_X0_layByLine_L13
    refine gr.ct ⟨gR_of (by omega) (by omega), gR_of (by omega) (by omega), ?_⟩
    by_cases q : i = ts.length
    · subst q
      have hn := nums_grw _ ts rfl
      have h2 := grw_len _ ts rfl hok.1
      have h3 := hok.2
      have h4 := ones_le (grw ts).2
      rw [List.take_length]
      refine if_yes (Int.le_refl _) ⟨gw.has hw, s_clear gw hw (fun h1 w1 s1 => ⟨65, ?_⟩)⟩
      have e1 : (nums ts).2.2.1 = (grw ts).2.length := by rw [hn]
      have e2 : (nums ts).2.2.2 = ones (grw ts).2 := by rw [hn]
      refine s_layByLine_L2 (N := (nums ts).2.2.1) (P := (nums ts).2.2.2) hg hw (by omega) (by omega) 65 0 h1 _ w1 (gr.on hA hg s1) (Nat.zero_le _) (by omega) (by rw [pu_self]; rfl) (fun h' w' s' => k h' (w'.eq (fun x _ => ?_)) (s1.tr s'))
      by_cases e : x = w
      · subst e
        rw [pu_self, pu_self]
        unfold byL
        by_cases z : ts = []
        · rw [if_pos z, if_pos z, z]; rfl
        · rw [if_neg z, if_neg z]
      · rw [pu_ne _ _ e, pu_ne _ _ e, pu_ne _ _ e]
    · have htk : ts.take (i + 1) = ts.take i ++ [ts.getD i 0] := by
        rw [List.take_succ, List.getD_eq_getElem?_getD, List.getElem?_eq_getElem (by omega)]; rfl
      refine if_no (by omega) ⟨gr.has, s_turnAt gr rfl (by omega) ?_⟩
      have key := s_layByLine_L1 hg hw hok gw gr n (i + 1) (by omega) (by omega) k
      rw [htk, nums_app] at key
      simp only [nstep] at key
      rw [Int.natCast_add, Int.natCast_mul, Int.natCast_add, Int.natCast_mul, Int.natCast_add] at key
      exact key
theorem s_layByLine (hg : g < 2) (hw : w < 11) (hok : gOk ts) (gw : gW A h U) (gr : gGr A h g ts) {Q : gaH → Prop} (k : ∀ h', gW A h' (pu U w (byL ts)) → gSm A h h' → Q h') : w_X0_layByLine (A (26 + g)) (A w) h Q :=
  ⟨ts.length + 1, s_layByLine_L1 hg hw hok gw gr _ 0 (Nat.zero_le _) (by omega) k⟩
end PH
