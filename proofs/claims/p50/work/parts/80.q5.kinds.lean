/-! Kinds of ring parts of a line's word whose numbers have no common divisor. -/
theorem least_at {P : Nat → Prop} (dP : ∀ i, P i ∨ ¬ P i) : ∀ n, P n → ∃ i, i ≤ n ∧ P i ∧ ∀ j, j < i → ¬ P j
  | 0, h => ⟨0, Nat.le_refl _, h, fun j hj => absurd hj (Nat.not_lt_zero _)⟩
  | n + 1, h => by
    by_cases q : ∃ i, i ≤ n ∧ P i
    · obtain ⟨i, i1, i2⟩ := q
      obtain ⟨j, j1, j2, j3⟩ := least_at dP i i2
      exact ⟨j, by omega, j2, j3⟩
    · exact ⟨n + 1, Nat.le_refl _, h, fun j hj hp => q ⟨j, by omega, hp⟩⟩
termination_by n => n
/-- how many values a key takes, counted where each is met first -/
theorem first_count {f : Nat → Nat} {g : Nat → Nat} {n m : Nat} (hg : ∀ i, i < n → g i = if ∃ e, e < i ∧ f e = f i then 0 else 1) (hm : ∀ i, i < n → f i < m) (hs : ∀ v, v < m → ∃ i, i < n ∧ f i = v) : sm g n = m := by
  have e1 : sm g n = sm (fun i => sm (fun v => if f i = v then g i else 0) m) n := sm_congr _ (fun i hi => by
    have hfi := hm i hi
    have s := sm_split (fun v => if f i = v then g i else 0) (f i) (m - f i)
    rw [show f i + (m - f i) = m by omega] at s
    have s0 : sm (fun v => if f i = v then g i else 0) (f i) = 0 := by
      rw [sm_congr (g := fun _ => 0) _ (fun v hv => if_neg (by omega)), sm_nil]
    have s1 := sm_split (fun t => if f i = f i + t then g i else 0) 1 (m - f i - 1)
    rw [show 1 + (m - f i - 1) = m - f i by omega] at s1
    have s2 : sm (fun t => if f i = f i + (1 + t) then g i else 0) (m - f i - 1) = 0 := by
      rw [sm_congr (g := fun _ => 0) _ (fun v _ => if_neg (by omega)), sm_nil]
    have s3 : sm (fun t => if f i = f i + t then g i else 0) 1 = g i := by
      show 0 + (if f i = f i + 0 then g i else 0) = g i
      rw [Nat.zero_add]
      exact if_pos rfl
    rw [s, s0, s1, s2, s3]; omega)
  rw [e1, sm_swap (fun i v => if f i = v then g i else 0) m n, sm_congr (g := fun _ => 1) m (fun v hv => ?_), sm_mul, Nat.mul_one]
  show sm (fun i => if f i = v then g i else 0) n = 1
  have g1 : ∀ i, i < n → g i ≤ 1 := fun i hi => by rw [hg i hi]; split <;> omega
  obtain ⟨i, i1, i2⟩ := hs v hv
  obtain ⟨a, a1, a2, a3⟩ := least_at (P := fun i => f i = v) (fun i => Decidable.em _) i i2
  have up : sm (fun i => if f i = v then (if i < n then g i else 0) else 0) n ≤ 1 := by
    refine sm_one (fun i => ?_) n (fun b c hb hc h1 h2 => ?_)
    · split
      · split
        · exact g1 i (by assumption)
        · omega
      · omega
    · rw [if_pos hb] at h1
      rw [if_pos hc] at h2
      by_cases q1 : f b = v
      · by_cases q2 : f c = v
        · rw [if_pos q1, hg b hb] at h1
          rw [if_pos q2, hg c hc] at h2
          rcases Nat.lt_trichotomy b c with z | z | z
          · rw [if_pos ⟨b, z, by rw [q1, q2]⟩] at h2; cases h2
          · exact z
          · rw [if_pos ⟨c, z, by rw [q1, q2]⟩] at h1; cases h1
        · rw [if_neg q2] at h2; cases h2
      · rw [if_neg q1] at h1; cases h1
  rw [sm_congr (g := fun i => if f i = v then g i else 0) n (fun i hi => by rw [if_pos hi])] at up
  have lo := sm_lb1 (f := fun i => if f i = v then g i else 0) (c := 0) (i := a) n (fun _ _ => Nat.zero_le _) (by omega) (by
    rw [if_pos a2, hg a (by omega), if_neg]
    · omega
    · rintro ⟨e, h1, h2⟩
      exact a3 e h1 (h2.trans a2))
  rw [Nat.mul_zero] at lo
  omega
/-- a key that starts at 0, ends at m and never jumps takes all values between -/
theorem no_jump {f : Nat → Nat} : ∀ n v, f 0 = 0 → (∀ i, i < n → f (i + 1) ≤ f i + 1) → v ≤ f n → ∃ i, i ≤ n ∧ f i = v
  | 0, v, h0, _, h => ⟨0, Nat.le_refl _, by omega⟩
  | n + 1, v, h0, h1, h => by
    by_cases q : v ≤ f n
    · obtain ⟨i, i1, i2⟩ := no_jump n v h0 (fun i hi => h1 i (by omega)) q
      exact ⟨i, by omega, i2⟩
    · have := h1 n (by omega)
      exact ⟨n + 1, Nat.le_refl _, by omega⟩
/-- two sums of which one lies place by place under the other, and that are the same, are so place by place -/
theorem sm_eq_of {f g : Nat → Nat} : ∀ {n : Nat}, sm f n = sm g n → (∀ t, t < n → f t ≤ g t) → ∀ t, t < n → f t = g t
  | 0, _, _, t, ht => absurd ht (Nat.not_lt_zero _)
  | n + 1, h, m, t, ht => by
    have h2 : sm f n + f n = sm g n + g n := h
    have a := sm_mono n (fun i hi => m i (by omega))
    have b := m n (by omega)
    by_cases q : t = n
    · rw [q]; omega
    · exact sm_eq_of (show sm f n = sm g n by omega) (fun i hi => m i (by omega)) t (by omega)
section KN
variable {n p q : Nat}
/-- how many of the first l places carry, from a rest on -/
def cry (n p l x : Nat) : Nat := sm (fun s => b2n (decide (n ≤ ((s + 1) * p) % n + x))) l
theorem cry_mono {l x y : Nat} (h : x ≤ y) : cry n p l x ≤ cry n p l y := by
  refine sm_mono _ (fun s _ => ?_)
  by_cases z : n ≤ ((s + 1) * p) % n + x
  · rw [decide_eq_true z, decide_eq_true (by omega)]; exact Nat.le_refl _
  · rw [decide_eq_false z]; exact Nat.zero_le _
theorem div_two {n a x : Nat} (hn : 1 ≤ n) (hx : x < n) : (a + x) / n = a / n + b2n (decide (n ≤ a % n + x)) := line_step hn (by omega)
theorem inv_cancel (hn : 1 ≤ n) (hq : p * q % n = 1 % n) {a b : Nat} (ha : a < n) (hb : b < n) (h : a * p % n = b * p % n) : a = b := by
  have e : ∀ x, x < n → x * p * q % n = x := fun x hx => by
    rw [Nat.mul_assoc, Nat.mul_mod, hq, ← Nat.mul_mod, Nat.mul_one, Nat.mod_eq_of_lt hx]
  rw [← e a ha, ← e b hb, Nat.mul_mod, h, ← Nat.mul_mod]
theorem cry_jump (hn : 1 ≤ n) (hq : p * q % n = 1 % n) {l x : Nat} (hl : l < n) : cry n p l (x + 1) ≤ cry n p l x + 1 := by
  have e : cry n p l (x + 1) ≤ cry n p l x + sm (fun s => b2n (decide (((s + 1) * p) % n + (x + 1) = n))) l := by
    show sm _ l ≤ sm _ l + sm _ l
    rw [← sm_add]
    refine sm_mono _ (fun s _ => ?_)
    by_cases z : n ≤ ((s + 1) * p) % n + x
    · rw [decide_eq_true z, decide_eq_true (by omega)]; exact Nat.le_add_right _ _
    · by_cases y : ((s + 1) * p) % n + (x + 1) = n
      · rw [decide_eq_false z, decide_eq_true y, decide_eq_true (by omega)]; exact Nat.le_refl _
      · rw [decide_eq_false (by omega)]; exact Nat.zero_le _
  have o := sm_one (f := fun s => b2n (decide (((s + 1) * p) % n + (x + 1) = n))) (fun s => b2n_le _) l (fun a b ha hb h1 h2 => by
    have k : ∀ s, b2n (decide (((s + 1) * p) % n + (x + 1) = n)) = 1 → ((s + 1) * p) % n + (x + 1) = n := fun s h => by
      by_cases z : ((s + 1) * p) % n + (x + 1) = n
      · exact z
      · rw [decide_eq_false z] at h; cases h
    have := inv_cancel hn hq (a := a + 1) (b := b + 1) (by omega) (by omega) (by have := k a h1; have := k b h2; omega)
    omega)
  omega
theorem cry_zero (hn : 1 ≤ n) (l : Nat) : cry n p l 0 = 0 := by
  refine (sm_zero_iff _).mpr (fun s _ => ?_)
  have := Nat.mod_lt ((s + 1) * p) (show 0 < n by omega)
  rw [decide_eq_false (by omega)]; rfl
theorem cry_top (hn : 1 ≤ n) (hq : p * q % n = 1 % n) {l : Nat} (hl : l < n) : cry n p l (n - 1) = l := by
  show sm _ l = l
  rw [sm_congr (g := fun _ => 1) l (fun s hs => ?_), sm_mul, Nat.mul_one]
  have : ((s + 1) * p) % n ≠ 0 := fun z => by
    have := inv_cancel hn hq (a := s + 1) (b := 0) (by omega) (by omega) (by rw [z, Nat.zero_mul, Nat.zero_mod])
    omega
  rw [decide_eq_true (by omega)]; rfl
theorem kinds_line {u : List Bool} {r : Nat} (hn : 1 ≤ u.length) (hr : r < u.length) (h : ∀ t, t < u.length → rg u (r + t) = lineB u.length (ones u) 0 t) (hq : ones u * q % u.length = 1 % u.length) {l : Nat} (hl : l ≤ u.length) : sm (kdF u l) (begins u.length l true) = if l < u.length then l + 1 else u.length := by
  have hb := line_bn hn h
  have eb : begins u.length l true = u.length := by show max u.length 1 = _; omega
  rw [eb]
  -- the rest that a place of the ring has
  let x : Nat → Nat := fun i => ((i + (u.length - r)) * ones u) % u.length
  have hx : ∀ i, x i < u.length := fun i => Nat.mod_lt _ (by omega)
  have hbn : ∀ i s, bn u (u.length + (i + s)) - bn u (u.length + i) = (s * ones u + x i) / u.length := fun i s => by
    have e1 := hb (i + (u.length - r) + s)
    have e2 := hb (i + (u.length - r))
    rw [show r + (i + (u.length - r) + s) = u.length + (i + s) by omega] at e1
    rw [show r + (i + (u.length - r)) = u.length + i by omega] at e2
    rw [e1, e2]
    have e3 : (i + (u.length - r) + s) * ones u = (s * ones u + x i) + u.length * ((i + (u.length - r)) * ones u / u.length) := by
      have := Nat.div_add_mod ((i + (u.length - r)) * ones u) u.length
      rw [Nat.add_mul]
      show _ = s * ones u + ((i + (u.length - r)) * ones u) % u.length + _
      omega
    rw [e3, Nat.add_mul_div_left _ _ (by omega), Nat.add_sub_add_left, Nat.add_sub_cancel]
  -- the parts are alike just where the carries are as many
  have key : ∀ a i, (lk u a i l = true) ↔ cry u.length (ones u) l (x a) = cry u.length (ones u) l (x i) := fun a i => by
    have c1 : ∀ s i, (s * ones u + x i) / u.length = s * ones u / u.length + b2n (decide (u.length ≤ s * ones u % u.length + x i)) := fun s i => div_two hn (hx i)
    have c2 : (lk u a i l = true) ↔ ∀ s, s ≤ l → (s * ones u + x a) / u.length = (s * ones u + x i) / u.length := by
      rw [decide_eq_true_eq]
      constructor
      · intro hh s hs
        rw [← hbn, ← hbn]
        have e1 := bn_add u (u.length + a) s
        have e2 := bn_add u (u.length + i) s
        rw [upF_per, Nat.add_assoc] at e1 e2
        have e3 : upF u s a = upF u s i := sm_congr _ (fun t ht => by rw [hh t (by omega)])
        omega
      · intro hh t ht
        have d1 := hh t (by omega)
        have d2 := hh (t + 1) (by omega)
        rw [← hbn, ← hbn] at d1 d2
        have e1 : bn u (u.length + (a + (t + 1))) = bn u (u.length + (a + t)) + b2n (rg u (u.length + (a + t))) := bn_succ u (u.length + (a + t))
        have e2 : bn u (u.length + (i + (t + 1))) = bn u (u.length + (i + t)) + b2n (rg u (u.length + (i + t))) := bn_succ u (u.length + (i + t))
        have m1 := bn_add u (u.length + a) t
        have m2 := bn_add u (u.length + i) t
        rw [Nat.add_assoc] at m1 m2
        rw [← rg_add2 u (a + t), ← rg_add2 u (i + t)]
        refine b2n_inj ?_
        omega
    rw [c2]
    constructor
    · intro hh
      refine sm_congr _ (fun s hs => ?_)
      have := hh (s + 1) (by omega)
      rw [c1, c1] at this
      omega
    · intro hh s hs
      rw [c1, c1]
      congr 1
      by_cases z : s = 0
      · have a1 := hx a
        have a2 := hx i
        subst z
        rw [Nat.zero_mul, Nat.zero_mod, decide_eq_false (by omega), decide_eq_false (by omega)]
      · rcases Nat.le_total (x a) (x i) with y | y
        · have mono : ∀ t, t < l → b2n (decide (u.length ≤ ((t + 1) * ones u) % u.length + x a)) ≤ b2n (decide (u.length ≤ ((t + 1) * ones u) % u.length + x i)) := fun t _ => by
            by_cases w : u.length ≤ ((t + 1) * ones u) % u.length + x a
            · rw [decide_eq_true w, decide_eq_true (by omega)]; exact Nat.le_refl _
            · rw [decide_eq_false w]; exact Nat.zero_le _
          exact sm_eq_of hh mono (s - 1) (by omega) |> fun e => by rw [show s - 1 + 1 = s by omega] at e; exact e
        · have mono : ∀ t, t < l → b2n (decide (u.length ≤ ((t + 1) * ones u) % u.length + x i)) ≤ b2n (decide (u.length ≤ ((t + 1) * ones u) % u.length + x a)) := fun t _ => by
            by_cases w : u.length ≤ ((t + 1) * ones u) % u.length + x i
            · rw [decide_eq_true w, decide_eq_true (by omega)]; exact Nat.le_refl _
            · rw [decide_eq_false w]; exact Nat.zero_le _
          exact sm_eq_of hh.symm mono (s - 1) (by omega) |> fun e => by rw [show s - 1 + 1 = s by omega] at e; exact e.symm
  have ers : ∀ i l e, er u i l e = true ↔ ∃ a, a < e ∧ lk u a i l = true := fun i l e => by
    induction e with
    | zero => exact ⟨fun z => (by cases z), fun ⟨a, h1, _⟩ => absurd h1 (Nat.not_lt_zero _)⟩
    | succ e ih =>
      show (er u i l e || lk u e i l) = true ↔ _
      rw [Bool.or_eq_true, ih]
      constructor
      · rintro (⟨a, h1, h2⟩ | h2)
        · exact ⟨a, by omega, h2⟩
        · exact ⟨e, by omega, h2⟩
      · rintro ⟨a, h1, h2⟩
        by_cases z : a = e
        · subst z; exact Or.inr h2
        · exact Or.inl ⟨a, by omega, h2⟩
  have hg : ∀ i, i < u.length → kdF u l i = if ∃ e, e < i ∧ cry u.length (ones u) l (x e) = cry u.length (ones u) l (x i) then 0 else 1 := fun i hi => by
    show b2n (!er u i l i) = _
    by_cases z : ∃ e, e < i ∧ cry u.length (ones u) l (x e) = cry u.length (ones u) l (x i)
    · obtain ⟨e, e1, e2⟩ := z
      rw [if_pos ⟨e, e1, e2⟩, (ers i l i).mpr ⟨e, e1, (key e i).mpr e2⟩]; rfl
    · rw [if_neg z]
      have : er u i l i = false := Bool.eq_false_iff.mpr (fun y => by
        obtain ⟨a, a1, a2⟩ := (ers i l i).mp y
        exact z ⟨a, a1, (key a i).mp a2⟩)
      rw [this]; rfl
  -- every rest is met
  have onto : ∀ y, y < u.length → ∃ i, i < u.length ∧ x i = y := fun y hy => by
    refine ⟨(y * q + r) % u.length, Nat.mod_lt _ (by omega), ?_⟩
    show (((y * q + r) % u.length + (u.length - r)) * ones u) % u.length = y
    rw [Nat.mul_mod, Nat.add_mod, Nat.mod_mod, ← Nat.add_mod, ← Nat.mul_mod, show y * q + r + (u.length - r) = y * q + u.length by omega, Nat.add_mul, Nat.add_mul_mod_self_left, Nat.mul_assoc, Nat.mul_comm q, Nat.mul_mod, hq, ← Nat.mul_mod, Nat.mul_one, Nat.mod_eq_of_lt hy]
  by_cases z : l < u.length
  · rw [if_pos z]
    have top := cry_top hn hq z
    refine first_count (f := fun i => cry u.length (ones u) l (x i)) hg (fun i _ => ?_) (fun v hv => ?_)
    · have := cry_mono (n := u.length) (p := ones u) (l := l) (x := x i) (y := u.length - 1) (by have := hx i; omega)
      show cry u.length (ones u) l (x i) < l + 1
      omega
    · obtain ⟨y, y1, y2⟩ := no_jump (f := cry u.length (ones u) l) (u.length - 1) v (cry_zero hn l) (fun i _ => cry_jump hn hq z) (by omega)
      obtain ⟨i, i1, i2⟩ := onto y (by omega)
      exact ⟨i, i1, by show cry u.length (ones u) l (x i) = v; rw [i2]; exact y2⟩
  · obtain rfl : l = u.length := by omega
    rw [if_neg z]
    have e0 : ∀ y, y < u.length → cry u.length (ones u) u.length y = cry u.length (ones u) (u.length - 1) y := fun y hy => by
      obtain ⟨m, hm⟩ : ∃ m, u.length = m + 1 := ⟨u.length - 1, by omega⟩
      have : cry u.length (ones u) (m + 1) y = cry u.length (ones u) m y + b2n (decide (u.length ≤ ((m + 1) * ones u) % u.length + y)) := rfl
      rw [show (m + 1) * ones u % u.length = 0 by rw [← hm, Nat.mul_mod_right], decide_eq_false (by omega)] at this
      rw [show u.length - 1 = m by omega]
      conv => lhs; rw [show cry u.length (ones u) u.length y = cry u.length (ones u) (m + 1) y by rw [← hm]]
      rw [this]; rfl
    have top := cry_top hn hq (l := u.length - 1) (by omega)
    refine first_count (f := fun i => cry u.length (ones u) u.length (x i)) hg (fun i _ => ?_) (fun v hv => ?_)
    · have := cry_mono (n := u.length) (p := ones u) (l := u.length - 1) (x := x i) (y := u.length - 1) (by have := hx i; omega)
      show cry u.length (ones u) u.length (x i) < u.length
      rw [e0 _ (hx i)]
      omega
    · obtain ⟨y, y1, y2⟩ := no_jump (f := cry u.length (ones u) (u.length - 1)) (u.length - 1) v (cry_zero hn _) (fun i _ => cry_jump hn hq (by omega)) (by omega)
      obtain ⟨i, i1, i2⟩ := onto y (by omega)
      exact ⟨i, i1, by show cry u.length (ones u) u.length (x i) = v; rw [i2, e0 y (by omega)]; exact y2⟩
end KN
