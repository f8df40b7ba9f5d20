/-! Overlaps of a word and of its image by the rule (5, 6). -/
theorem sm_zero_iff {f : Nat → Nat} : ∀ n, sm f n = 0 ↔ ∀ i, i < n → f i = 0
  | 0 => ⟨fun _ i hi => absurd hi (Nat.not_lt_zero _), fun _ => rfl⟩
  | n + 1 => by
    have ih := sm_zero_iff (f := f) n
    constructor
    · intro h i hi
      have h2 : sm f n + f n = 0 := h
      by_cases q : i = n
      · rw [q]; omega
      · exact ih.mp (by omega) i (by omega)
    · intro h
      show sm f n + f n = 0
      rw [ih.mpr (fun i hi => h i (by omega)), h n (by omega)]
def ovP (u : List Bool) (a p : Nat) : Prop := ∀ t, t < p + 1 → u.getD (a + t) false = u.getD (a + p + t) false
theorem ov_zero {u : List Bool} (hu : u.length ≤ 64) : sm (fun p => sm (ovF u p) 66) 66 = 0 ↔ ∀ p a, 1 ≤ p → a + 2 * p < u.length → ¬ ovP u a p := by
  rw [sm_zero_iff]
  constructor
  · intro h p a hp ha hov
    have h1 := (sm_zero_iff 66).mp (h p (by omega)) a (by omega)
    have e : ovF u p a = 1 := by
      show b2n (decide _ && decide _) = 1
      rw [decide_eq_true (show 1 ≤ p ∧ a + 2 * p < u.length from ⟨hp, ha⟩), decide_eq_true (p := ∀ t, t < p + 1 → u.getD (a + t) false = u.getD (a + p + t) false) hov]; rfl
    omega
  · intro h p _
    refine (sm_zero_iff 66).mpr (fun a _ => ?_)
    by_cases q : 1 ≤ p ∧ a + 2 * p < u.length
    · show b2n (decide _ && decide _) = 0
      rw [decide_eq_false (p := ∀ t, t < p + 1 → u.getD (a + t) false = u.getD (a + p + t) false) (h p a q.1 q.2), Bool.and_false]; rfl
    · exact ovF_0 q
theorem cW5 : codeW 5 = [false, true] := by decide
theorem cW6 : codeW 6 = [true, false] := by decide
theorem tm_len : ∀ w : List Bool, (img (codeW 5) (codeW 6) w).length = 2 * w.length
  | [] => rfl
  | b :: s => by
    have := tm_len s
    cases b
    · show (codeW 5 ++ img (codeW 5) (codeW 6) s).length = _
      rw [List.length_append, this, cW5]; simp; omega
    · show (codeW 6 ++ img (codeW 5) (codeW 6) s).length = _
      rw [List.length_append, this, cW6]; simp; omega
theorem tm_at : ∀ (w : List Bool) (k : Nat), k < w.length → (img (codeW 5) (codeW 6) w).getD (2 * k) false = w.getD k false ∧ (img (codeW 5) (codeW 6) w).getD (2 * k + 1) false = !(w.getD k false)
  | [], k, h => absurd h (Nat.not_lt_zero _)
  | b :: s, 0, _ => by
    cases b
    · rw [show img (codeW 5) (codeW 6) (false :: s) = codeW 5 ++ img (codeW 5) (codeW 6) s from rfl, cW5]; exact ⟨rfl, rfl⟩
    · rw [show img (codeW 5) (codeW 6) (true :: s) = codeW 6 ++ img (codeW 5) (codeW 6) s from rfl, cW6]; exact ⟨rfl, rfl⟩
  | b :: s, k + 1, h => by
    have ih := tm_at s k (by simpa using h)
    have e : ∀ i, (img (codeW 5) (codeW 6) (b :: s)).getD (i + 2) false = (img (codeW 5) (codeW 6) s).getD i false := fun i => by
      cases b
      · rw [show img (codeW 5) (codeW 6) (false :: s) = codeW 5 ++ img (codeW 5) (codeW 6) s from rfl, cW5]; rfl
      · rw [show img (codeW 5) (codeW 6) (true :: s) = codeW 6 ++ img (codeW 5) (codeW 6) s from rfl, cW6]; rfl
    rw [show 2 * (k + 1) = 2 * k + 2 by omega, show 2 * k + 2 + 1 = 2 * k + 1 + 2 by omega, e, e]
    exact ih
theorem tm_ov (w : List Bool) : (∃ p a, 1 ≤ p ∧ a + 2 * p < w.length ∧ ovP w a p) ↔ (∃ q i, 1 ≤ q ∧ i + 2 * q < (img (codeW 5) (codeW 6) w).length ∧ ovP (img (codeW 5) (codeW 6) w) i q) := by
  have hl := tm_len w
  have ha := tm_at w
  generalize img (codeW 5) (codeW 6) w = v at hl ha ⊢
  constructor
  · rintro ⟨p, a, h1, h2, h3⟩
    refine ⟨2 * p, 2 * a, by omega, by omega, fun t ht => ?_⟩
    have e := h3 (t / 2) (by omega)
    rcases Nat.mod_two_eq_zero_or_one t with z | z
    · rw [show 2 * a + t = 2 * (a + t / 2) by omega, show 2 * a + 2 * p + t = 2 * (a + p + t / 2) by omega, (ha _ (by omega)).1, (ha _ (by omega)).1, e]
    · rw [show 2 * a + t = 2 * (a + t / 2) + 1 by omega, show 2 * a + 2 * p + t = 2 * (a + p + t / 2) + 1 by omega, (ha _ (by omega)).2, (ha _ (by omega)).2, e]
  · rintro ⟨q, i, h1, h2, h3⟩
    rcases Nat.mod_two_eq_zero_or_one q with z | z
    · refine ⟨q / 2, i / 2, by omega, by omega, fun s hs => ?_⟩
      have e := h3 (2 * s) (by omega)
      rcases Nat.mod_two_eq_zero_or_one i with y | y
      · rw [show i + 2 * s = 2 * (i / 2 + s) by omega, show i + q + 2 * s = 2 * (i / 2 + q / 2 + s) by omega, (ha _ (by omega)).1, (ha _ (by omega)).1] at e
        exact e
      · rw [show i + 2 * s = 2 * (i / 2 + s) + 1 by omega, show i + q + 2 * s = 2 * (i / 2 + q / 2 + s) + 1 by omega, (ha _ (by omega)).2, (ha _ (by omega)).2] at e
        exact Bool.not_inj e
    · exfalso
      have ne : ∀ k, i ≤ k → k < i + q → v.getD (k + 1) false = !(v.getD k false) := fun k k1 k2 => by
        rcases Nat.mod_two_eq_zero_or_one k with y | y
        · have := ha (k / 2) (by omega)
          rw [show 2 * (k / 2) = k by omega] at this
          rw [this.2, this.1]
        · have e1 := h3 (k - i) (by omega)
          have e2 := h3 (k + 1 - i) (by omega)
          rw [show i + (k - i) = k by omega, show i + q + (k - i) = k + q by omega] at e1
          rw [show i + (k + 1 - i) = k + 1 by omega, show i + q + (k + 1 - i) = k + q + 1 by omega] at e2
          have := ha ((k + q) / 2) (by omega)
          rw [show 2 * ((k + q) / 2) = k + q by omega] at this
          rw [e1, e2, this.2, this.1]
      have alt : ∀ t, t ≤ q → v.getD (i + t) false = (v.getD i false != decide (t % 2 = 1)) := fun t => by
        induction t with
        | zero => intro _; simp
        | succ t ih =>
          intro ht
          rw [← Nat.add_assoc, ne (i + t) (by omega) (by omega), ih (by omega)]
          rcases Nat.mod_two_eq_zero_or_one t with y | y
          · rw [show (t + 1) % 2 = 1 by omega, y]; cases v.getD i false <;> rfl
          · rw [show (t + 1) % 2 = 0 by omega, y]; cases v.getD i false <;> rfl
      have e0 := h3 0 (by omega)
      rw [Nat.add_zero, Nat.add_zero, alt q (Nat.le_refl _), z] at e0
      cases x : v.getD i false <;> rw [x] at e0 <;> cases e0
theorem free_tm {w : List Bool} (hw : w.length ≤ 32) : sm (fun p => sm (ovF (img (codeW 5) (codeW 6) w) p) 66) 66 = 0 ↔ sm (fun p => sm (ovF w p) 66) 66 = 0 := by
  have hl := tm_len w
  rw [ov_zero (by omega), ov_zero (by omega)]
  have h := tm_ov w
  constructor
  · intro k p a h1 h2 h3
    obtain ⟨q, i, a1, a2, a3⟩ := h.mp ⟨p, a, h1, h2, h3⟩
    exact k q i a1 a2 a3
  · intro k p a h1 h2 h3
    obtain ⟨q, i, a1, a2, a3⟩ := h.mpr ⟨p, a, h1, h2, h3⟩
    exact k q i a1 a2 a3
theorem free_times {w : List Bool} {r : Int} (hw : w.length ≤ 64) (h : sm (fun p => sm (ovF w p) 66) 66 = 0) (hr : isT w r) : r ≤ 2 := by
  rcases hr.2 with ⟨a, _⟩ | ⟨k, p, c, a, b⟩
  · omega
  · by_cases q : c ≤ 2
    · omega
    · exfalso
      have b3 := b.2.2.1
      have m : 3 * p ≤ c * p := Nat.mul_le_mul_right p (by omega)
      refine (ov_zero hw).mp h p k b.1 (by have := b.1; omega) (fun t ht => ?_)
      have := b.2.2.2 (k + t) (by omega) (by have := b.1; omega)
      rw [this]; congr 1; omega
