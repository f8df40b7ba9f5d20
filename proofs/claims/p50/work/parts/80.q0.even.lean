/-! Words round the ring: how even they are. -/
def bn (u : List Bool) (i : Nat) : Nat := sm (fun t => b2n (rg u t)) i
theorem bn_succ (u : List Bool) (i : Nat) : bn u (i + 1) = bn u i + b2n (rg u i) := rfl
theorem rg_add (u : List Bool) (i : Nat) : rg u (i + u.length) = rg u i := by unfold rg; rw [Nat.add_mod_right]
theorem rg_add2 (u : List Bool) (i : Nat) : rg u (u.length + i) = rg u i := by rw [Nat.add_comm]; exact rg_add u i
theorem sm_split (f : Nat → Nat) (a : Nat) : ∀ l, sm f (a + l) = sm f a + sm (fun t => f (a + t)) l
  | 0 => rfl
  | l + 1 => by
    show sm f (a + l) + f (a + l) = sm f a + (sm (fun t => f (a + t)) l + f (a + l))
    rw [sm_split f a l]; omega
theorem bn_add (u : List Bool) (a l : Nat) : bn u (a + l) = bn u a + upF u l a := sm_split _ a l
theorem sm_ones : ∀ (u : List Bool), sm (fun t => b2n (u.getD t false)) u.length = ones u
  | [] => rfl
  | b :: s => by
    have h := sm_split (fun t => b2n ((b :: s).getD t false)) 1 s.length
    rw [List.length_cons, Nat.add_comm s.length 1, h]
    have e : sm (fun t => b2n ((b :: s).getD (1 + t) false)) s.length = sm (fun t => b2n (s.getD t false)) s.length := sm_congr _ (fun i _ => by rw [Nat.add_comm 1 i]; rfl)
    rw [e, sm_ones s]
    show 0 + b2n b + ones s = _
    rw [Nat.zero_add]
    rfl
theorem bn_len (u : List Bool) : bn u u.length = ones u := by
  rw [← sm_ones u]
  exact sm_congr _ (fun i hi => by rw [rg_lt hi])
theorem bn_per (u : List Bool) (i : Nat) : bn u (u.length + i) = ones u + bn u i := by
  rw [bn, sm_split]
  show bn u u.length + sm (fun t => b2n (rg u (u.length + t))) i = _
  rw [bn_len]
  congr 1
  exact sm_congr _ (fun t _ => by rw [rg_add2])
theorem upF_per (u : List Bool) (l i : Nat) : upF u l (u.length + i) = upF u l i := sm_congr _ (fun t _ => by rw [Nat.add_assoc, rg_add2])
theorem upF_all (u : List Bool) (i : Nat) : upF u u.length i = ones u := by
  have h1 := bn_add u i u.length
  have h2 := bn_per u i
  rw [Nat.add_comm] at h2
  omega
theorem sm_mul (c : Nat) : ∀ n, sm (fun _ => c) n = n * c
  | 0 => by simp [sm]
  | n + 1 => by
    show sm (fun _ => c) n + c = _
    rw [sm_mul c n, Nat.succ_mul]
/-- all ring parts of a length together -/
theorem upF_sum (u : List Bool) (l : Nat) : sm (upF u l) u.length = l * ones u := by
  show sm (fun a => sm (fun t => b2n (rg u (a + t))) l) u.length = _
  rw [sm_swap (fun a t => b2n (rg u (a + t))) l u.length, ← sm_mul]
  refine sm_congr _ (fun t _ => ?_)
  rw [← upF_all u t]
  exact sm_congr _ (fun a _ => by rw [Nat.add_comm])
theorem sm_lb {f : Nat → Nat} {c : Nat} : ∀ n, (∀ k, k < n → c ≤ f k) → n * c ≤ sm f n
  | 0, _ => by simp
  | n + 1, h => by
    have := sm_lb n (fun k hk => h k (by omega))
    have := h n (by omega)
    rw [Nat.succ_mul]
    show _ ≤ sm f n + f n
    omega
theorem sm_lb1 {f : Nat → Nat} {c i : Nat} : ∀ n, (∀ k, k < n → c ≤ f k) → i < n → c + 1 ≤ f i → n * c + 1 ≤ sm f n
  | 0, _, hi, _ => absurd hi (Nat.not_lt_zero _)
  | n + 1, h, hi, hc => by
    rw [Nat.succ_mul]
    show _ ≤ sm f n + f n
    by_cases q : i = n
    · have := sm_lb n (fun k hk => h k (by omega))
      subst q
      omega
    · have := sm_lb1 n (fun k hk => h k (by omega)) (by omega) hc
      have := h n (by omega)
      omega
theorem sm_ub1 {f : Nat → Nat} {c i n : Nat} (h : ∀ k, k < n → f k ≤ c + 1) (hi : i < n) (hc : f i ≤ c) : sm f n + 1 ≤ n * (c + 1) := by
  have h2 : ∀ k, k < n → f k + (c + 1 - f k) = c + 1 := fun k hk => by have := h k hk; omega
  have e : sm f n + sm (fun k => c + 1 - f k) n = n * (c + 1) := by
    rw [← sm_add, ← sm_mul]
    exact sm_congr _ h2
  have := sm_lb1 (f := fun k => c + 1 - f k) (c := 0) (i := i) n (fun k _ => Nat.zero_le _) hi (by show 0 + 1 ≤ c + 1 - f i; omega)
  omega
def evn (u : List Bool) : Prop := ∀ l, l ≤ u.length → ∀ i j, i < u.length → j < u.length → upF u l i ≤ upF u l j + 1
theorem evn_lt {u : List Bool} (h : evn u) {i j : Nat} (hi : i < u.length) (hj : j < u.length) : u.length * bn u j + i * ones u + 1 ≤ u.length * bn u i + j * ones u + u.length := by
  by_cases q : i ≤ j
  · obtain ⟨l, rfl⟩ : ∃ l, j = i + l := ⟨j - i, by omega⟩
    have e1 := bn_add u i l
    have s1 := upF_sum u l
    have s2 := sm_lb1 (f := fun k => upF u l k + 1) (c := upF u l i) (i := i) u.length (fun k hk => h l (by omega) i k hi hk) hi (Nat.le_refl _)
    have s3 : sm (fun k => upF u l k + 1) u.length = sm (upF u l) u.length + u.length := by
      rw [sm_add, sm_mul, Nat.mul_one]
    rw [e1, Nat.mul_add, Nat.add_mul]
    omega
  · obtain ⟨l, rfl⟩ : ∃ l, i = j + l := ⟨i - j, by omega⟩
    have e1 := bn_add u j l
    have s1 := upF_sum u l
    have s2 := sm_ub1 (f := upF u l) (c := upF u l j) (i := j) (n := u.length) (fun k hk => h l (by omega) k j hk hj) hj (Nat.le_refl _)
    rw [Nat.mul_add] at s2
    rw [e1, Nat.mul_add, Nat.add_mul]
    omega
theorem argmax (f : Nat → Int) : ∀ n, 1 ≤ n → ∃ r, r < n ∧ ∀ j, j < n → f j ≤ f r
  | 0, h => absurd h (by decide)
  | 1, _ => ⟨0, by decide, fun j hj => by rw [show j = 0 by omega]; exact Int.le_refl _⟩
  | n + 2, _ => by
    obtain ⟨r, r1, r2⟩ := argmax f (n + 1) (by omega)
    by_cases q : f (n + 1) ≤ f r
    · refine ⟨r, by omega, fun j hj => ?_⟩
      by_cases z : j = n + 1
      · rw [z]; exact q
      · exact r2 j (by omega)
    · refine ⟨n + 1, by omega, fun j hj => ?_⟩
      by_cases z : j = n + 1
      · rw [z]; exact Int.le_refl _
      · have := r2 j (by omega)
        omega
theorem line_step {n p x : Nat} (h1 : 1 ≤ n) (hp : p ≤ n) : (x + p) / n = x / n + b2n (decide (n ≤ x % n + p)) := by
  have hm := Nat.mod_lt x (show 0 < n by omega)
  have e : (x + p) / n = x / n + (x % n + p) / n := by
    have := Nat.div_add_mod x n
    rw [Nat.add_comm (x / n), ← Nat.add_mul_div_left _ _ (show 0 < n by omega)]
    congr 1
    omega
  rw [e]
  congr 1
  by_cases q : n ≤ x % n + p
  · rw [decide_eq_true q]
    show _ = 1
    rw [Nat.div_eq_iff (by omega)]
    omega
  · rw [decide_eq_false q]
    show _ = 0
    exact Nat.div_eq_of_lt (by omega)
theorem b2n_inj {a b : Bool} (h : b2n a = b2n b) : a = b := by cases a <;> cases b <;> first | rfl | cases h
/-- an even word is, from some place of its ring on, the line's word -/
theorem rgb_line {u : List Bool} (h : ∀ i j, i < u.length → j < u.length → u.length * bn u j + i * ones u + 1 ≤ u.length * bn u i + j * ones u + u.length) (h1 : 1 ≤ u.length) : ∃ r, r < u.length ∧ ∀ t, t < u.length → rg u (r + t) = lineB u.length (ones u) 0 t := by
  obtain ⟨r, r1, r2⟩ := argmax (fun i => (u.length : Int) * (bn u i : Int) - (i : Int) * (ones u : Int)) u.length h1
  have hp := ones_le u
  have r3 : ∀ j, j < u.length → u.length * bn u j + r * ones u ≤ u.length * bn u r + j * ones u := fun j hj => by
    have := r2 j hj
    rw [← Int.natCast_mul, ← Int.natCast_mul, ← Int.natCast_mul, ← Int.natCast_mul] at this
    omega
  have key : ∀ t, t ≤ u.length → upF u t r = t * ones u / u.length := fun t ht => by
    have e1 := bn_add u r t
    have hA : u.length * upF u t r ≤ t * ones u ∧ t * ones u + 1 ≤ u.length * upF u t r + u.length := by
      by_cases q : r + t < u.length
      · have a := r3 (r + t) q
        have b := h (r + t) r q r1
        rw [e1, Nat.mul_add, Nat.add_mul] at a b
        omega
      · obtain ⟨j, hj⟩ : ∃ j, r + t = u.length + j := ⟨r + t - u.length, by omega⟩
        by_cases z : j < u.length
        · have a := r3 j z
          have b := h j r z r1
          have e2 := bn_per u j
          rw [← hj, e1] at e2
          have e3 : (r + t) * ones u = (u.length + j) * ones u := by rw [hj]
          have e4 : u.length * (bn u r + upF u t r) = u.length * (ones u + bn u j) := by rw [e2]
          rw [Nat.add_mul, Nat.add_mul] at e3
          rw [Nat.mul_add, Nat.mul_add] at e4
          omega
        · omega
    symm
    rw [Nat.div_eq_iff (by omega), Nat.mul_comm]
    omega
  refine ⟨r, r1, fun t ht => b2n_inj ?_⟩
  have k1 := key t (by omega)
  have k2 := key (t + 1) (by omega)
  have e : upF u (t + 1) r = upF u t r + b2n (rg u (r + t)) := rfl
  have e2 := line_step (x := t * ones u) h1 hp
  rw [Nat.succ_mul, e2] at k2
  unfold lineB
  rw [Nat.add_zero]
  omega
theorem evn_line {u : List Bool} (h : evn u) (h1 : 1 ≤ u.length) : ∃ r, r < u.length ∧ ∀ t, t < u.length → rg u (r + t) = lineB u.length (ones u) 0 t := rgb_line (fun _ _ hi hj => evn_lt h hi hj) h1
theorem line_bn {u : List Bool} {r : Nat} (h1 : 1 ≤ u.length) (h : ∀ t, t < u.length → rg u (r + t) = lineB u.length (ones u) 0 t) : ∀ t, bn u (r + t) = bn u r + t * ones u / u.length
  | 0 => by simp
  | t + 1 => by
    have ih := line_bn h1 h t
    have hm := Nat.mod_lt t (show 0 < u.length by omega)
    have e1 : rg u (r + t) = rg u (r + t % u.length) := by
      unfold rg
      rw [Nat.add_mod, Nat.add_mod r (t % u.length), Nat.mod_mod]
    have e2 := line_step (x := t * ones u) h1 (ones_le u)
    have e3 : t % u.length * ones u % u.length = t * ones u % u.length := by rw [Nat.mod_mul_mod]
    rw [← Nat.add_assoc, bn_succ, ih, Nat.succ_mul, e2, e1, h _ hm]
    unfold lineB
    rw [Nat.add_zero, e3]
    omega
theorem line_evn {u : List Bool} {r : Nat} (h1 : 1 ≤ u.length) (hr : r < u.length) (h : ∀ t, t < u.length → rg u (r + t) = lineB u.length (ones u) 0 t) : evn u := by
  have hb := line_bn h1 h
  have key : ∀ l i, i < u.length → l * ones u / u.length ≤ upF u l i ∧ upF u l i ≤ l * ones u / u.length + 1 := fun l i hi => by
    obtain ⟨t, ht⟩ : ∃ t, r + t = u.length + i := ⟨u.length + i - r, by omega⟩
    have e1 := upF_per u l i
    rw [← ht] at e1
    have e2 := bn_add u (r + t) l
    have e3 := hb t
    have e4 := hb (t + l)
    rw [← Nat.add_assoc] at e4
    have e5 := Nat.add_div (a := t * ones u) (b := l * ones u) (c := u.length) (by omega)
    rw [← Nat.add_mul] at e5
    split at e5 <;> omega
  intro l hl i j hi hj
  have a := key l i hi
  have b := key l j hj
  omega
