/-! A word's image by a turn's rule is even just if the word is. -/
def rgb (u : List Bool) : Prop := ∀ i j, i < u.length → j < u.length → u.length * bn u j + i * ones u + 1 ≤ u.length * bn u i + j * ones u + u.length
theorem bn_take (u : List Bool) {q : Nat} (hq : q ≤ u.length) : bn u q = ones (u.take q) := by
  rw [← sm_ones (u.take q), List.length_take, Nat.min_eq_left hq]
  exact sm_congr _ (fun i hi => by rw [rg_lt (by omega), getD_take hi])
abbrev xT (t : Nat) : List Bool := List.replicate t false ++ [true]
theorem ones_rep : ∀ t, ones (List.replicate t false) = 0
  | 0 => rfl
  | t + 1 => by rw [List.replicate_succ]; show 0 + ones _ = 0; rw [ones_rep t]
theorem ones_xT (t : Nat) : ones (xT t) = 1 := by rw [ones_app, ones_rep]; rfl
theorem xT_take {t k : Nat} (hk : k ≤ t) : ones ((xT t).take k) = 0 := by
  rw [List.take_append_of_le_length (by simpa using hk), List.take_replicate, ones_rep]
theorem ones_img (t : Nat) : ∀ w : List Bool, ones (img (xT t) [false] w) + ones w = w.length
  | [] => rfl
  | b :: s => by
    have := ones_img t s
    cases b
    · show ones (xT t ++ img (xT t) [false] s) + (0 + ones s) = s.length + 1
      rw [ones_app, ones_xT]; omega
    · show ones ([false] ++ img (xT t) [false] s) + (1 + ones s) = s.length + 1
      rw [ones_app, show ones [false] = 0 from rfl]; omega
theorem blk_pos (t : Nat) (w : List Bool) {j k : Nat} (hj : j < w.length) (hk : if w.getD j false = true then k = 0 else k ≤ t) : (img (xT t) [false] (w.take j)).length + k < (img (xT t) [false] w).length ∧ ones ((img (xT t) [false] w).take ((img (xT t) [false] (w.take j)).length + k)) = ones (img (xT t) [false] (w.take j)) := by
  have e : w = w.take j ++ (w.getD j false :: w.drop (j + 1)) := by rw [← take_one hj, List.take_append_drop]
  have e2 : img (xT t) [false] w = img (xT t) [false] (w.take j) ++ ((if w.getD j false = true then [false] else xT t) ++ img (xT t) [false] (w.drop (j + 1))) := by
    conv => lhs; rw [e]
    rw [img_app]; rfl
  rw [e2]
  generalize w.getD j false = b at hk
  constructor
  · rw [List.length_append, List.length_append]
    cases b
    · rw [if_neg (by decide)] at hk ⊢; simp; omega
    · rw [if_pos rfl] at hk ⊢; simp; omega
  · rw [List.take_length_add_append, ones_app]
    cases b
    · rw [if_neg (by decide)] at hk ⊢
      rw [List.take_append_of_le_length (by simp; omega), xT_take hk]; rfl
    · rw [if_pos rfl] at hk
      subst hk
      rfl
theorem blk_of (t : Nat) : ∀ (w : List Bool) (q : Nat), q < (img (xT t) [false] w).length → ∃ j k, j < w.length ∧ (if w.getD j false = true then k = 0 else k ≤ t) ∧ q = (img (xT t) [false] (w.take j)).length + k
  | [], q, h => absurd h (Nat.not_lt_zero _)
  | b :: s, q, h => by
    have hb : img (xT t) [false] (b :: s) = (if b = true then [false] else xT t) ++ img (xT t) [false] s := rfl
    rw [hb, List.length_append] at h
    by_cases z : q < (if b = true then [false] else xT t).length
    · refine ⟨0, q, by simp, ?_, by simp [img]⟩
      show if b = true then q = 0 else q ≤ t
      cases b
      · rw [if_neg (by decide)] at z ⊢; simp at z; omega
      · rw [if_pos rfl] at z ⊢; simp at z; omega
    · obtain ⟨j, k, j1, j2, j3⟩ := blk_of t s (q - (if b = true then [false] else xT t).length) (by omega)
      refine ⟨j + 1, k, by simpa using j1, j2, ?_⟩
      rw [List.take_succ_cons, show img (xT t) [false] (b :: s.take j) = (if b = true then [false] else xT t) ++ img (xT t) [false] (s.take j) from rfl, List.length_append]
      omega
theorem ones_full {w : List Bool} (h : ones w = w.length) {i : Nat} (hi : i ≤ w.length) : bn w i = i := by
  have h1 := bn_take w hi
  have h2 := ones_le (w.take i)
  have h3 := ones_le (w.drop i)
  have h4 := ones_app (w.take i) (w.drop i)
  rw [List.take_append_drop] at h4
  rw [List.length_take] at h2
  rw [List.length_drop] at h3
  omega
/-- the one inequality in both words' numbers -/
theorem rgb_num {n p A t N Bj Aj Lj Bi Ai Li k k' : Nat} (hn : n = A + p) (hN : N = A * (t + 1) + p) (h1 : Lj = Aj * (t + 1) + Bj) (h2 : Li = Ai * (t + 1) + Bi) : (N * Ai + (Lj + k) * A + 1 ≤ N * Aj + (Li + k') * A + N) ↔ (n * Bj + (Ai + Bi) * p + k * A + 1 ≤ n * Bi + (Aj + Bj) * p + k' * A + (t * A + n)) := by
  subst hn; subst hN; subst h1; subst h2
  have e1 : (A * (t + 1) + p) * Ai = A * Ai * t + A * Ai + p * Ai := by
    rw [Nat.add_mul, Nat.mul_right_comm, Nat.mul_succ]
  have e2 : (A * (t + 1) + p) * Aj = A * Aj * t + A * Aj + p * Aj := by
    rw [Nat.add_mul, Nat.mul_right_comm, Nat.mul_succ]
  have e3 : (Aj * (t + 1) + Bj + k) * A = A * Aj * t + A * Aj + Bj * A + k * A := by
    rw [Nat.add_mul, Nat.add_mul, Nat.mul_right_comm, Nat.mul_comm Aj A, Nat.mul_succ]
  have e4 : (Ai * (t + 1) + Bi + k') * A = A * Ai * t + A * Ai + Bi * A + k' * A := by
    rw [Nat.add_mul, Nat.add_mul, Nat.mul_right_comm, Nat.mul_comm Ai A, Nat.mul_succ]
  have e5 : A * (t + 1) + p = t * A + (A + p) := by rw [Nat.mul_succ, Nat.mul_comm]; omega
  rw [e1, e2, e3, e4, e5, Nat.add_mul A p Bj, Nat.add_mul A p Bi, Nat.add_mul Ai Bi p, Nat.add_mul Aj Bj p, Nat.mul_comm Bj A, Nat.mul_comm Bi A, Nat.mul_comm p Aj, Nat.mul_comm p Ai, Nat.mul_comm p Bj, Nat.mul_comm p Bi]
  omega
theorem rgb_img {t : Nat} {w : List Bool} (h1 : 1 ≤ w.length) : rgb (img (xT t) [false] w) ↔ rgb w := by
  have hlen := img_len (xT t) [false] w
  have hxl : (xT t).length = t + 1 := by simp
  have hon := ones_img t w
  have hpn := ones_le w
  have pos := fun j k hj hk => blk_pos t w (j := j) (k := k) hj hk
  have num : ∀ i j k k', i < w.length → j < w.length → (((img (xT t) [false] w).length * (i - bn w i) + ((img (xT t) [false] (w.take j)).length + k) * ones (img (xT t) [false] w) + 1 ≤ (img (xT t) [false] w).length * (j - bn w j) + ((img (xT t) [false] (w.take i)).length + k') * ones (img (xT t) [false] w) + (img (xT t) [false] w).length) ↔ (w.length * bn w j + i * ones w + k * ones (img (xT t) [false] w) + 1 ≤ w.length * bn w i + j * ones w + k' * ones (img (xT t) [false] w) + (t * ones (img (xT t) [false] w) + w.length))) := fun i j k k' hi hj => by
    have bi := bn_take w (show i ≤ w.length by omega)
    have bj := bn_take w (show j ≤ w.length by omega)
    have oi := ones_le (w.take i)
    have oj := ones_le (w.take j)
    have li := img_len (xT t) [false] (w.take i)
    have lj := img_len (xT t) [false] (w.take j)
    rw [List.length_take, Nat.min_eq_left (by omega)] at oi oj
    rw [List.length_take, Nat.min_eq_left (by omega), hxl, ← bi] at li
    rw [List.length_take, Nat.min_eq_left (by omega), hxl, ← bj] at lj
    rw [← bi] at oi
    rw [← bj] at oj
    have := rgb_num (n := w.length) (p := ones w) (A := ones (img (xT t) [false] w)) (t := t) (N := (img (xT t) [false] w).length) (Bj := bn w j) (Aj := j - bn w j) (Bi := bn w i) (Ai := i - bn w i) (Lj := (img (xT t) [false] (w.take j)).length) (Li := (img (xT t) [false] (w.take i)).length) (k := k) (k' := k') (by omega) (by rw [hlen, hxl]; simp; congr 1; omega) (by rw [lj]; simp) (by rw [li]; simp)
    rw [show i - bn w i + bn w i = i by omega, show j - bn w j + bn w j = j by omega] at this
    exact this
  have val : ∀ j k, j < w.length → (if w.getD j false = true then k = 0 else k ≤ t) → bn (img (xT t) [false] w) ((img (xT t) [false] (w.take j)).length + k) = j - bn w j := fun j k hj hk => by
    have a := pos j k hj hk
    have b := ones_img t (w.take j)
    rw [List.length_take, Nat.min_eq_left (by omega), ← bn_take w (by omega)] at b
    rw [bn_take _ (by omega), a.2]
    omega
  constructor
  · intro h
    obtain ⟨j0, j1, j2⟩ := argmax (fun j => (w.length : Int) * (bn w j : Int) - (j : Int) * (ones w : Int)) w.length h1
    have j3 : ∀ j, j < w.length → w.length * bn w j + j0 * ones w ≤ w.length * bn w j0 + j * ones w := fun j hj => by
      have := j2 j hj
      rw [← Int.natCast_mul, ← Int.natCast_mul, ← Int.natCast_mul, ← Int.natCast_mul] at this
      omega
    by_cases hb : w.getD j0 false = true
    · -- then the word has b's alone
      have full : ones w = w.length := by
        have s1 : bn w (j0 + 1) = bn w j0 + 1 := by rw [bn_succ, rg_lt j1, hb]; rfl
        by_cases z : j0 + 1 < w.length
        · have := j3 (j0 + 1) z
          rw [s1, Nat.mul_succ, Nat.succ_mul] at this
          omega
        · have z2 : j0 + 1 = w.length := by omega
          have s2 := bn_len w
          rw [← z2, s1] at s2
          have s3 := j3 0 (by omega)
          have s4 : bn w 0 = 0 := rfl
          rw [s4, ← s2, ← z2] at s3
          rw [← s2, ← z2]
          rw [Nat.mul_zero, Nat.zero_mul, Nat.mul_add, Nat.add_mul] at s3
          omega
      intro i j hi hj
      rw [ones_full full (by omega), ones_full full (by omega), full, Nat.mul_comm i, Nat.mul_comm j]
      omega
    · have main : ∀ i, i < w.length → w.length * bn w j0 + i * ones w + 1 ≤ w.length * bn w i + j0 * ones w + w.length := fun i hi => by
        have hk0 : if w.getD i false = true then (0 : Nat) = 0 else 0 ≤ t := by split <;> omega
        have hkt : if w.getD j0 false = true then t = 0 else t ≤ t := by rw [if_neg hb]; exact Nat.le_refl _
        have a := h _ _ (pos j0 t j1 hkt).1 (pos i 0 hi hk0).1
        rw [val j0 t j1 hkt, val i 0 hi hk0] at a
        have b := (num i j0 t 0 hi j1).mp a
        omega
      intro i j hi hj
      have a := main i hi
      have b := j3 j hj
      omega
  · intro h q q' hq hq'
    obtain ⟨j, k, a1, a2, a3⟩ := blk_of t w q hq
    obtain ⟨i, k', b1, b2, b3⟩ := blk_of t w q' hq'
    subst a3; subst b3
    rw [val j k a1 a2, val i k' b1 b2]
    refine (num i j k k' b1 a1).mpr ?_
    have a := h i j b1 a1
    have hk : k ≤ t := by
      split at a2 <;> omega
    have := Nat.mul_le_mul_right (ones (img (xT t) [false] w)) hk
    omega
