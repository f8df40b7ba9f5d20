/-! As many mirrors as signs; how often side by side: of all rows of at most five turns. -/
/-- a word is told literally before it is looked at: the kernel reads it once -/
def frc : List Bool → (List Bool → Bool) → Bool
  | [], k => k []
  | b :: x, k => cond b (frc x (fun y => k (true :: y))) (frc x (fun y => k (false :: y)))
theorem frc_eq : ∀ (x : List Bool) (k : List Bool → Bool), frc x k = k x
  | [], _ => rfl
  | b :: x, k => by
    cases b
    · exact frc_eq x _
    · exact frc_eq x _
def pre : List Bool → List Bool → Bool
  | [], _ => true
  | _ :: _, [] => false
  | a :: x, b :: y => cond a (cond b (pre x y) false) (cond b false (pre x y))
theorem pre_of : ∀ (x y : List Bool), x.length ≤ y.length → (∀ t, t < x.length → x.getD t false = y.getD t false) → pre x y = true
  | [], _, _, _ => rfl
  | _ :: _, [], h, _ => absurd h (by simp)
  | a :: x, b :: y, h, g => by
    have g0 : a = b := g 0 (by simp)
    have ih := pre_of x y (by simpa using h) (fun t ht => g (t + 1) (by simpa using ht))
    subst g0
    cases a
    · exact ih
    · exact ih
theorem of_pre : ∀ (x y : List Bool), pre x y = true → x.length ≤ y.length ∧ ∀ t, t < x.length → x.getD t false = y.getD t false
  | [], _, _ => ⟨Nat.zero_le _, fun t ht => absurd ht (by simp)⟩
  | _ :: _, [], h => absurd (show false = true from h) Bool.false_ne_true
  | a :: x, b :: y, h => by
    have k : a = b ∧ pre x y = true := by
      cases a <;> cases b
      · exact ⟨rfl, h⟩
      · exact absurd (show false = true from h) Bool.false_ne_true
      · exact absurd (show false = true from h) Bool.false_ne_true
      · exact ⟨rfl, h⟩
    obtain ⟨l, g⟩ := of_pre x y k.2
    refine ⟨by simpa using l, fun t ht => ?_⟩
    cases t with
    | zero => exact k.1
    | succ t => exact g t (by simpa using ht)
/-- whether a word begins at one of the first places -/
def seen (x : List Bool) : Nat → List Bool → Bool
  | 0, _ => false
  | _ + 1, [] => false
  | k + 1, b :: y => pre x (b :: y) || seen x k y
theorem seen_no {x : List Bool} : ∀ (k : Nat) (y : List Bool), seen x k y = false → ∀ a, a < k → a < y.length → pre x (y.drop a) = false
  | 0, _, _, _, h, _ => absurd h (Nat.not_lt_zero _)
  | _ + 1, [], _, _, _, h => absurd h (Nat.not_lt_zero _)
  | k + 1, b :: y, h, a, ha, hy => by
    have h' : (pre x (b :: y) || seen x k y) = false := h
    rw [Bool.or_eq_false_iff] at h'
    cases a with
    | zero => exact h'.1
    | succ a => exact seen_no k y h'.2 a (by omega) (by simpa using hy)
/-- the longest mirrored part that ends at e, of at most so many bits -/
def lpsW (u : List Bool) (e : Nat) : Nat → Nat
  | 0 => 0
  | l + 1 => cond (pre (((u.take e).reverse).take (l + 1)) (u.drop (e - (l + 1)))) (l + 1) (lpsW u e l)
def richW (u : List Bool) : Nat → Nat → Nat → Bool
  | 0, _, _ => true
  | k + 1, e, L =>
    match lpsW u e (min (L + 2) e) with
    | 0 => false
    | l + 1 => cond (seen ((u.drop (e - (l + 1))).take (l + 1)) (e - (l + 1)) u) false (richW u k (e + 1) (l + 1))
theorem lpsW_at {u : List Bool} {e : Nat} : ∀ s l, lpsW u e s = l + 1 → l + 1 ≤ s ∧ pre (((u.take e).reverse).take (l + 1)) (u.drop (e - (l + 1))) = true
  | 0, l, h => absurd (show 0 = l + 1 from h) (by omega)
  | s + 1, l, h => by
    have h' : cond (pre (((u.take e).reverse).take (s + 1)) (u.drop (e - (s + 1)))) (s + 1) (lpsW u e s) = l + 1 := h
    cases q : pre (((u.take e).reverse).take (s + 1)) (u.drop (e - (s + 1)))
    · rw [q] at h'
      have := lpsW_at s l h'
      exact ⟨by omega, this.2⟩
    · rw [q] at h'
      have e0 : s + 1 = l + 1 := h'
      rw [← e0]
      exact ⟨Nat.le_refl _, q⟩
theorem getD_rev_take {u : List Bool} {e l t : Nat} (he : e ≤ u.length) (hl : l ≤ e) (ht : t < l) : (((u.take e).reverse).take l).getD t false = u.getD (e - 1 - t) false := by
  rw [List.getD_eq_getElem?_getD, List.getD_eq_getElem?_getD, List.getElem?_take_of_lt ht, List.getElem?_reverse (by rw [List.length_take]; omega), List.getElem?_take_of_lt (by rw [List.length_take]; omega), show (u.take e).length - 1 - t = e - 1 - t by rw [List.length_take]; omega]
theorem getD_drop_at {u : List Bool} {a t : Nat} : (u.drop a).getD t false = u.getD (a + t) false := by
  rw [List.getD_eq_getElem?_getD, List.getD_eq_getElem?_getD, List.getElem?_drop]
theorem richW_at {u : List Bool} : ∀ k e L, e + k ≤ u.length + 1 → richW u k e L = true → ∀ i, i < k → ∃ b, b < e + i ∧ mrF u b (e + i - b) = 1
  | 0, _, _, _, _, _, h => absurd h (Nat.not_lt_zero _)
  | k + 1, e, L, hk, h, i, hi => by
    unfold richW at h
    cases q : lpsW u e (min (L + 2) e) with
    | zero => rw [q] at h; exact absurd (show false = true from h) Bool.false_ne_true
    | succ l =>
      rw [q] at h
      obtain ⟨q1, q2⟩ := lpsW_at _ _ q
      have he : l + 1 ≤ e := Nat.le_trans q1 (Nat.min_le_right _ _)
      have h' : cond (seen ((u.drop (e - (l + 1))).take (l + 1)) (e - (l + 1)) u) false (richW u k (e + 1) (l + 1)) = true := h
      cases z : seen ((u.drop (e - (l + 1))).take (l + 1)) (e - (l + 1)) u
      · rw [z] at h'
        cases i with
        | zero =>
          refine ⟨e - (l + 1), by omega, ?_⟩
          have e1 : e + 0 - (e - (l + 1)) = l + 1 := by omega
          rw [e1]
          have m : mir u (e - (l + 1)) (l + 1) = true := by
            refine decide_eq_true ?_
            intro t ht
            obtain ⟨-, g⟩ := of_pre _ _ q2
            have g1 := g t (by rw [List.length_take, List.length_reverse, List.length_take]; omega)
            rw [getD_rev_take (by omega) he ht, getD_drop_at] at g1
            rw [← g1, show e - (l + 1) + (l + 1) - 1 - t = e - 1 - t by omega]
          have n : er u (e - (l + 1)) (l + 1) (e - (l + 1)) = false := by
            have key : ∀ j, j ≤ e - (l + 1) → er u (e - (l + 1)) (l + 1) j = false := by
              intro j
              induction j with
              | zero => intro _; rfl
              | succ j ih =>
                intro hj
                refine er_no (ih (by omega)) ?_
                have p := seen_no _ _ z j (by omega) (by omega)
                cases w : lk u j (e - (l + 1)) (l + 1)
                · rfl
                · rw [← p]
                  symm
                  refine pre_of _ _ (by rw [List.length_take, List.length_drop, List.length_drop]; omega) (fun t ht => ?_)
                  have ht' : t < l + 1 := by rw [List.length_take] at ht; omega
                  rw [getD_take ht', getD_drop_at, getD_drop_at]
                  have w' := of_decide_eq_true w
                  have w2 := w' t ht'
                  unfold rg at w2
                  rw [Nat.mod_eq_of_lt (by omega), Nat.mod_eq_of_lt (by omega)] at w2
                  exact w2.symm
            exact key _ (Nat.le_refl _)
          show b2n (decide (1 ≤ l + 1 ∧ e - (l + 1) + (l + 1) ≤ u.length) && (mir u (e - (l + 1)) (l + 1) && !er u (e - (l + 1)) (l + 1) (e - (l + 1)))) = 1
          rw [m, n, decide_eq_true (by omega)]; rfl
        | succ i =>
          obtain ⟨b, b1, b2⟩ := richW_at k (e + 1) (l + 1) (by omega) h' i (by omega)
          refine ⟨b, by omega, ?_⟩
          rw [show e + (i + 1) - b = e + 1 + i - b by omega]
          exact b2
      · rw [z] at h'; exact absurd (show false = true from h') Bool.false_ne_true
theorem mirrors_ge {u : List Bool} (hu : u.length ≤ 64) (h : ∀ e, e < u.length → ∃ b, b < e + 1 ∧ mrF u b (e + 1 - b) = 1) : u.length ≤ sm (fun a => sm (mrF u a) 66) u.length := by
  have s1 : ∀ a, a < u.length → sm (mrF u a) 66 = sm (fun e => if a ≤ e then mrF u a (e - a) else 0) (u.length + 1) := fun a ha => by
    have e0 : u.length + 1 = a + (u.length + 1 - a) := by omega
    rw [e0, sm_split, sm_congr (g := fun _ => 0) a (fun i hi => if_neg (by omega)), sm_nil, Nat.zero_add]
    rw [sm_congr (g := mrF u a) (u.length + 1 - a) (fun i hi => by rw [if_pos (by omega)]; congr 1; omega)]
    exact sm_tail _ 66 (by omega) (fun l hl => mrF_0 (by omega))
  rw [sm_congr _ s1, sm_swap (fun a e => if a ≤ e then mrF u a (e - a) else 0) (u.length + 1) u.length]
  show _ ≤ sm (fun e => sm (fun a => if a ≤ e then mrF u a (e - a) else 0) u.length) (u.length + 1)
  rw [Nat.add_comm u.length 1, sm_split]
  have m := sm_lb (f := fun t => sm (fun a => if a ≤ 1 + t then mrF u a (1 + t - a) else 0) u.length) (c := 1) u.length (fun t ht => by
    obtain ⟨b, b2, b3⟩ := h t ht
    have := sm_lb1 (f := fun a => if a ≤ 1 + t then mrF u a (1 + t - a) else 0) (c := 0) (i := b) u.length (fun _ _ => Nat.zero_le _) (by omega) (by
      rw [if_pos (by omega), Nat.add_comm 1 t, b3]; omega)
    rw [Nat.mul_zero] at this
    exact this)
  omega
/-- a run of so many places at which two words agree -/
def runs (m : Nat) : List Bool → List Bool → Nat → Bool
  | a :: x, b :: y, r => cond (cond a b (!b)) (cond (Nat.ble m (r + 1)) true (runs m x y (r + 1))) (runs m x y 0)
  | _, _, _ => false
theorem runs_now {m : Nat} : ∀ (x y : List Bool) (r : Nat), r < m → m - r ≤ x.length → m - r ≤ y.length → (∀ t, t < m - r → x.getD t false = y.getD t false) → runs m x y r = true
  | [], _, r, hr, h, _, _ => absurd h (by simp; omega)
  | _ :: _, [], r, hr, _, h, _ => absurd h (by simp; omega)
  | a :: x, b :: y, r, hr, hx, hy, g => by
    have g0 : a = b := g 0 (by omega)
    subst g0
    have e : runs m (a :: x) (a :: y) r = cond (Nat.ble m (r + 1)) true (runs m x y (r + 1)) := by
      show cond (cond a a (!a)) _ _ = _
      cases a <;> rfl
    rw [e]
    by_cases q : m ≤ r + 1
    · rw [Nat.ble_eq.mpr q]; rfl
    · have : Nat.ble m (r + 1) = false := by
        cases w : Nat.ble m (r + 1)
        · rfl
        · exact absurd (Nat.ble_eq.mp w) q
      rw [this]
      exact runs_now x y (r + 1) (by omega) (by simp at hx; omega) (by simp at hy; omega) (fun t ht => g (t + 1) (by omega))
theorem runs_at {m : Nat} : ∀ (k : Nat) (x y : List Bool) (r : Nat), r < m → k + m ≤ x.length → k + m ≤ y.length → (∀ t, t < m → x.getD (k + t) false = y.getD (k + t) false) → runs m x y r = true
  | 0, x, y, r, hr, hx, hy, g => runs_now x y r hr (by omega) (by omega) (fun t ht => by have := g t (by omega); rwa [Nat.zero_add] at this)
  | k + 1, [], _, r, hr, h, _, _ => absurd h (by simp)
  | k + 1, _ :: _, [], r, hr, _, h, _ => absurd h (by simp)
  | k + 1, a :: x, b :: y, r, hr, hx, hy, g => by
    have g' : ∀ t, t < m → x.getD (k + t) false = y.getD (k + t) false := fun t ht => by
      have := g t ht
      rw [show k + 1 + t = (k + t) + 1 by omega] at this
      exact this
    have i1 : ∀ r', r' < m → runs m x y r' = true := fun r' hr' => runs_at k x y r' hr' (by simp at hx; omega) (by simp at hy; omega) g'
    show cond (cond a b (!b)) (cond (Nat.ble m (r + 1)) true (runs m x y (r + 1))) (runs m x y 0) = true
    cases cond a b (!b)
    · exact i1 0 (by omega)
    · show cond (Nat.ble m (r + 1)) true (runs m x y (r + 1)) = true
      cases w : Nat.ble m (r + 1)
      · refine i1 (r + 1) ?_
        by_cases q : m ≤ r + 1
        · rw [Nat.ble_eq.mpr q] at w; cases w
        · omega
      · rfl
/-- nowhere a word so often side by side -/
def fewT (u : List Bool) (c : Nat) : Nat → Bool
  | 0 => true
  | p + 1 => cond (runs ((c - 1) * (p + 1)) (u.drop (p + 1)) u 0) false (fewT u c p)
theorem fewT_at {u : List Bool} {c : Nat} : ∀ n, fewT u c n = true → ∀ p, 1 ≤ p → p ≤ n → runs ((c - 1) * p) (u.drop p) u 0 = false
  | 0, _, _, h1, h2 => by omega
  | n + 1, h, p, h1, h2 => by
    have h' : cond (runs ((c - 1) * (n + 1)) (u.drop (n + 1)) u 0) false (fewT u c n) = true := h
    cases q : runs ((c - 1) * (n + 1)) (u.drop (n + 1)) u 0
    · rw [q] at h'
      by_cases z : p = n + 1
      · rw [z]; exact q
      · exact fewT_at n h' p h1 (by omega)
    · rw [q] at h'; exact absurd (show false = true from h') Bool.false_ne_true
theorem fewT_le {u : List Bool} {c : Nat} (hc : 2 ≤ c) (h : fewT u c u.length = true) {r : Int} (hr : isT u r) : r < c := by
  rcases hr.2 with ⟨a, _⟩ | ⟨k, p, d, a, b⟩
  · omega
  · by_cases q : d < c
    · omega
    · exfalso
      have m : c * p ≤ d * p := Nat.mul_le_mul_right p (by omega)
      have b1 := b.1
      have b3 := b.2.2.1
      have e1 : c * p = (c - 1) * p + p := by
        rw [← Nat.succ_mul]; congr 1; omega
      have m1 : 1 * 1 ≤ (c - 1) * p := Nat.mul_le_mul (by omega) b1
      have f := fewT_at _ h p b1 (by omega)
      rw [runs_at k (u.drop p) u 0 (by omega) (by rw [List.length_drop]; omega) (by omega) (fun t ht => by
        rw [getD_drop_at, show p + (k + t) = k + t + p by omega]
        exact (b.2.2.2 (k + t) (by omega) (by omega)).symm)] at f
      cases f
def gtT (ts : List Nat) : Nat := ts.foldl max 0
def rowF (ts : List Nat) : Bool := frc (grw ts).2 (fun u => fewT u (gtT ts + 3) u.length && richW u u.length 1 0)
theorem all_cut {α : Type} {f : α → Bool} {l : List α} {n k : Nat} (hk : 0 < k) (hl : l.length ≤ n * k) (h : ∀ i, i < n → ((l.drop (k * i)).take k).all f = true) : ∀ x ∈ l, f x = true := by
  intro x hx
  obtain ⟨j, hj, rfl⟩ := List.getElem_of_mem hx
  have hi : j / k < n := (Nat.div_lt_iff_lt_mul hk).mpr (Nat.lt_of_lt_of_le hj hl)
  refine List.all_eq_true.mp (h _ hi) _ ?_
  refine List.mem_of_getElem? (i := j % k) ?_
  rw [List.getElem?_take_of_lt (Nat.mod_lt _ hk), List.getElem?_drop, Nat.div_add_mod, List.getElem?_eq_getElem hj]
theorem rowsA_len : rowsA.length = 208 := by decide +kernel
theorem rowF_0 : ((rowsA.drop (15 * 0)).take 15).all rowF = true := by decide +kernel
theorem rowF_1 : ((rowsA.drop (15 * 1)).take 15).all rowF = true := by decide +kernel
theorem rowF_2 : ((rowsA.drop (15 * 2)).take 15).all rowF = true := by decide +kernel
theorem rowF_3 : ((rowsA.drop (15 * 3)).take 15).all rowF = true := by decide +kernel
theorem rowF_4 : ((rowsA.drop (15 * 4)).take 15).all rowF = true := by decide +kernel
theorem rowF_5 : ((rowsA.drop (15 * 5)).take 15).all rowF = true := by decide +kernel
theorem rowF_6 : ((rowsA.drop (15 * 6)).take 15).all rowF = true := by decide +kernel
theorem rowF_7 : ((rowsA.drop (15 * 7)).take 15).all rowF = true := by decide +kernel
theorem rowF_8 : ((rowsA.drop (15 * 8)).take 15).all rowF = true := by decide +kernel
theorem rowF_9 : ((rowsA.drop (15 * 9)).take 15).all rowF = true := by decide +kernel
theorem rowF_10 : ((rowsA.drop (15 * 10)).take 15).all rowF = true := by decide +kernel
theorem rowF_11 : ((rowsA.drop (15 * 11)).take 15).all rowF = true := by decide +kernel
theorem rowF_12 : ((rowsA.drop (15 * 12)).take 15).all rowF = true := by decide +kernel
theorem rowF_13 : ((rowsA.drop (15 * 13)).take 15).all rowF = true := by decide +kernel
theorem rowF_all : ∀ ts ∈ rowsA, rowF ts = true := all_cut (n := 14) (k := 15) (by decide) (by rw [rowsA_len]; decide) (fun i hi => by
  match i, hi with
  | 0, _ => exact rowF_0
  | 1, _ => exact rowF_1
  | 2, _ => exact rowF_2
  | 3, _ => exact rowF_3
  | 4, _ => exact rowF_4
  | 5, _ => exact rowF_5
  | 6, _ => exact rowF_6
  | 7, _ => exact rowF_7
  | 8, _ => exact rowF_8
  | 9, _ => exact rowF_9
  | 10, _ => exact rowF_10
  | 11, _ => exact rowF_11
  | 12, _ => exact rowF_12
  | 13, _ => exact rowF_13
  | n + 14, h => omega)
theorem rows_few (ts : List Nat) (h : ts ∈ rowsA) : fewT (grw ts).2 (gtT ts + 3) (grw ts).2.length = true := by
  have := rowF_all ts h
  unfold rowF at this
  rw [frc_eq, Bool.and_eq_true] at this
  exact this.1
theorem rows_pal (ts : List Nat) (h : ts ∈ rowsA) : ∀ e, e < (grw ts).2.length → ∃ b, b < e + 1 ∧ mrF (grw ts).2 b (e + 1 - b) = 1 := by
  have := rowF_all ts h
  unfold rowF at this
  rw [frc_eq, Bool.and_eq_true] at this
  intro e he
  obtain ⟨b, b1, b2⟩ := richW_at _ 1 0 (by omega) this.2 e he
  rw [Nat.add_comm 1 e] at b1 b2
  exact ⟨b, b1, b2⟩
/-- the ends are unlike, without these the word is mirrored -/
def endW (u : List Bool) : Bool := (u.getD (u.length - 1) false != u.getD (u.length - 2) false) && pre (u.take (u.length - 2)).reverse (u.take (u.length - 2))
def rowE (ts : List Nat) : Bool := frc (grw ts).2 (fun u => cond (Nat.ble u.length 1) true (endW u))
theorem rowE_all : rowsA.all rowE = true := by decide +kernel
theorem rows_ends (ts : List Nat) (h : ts ∈ rowsA) (h1 : 1 < (grw ts).2.length) : (grw ts).2.getD ((grw ts).2.length - 1) false ≠ (grw ts).2.getD ((grw ts).2.length - 2) false ∧ mir ((grw ts).2.take ((grw ts).2.length - 2)) 0 ((grw ts).2.length - 2) = true := by
  have := List.all_eq_true.mp rowE_all ts h
  unfold rowE at this
  rw [frc_eq] at this
  have e : Nat.ble (grw ts).2.length 1 = false := by
    cases q : Nat.ble (grw ts).2.length 1
    · rfl
    · exact absurd (Nat.ble_eq.mp q) (by omega)
  rw [e] at this
  have this : endW (grw ts).2 = true := this
  unfold endW at this
  rw [Bool.and_eq_true] at this
  refine ⟨by simpa using this.1, decide_eq_true (fun t ht => ?_)⟩
  obtain ⟨-, g⟩ := of_pre _ _ this.2
  have l : ((grw ts).2.take ((grw ts).2.length - 2)).length = (grw ts).2.length - 2 := by rw [List.length_take]; omega
  have g1 := g t (by rw [List.length_reverse, l]; exact ht)
  rw [List.getD_eq_getElem?_getD, List.getElem?_reverse (by rw [l]; exact ht), l, ← List.getD_eq_getElem?_getD] at g1
  rw [Nat.zero_add, Nat.zero_add, ← g1]
theorem rows_tailB : rowsA.all (fun ts => Nat.ble (grw ts.tail).2.length 64) = true := by decide +kernel
theorem rows_tail (ts : List Nat) (h : ts ∈ rowsA) : (grw ts.tail).2.length ≤ 64 := Nat.ble_eq.mp (List.all_eq_true.mp rows_tailB ts h)
