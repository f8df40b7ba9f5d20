/-! Spreads: no ring part has two b's more than another one. -/
theorem mxf_ge {f : Nat → Nat} : ∀ n i, i < n → f i ≤ mxf f n
  | 0, i, h => absurd h (Nat.not_lt_zero _)
  | n + 1, i, h => by
    show f i ≤ max (mxf f n) (f n)
    by_cases q : i = n
    · rw [q]; omega
    · have := mxf_ge (f := f) n i (by omega)
      omega
theorem mxf_at {f : Nat → Nat} : ∀ n, 1 ≤ n → ∃ i, i < n ∧ mxf f n = f i
  | 0, h => absurd h (by decide)
  | 1, _ => ⟨0, by decide, by show max 0 (f 0) = f 0; omega⟩
  | n + 2, _ => by
    obtain ⟨i, h1, h2⟩ := mxf_at (f := f) (n + 1) (by omega)
    by_cases q : f i ≤ f (n + 1)
    · exact ⟨n + 1, by omega, by show max (mxf f (n + 1)) (f (n + 1)) = _; omega⟩
    · exact ⟨i, by omega, by show max (mxf f (n + 1)) (f (n + 1)) = _; omega⟩
theorem mnf_at {f : Nat → Nat} {l : Nat} (hl : ∀ i, f i ≤ l) : ∀ n, 1 ≤ n → ∃ i, i < n ∧ mnf f l n = f i
  | 0, h => absurd h (by decide)
  | 1, _ => ⟨0, by decide, by show min l (f 0) = f 0; have := hl 0; omega⟩
  | n + 2, _ => by
    obtain ⟨i, h1, h2⟩ := mnf_at hl (n + 1) (by omega)
    by_cases q : f i ≤ f (n + 1)
    · exact ⟨i, by omega, by show min (mnf f l (n + 1)) (f (n + 1)) = _; omega⟩
    · exact ⟨n + 1, by omega, by show min (mnf f l (n + 1)) (f (n + 1)) = _; omega⟩
theorem mnf_ub {f : Nat → Nat} {l : Nat} : ∀ n i, i < n → mnf f l n ≤ f i
  | 0, i, h => absurd h (Nat.not_lt_zero _)
  | n + 1, i, h => by
    show min (mnf f l n) (f n) ≤ f i
    by_cases q : i = n
    · rw [q]; omega
    · have := mnf_ub (f := f) (l := l) n i (by omega)
      omega
theorem spr_le {u : List Bool} {l m : Nat} (hm : 1 ≤ m) : sprV u l m ≤ 1 ↔ ∀ i j, i < m → j < m → upF u l i ≤ upF u l j + 1 := by
  show (mxf (upF u l) m : Int) - (mnf (upF u l) l m : Int) ≤ 1 ↔ _
  constructor
  · intro h i j hi hj
    have := mxf_ge (f := upF u l) m i hi
    have := mnf_ub (f := upF u l) (l := l) m j hj
    omega
  · intro h
    obtain ⟨i, i1, i2⟩ := mxf_at (f := upF u l) m hm
    obtain ⟨j, j1, j2⟩ := mnf_at (f := upF u l) (upF_le u l) m hm
    have := h i j i1 j1
    omega
theorem begins_pos (n l : Nat) (b : Bool) : 1 ≤ begins n l b := by
  unfold begins
  split <;> omega
theorem evn_iff {u : List Bool} (h1 : 1 ≤ u.length) : evn u ↔ ∀ l, l ≤ u.length → sprV u l (begins u.length l true) ≤ 1 := by
  have e : ∀ l, begins u.length l true = u.length := fun l => by show max u.length 1 = _; omega
  constructor
  · intro h l hl
    rw [e, spr_le h1]
    exact h l hl
  · intro h l hl
    have := h l hl
    rw [e, spr_le h1] at this
    exact this
theorem evn_spr {u : List Bool} (h1 : 1 ≤ u.length) (h : evn u) {l : Nat} (hl : l ≤ u.length) (b : Bool) : sprV u l (begins u.length l b) ≤ 1 := by
  cases b
  · rw [spr_le (begins_pos _ _ _)]
    intro i j hi hj
    have e : begins u.length l false = u.length - l + 1 := rfl
    by_cases z : l = 0
    · have := upF_le u l i
      omega
    · exact h l hl i j (by omega) (by omega)
  · exact (evn_iff h1).mp h l hl
theorem evn_rgb {u : List Bool} (h1 : 1 ≤ u.length) : evn u ↔ rgb u := by
  constructor
  · intro h i j hi hj
    exact evn_lt h hi hj
  · intro h
    obtain ⟨r, r1, r2⟩ := rgb_line h h1
    exact line_evn h1 r1 r2
theorem lineV_len (n p s : Nat) : (lineW n p s).length = n := by unfold lineW; simp
theorem lineV_at {n p s t : Nat} (h : t < n) : (lineW n p s).getD t false = lineB n p s t := by
  unfold lineW
  rw [List.getD_eq_getElem?_getD, List.getElem?_map, List.getElem?_range h]; rfl
/-- so many b's as the line rises -/
theorem lineW_bn {n p s : Nat} (hp : p ≤ n) (hs : s < n) : ∀ t, t ≤ n → bn (lineW n p s) t = (t * p + s) / n
  | 0, _ => by rw [Nat.zero_mul, Nat.zero_add, Nat.div_eq_of_lt hs]; rfl
  | t + 1, h => by
    have ih := lineW_bn hp hs t (by omega)
    have e := line_step (n := n) (p := p) (x := t * p + s) (by omega) hp
    rw [bn_succ, ih, rg_lt (by rw [lineV_len]; omega), lineV_at (by omega), show (t + 1) * p + s = t * p + s + p by rw [Nat.succ_mul]; omega, e]
    rfl
theorem lineW_ones {n p s : Nat} (hp : p ≤ n) (hs : s < n) : ones (lineW n p s) = p := by
  have h := bn_len (lineW n p s)
  rw [lineV_len, lineW_bn hp hs n (Nat.le_refl _)] at h
  rw [← h, Nat.mul_comm, Nat.add_comm, Nat.add_mul_div_right _ _ (show 0 < n by omega), Nat.div_eq_of_lt hs]
  omega
theorem lineW_evn {n p s : Nat} (hn : 1 ≤ n) (hp : p ≤ n) (hs : s < n) : evn (lineW n p s) := by
  rw [evn_rgb (by rw [lineV_len]; exact hn)]
  intro i j hi hj
  rw [lineV_len] at hi hj
  rw [lineV_len, lineW_ones hp hs, lineW_bn hp hs i (by omega), lineW_bn hp hs j (by omega)]
  have a1 := Nat.div_add_mod (i * p + s) n
  have a2 := Nat.div_add_mod (j * p + s) n
  have a3 := Nat.mod_lt (i * p + s) (show 0 < n by omega)
  have a4 := Nat.mod_lt (j * p + s) (show 0 < n by omega)
  omega
/-- even words of one length with as many b's are of one ring -/
theorem evn_ring {u v : List Bool} (h1 : 1 ≤ u.length) (hl : v.length = u.length) (ho : ones v = ones u) (hu : evn u) (hv : evn v) : ∃ k, k < u.length ∧ ∀ t, t < u.length → rg u (k + t) = v.getD t false := by
  obtain ⟨r, r1, r2⟩ := evn_line hu h1
  obtain ⟨q, q1, q2⟩ := evn_line hv (by omega)
  rw [hl] at q1 q2
  have hm : ∀ x (w : List Bool), rg w (x % w.length) = rg w x := fun x w => by unfold rg; rw [Nat.mod_mod]
  refine ⟨(r + (u.length - q)) % u.length, Nat.mod_lt _ (by omega), fun t ht => ?_⟩
  have b1 := Nat.mod_lt (t + (u.length - q)) (show 0 < u.length by omega)
  have e1 := r2 _ b1
  have e2 := q2 _ b1
  rw [ho, ← e1] at e2
  have c1 : rg u (r + (t + (u.length - q)) % u.length) = rg u ((r + (u.length - q)) % u.length + t) := by
    rw [← hm, ← hm ((r + (u.length - q)) % u.length + t)]
    congr 1
    rw [Nat.add_mod, Nat.mod_mod, ← Nat.add_mod, Nat.add_mod ((r + (u.length - q)) % u.length), Nat.mod_mod, ← Nat.add_mod]
    congr 1; omega
  have c2 : rg v (q + (t + (u.length - q)) % u.length) = rg v t := by
    rw [← hm, ← hm t]
    congr 1
    rw [hl, Nat.add_mod, Nat.mod_mod, ← Nat.add_mod, show q + (t + (u.length - q)) = t + u.length by omega, Nat.add_mod_right]
  rw [← c1, ← e2, c2, rg_lt (by omega)]
theorem rg_mod (u : List Bool) (k x : Nat) : rg u (k + x % u.length) = rg u (k + x) := by
  unfold rg
  rw [Nat.add_mod, Nat.mod_mod, ← Nat.add_mod]
theorem evn_rot {u v : List Bool} {k : Nat} (hl : v.length = u.length) (h : ∀ t, t < u.length → rg u (k + t) = v.getD t false) (hu : evn u) : evn v := by
  intro l hv i j hi hj
  rw [hl] at hv hi hj
  have key : ∀ x, upF v l x = upF u l ((k + x) % u.length) := fun x => by
    refine sm_congr _ (fun t _ => ?_)
    have hm := Nat.mod_lt (x + t) (show 0 < u.length by omega)
    have e1 : rg v (x + t) = v.getD ((x + t) % u.length) false := by unfold rg; rw [hl]
    rw [e1, ← h _ hm, rg_mod, Nat.add_comm ((k + x) % u.length), rg_mod]
    congr 2; omega
  rw [key, key]
  exact hu l hv _ _ (Nat.mod_lt _ (by omega)) (Nat.mod_lt _ (by omega))
/-- a word is even just if it stands in the ring of the line's word -/
theorem evn_find {w : List Bool} (h1 : 1 ≤ w.length) : (0 ≤ fndU (lineW w.length (ones w) 0 ++ lineW w.length (ones w) 0) w ((lineW w.length (ones w) 0 ++ lineW w.length (ones w) 0).length + 1) 0) ↔ evn w := by
  have hp := ones_le w
  have ll := lineV_len w.length (ones w) 0
  have lo := lineW_ones (n := w.length) (p := ones w) (s := 0) hp (by omega)
  constructor
  · intro h
    obtain ⟨k, -, k2, -, k4⟩ := fndU_ge _ _ h
    have hk : k ≤ w.length := by
      unfold stands at k4
      rw [Bool.and_eq_true, decide_eq_true_eq, List.length_append, ll] at k4
      omega
    rw [stands_dbl ll.symm (by rw [ll]; exact hk)] at k4
    exact evn_rot ll.symm k4 (lineW_evn h1 hp (by omega))
  · intro h
    obtain ⟨k, k1, k2⟩ := evn_ring (u := lineW w.length (ones w) 0) (v := w) (by rw [ll]; exact h1) ll.symm lo.symm (lineW_evn h1 hp (by omega)) h
    rw [ll] at k1
    have := fndU_yes (u := lineW w.length (ones w) 0 ++ lineW w.length (ones w) 0) (v := w) ((lineW w.length (ones w) 0 ++ lineW w.length (ones w) 0).length + 1) 0 k (Nat.zero_le _) (by rw [List.length_append, ll]; omega) ((stands_dbl ll.symm (by rw [ll]; omega)).mpr k2)
    omega
