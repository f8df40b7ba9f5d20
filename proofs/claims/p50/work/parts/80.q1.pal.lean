/-! Mirrored parts: no more than signs; folds and turned words. -/
theorem sm_one {f : Nat → Nat} (h1 : ∀ i, f i ≤ 1) : ∀ n, (∀ i j, i < n → j < n → f i = 1 → f j = 1 → i = j) → sm f n ≤ 1
  | 0, _ => by simp [sm]
  | n + 1, h => by
    show sm f n + f n ≤ 1
    have a := h1 n
    by_cases q : f n = 0
    · have := sm_one h1 n (fun i j hi hj => h i j (by omega) (by omega))
      omega
    · have z : sm f n = 0 := by
        rw [sm_congr (g := fun _ => 0) n (fun i hi => ?_), sm_nil]
        by_cases y : f i = 0
        · exact y
        · have b := h1 i
          have := h i n (by omega) (by omega) (by omega) (by omega)
          omega
      omega
theorem sm_mono {f g : Nat → Nat} : ∀ n, (∀ i, i < n → f i ≤ g i) → sm f n ≤ sm g n
  | 0, _ => Nat.le_refl _
  | n + 1, h => by
    have := sm_mono n (fun i hi => h i (by omega))
    have := h n (by omega)
    show sm f n + f n ≤ sm g n + g n
    omega
theorem mrF_le (u : List Bool) (a l : Nat) : mrF u a l ≤ 1 := b2n_le _
theorem mrF_1 {u : List Bool} {a l : Nat} (h : mrF u a l = 1) : 1 ≤ l ∧ a + l ≤ u.length ∧ mir u a l = true ∧ er u a l a = false := by
  by_cases q : 1 ≤ l ∧ a + l ≤ u.length
  · have e : mrF u a l = b2n (mir u a l && !er u a l a) := by
      show b2n (decide _ && _) = _
      rw [decide_eq_true q, Bool.true_and]
    rw [e] at h
    refine ⟨q.1, q.2, ?_⟩
    cases x : mir u a l <;> cases y : er u a l a <;> rw [x, y] at h <;> first | exact ⟨rfl, rfl⟩ | (exact absurd h (by decide))
  · rw [mrF_0 q] at h; cases h
/-- of two mirrored parts that end at one place the shorter one is read earlier -/
theorem mir_two {u : List Bool} {a b l m : Nat} (hab : a < b) (he : a + l = b + m) (hu : b + m ≤ u.length) (h1 : mir u a l = true) (h2 : mir u b m = true) : er u b m b = true := by
  refine er_up (i := a + 1) (er_yes (decide_eq_true (fun t ht => ?_))) b (by omega)
  have p1 := of_decide_eq_true h1
  have p2 := of_decide_eq_true h2
  rw [rg_lt (by omega), rg_lt (by omega)]
  have e2 := p2 t ht
  have e1 := p1 t (by omega)
  rw [e2, e1]
  congr 1
  omega
theorem mirrors_le {u : List Bool} (hu : u.length ≤ 64) : sm (fun a => sm (mrF u a) 66) u.length ≤ u.length := by
  have s1 : ∀ a, a < u.length → sm (mrF u a) 66 = sm (fun e => if a ≤ e then mrF u a (e - a) else 0) (u.length + 1) := fun a ha => by
    have e0 : u.length + 1 = a + (u.length + 1 - a) := by omega
    rw [e0, sm_split, sm_congr (g := fun _ => 0) a (fun i hi => if_neg (by omega)), sm_nil, Nat.zero_add]
    rw [sm_congr (g := mrF u a) (u.length + 1 - a) (fun i hi => by rw [if_pos (by omega)]; congr 1; omega)]
    exact sm_tail _ 66 (by omega) (fun l hl => mrF_0 (by omega))
  rw [sm_congr _ s1, sm_swap (fun a e => if a ≤ e then mrF u a (e - a) else 0) (u.length + 1) u.length]
  show sm (fun e => sm (fun a => if a ≤ e then mrF u a (e - a) else 0) u.length) (u.length + 1) ≤ _
  rw [Nat.add_comm, sm_split]
  have z : sm (fun e => sm (fun a => if a ≤ e then mrF u a (e - a) else 0) u.length) 1 = 0 := by
    show 0 + sm (fun a => if a ≤ 0 then mrF u a (0 - a) else 0) u.length = 0
    rw [Nat.zero_add, sm_congr (g := fun _ => 0) _ (fun a _ => ?_), sm_nil]
    split
    · exact mrF_0 (by omega)
    · rfl
  rw [z, Nat.zero_add]
  have m := sm_mono (f := fun t => sm (fun a => if a ≤ 1 + t then mrF u a (1 + t - a) else 0) u.length) (g := fun _ => 1) u.length (fun t ht => ?_)
  · rw [sm_mul, Nat.mul_one] at m
    exact m
  · refine sm_one (fun a => ?_) _ (fun a b ha hb h1 h2 => ?_)
    · skip
      split
      · exact mrF_le _ _ _
      · omega
    · skip
      by_cases q1 : a ≤ 1 + t
      · by_cases q2 : b ≤ 1 + t
        · rw [if_pos q1] at h1
          rw [if_pos q2] at h2
          have a1 := mrF_1 h1
          have b1 := mrF_1 h2
          rcases Nat.lt_trichotomy a b with z | z | z
          · have := mir_two z (by omega) (by omega) a1.2.2.1 b1.2.2.1
            rw [b1.2.2.2] at this; cases this
          · exact z
          · have := mir_two z (by omega) (by omega) b1.2.2.1 a1.2.2.1
            rw [a1.2.2.2] at this; cases this
        · rw [if_neg q2] at h2; cases h2
      · rw [if_neg q1] at h1; cases h1
theorem folds_le (u : List Bool) : sm (flF u) u.length ≤ u.length := smb_le _ _
/-- a word stands in the ring of another from a place on -/
theorem stands_dbl {u v : List Bool} (hv : v.length = u.length) {k : Nat} (hk : k ≤ u.length) : stands (u ++ u) v k = true ↔ ∀ t, t < u.length → rg u (k + t) = v.getD t false := by
  have hd : ∀ t, t < u.length → ((u ++ u).drop k).getD t false = rg u (k + t) := fun t ht => by
    rw [List.getD_eq_getElem?_getD, List.getElem?_drop]
    unfold rg
    by_cases q : k + t < u.length
    · rw [List.getElem?_append_left q, ← List.getD_eq_getElem?_getD, Nat.mod_eq_of_lt q]
    · rw [List.getElem?_append_right (by omega), ← List.getD_eq_getElem?_getD, Nat.mod_eq_sub_mod (by omega), Nat.mod_eq_of_lt (by omega)]
  unfold stands
  rw [Bool.and_eq_true, decide_eq_true_eq, decide_eq_true_eq, List.length_append, hv]
  constructor
  · rintro ⟨-, h⟩ t ht
    rw [← hd t ht, ← h, getD_take ht]
  · intro h
    refine ⟨by omega, ?_⟩
    refine List.ext_getElem? (fun t => ?_)
    by_cases q : t < u.length
    · rw [List.getElem?_take_of_lt q]
      have l1 : t < ((u ++ u).drop k).length := by rw [List.length_drop, List.length_append]; omega
      rw [getD_lt l1, getD_lt (by omega), hd t q, h t q]
    · rw [List.getElem?_eq_none (by rw [List.length_take]; omega), List.getElem?_eq_none (by omega)]
theorem fndU_at {u v : List Bool} : ∀ e i, (∀ j, i ≤ j → j < i + e → stands u v j = false) → fndU u v e i = -1
  | 0, _, _ => rfl
  | e + 1, i, h => by
    unfold fndU
    rw [h i (Nat.le_refl _) (by omega), if_neg (by decide)]
    exact fndU_at e (i + 1) (fun j h1 h2 => h j (by omega) (by omega))
theorem fndU_yes {u v : List Bool} : ∀ e i j, i ≤ j → j < i + e → stands u v j = true → (i : Int) ≤ fndU u v e i ∧ fndU u v e i ≤ j
  | 0, i, j, h1, h2, _ => by omega
  | e + 1, i, j, h1, h2, h => by
    unfold fndU
    by_cases q : stands u v i = true
    · rw [if_pos q]; omega
    · rw [if_neg q]
      by_cases z : i = j
      · subst z; exact absurd h q
      · have := fndU_yes e (i + 1) j (by omega) (by omega) h
        omega
theorem fndU_ge {u v : List Bool} : ∀ e i, 0 ≤ fndU u v e i → ∃ j, i ≤ j ∧ j < i + e ∧ fndU u v e i = j ∧ stands u v j = true
  | 0, _, h => by unfold fndU at h; omega
  | e + 1, i, h => by
    unfold fndU at h ⊢
    by_cases q : stands u v i = true
    · rw [if_pos q]; exact ⟨i, Nat.le_refl _, by omega, rfl, q⟩
    · rw [if_neg q] at h ⊢
      obtain ⟨j, h1, h2, h3, h4⟩ := fndU_ge e (i + 1) h
      exact ⟨j, by omega, by omega, h3, h4⟩
/-- both parts of a word are mirrored just if the turned word is the ring read from the cut on -/
theorem fold_rev {u : List Bool} {p : Nat} (hp : p < u.length) : (mir u 0 p && mir u p (u.length - p)) = true ↔ ∀ t, t < u.length → rg u (p + t) = u.reverse.getD t false := by
  have hr : ∀ t, t < u.length → u.reverse.getD t false = u.getD (u.length - 1 - t) false := fun t ht => by
    rw [List.getD_eq_getElem?_getD, List.getElem?_reverse ht, ← List.getD_eq_getElem?_getD]
  rw [Bool.and_eq_true, decide_eq_true_eq, decide_eq_true_eq]
  constructor
  · rintro ⟨h1, h2⟩ t ht
    rw [hr t ht]
    unfold rg
    by_cases q : p + t < u.length
    · rw [Nat.mod_eq_of_lt q, h2 t (by omega)]
      congr 1; omega
    · rw [Nat.mod_eq_sub_mod (by omega), Nat.mod_eq_of_lt (by omega)]
      have := h1 (p + t - u.length) (by omega)
      rw [Nat.zero_add] at this
      rw [this]
      congr 1; omega
  · intro h
    constructor
    · intro t ht
      have := h (u.length - p + t) (by omega)
      rw [hr _ (by omega)] at this
      unfold rg at this
      rw [show p + (u.length - p + t) = u.length + t by omega, Nat.add_mod_left, Nat.mod_eq_of_lt (by omega)] at this
      rw [Nat.zero_add, this]
      congr 1; omega
    · intro t ht
      have := h t (by omega)
      rw [hr _ (by omega), rg_lt (by omega)] at this
      rw [this]
      congr 1; omega
/-- the turned word is of the word's own ring just if there is a fold -/
theorem turned_fold {u : List Bool} (h1 : 1 ≤ u.length) : (0 ≤ fndU (u ++ u) u.reverse ((u ++ u).length + 1) 0) ↔ 0 < sm (flF u) u.length := by
  have hl : u.reverse.length = u.length := List.length_reverse
  constructor
  · intro h
    obtain ⟨k, -, k2, -, k4⟩ := fndU_ge _ _ h
    have hk : k ≤ u.length := by
      unfold stands at k4
      rw [Bool.and_eq_true, decide_eq_true_eq, List.length_append, hl] at k4
      omega
    rw [stands_dbl hl hk] at k4
    have k5 : ∀ t, t < u.length → rg u (k % u.length + t) = u.reverse.getD t false := fun t ht => by
      rw [← k4 t ht]
      unfold rg
      rw [Nat.add_mod, Nat.mod_mod, ← Nat.add_mod]
    have hm := Nat.mod_lt k (show 0 < u.length by omega)
    have f := (fold_rev hm).mpr k5
    have e : flF u (k % u.length) = 1 := by show b2n _ = 1; rw [f]; rfl
    have := sm_lb1 (f := flF u) (c := 0) (i := k % u.length) u.length (fun _ _ => Nat.zero_le _) hm (by omega)
    omega
  · intro h
    by_cases q : ∃ p, p < u.length ∧ (mir u 0 p && mir u p (u.length - p)) = true
    · obtain ⟨p, p1, p2⟩ := q
      have := fndU_yes (u := u ++ u) (v := u.reverse) ((u ++ u).length + 1) 0 p (Nat.zero_le _) (by rw [List.length_append]; omega) ((stands_dbl hl (by omega)).mpr ((fold_rev p1).mp p2))
      omega
    · have z : sm (flF u) u.length = 0 := by
        rw [sm_congr (g := fun _ => 0) _ (fun p hp => ?_), sm_nil]
        show b2n _ = 0
        rw [Bool.eq_false_iff.mpr (fun y => q ⟨p, hp, y⟩)]
        rfl
      omega
/-- a word with two folds is a shorter word told several times -/
theorem two_folds {u : List Bool} (h2 : 2 ≤ sm (flF u) u.length) : fndU (u ++ u) u ((u ++ u).length + 1 - 1) 1 < u.length := by
  obtain ⟨p, q, pq, hq, f1, f2⟩ : ∃ p q, p < q ∧ q < u.length ∧ (mir u 0 p && mir u p (u.length - p)) = true ∧ (mir u 0 q && mir u q (u.length - q)) = true := by
    by_cases z : ∃ p q, p < q ∧ q < u.length ∧ (mir u 0 p && mir u p (u.length - p)) = true ∧ (mir u 0 q && mir u q (u.length - q)) = true
    · exact z
    · have := sm_one (f := flF u) (fun i => b2n_le _) u.length (fun i j hi hj h1 h2 => by
        have c1 : (mir u 0 i && mir u i (u.length - i)) = true := by
          cases x : (mir u 0 i && mir u i (u.length - i))
          · exfalso
            have : b2n (mir u 0 i && mir u i (u.length - i)) = 1 := h1
            rw [x] at this; cases this
          · rfl
        have c2 : (mir u 0 j && mir u j (u.length - j)) = true := by
          cases x : (mir u 0 j && mir u j (u.length - j))
          · exfalso
            have : b2n (mir u 0 j && mir u j (u.length - j)) = 1 := h2
            rw [x] at this; cases this
          · rfl
        rcases Nat.lt_trichotomy i j with y | y | y
        · exact absurd ⟨i, j, y, hj, c1, c2⟩ z
        · exact y
        · exact absurd ⟨j, i, y, hi, c2, c1⟩ z)
      omega
  have e1 := (fold_rev (show p < u.length by omega)).mp f1
  have e2 := (fold_rev hq).mp f2
  have e3 : ∀ t, t < u.length → rg u (q - p + t) = u.getD t false := fun t ht => by
    have hm := Nat.mod_lt (t + u.length - p) (show 0 < u.length by omega)
    have a1 := e1 _ hm
    have a2 := e2 _ hm
    rw [← a1] at a2
    have c : ∀ x, rg u (x + (t + u.length - p) % u.length) = rg u (x + (t + u.length - p)) := fun x => by
      unfold rg
      rw [Nat.add_mod, Nat.mod_mod, ← Nat.add_mod]
    rw [c, c, show p + (t + u.length - p) = t + u.length by omega, show q + (t + u.length - p) = q - p + t + u.length by omega, rg_add, rg_add] at a2
    rw [a2, rg_lt ht]
  have := fndU_yes (u := u ++ u) (v := u) ((u ++ u).length + 1 - 1) 1 (q - p) (by omega) (by rw [List.length_append]; omega) ((stands_dbl rfl (by omega)).mpr e3)
  omega
