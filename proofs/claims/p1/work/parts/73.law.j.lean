/-! The law's cases, one theorem each. -/
section LC
variable {A B : Nat → Nat} {G : gaG} {O b L : Nat} {xs : Nat → Int32} {h : gaH} {U : Nat → List Bool} {st : GSt} {no : Int} {z : Int64} {s : Value} {i kc ks : Nat} {K : Nat → Nat → Nat → Nat → Int → gaH → Nat → Nat → Prop}

theorem m_write_u {x y : Int} : ∀ p q, (m_write st x y).2.1 p → (m_write st x y).2.1 q → p = q := by
  unfold m_write
  (try unfold exch); (try unfold settled); (try unfold takeOut)
  repeat' split
  all_goals (intro p q h1 h2; first | exact Eq.trans h1 (Eq.symm h2) | exact h1.elim)
theorem m_append_u {x y : Int} : ∀ p q, (m_append st x y).2.1 p → (m_append st x y).2.1 q → p = q := by
  unfold m_append
  (try unfold exch); (try unfold settled); (try unfold takeOut)
  repeat' split
  all_goals (intro p q h1 h2; first | exact Eq.trans h1 (Eq.symm h2) | exact h1.elim)
theorem m_insertSign_u {x y : Int} {b : Bool} : ∀ p q, (m_insertSign st x y b).2.1 p → (m_insertSign st x y b).2.1 q → p = q := by
  unfold m_insertSign
  (try unfold exch); (try unfold settled); (try unfold takeOut)
  repeat' split
  all_goals (intro p q h1 h2; first | exact Eq.trans h1 (Eq.symm h2) | exact h1.elim)
theorem m_insertSheet_u {x y z : Int} : ∀ p q, (m_insertSheet st x y z).2.1 p → (m_insertSheet st x y z).2.1 q → p = q := by
  unfold m_insertSheet
  (try unfold exch); (try unfold settled); (try unfold takeOut)
  repeat' split
  all_goals (intro p q h1 h2; first | exact Eq.trans h1 (Eq.symm h2) | exact h1.elim)
theorem m_setSign_u {x y : Int} {b : Bool} : ∀ p q, (m_setSign st x y b).2.1 p → (m_setSign st x y b).2.1 q → p = q := by
  unfold m_setSign
  (try unfold exch); (try unfold settled); (try unfold takeOut)
  repeat' split
  all_goals (intro p q h1 h2; first | exact Eq.trans h1 (Eq.symm h2) | exact h1.elim)
theorem m_removeSign_u {x y : Int} : ∀ p q, (m_removeSign st x y).2.1 p → (m_removeSign st x y).2.1 q → p = q := by
  unfold m_removeSign
  (try unfold exch); (try unfold settled); (try unfold takeOut)
  repeat' split
  all_goals (intro p q h1 h2; first | exact Eq.trans h1 (Eq.symm h2) | exact h1.elim)
theorem m_remove_u {x y z : Int} : ∀ p q, (m_remove st x y z).2.1 p → (m_remove st x y z).2.1 q → p = q := by
  unfold m_remove
  (try unfold exch); (try unfold settled); (try unfold takeOut)
  repeat' split
  all_goals (intro p q h1 h2; first | exact Eq.trans h1 (Eq.symm h2) | exact h1.elim)
theorem m_replace_u {x y z w : Int} : ∀ p q, (m_replace st x y z w).2.1 p → (m_replace st x y z w).2.1 q → p = q := by
  unfold m_replace
  (try unfold exch); (try unfold settled); (try unfold takeOut)
  repeat' split
  all_goals (intro p q h1 h2; first | exact Eq.trans h1 (Eq.symm h2) | exact h1.elim)
theorem m_cutTo_u {x y : Int} : ∀ p q, (m_cutTo st x y).2.1 p → (m_cutTo st x y).2.1 q → p = q := by
  unfold m_cutTo
  (try unfold exch); (try unfold settled); (try unfold takeOut)
  repeat' split
  all_goals (intro p q h1 h2; first | exact Eq.trans h1 (Eq.symm h2) | exact h1.elim)
theorem m_turn_u {x : Int} : ∀ p q, (m_turn st x).2.1 p → (m_turn st x).2.1 q → p = q := by
  unfold m_turn
  (try unfold exch); (try unfold settled); (try unfold takeOut)
  repeat' split
  all_goals (intro p q h1 h2; first | exact Eq.trans h1 (Eq.symm h2) | exact h1.elim)
theorem m_exchange_u {x : Int} : ∀ p q, (m_exchange st x).2.1 p → (m_exchange st x).2.1 q → p = q := by
  unfold m_exchange
  (try unfold exch); (try unfold settled); (try unfold takeOut)
  repeat' split
  all_goals (intro p q h1 h2; first | exact Eq.trans h1 (Eq.symm h2) | exact h1.elim)
theorem m_rotate_u {x y : Int} : ∀ p q, (m_rotate st x y).2.1 p → (m_rotate st x y).2.1 q → p = q := by
  unfold m_rotate
  (try unfold exch); (try unfold settled); (try unfold takeOut)
  repeat' split
  all_goals (intro p q h1 h2; first | exact Eq.trans h1 (Eq.symm h2) | exact h1.elim)
theorem m_copy_u {x y : Int} : ∀ p q, (m_copy st x y).2.1 p → (m_copy st x y).2.1 q → p = q := by
  unfold m_copy
  (try unfold exch); (try unfold settled); (try unfold takeOut)
  repeat' split
  all_goals (intro p q h1 h2; first | exact Eq.trans h1 (Eq.symm h2) | exact h1.elim)
theorem m_apply_u {x y z : Int} : ∀ p q, (m_apply st x y z).2.1 p → (m_apply st x y z).2.1 q → p = q := by
  unfold m_apply
  (try unfold exch); (try unfold settled); (try unfold takeOut)
  repeat' split
  all_goals (intro p q h1 h2; first | exact Eq.trans h1 (Eq.symm h2) | exact h1.elim)
theorem m_undo_u {x y z : Int} : ∀ p q, (m_undo st x y z).2.1 p → (m_undo st x y z).2.1 q → p = q := by
  unfold m_undo
  (try unfold exch); (try unfold settled); (try unfold takeOut)
  repeat' split
  all_goals (intro p q h1 h2; first | exact Eq.trans h1 (Eq.symm h2) | exact h1.elim)
theorem m_lay_u {x y z : Int} : ∀ p q, (m_lay st x y z).2.1 p → (m_lay st x y z).2.1 q → p = q := by
  unfold m_lay
  (try unfold exch); (try unfold settled); (try unfold takeOut)
  repeat' split
  all_goals (intro p q h1 h2; first | exact Eq.trans h1 (Eq.symm h2) | exact h1.elim)
theorem m_twos_u {x y z : Int} : ∀ p q, (m_twos st x y z).2.1 p → (m_twos st x y z).2.1 q → p = q := by
  unfold m_twos
  (try unfold exch); (try unfold settled); (try unfold takeOut)
  repeat' split
  all_goals (intro p q h1 h2; first | exact Eq.trans h1 (Eq.symm h2) | exact h1.elim)
theorem m_line_u {x y z w : Int} : ∀ p q, (m_line st x y z w).2.1 p → (m_line st x y z w).2.1 q → p = q := by
  unfold m_line
  (try unfold exch); (try unfold settled); (try unfold takeOut)
  repeat' split
  all_goals (intro p q h1 h2; first | exact Eq.trans h1 (Eq.symm h2) | exact h1.elim)
theorem m_grow_u {x y : Int} : ∀ p q, (m_grow st x y).2.1 p → (m_grow st x y).2.1 q → p = q := by
  unfold m_grow
  (try unfold exch); (try unfold settled); (try unfold takeOut)
  repeat' split
  all_goals (intro p q h1 h2; first | exact Eq.trans h1 (Eq.symm h2) | exact h1.elim)
theorem m_shrink_u {x : Int} : ∀ p q, (m_shrink st x).2.1 p → (m_shrink st x).2.1 q → p = q := by
  unfold m_shrink
  (try unfold exch); (try unfold settled); (try unfold takeOut)
  repeat' split
  all_goals (intro p q h1 h2; first | exact Eq.trans h1 (Eq.symm h2) | exact h1.elim)
theorem m_fresh_u {x : Int} : ∀ p q, (m_fresh st x).2.1 p → (m_fresh st x).2.1 q → p = q := by
  unfold m_fresh
  (try unfold exch); (try unfold settled); (try unfold takeOut)
  repeat' split
  all_goals (intro p q h1 h2; first | exact Eq.trans h1 (Eq.symm h2) | exact h1.elim)
theorem m_length_u {x : Int} : ∀ p q, (m_length st x).2.1 p → (m_length st x).2.1 q → p = q := by
  unfold m_length
  (try unfold exch); (try unfold settled); (try unfold takeOut)
  repeat' split
  all_goals (intro p q h1 h2; first | exact Eq.trans h1 (Eq.symm h2) | exact h1.elim)
theorem m_isB_u {x y : Int} : ∀ p q, (m_isB st x y).2.1 p → (m_isB st x y).2.1 q → p = q := by
  unfold m_isB
  (try unfold exch); (try unfold settled); (try unfold takeOut)
  repeat' split
  all_goals (intro p q h1 h2; first | exact Eq.trans h1 (Eq.symm h2) | exact h1.elim)
theorem m_count_u {x : Int} {b : Bool} : ∀ p q, (m_count st x b).2.1 p → (m_count st x b).2.1 q → p = q := by
  unfold m_count
  (try unfold exch); (try unfold settled); (try unfold takeOut)
  repeat' split
  all_goals (intro p q h1 h2; first | exact Eq.trans h1 (Eq.symm h2) | exact h1.elim)
theorem m_order_u {x y : Int} : ∀ p q, (m_order st x y).2.1 p → (m_order st x y).2.1 q → p = q := by
  unfold m_order
  (try unfold exch); (try unfold settled); (try unfold takeOut)
  repeat' split
  all_goals (intro p q h1 h2; first | exact Eq.trans h1 (Eq.symm h2) | exact h1.elim)
theorem m_isApart_u {x y : Int} : ∀ p q, (m_isApart st x y).2.1 p → (m_isApart st x y).2.1 q → p = q := by
  unfold m_isApart
  (try unfold exch); (try unfold settled); (try unfold takeOut)
  repeat' split
  all_goals (intro p q h1 h2; first | exact Eq.trans h1 (Eq.symm h2) | exact h1.elim)
theorem m_size_u {x : Int} {b : Bool} : ∀ p q, (m_size st x b).2.1 p → (m_size st x b).2.1 q → p = q := by
  unfold m_size
  (try unfold exch); (try unfold settled); (try unfold takeOut)
  repeat' split
  all_goals (intro p q h1 h2; first | exact Eq.trans h1 (Eq.symm h2) | exact h1.elim)
theorem m_ups_u {x : Int} {b : Bool} : ∀ p q, (m_ups st x b).2.1 p → (m_ups st x b).2.1 q → p = q := by
  unfold m_ups
  (try unfold exch); (try unfold settled); (try unfold takeOut)
  repeat' split
  all_goals (intro p q h1 h2; first | exact Eq.trans h1 (Eq.symm h2) | exact h1.elim)
theorem m_cross_u {x : Int} : ∀ p q, (m_cross st x).2.1 p → (m_cross st x).2.1 q → p = q := by
  unfold m_cross
  (try unfold exch); (try unfold settled); (try unfold takeOut)
  repeat' split
  all_goals (intro p q h1 h2; first | exact Eq.trans h1 (Eq.symm h2) | exact h1.elim)
theorem m_alike_u {x : Int} : ∀ p q, (m_alike st x).2.1 p → (m_alike st x).2.1 q → p = q := by
  unfold m_alike
  (try unfold exch); (try unfold settled); (try unfold takeOut)
  repeat' split
  all_goals (intro p q h1 h2; first | exact Eq.trans h1 (Eq.symm h2) | exact h1.elim)
theorem m_house_u {x : Int} : ∀ p q, (m_house st x).2.1 p → (m_house st x).2.1 q → p = q := by
  unfold m_house
  (try unfold exch); (try unfold settled); (try unfold takeOut)
  repeat' split
  all_goals (intro p q h1 h2; first | exact Eq.trans h1 (Eq.symm h2) | exact h1.elim)
theorem m_isB_b {x y : Int} : ∀ r, (m_isB st x y).2.1 r → r = 0 ∨ r = 1 := by
  unfold m_isB
  repeat' split
  · intro r hr; obtain rfl := hr; exact b2i_01 _
  · intro r hr; exact hr.elim
  · intro r hr; exact hr.elim
theorem m_isMirrored_x_b {x : Int} : ∀ r, (m_isMirrored_x st x).2.1 r → r = 0 ∨ r = 1 := by
  unfold m_isMirrored_x
  repeat' split
  · intro r hr; obtain rfl := hr; exact b2i_01 _
  · intro r hr; exact hr.elim
theorem m_isApart_b {x y : Int} : ∀ r, (m_isApart st x y).2.1 r → r = 0 ∨ r = 1 := by
  unfold m_isApart
  repeat' split
  · intro r hr; obtain rfl := hr; exact b2i_01 _
  · intro r hr; exact hr.elim
theorem m_find_st {x y z : Int} : (m_find st x y z).2.2 = st := by
  unfold m_find
  repeat' split
  all_goals rfl
theorem m_findLast_st {x y z : Int} : (m_findLast st x y z).2.2 = st := by
  unfold m_findLast
  repeat' split
  all_goals rfl
theorem m_folds_st {x : Int} : (m_folds st x).2.2 = st := by
  unfold m_folds
  repeat' split
  all_goals rfl
theorem m_isMirrored_st {x : Int} : (m_isMirrored st x).2.2 = st := by
  unfold m_isMirrored
  repeat' split
  all_goals rfl
theorem m_kinds_st {x y : Int} : (m_kinds st x y).2.2 = st := by
  unfold m_kinds
  repeat' split
  all_goals rfl
theorem m_least_st {x : Int} : (m_least st x).2.2 = st := by
  unfold m_least
  repeat' split
  all_goals rfl
theorem m_mirrors_st {x : Int} : (m_mirrors st x).2.2 = st := by
  unfold m_mirrors
  repeat' split
  all_goals rfl
theorem m_overlaps_st {x : Int} : (m_overlaps st x).2.2 = st := by
  unfold m_overlaps
  repeat' split
  all_goals rfl
theorem m_spread_st {x y : Int} : (m_spread st x y).2.2 = st := by
  unfold m_spread
  repeat' split
  all_goals rfl
theorem m_times_st {x : Int} : (m_times st x).2.2 = st := by
  unfold m_times
  repeat' split
  all_goals rfl
theorem j_J244 (S : lS A B G O b) (v : lV A B G O b L xs h U st st no z s) (hL : L ≤ 320) (hi : i + 5 ≤ L) (hc : 1400 ≤ kc) (hs : 75000 ≤ ks) (kk : ∀ (h' : gaH) (U' : Nat → List Bool) (st' : GSt) (no' : Int) (z' : Int64) (s' : Value) (c2 s2 : Nat), lV A B G O b L xs h' U' st' st' no' z' s' → kc ≤ c2 + 1400 → ks ≤ s2 + 75000 → K b (A 22) (B 0) O ((i : Int) + 5) h' c2 s2) : w_L_law_J244 G K b (A 22) (B 0) O (i : Int) h kc ks := by
  unfold w_L_law_J244
  refine v.sc (i := i) (j := 1) (by omega) (by omega) hL ?_
  refine v.sc (i := i) (j := 2) (by omega) (by omega) hL ?_
  refine gCall_mk (by omega) (by omega) ?_
  refine l_write v.d v.o S.oA (gR_toInt _) (gR_toInt _) (fun h1 U1 z1 s1 d1 f1 o1 p1 => ?_)
  have v1 := v.cls S d1 f1 o1
  refine v1.sc (i := i) (j := 1) (by omega) (by omega) hL ?_
  refine v1.sc (i := i) (j := 2) (by omega) (by omega) hL ?_
  refine ⟨v1.m.has, ?_⟩
  refine gCall_mk (by omega) (by omega) ?_
  refine r_write v1.m (gR_toInt _) (gR_toInt _) (fun h2 r2 d2 f2 p2 => ?_)
  have v2 := v1.ref S d2 f2
  refine ⟨v2.m.has, ?_⟩
  refine r_thrown v2.m ?_
  refine cmpN (Nat.le_trans l_write_le (by decide)) m_write_u p1 p2 v2.o ?_
  exact kk _ _ _ _ _ _ _ _ v2 (by omega) (by omega)
theorem j_J313 (S : lS A B G O b) (v : lV A B G O b L xs h U st st no z s) (hL : L ≤ 320) (hi : i + 5 ≤ L) (hc : 1400 ≤ kc) (hs : 75000 ≤ ks) (kk : ∀ (h' : gaH) (U' : Nat → List Bool) (st' : GSt) (no' : Int) (z' : Int64) (s' : Value) (c2 s2 : Nat), lV A B G O b L xs h' U' st' st' no' z' s' → kc ≤ c2 + 1400 → ks ≤ s2 + 75000 → K b (A 22) (B 0) O ((i : Int) + 5) h' c2 s2) : w_L_law_J313 G K b (A 22) (B 0) O (i : Int) h kc ks := by
  unfold w_L_law_J313
  refine v.sc (i := i) (j := 1) (by omega) (by omega) hL ?_
  refine v.sc (i := i) (j := 2) (by omega) (by omega) hL ?_
  refine gCall_mk (by omega) (by omega) ?_
  refine l_append v.d v.o S.oA (gR_toInt _) (gR_toInt _) (fun h1 U1 z1 s1 d1 f1 o1 p1 => ?_)
  have v1 := v.cls S d1 f1 o1
  refine v1.sc (i := i) (j := 1) (by omega) (by omega) hL ?_
  refine v1.sc (i := i) (j := 2) (by omega) (by omega) hL ?_
  refine ⟨v1.m.has, ?_⟩
  refine gCall_mk (by omega) (by omega) ?_
  refine r_append v1.m (gR_toInt _) (gR_toInt _) (fun h2 r2 d2 f2 p2 => ?_)
  have v2 := v1.ref S d2 f2
  refine ⟨v2.m.has, ?_⟩
  refine r_thrown v2.m ?_
  refine cmpN (Nat.le_trans l_append_le (by decide)) m_append_u p1 p2 v2.o ?_
  exact kk _ _ _ _ _ _ _ _ v2 (by omega) (by omega)
theorem j_J382 (S : lS A B G O b) (v : lV A B G O b L xs h U st st no z s) (hL : L ≤ 320) (hi : i + 5 ≤ L) (hc : 1400 ≤ kc) (hs : 75000 ≤ ks) (kk : ∀ (h' : gaH) (U' : Nat → List Bool) (st' : GSt) (no' : Int) (z' : Int64) (s' : Value) (c2 s2 : Nat), lV A B G O b L xs h' U' st' st' no' z' s' → kc ≤ c2 + 1400 → ks ≤ s2 + 75000 → K b (A 22) (B 0) O ((i : Int) + 5) h' c2 s2) : w_L_law_J382 G K b (A 22) (B 0) O (i : Int) h kc ks := by
  by_cases q : (xs (i + 3)).toInt = 0
  · unfold w_L_law_J382
    refine v.sc (i := i) (j := 1) (by omega) (by omega) hL ?_
    refine v.sc (i := i) (j := 2) (by omega) (by omega) hL ?_
    refine v.sc (i := i) (j := 3) (by omega) (by omega) hL ?_
    refine ⟨gR_toInt _, ?_⟩
    refine if_yes q ?_
    unfold w_L_law_J409
    refine gCall_mk (by omega) (by omega) ?_
    refine l_insertSign v.d v.o S.oA (gR_toInt _) (gR_toInt _) (show (0 : Int) = b2i false from rfl) (fun h1 U1 z1 s1 d1 f1 o1 p1 => ?_)
    have v1 := v.cls S d1 f1 o1
    refine v1.sc (i := i) (j := 1) (by omega) (by omega) hL ?_
    refine v1.sc (i := i) (j := 2) (by omega) (by omega) hL ?_
    refine v1.sc (i := i) (j := 3) (by omega) (by omega) hL ?_
    refine ⟨gR_toInt _, ?_⟩
    refine if_yes q ?_
    unfold w_L_law_J442
    refine ⟨v1.m.has, ?_⟩
    refine gCall_mk (by omega) (by omega) ?_
    refine r_insertSign v1.m (gR_toInt _) (gR_toInt _) (show (0 : Int) = b2i false from rfl) (fun h2 r2 d2 f2 p2 => ?_)
    have v2 := v1.ref S d2 f2
    refine ⟨v2.m.has, ?_⟩
    refine r_thrown v2.m ?_
    refine cmpN (Nat.le_trans l_insertSign_le (by decide)) m_insertSign_u p1 p2 v2.o ?_
    exact kk _ _ _ _ _ _ _ _ v2 (by omega) (by omega)
  · unfold w_L_law_J382
    refine v.sc (i := i) (j := 1) (by omega) (by omega) hL ?_
    refine v.sc (i := i) (j := 2) (by omega) (by omega) hL ?_
    refine v.sc (i := i) (j := 3) (by omega) (by omega) hL ?_
    refine ⟨gR_toInt _, ?_⟩
    refine if_no q ?_
    unfold w_L_law_J409
    refine gCall_mk (by omega) (by omega) ?_
    refine l_insertSign v.d v.o S.oA (gR_toInt _) (gR_toInt _) (show (1 : Int) = b2i true from rfl) (fun h1 U1 z1 s1 d1 f1 o1 p1 => ?_)
    have v1 := v.cls S d1 f1 o1
    refine v1.sc (i := i) (j := 1) (by omega) (by omega) hL ?_
    refine v1.sc (i := i) (j := 2) (by omega) (by omega) hL ?_
    refine v1.sc (i := i) (j := 3) (by omega) (by omega) hL ?_
    refine ⟨gR_toInt _, ?_⟩
    refine if_no q ?_
    unfold w_L_law_J442
    refine ⟨v1.m.has, ?_⟩
    refine gCall_mk (by omega) (by omega) ?_
    refine r_insertSign v1.m (gR_toInt _) (gR_toInt _) (show (1 : Int) = b2i true from rfl) (fun h2 r2 d2 f2 p2 => ?_)
    have v2 := v1.ref S d2 f2
    refine ⟨v2.m.has, ?_⟩
    refine r_thrown v2.m ?_
    refine cmpN (Nat.le_trans l_insertSign_le (by decide)) m_insertSign_u p1 p2 v2.o ?_
    exact kk _ _ _ _ _ _ _ _ v2 (by omega) (by omega)
theorem j_J479 (S : lS A B G O b) (v : lV A B G O b L xs h U st st no z s) (hL : L ≤ 320) (hi : i + 5 ≤ L) (hc : 1400 ≤ kc) (hs : 75000 ≤ ks) (kk : ∀ (h' : gaH) (U' : Nat → List Bool) (st' : GSt) (no' : Int) (z' : Int64) (s' : Value) (c2 s2 : Nat), lV A B G O b L xs h' U' st' st' no' z' s' → kc ≤ c2 + 1400 → ks ≤ s2 + 75000 → K b (A 22) (B 0) O ((i : Int) + 5) h' c2 s2) : w_L_law_J479 G K b (A 22) (B 0) O (i : Int) h kc ks := by
  unfold w_L_law_J479
  refine v.sc (i := i) (j := 1) (by omega) (by omega) hL ?_
  refine v.sc (i := i) (j := 2) (by omega) (by omega) hL ?_
  refine v.sc (i := i) (j := 3) (by omega) (by omega) hL ?_
  refine gCall_mk (by omega) (by omega) ?_
  refine l_insertSheet v.d v.o S.oA (gR_toInt _) (gR_toInt _) (gR_toInt _) (fun h1 U1 z1 s1 d1 f1 o1 p1 => ?_)
  have v1 := v.cls S d1 f1 o1
  refine v1.sc (i := i) (j := 1) (by omega) (by omega) hL ?_
  refine v1.sc (i := i) (j := 2) (by omega) (by omega) hL ?_
  refine v1.sc (i := i) (j := 3) (by omega) (by omega) hL ?_
  refine ⟨v1.m.has, ?_⟩
  refine gCall_mk (by omega) (by omega) ?_
  refine r_insertSheet v1.m (gR_toInt _) (gR_toInt _) (gR_toInt _) (fun h2 r2 d2 f2 p2 => ?_)
  have v2 := v1.ref S d2 f2
  refine ⟨v2.m.has, ?_⟩
  refine r_thrown v2.m ?_
  refine cmpN (Nat.le_trans l_insertSheet_le (by decide)) m_insertSheet_u p1 p2 v2.o ?_
  exact kk _ _ _ _ _ _ _ _ v2 (by omega) (by omega)
theorem j_J560 (S : lS A B G O b) (v : lV A B G O b L xs h U st st no z s) (hL : L ≤ 320) (hi : i + 5 ≤ L) (hc : 1400 ≤ kc) (hs : 75000 ≤ ks) (kk : ∀ (h' : gaH) (U' : Nat → List Bool) (st' : GSt) (no' : Int) (z' : Int64) (s' : Value) (c2 s2 : Nat), lV A B G O b L xs h' U' st' st' no' z' s' → kc ≤ c2 + 1400 → ks ≤ s2 + 75000 → K b (A 22) (B 0) O ((i : Int) + 5) h' c2 s2) : w_L_law_J560 G K b (A 22) (B 0) O (i : Int) h kc ks := by
  by_cases q : (xs (i + 3)).toInt = 0
  · unfold w_L_law_J560
    refine v.sc (i := i) (j := 1) (by omega) (by omega) hL ?_
    refine v.sc (i := i) (j := 2) (by omega) (by omega) hL ?_
    refine v.sc (i := i) (j := 3) (by omega) (by omega) hL ?_
    refine ⟨gR_toInt _, ?_⟩
    refine if_yes q ?_
    unfold w_L_law_J587
    refine gCall_mk (by omega) (by omega) ?_
    refine l_setSign v.d v.o S.oA (gR_toInt _) (gR_toInt _) (show (0 : Int) = b2i false from rfl) (fun h1 U1 z1 s1 d1 f1 o1 p1 => ?_)
    have v1 := v.cls S d1 f1 o1
    refine v1.sc (i := i) (j := 1) (by omega) (by omega) hL ?_
    refine v1.sc (i := i) (j := 2) (by omega) (by omega) hL ?_
    refine v1.sc (i := i) (j := 3) (by omega) (by omega) hL ?_
    refine ⟨gR_toInt _, ?_⟩
    refine if_yes q ?_
    unfold w_L_law_J620
    refine ⟨v1.m.has, ?_⟩
    refine gCall_mk (by omega) (by omega) ?_
    refine r_setSign v1.m (gR_toInt _) (gR_toInt _) (show (0 : Int) = b2i false from rfl) (fun h2 r2 d2 f2 p2 => ?_)
    have v2 := v1.ref S d2 f2
    refine ⟨v2.m.has, ?_⟩
    refine r_thrown v2.m ?_
    refine cmpN (Nat.le_trans l_setSign_le (by decide)) m_setSign_u p1 p2 v2.o ?_
    exact kk _ _ _ _ _ _ _ _ v2 (by omega) (by omega)
  · unfold w_L_law_J560
    refine v.sc (i := i) (j := 1) (by omega) (by omega) hL ?_
    refine v.sc (i := i) (j := 2) (by omega) (by omega) hL ?_
    refine v.sc (i := i) (j := 3) (by omega) (by omega) hL ?_
    refine ⟨gR_toInt _, ?_⟩
    refine if_no q ?_
    unfold w_L_law_J587
    refine gCall_mk (by omega) (by omega) ?_
    refine l_setSign v.d v.o S.oA (gR_toInt _) (gR_toInt _) (show (1 : Int) = b2i true from rfl) (fun h1 U1 z1 s1 d1 f1 o1 p1 => ?_)
    have v1 := v.cls S d1 f1 o1
    refine v1.sc (i := i) (j := 1) (by omega) (by omega) hL ?_
    refine v1.sc (i := i) (j := 2) (by omega) (by omega) hL ?_
    refine v1.sc (i := i) (j := 3) (by omega) (by omega) hL ?_
    refine ⟨gR_toInt _, ?_⟩
    refine if_no q ?_
    unfold w_L_law_J620
    refine ⟨v1.m.has, ?_⟩
    refine gCall_mk (by omega) (by omega) ?_
    refine r_setSign v1.m (gR_toInt _) (gR_toInt _) (show (1 : Int) = b2i true from rfl) (fun h2 r2 d2 f2 p2 => ?_)
    have v2 := v1.ref S d2 f2
    refine ⟨v2.m.has, ?_⟩
    refine r_thrown v2.m ?_
    refine cmpN (Nat.le_trans l_setSign_le (by decide)) m_setSign_u p1 p2 v2.o ?_
    exact kk _ _ _ _ _ _ _ _ v2 (by omega) (by omega)
theorem j_J657 (S : lS A B G O b) (v : lV A B G O b L xs h U st st no z s) (hL : L ≤ 320) (hi : i + 5 ≤ L) (hc : 1400 ≤ kc) (hs : 75000 ≤ ks) (kk : ∀ (h' : gaH) (U' : Nat → List Bool) (st' : GSt) (no' : Int) (z' : Int64) (s' : Value) (c2 s2 : Nat), lV A B G O b L xs h' U' st' st' no' z' s' → kc ≤ c2 + 1400 → ks ≤ s2 + 75000 → K b (A 22) (B 0) O ((i : Int) + 5) h' c2 s2) : w_L_law_J657 G K b (A 22) (B 0) O (i : Int) h kc ks := by
  unfold w_L_law_J657
  refine v.sc (i := i) (j := 1) (by omega) (by omega) hL ?_
  refine v.sc (i := i) (j := 2) (by omega) (by omega) hL ?_
  refine gCall_mk (by omega) (by omega) ?_
  refine l_removeSign v.d v.o S.oA (gR_toInt _) (gR_toInt _) (fun h1 U1 z1 s1 d1 f1 o1 p1 => ?_)
  have v1 := v.cls S d1 f1 o1
  refine v1.sc (i := i) (j := 1) (by omega) (by omega) hL ?_
  refine v1.sc (i := i) (j := 2) (by omega) (by omega) hL ?_
  refine ⟨v1.m.has, ?_⟩
  refine gCall_mk (by omega) (by omega) ?_
  refine r_removeSign v1.m (gR_toInt _) (gR_toInt _) (fun h2 r2 d2 f2 p2 => ?_)
  have v2 := v1.ref S d2 f2
  refine ⟨v2.m.has, ?_⟩
  refine r_thrown v2.m ?_
  refine cmpN (Nat.le_trans l_removeSign_le (by decide)) m_removeSign_u p1 p2 v2.o ?_
  exact kk _ _ _ _ _ _ _ _ v2 (by omega) (by omega)
theorem j_J726 (S : lS A B G O b) (v : lV A B G O b L xs h U st st no z s) (hL : L ≤ 320) (hi : i + 5 ≤ L) (hc : 1400 ≤ kc) (hs : 75000 ≤ ks) (kk : ∀ (h' : gaH) (U' : Nat → List Bool) (st' : GSt) (no' : Int) (z' : Int64) (s' : Value) (c2 s2 : Nat), lV A B G O b L xs h' U' st' st' no' z' s' → kc ≤ c2 + 1400 → ks ≤ s2 + 75000 → K b (A 22) (B 0) O ((i : Int) + 5) h' c2 s2) : w_L_law_J726 G K b (A 22) (B 0) O (i : Int) h kc ks := by
  unfold w_L_law_J726
  refine v.sc (i := i) (j := 1) (by omega) (by omega) hL ?_
  refine v.sc (i := i) (j := 2) (by omega) (by omega) hL ?_
  refine v.sc (i := i) (j := 3) (by omega) (by omega) hL ?_
  refine gCall_mk (by omega) (by omega) ?_
  refine l_remove v.d v.o S.oA (gR_toInt _) (gR_toInt _) (gR_toInt _) (fun h1 U1 z1 s1 d1 f1 o1 p1 => ?_)
  have v1 := v.cls S d1 f1 o1
  refine v1.sc (i := i) (j := 1) (by omega) (by omega) hL ?_
  refine v1.sc (i := i) (j := 2) (by omega) (by omega) hL ?_
  refine v1.sc (i := i) (j := 3) (by omega) (by omega) hL ?_
  refine ⟨v1.m.has, ?_⟩
  refine gCall_mk (by omega) (by omega) ?_
  refine r_remove v1.m (gR_toInt _) (gR_toInt _) (gR_toInt _) (fun h2 r2 d2 f2 p2 => ?_)
  have v2 := v1.ref S d2 f2
  refine ⟨v2.m.has, ?_⟩
  refine r_thrown v2.m ?_
  refine cmpN (Nat.le_trans l_remove_le (by decide)) m_remove_u p1 p2 v2.o ?_
  exact kk _ _ _ _ _ _ _ _ v2 (by omega) (by omega)
theorem j_J807 (S : lS A B G O b) (v : lV A B G O b L xs h U st st no z s) (hL : L ≤ 320) (hi : i + 5 ≤ L) (hc : 1400 ≤ kc) (hs : 75000 ≤ ks) (kk : ∀ (h' : gaH) (U' : Nat → List Bool) (st' : GSt) (no' : Int) (z' : Int64) (s' : Value) (c2 s2 : Nat), lV A B G O b L xs h' U' st' st' no' z' s' → kc ≤ c2 + 1400 → ks ≤ s2 + 75000 → K b (A 22) (B 0) O ((i : Int) + 5) h' c2 s2) : w_L_law_J807 G K b (A 22) (B 0) O (i : Int) h kc ks := by
  unfold w_L_law_J807
  refine v.sc (i := i) (j := 1) (by omega) (by omega) hL ?_
  refine v.sc (i := i) (j := 2) (by omega) (by omega) hL ?_
  refine v.sc (i := i) (j := 3) (by omega) (by omega) hL ?_
  refine v.sc (i := i) (j := 4) (by omega) (by omega) hL ?_
  refine gCall_mk (by omega) (by omega) ?_
  refine l_replace v.d v.o S.oA (gR_toInt _) (gR_toInt _) (gR_toInt _) (gR_toInt _) (fun h1 U1 z1 s1 d1 f1 o1 p1 => ?_)
  have v1 := v.cls S d1 f1 o1
  refine v1.sc (i := i) (j := 1) (by omega) (by omega) hL ?_
  refine v1.sc (i := i) (j := 2) (by omega) (by omega) hL ?_
  refine v1.sc (i := i) (j := 3) (by omega) (by omega) hL ?_
  refine v1.sc (i := i) (j := 4) (by omega) (by omega) hL ?_
  refine ⟨v1.m.has, ?_⟩
  refine gCall_mk (by omega) (by omega) ?_
  refine r_replace v1.m (gR_toInt _) (gR_toInt _) (gR_toInt _) (gR_toInt _) (fun h2 r2 d2 f2 p2 => ?_)
  have v2 := v1.ref S d2 f2
  refine ⟨v2.m.has, ?_⟩
  refine r_thrown v2.m ?_
  refine cmpN (Nat.le_trans l_replace_le (by decide)) m_replace_u p1 p2 v2.o ?_
  exact kk _ _ _ _ _ _ _ _ v2 (by omega) (by omega)
theorem j_J900 (S : lS A B G O b) (v : lV A B G O b L xs h U st st no z s) (hL : L ≤ 320) (hi : i + 5 ≤ L) (hc : 1400 ≤ kc) (hs : 75000 ≤ ks) (kk : ∀ (h' : gaH) (U' : Nat → List Bool) (st' : GSt) (no' : Int) (z' : Int64) (s' : Value) (c2 s2 : Nat), lV A B G O b L xs h' U' st' st' no' z' s' → kc ≤ c2 + 1400 → ks ≤ s2 + 75000 → K b (A 22) (B 0) O ((i : Int) + 5) h' c2 s2) : w_L_law_J900 G K b (A 22) (B 0) O (i : Int) h kc ks := by
  unfold w_L_law_J900
  refine v.sc (i := i) (j := 1) (by omega) (by omega) hL ?_
  refine v.sc (i := i) (j := 2) (by omega) (by omega) hL ?_
  refine gCall_mk (by omega) (by omega) ?_
  refine l_cutTo v.d v.o S.oA (gR_toInt _) (gR_toInt _) (fun h1 U1 z1 s1 d1 f1 o1 p1 => ?_)
  have v1 := v.cls S d1 f1 o1
  refine v1.sc (i := i) (j := 1) (by omega) (by omega) hL ?_
  refine v1.sc (i := i) (j := 2) (by omega) (by omega) hL ?_
  refine ⟨v1.m.has, ?_⟩
  refine gCall_mk (by omega) (by omega) ?_
  refine r_cutTo v1.m (gR_toInt _) (gR_toInt _) (fun h2 r2 d2 f2 p2 => ?_)
  have v2 := v1.ref S d2 f2
  refine ⟨v2.m.has, ?_⟩
  refine r_thrown v2.m ?_
  refine cmpN (Nat.le_trans l_cutTo_le (by decide)) m_cutTo_u p1 p2 v2.o ?_
  exact kk _ _ _ _ _ _ _ _ v2 (by omega) (by omega)
theorem j_J969 (S : lS A B G O b) (v : lV A B G O b L xs h U st st no z s) (hL : L ≤ 320) (hi : i + 5 ≤ L) (hc : 1400 ≤ kc) (hs : 75000 ≤ ks) (kk : ∀ (h' : gaH) (U' : Nat → List Bool) (st' : GSt) (no' : Int) (z' : Int64) (s' : Value) (c2 s2 : Nat), lV A B G O b L xs h' U' st' st' no' z' s' → kc ≤ c2 + 1400 → ks ≤ s2 + 75000 → K b (A 22) (B 0) O ((i : Int) + 5) h' c2 s2) : w_L_law_J969 G K b (A 22) (B 0) O (i : Int) h kc ks := by
  unfold w_L_law_J969
  refine v.sc (i := i) (j := 1) (by omega) (by omega) hL ?_
  refine gCall_mk (by omega) (by omega) ?_
  refine l_turn v.d v.o S.oA (gR_toInt _) (fun h1 U1 z1 s1 d1 f1 o1 p1 => ?_)
  have v1 := v.cls S d1 f1 o1
  refine v1.sc (i := i) (j := 1) (by omega) (by omega) hL ?_
  refine ⟨v1.m.has, ?_⟩
  refine gCall_mk (by omega) (by omega) ?_
  refine r_turn v1.m (gR_toInt _) (fun h2 r2 d2 f2 p2 => ?_)
  have v2 := v1.ref S d2 f2
  refine ⟨v2.m.has, ?_⟩
  refine r_thrown v2.m ?_
  refine cmpN (Nat.le_trans l_turn_le (by decide)) m_turn_u p1 p2 v2.o ?_
  exact kk _ _ _ _ _ _ _ _ v2 (by omega) (by omega)
theorem j_J1026 (S : lS A B G O b) (v : lV A B G O b L xs h U st st no z s) (hL : L ≤ 320) (hi : i + 5 ≤ L) (hc : 1400 ≤ kc) (hs : 75000 ≤ ks) (kk : ∀ (h' : gaH) (U' : Nat → List Bool) (st' : GSt) (no' : Int) (z' : Int64) (s' : Value) (c2 s2 : Nat), lV A B G O b L xs h' U' st' st' no' z' s' → kc ≤ c2 + 1400 → ks ≤ s2 + 75000 → K b (A 22) (B 0) O ((i : Int) + 5) h' c2 s2) : w_L_law_J1026 G K b (A 22) (B 0) O (i : Int) h kc ks := by
  unfold w_L_law_J1026
  refine v.sc (i := i) (j := 1) (by omega) (by omega) hL ?_
  refine gCall_mk (by omega) (by omega) ?_
  refine l_exchange v.d v.o S.oA (gR_toInt _) (fun h1 U1 z1 s1 d1 f1 o1 p1 => ?_)
  have v1 := v.cls S d1 f1 o1
  refine v1.sc (i := i) (j := 1) (by omega) (by omega) hL ?_
  refine ⟨v1.m.has, ?_⟩
  refine gCall_mk (by omega) (by omega) ?_
  refine r_exchange v1.m (gR_toInt _) (fun h2 r2 d2 f2 p2 => ?_)
  have v2 := v1.ref S d2 f2
  refine ⟨v2.m.has, ?_⟩
  refine r_thrown v2.m ?_
  refine cmpN (Nat.le_trans l_exchange_le (by decide)) m_exchange_u p1 p2 v2.o ?_
  exact kk _ _ _ _ _ _ _ _ v2 (by omega) (by omega)
theorem j_J1083 (S : lS A B G O b) (v : lV A B G O b L xs h U st st no z s) (hL : L ≤ 320) (hi : i + 5 ≤ L) (hc : 1400 ≤ kc) (hs : 75000 ≤ ks) (kk : ∀ (h' : gaH) (U' : Nat → List Bool) (st' : GSt) (no' : Int) (z' : Int64) (s' : Value) (c2 s2 : Nat), lV A B G O b L xs h' U' st' st' no' z' s' → kc ≤ c2 + 1400 → ks ≤ s2 + 75000 → K b (A 22) (B 0) O ((i : Int) + 5) h' c2 s2) : w_L_law_J1083 G K b (A 22) (B 0) O (i : Int) h kc ks := by
  unfold w_L_law_J1083
  refine v.sc (i := i) (j := 1) (by omega) (by omega) hL ?_
  refine v.sc (i := i) (j := 2) (by omega) (by omega) hL ?_
  refine gCall_mk (by omega) (by omega) ?_
  refine l_rotate v.d v.o S.oA (gR_toInt _) (gR_toInt _) (fun h1 U1 z1 s1 d1 f1 o1 p1 => ?_)
  have v1 := v.cls S d1 f1 o1
  refine v1.sc (i := i) (j := 1) (by omega) (by omega) hL ?_
  refine v1.sc (i := i) (j := 2) (by omega) (by omega) hL ?_
  refine ⟨v1.m.has, ?_⟩
  refine gCall_mk (by omega) (by omega) ?_
  refine r_rotate v1.m (gR_toInt _) (gR_toInt _) (fun h2 r2 d2 f2 p2 => ?_)
  have v2 := v1.ref S d2 f2
  refine ⟨v2.m.has, ?_⟩
  refine r_thrown v2.m ?_
  refine cmpN (Nat.le_trans l_rotate_le (by decide)) m_rotate_u p1 p2 v2.o ?_
  exact kk _ _ _ _ _ _ _ _ v2 (by omega) (by omega)
theorem j_J1152 (S : lS A B G O b) (v : lV A B G O b L xs h U st st no z s) (hL : L ≤ 320) (hi : i + 5 ≤ L) (hc : 1400 ≤ kc) (hs : 75000 ≤ ks) (kk : ∀ (h' : gaH) (U' : Nat → List Bool) (st' : GSt) (no' : Int) (z' : Int64) (s' : Value) (c2 s2 : Nat), lV A B G O b L xs h' U' st' st' no' z' s' → kc ≤ c2 + 1400 → ks ≤ s2 + 75000 → K b (A 22) (B 0) O ((i : Int) + 5) h' c2 s2) : w_L_law_J1152 G K b (A 22) (B 0) O (i : Int) h kc ks := by
  unfold w_L_law_J1152
  refine v.sc (i := i) (j := 1) (by omega) (by omega) hL ?_
  refine v.sc (i := i) (j := 2) (by omega) (by omega) hL ?_
  refine gCall_mk (by omega) (by omega) ?_
  refine l_copy v.d v.o S.oA (gR_toInt _) (gR_toInt _) (fun h1 U1 z1 s1 d1 f1 o1 p1 => ?_)
  have v1 := v.cls S d1 f1 o1
  refine v1.sc (i := i) (j := 1) (by omega) (by omega) hL ?_
  refine v1.sc (i := i) (j := 2) (by omega) (by omega) hL ?_
  refine ⟨v1.m.has, ?_⟩
  refine r_copy v1.m (gR_toInt _) (gR_toInt _) (fun h2 r2 d2 f2 p2 => ?_)
  have v2 := v1.ref S d2 f2
  refine ⟨v2.m.has, ?_⟩
  refine r_thrown v2.m ?_
  refine cmpN (Nat.le_trans l_copy_le (by decide)) m_copy_u p1 p2 v2.o ?_
  exact kk _ _ _ _ _ _ _ _ v2 (by omega) (by omega)
theorem j_J1221 (S : lS A B G O b) (v : lV A B G O b L xs h U st st no z s) (hL : L ≤ 320) (hi : i + 5 ≤ L) (hc : 1400 ≤ kc) (hs : 75000 ≤ ks) (kk : ∀ (h' : gaH) (U' : Nat → List Bool) (st' : GSt) (no' : Int) (z' : Int64) (s' : Value) (c2 s2 : Nat), lV A B G O b L xs h' U' st' st' no' z' s' → kc ≤ c2 + 1400 → ks ≤ s2 + 75000 → K b (A 22) (B 0) O ((i : Int) + 5) h' c2 s2) : w_L_law_J1221 G K b (A 22) (B 0) O (i : Int) h kc ks := by
  unfold w_L_law_J1221
  refine v.sc (i := i) (j := 1) (by omega) (by omega) hL ?_
  refine v.sc (i := i) (j := 2) (by omega) (by omega) hL ?_
  refine v.sc (i := i) (j := 3) (by omega) (by omega) hL ?_
  refine gCall_mk (by omega) (by omega) ?_
  refine l_apply v.d v.o S.oA (gR_toInt _) (gR_toInt _) (gR_toInt _) (fun h1 U1 z1 s1 d1 f1 o1 p1 => ?_)
  have v1 := v.cls S d1 f1 o1
  refine v1.sc (i := i) (j := 1) (by omega) (by omega) hL ?_
  refine v1.sc (i := i) (j := 2) (by omega) (by omega) hL ?_
  refine v1.sc (i := i) (j := 3) (by omega) (by omega) hL ?_
  refine ⟨v1.m.has, ?_⟩
  refine gCall_mk (by omega) (by omega) ?_
  refine r_apply v1.m (gR_toInt _) (gR_toInt _) (gR_toInt _) (fun h2 r2 d2 f2 p2 => ?_)
  have v2 := v1.ref S d2 f2
  refine ⟨v2.m.has, ?_⟩
  refine r_thrown v2.m ?_
  refine cmpN (Nat.le_trans l_apply_le (by decide)) m_apply_u p1 p2 v2.o ?_
  exact kk _ _ _ _ _ _ _ _ v2 (by omega) (by omega)
theorem j_J1302 (S : lS A B G O b) (v : lV A B G O b L xs h U st st no z s) (hL : L ≤ 320) (hi : i + 5 ≤ L) (hc : 1400 ≤ kc) (hs : 75000 ≤ ks) (kk : ∀ (h' : gaH) (U' : Nat → List Bool) (st' : GSt) (no' : Int) (z' : Int64) (s' : Value) (c2 s2 : Nat), lV A B G O b L xs h' U' st' st' no' z' s' → kc ≤ c2 + 1400 → ks ≤ s2 + 75000 → K b (A 22) (B 0) O ((i : Int) + 5) h' c2 s2) : w_L_law_J1302 G K b (A 22) (B 0) O (i : Int) h kc ks := by
  unfold w_L_law_J1302
  refine v.sc (i := i) (j := 1) (by omega) (by omega) hL ?_
  refine v.sc (i := i) (j := 2) (by omega) (by omega) hL ?_
  refine v.sc (i := i) (j := 3) (by omega) (by omega) hL ?_
  refine gCall_mk (by omega) (by omega) ?_
  refine l_undo v.d v.o S.oA (gR_toInt _) (gR_toInt _) (gR_toInt _) (fun h1 U1 z1 s1 d1 f1 o1 p1 => ?_)
  have v1 := v.cls S d1 f1 o1
  refine v1.sc (i := i) (j := 1) (by omega) (by omega) hL ?_
  refine v1.sc (i := i) (j := 2) (by omega) (by omega) hL ?_
  refine v1.sc (i := i) (j := 3) (by omega) (by omega) hL ?_
  refine ⟨v1.m.has, ?_⟩
  refine gCall_mk (by omega) (by omega) ?_
  refine r_undo v1.m (gR_toInt _) (gR_toInt _) (gR_toInt _) (fun h2 r2 d2 f2 p2 => ?_)
  have v2 := v1.ref S d2 f2
  refine ⟨v2.m.has, ?_⟩
  refine r_thrown v2.m ?_
  refine cmpN (Nat.le_trans l_undo_le (by decide)) m_undo_u p1 p2 v2.o ?_
  exact kk _ _ _ _ _ _ _ _ v2 (by omega) (by omega)
theorem j_J1383 (S : lS A B G O b) (v : lV A B G O b L xs h U st st no z s) (hL : L ≤ 320) (hi : i + 5 ≤ L) (hc : 1400 ≤ kc) (hs : 75000 ≤ ks) (kk : ∀ (h' : gaH) (U' : Nat → List Bool) (st' : GSt) (no' : Int) (z' : Int64) (s' : Value) (c2 s2 : Nat), lV A B G O b L xs h' U' st' st' no' z' s' → kc ≤ c2 + 1400 → ks ≤ s2 + 75000 → K b (A 22) (B 0) O ((i : Int) + 5) h' c2 s2) : w_L_law_J1383 G K b (A 22) (B 0) O (i : Int) h kc ks := by
  unfold w_L_law_J1383
  refine v.sc (i := i) (j := 1) (by omega) (by omega) hL ?_
  refine v.sc (i := i) (j := 2) (by omega) (by omega) hL ?_
  refine v.sc (i := i) (j := 3) (by omega) (by omega) hL ?_
  refine gCall_mk (by omega) (by omega) ?_
  refine l_lay v.d v.o S.oA (gR_toInt _) (gR_toInt _) (gR_toInt _) (fun h1 U1 z1 s1 d1 f1 o1 p1 => ?_)
  have v1 := v.cls S d1 f1 o1
  refine v1.sc (i := i) (j := 1) (by omega) (by omega) hL ?_
  refine v1.sc (i := i) (j := 2) (by omega) (by omega) hL ?_
  refine v1.sc (i := i) (j := 3) (by omega) (by omega) hL ?_
  refine ⟨v1.m.has, ?_⟩
  refine gCall_mk (by omega) (by omega) ?_
  refine r_lay v1.m (gR_toInt _) (gR_toInt _) (gR_toInt _) (fun h2 r2 d2 f2 p2 => ?_)
  have v2 := v1.ref S d2 f2
  refine ⟨v2.m.has, ?_⟩
  refine r_thrown v2.m ?_
  refine cmpN (Nat.le_trans l_lay_le (by decide)) m_lay_u p1 p2 v2.o ?_
  exact kk _ _ _ _ _ _ _ _ v2 (by omega) (by omega)
theorem j_J1464 (S : lS A B G O b) (v : lV A B G O b L xs h U st st no z s) (hL : L ≤ 320) (hi : i + 5 ≤ L) (hc : 1400 ≤ kc) (hs : 75000 ≤ ks) (kk : ∀ (h' : gaH) (U' : Nat → List Bool) (st' : GSt) (no' : Int) (z' : Int64) (s' : Value) (c2 s2 : Nat), lV A B G O b L xs h' U' st' st' no' z' s' → kc ≤ c2 + 1400 → ks ≤ s2 + 75000 → K b (A 22) (B 0) O ((i : Int) + 5) h' c2 s2) : w_L_law_J1464 G K b (A 22) (B 0) O (i : Int) h kc ks := by
  unfold w_L_law_J1464
  refine v.sc (i := i) (j := 1) (by omega) (by omega) hL ?_
  refine v.sc (i := i) (j := 2) (by omega) (by omega) hL ?_
  refine v.sc (i := i) (j := 3) (by omega) (by omega) hL ?_
  refine gCall_mk (by omega) (by omega) ?_
  refine l_twos v.d v.o S.oA (gR_toInt _) (gR_toInt _) (gR_toInt _) (fun h1 U1 z1 s1 d1 f1 o1 p1 => ?_)
  have v1 := v.cls S d1 f1 o1
  refine v1.sc (i := i) (j := 1) (by omega) (by omega) hL ?_
  refine v1.sc (i := i) (j := 2) (by omega) (by omega) hL ?_
  refine v1.sc (i := i) (j := 3) (by omega) (by omega) hL ?_
  refine ⟨v1.m.has, ?_⟩
  refine gCall_mk (by omega) (by omega) ?_
  refine r_twos v1.m (gR_toInt _) (gR_toInt _) (gR_toInt _) (fun h2 r2 d2 f2 p2 => ?_)
  have v2 := v1.ref S d2 f2
  refine ⟨v2.m.has, ?_⟩
  refine r_thrown v2.m ?_
  refine cmpN (Nat.le_trans l_twos_le (by decide)) m_twos_u p1 p2 v2.o ?_
  exact kk _ _ _ _ _ _ _ _ v2 (by omega) (by omega)
theorem j_J1545 (S : lS A B G O b) (v : lV A B G O b L xs h U st st no z s) (hL : L ≤ 320) (hi : i + 5 ≤ L) (hc : 1400 ≤ kc) (hs : 75000 ≤ ks) (kk : ∀ (h' : gaH) (U' : Nat → List Bool) (st' : GSt) (no' : Int) (z' : Int64) (s' : Value) (c2 s2 : Nat), lV A B G O b L xs h' U' st' st' no' z' s' → kc ≤ c2 + 1400 → ks ≤ s2 + 75000 → K b (A 22) (B 0) O ((i : Int) + 5) h' c2 s2) : w_L_law_J1545 G K b (A 22) (B 0) O (i : Int) h kc ks := by
  unfold w_L_law_J1545
  refine v.sc (i := i) (j := 1) (by omega) (by omega) hL ?_
  refine v.sc (i := i) (j := 2) (by omega) (by omega) hL ?_
  refine v.sc (i := i) (j := 3) (by omega) (by omega) hL ?_
  refine v.sc (i := i) (j := 4) (by omega) (by omega) hL ?_
  refine gCall_mk (by omega) (by omega) ?_
  refine l_line v.d v.o S.oA (gR_toInt _) (gR_toInt _) (gR_toInt _) (gR_toInt _) (fun h1 U1 z1 s1 d1 f1 o1 p1 => ?_)
  have v1 := v.cls S d1 f1 o1
  refine v1.sc (i := i) (j := 1) (by omega) (by omega) hL ?_
  refine v1.sc (i := i) (j := 2) (by omega) (by omega) hL ?_
  refine v1.sc (i := i) (j := 3) (by omega) (by omega) hL ?_
  refine v1.sc (i := i) (j := 4) (by omega) (by omega) hL ?_
  refine ⟨v1.m.has, ?_⟩
  refine gCall_mk (by omega) (by omega) ?_
  refine r_line v1.m (gR_toInt _) (gR_toInt _) (gR_toInt _) (gR_toInt _) (fun h2 r2 d2 f2 p2 => ?_)
  have v2 := v1.ref S d2 f2
  refine ⟨v2.m.has, ?_⟩
  refine r_thrown v2.m ?_
  refine cmpN (Nat.le_trans l_line_le (by decide)) m_line_u p1 p2 v2.o ?_
  exact kk _ _ _ _ _ _ _ _ v2 (by omega) (by omega)
theorem j_J1638 (S : lS A B G O b) (v : lV A B G O b L xs h U st st no z s) (hL : L ≤ 320) (hi : i + 5 ≤ L) (hc : 1400 ≤ kc) (hs : 75000 ≤ ks) (kk : ∀ (h' : gaH) (U' : Nat → List Bool) (st' : GSt) (no' : Int) (z' : Int64) (s' : Value) (c2 s2 : Nat), lV A B G O b L xs h' U' st' st' no' z' s' → kc ≤ c2 + 1400 → ks ≤ s2 + 75000 → K b (A 22) (B 0) O ((i : Int) + 5) h' c2 s2) : w_L_law_J1638 G K b (A 22) (B 0) O (i : Int) h kc ks := by
  unfold w_L_law_J1638
  refine v.sc (i := i) (j := 1) (by omega) (by omega) hL ?_
  refine v.sc (i := i) (j := 2) (by omega) (by omega) hL ?_
  refine gCall_mk (by omega) (by omega) ?_
  refine l_grow v.d v.o S.oA (gR_toInt _) (gR_toInt _) (fun h1 U1 z1 s1 d1 f1 o1 p1 => ?_)
  have v1 := v.cls S d1 f1 o1
  refine v1.sc (i := i) (j := 1) (by omega) (by omega) hL ?_
  refine v1.sc (i := i) (j := 2) (by omega) (by omega) hL ?_
  refine ⟨v1.m.has, ?_⟩
  refine gCall_mk (by omega) (by omega) ?_
  refine r_grow v1.m (gR_toInt _) (gR_toInt _) (fun h2 r2 d2 f2 p2 => ?_)
  have v2 := v1.ref S d2 f2
  refine ⟨v2.m.has, ?_⟩
  refine r_thrown v2.m ?_
  refine cmpN (Nat.le_trans l_grow_le (by decide)) m_grow_u p1 p2 v2.o ?_
  exact kk _ _ _ _ _ _ _ _ v2 (by omega) (by omega)
theorem j_J1707 (S : lS A B G O b) (v : lV A B G O b L xs h U st st no z s) (hL : L ≤ 320) (hi : i + 5 ≤ L) (hc : 1400 ≤ kc) (hs : 75000 ≤ ks) (kk : ∀ (h' : gaH) (U' : Nat → List Bool) (st' : GSt) (no' : Int) (z' : Int64) (s' : Value) (c2 s2 : Nat), lV A B G O b L xs h' U' st' st' no' z' s' → kc ≤ c2 + 1400 → ks ≤ s2 + 75000 → K b (A 22) (B 0) O ((i : Int) + 5) h' c2 s2) : w_L_law_J1707 G K b (A 22) (B 0) O (i : Int) h kc ks := by
  unfold w_L_law_J1707
  refine v.sc (i := i) (j := 1) (by omega) (by omega) hL ?_
  refine gCall_mk (by omega) (by omega) ?_
  refine l_shrink v.d v.o S.oA (gR_toInt _) (fun h1 U1 z1 s1 d1 f1 o1 p1 => ?_)
  have v1 := v.cls S d1 f1 o1
  refine v1.sc (i := i) (j := 1) (by omega) (by omega) hL ?_
  refine ⟨v1.m.has, ?_⟩
  refine r_shrink v1.m (gR_toInt _) (fun h2 r2 d2 f2 p2 => ?_)
  have v2 := v1.ref S d2 f2
  refine ⟨v2.m.has, ?_⟩
  refine r_thrown v2.m ?_
  refine cmpN (Nat.le_trans l_shrink_le (by decide)) m_shrink_u p1 p2 v2.o ?_
  exact kk _ _ _ _ _ _ _ _ v2 (by omega) (by omega)
theorem j_J1764 (S : lS A B G O b) (v : lV A B G O b L xs h U st st no z s) (hL : L ≤ 320) (hi : i + 5 ≤ L) (hc : 1400 ≤ kc) (hs : 75000 ≤ ks) (kk : ∀ (h' : gaH) (U' : Nat → List Bool) (st' : GSt) (no' : Int) (z' : Int64) (s' : Value) (c2 s2 : Nat), lV A B G O b L xs h' U' st' st' no' z' s' → kc ≤ c2 + 1400 → ks ≤ s2 + 75000 → K b (A 22) (B 0) O ((i : Int) + 5) h' c2 s2) : w_L_law_J1764 G K b (A 22) (B 0) O (i : Int) h kc ks := by
  unfold w_L_law_J1764
  refine v.sc (i := i) (j := 1) (by omega) (by omega) hL ?_
  refine gCall_mk (by omega) (by omega) ?_
  refine l_fresh v.d v.o S.oA (gR_toInt _) (fun h1 U1 z1 s1 d1 f1 o1 p1 => ?_)
  have v1 := v.cls S d1 f1 o1
  refine v1.sc (i := i) (j := 1) (by omega) (by omega) hL ?_
  refine ⟨v1.m.has, ?_⟩
  refine r_fresh v1.m (gR_toInt _) (fun h2 r2 d2 f2 p2 => ?_)
  have v2 := v1.ref S d2 f2
  refine ⟨v2.m.has, ?_⟩
  refine r_thrown v2.m ?_
  refine cmpN (Nat.le_trans l_fresh_le (by decide)) m_fresh_u p1 p2 v2.o ?_
  exact kk _ _ _ _ _ _ _ _ v2 (by omega) (by omega)
theorem j_J1821 (S : lS A B G O b) (v : lV A B G O b L xs h U st st no z s) (hL : L ≤ 320) (hi : i + 5 ≤ L) (hc : 1400 ≤ kc) (hs : 75000 ≤ ks) (kk : ∀ (h' : gaH) (U' : Nat → List Bool) (st' : GSt) (no' : Int) (z' : Int64) (s' : Value) (c2 s2 : Nat), lV A B G O b L xs h' U' st' st' no' z' s' → kc ≤ c2 + 1400 → ks ≤ s2 + 75000 → K b (A 22) (B 0) O ((i : Int) + 5) h' c2 s2) : w_L_law_J1821 G K b (A 22) (B 0) O (i : Int) h kc ks := by
  unfold w_L_law_J1821
  refine v.sc (i := i) (j := 1) (by omega) (by omega) hL ?_
  refine gCall_mk (by omega) (by omega) ?_
  refine l_length v.d v.o S.oA (gR_toInt _) (fun h1 U1 z1 s1 d1 f1 o1 p1 => ?_)
  have v1 := v.cls S d1 f1 o1
  refine v1.sc (i := i) (j := 1) (by omega) (by omega) hL ?_
  refine ⟨v1.m.has, ?_⟩
  refine r_length v1.m (gR_toInt _) (fun h2 r2 d2 f2 p2 => ?_)
  have v2 := v1.ref S d2 f2
  refine ⟨v2.m.has, ?_⟩
  refine r_thrown v2.m ?_
  refine cmpN (Nat.le_trans l_length_le (by decide)) m_length_u p1 p2 v2.o ?_
  exact kk _ _ _ _ _ _ _ _ v2 (by omega) (by omega)
theorem j_J1878 (S : lS A B G O b) (v : lV A B G O b L xs h U st st no z s) (hL : L ≤ 320) (hi : i + 5 ≤ L) (hc : 1400 ≤ kc) (hs : 75000 ≤ ks) (kk : ∀ (h' : gaH) (U' : Nat → List Bool) (st' : GSt) (no' : Int) (z' : Int64) (s' : Value) (c2 s2 : Nat), lV A B G O b L xs h' U' st' st' no' z' s' → kc ≤ c2 + 1400 → ks ≤ s2 + 75000 → K b (A 22) (B 0) O ((i : Int) + 5) h' c2 s2) : w_L_law_J1878 G K b (A 22) (B 0) O (i : Int) h kc ks := by
  unfold w_L_law_J1878
  refine v.sc (i := i) (j := 1) (by omega) (by omega) hL ?_
  refine v.sc (i := i) (j := 2) (by omega) (by omega) hL ?_
  refine gCall_mk (by omega) (by omega) ?_
  refine l_isB v.d v.o S.oA (gR_toInt _) (gR_toInt _) (fun h1 U1 z1 s1 d1 f1 o1 p1 => ?_)
  have v1 := v.cls S d1 f1 o1
  refine v1.sc (i := i) (j := 1) (by omega) (by omega) hL ?_
  refine v1.sc (i := i) (j := 2) (by omega) (by omega) hL ?_
  refine ⟨v1.m.has, ?_⟩
  refine r_isB v1.m (gR_toInt _) (gR_toInt _) (fun h2 r2 d2 f2 p2 => ?_)
  have v2 := v1.ref S d2 f2
  refine ⟨v2.m.has, ?_⟩
  refine r_thrown v2.m ?_
  refine cmpB (J := fun t0 t1 => w_L_law_J1945 G K b (A 22) (B 0) O (i : Int) t0 t1 h2 _ _) (Nat.le_trans l_isB_le (by decide)) m_isB_u m_isB_b p1 p2 v2.o (fun t => ?_) ?_
  · unfold w_L_law_J1945
    refine ⟨gCmp_R _ _, if_yes (gCmp_self _) ?_⟩
    exact kk _ _ _ _ _ _ _ _ v2 (by omega) (by omega)
  · exact kk _ _ _ _ _ _ _ _ v2 (by omega) (by omega)
theorem j_J1954 (S : lS A B G O b) (v : lV A B G O b L xs h U st st no z s) (hL : L ≤ 320) (hi : i + 5 ≤ L) (hc : 1400 ≤ kc) (hs : 75000 ≤ ks) (kk : ∀ (h' : gaH) (U' : Nat → List Bool) (st' : GSt) (no' : Int) (z' : Int64) (s' : Value) (c2 s2 : Nat), lV A B G O b L xs h' U' st' st' no' z' s' → kc ≤ c2 + 1400 → ks ≤ s2 + 75000 → K b (A 22) (B 0) O ((i : Int) + 5) h' c2 s2) : w_L_law_J1954 G K b (A 22) (B 0) O (i : Int) h kc ks := by
  unfold w_L_law_J1954
  refine v.sc (i := i) (j := 1) (by omega) (by omega) hL ?_
  refine gCall_mk (by omega) (by omega) ?_
  refine l_text_x v.d v.o S.oA (gR_toInt _) (fun c1 h1 U1 z1 s1 d1 f1 o1 e1 p1 => ?_)
  have v1 := v.cls S d1 f1 o1
  refine v1.sc (i := i) (j := 1) (by omega) (by omega) hL ?_
  refine ⟨v1.m.has, ?_⟩
  refine gCall_mk (by omega) (by omega) ?_
  refine r_text_x v1.m (gR_toInt _) (fun c2 h2 r2 d2 f2 e2 p2 => ?_)
  have v2 := v1.ref S d2 f2
  refine ⟨v2.m.has, ?_⟩
  refine r_thrown v2.m ?_
  refine cmpT (fun hq => w_L_law_J3472 G K b (A 22) (B 0) O (i : Int) hq _ _) txt_R (tx_lS v2.m) e1 e2 (fun q => (p1 q).imp (fun _ w => ⟨w.1, w.2.on v.m f2⟩)) p2 v2.o ?_
  exact kk _ _ _ _ _ _ _ _ v2 (by omega) (by omega)
theorem j_J2012 (S : lS A B G O b) (v : lV A B G O b L xs h U st st no z s) (hL : L ≤ 320) (hi : i + 5 ≤ L) (hc : 1400 ≤ kc) (hs : 75000 ≤ ks) (kk : ∀ (h' : gaH) (U' : Nat → List Bool) (st' : GSt) (no' : Int) (z' : Int64) (s' : Value) (c2 s2 : Nat), lV A B G O b L xs h' U' st' st' no' z' s' → kc ≤ c2 + 1400 → ks ≤ s2 + 75000 → K b (A 22) (B 0) O ((i : Int) + 5) h' c2 s2) : w_L_law_J2012 G K b (A 22) (B 0) O (i : Int) h kc ks := by
  by_cases q : (xs (i + 2)).toInt = 0
  · unfold w_L_law_J2012
    refine v.sc (i := i) (j := 1) (by omega) (by omega) hL ?_
    refine v.sc (i := i) (j := 2) (by omega) (by omega) hL ?_
    refine ⟨gR_toInt _, ?_⟩
    refine if_yes q ?_
    unfold w_L_law_J2033
    refine gCall_mk (by omega) (by omega) ?_
    refine l_count v.d v.o S.oA (gR_toInt _) (show (0 : Int) = b2i false from rfl) (fun h1 U1 z1 s1 d1 f1 o1 p1 => ?_)
    have v1 := v.cls S d1 f1 o1
    refine v1.sc (i := i) (j := 1) (by omega) (by omega) hL ?_
    refine v1.sc (i := i) (j := 2) (by omega) (by omega) hL ?_
    refine ⟨gR_toInt _, ?_⟩
    refine if_yes q ?_
    unfold w_L_law_J2060
    refine ⟨v1.m.has, ?_⟩
    refine r_count v1.m (gR_toInt _) (show (0 : Int) = b2i false from rfl) (fun h2 r2 d2 f2 p2 => ?_)
    have v2 := v1.ref S d2 f2
    refine ⟨v2.m.has, ?_⟩
    refine r_thrown v2.m ?_
    refine cmpN (Nat.le_trans l_count_le (by decide)) m_count_u p1 p2 v2.o ?_
    exact kk _ _ _ _ _ _ _ _ v2 (by omega) (by omega)
  · unfold w_L_law_J2012
    refine v.sc (i := i) (j := 1) (by omega) (by omega) hL ?_
    refine v.sc (i := i) (j := 2) (by omega) (by omega) hL ?_
    refine ⟨gR_toInt _, ?_⟩
    refine if_no q ?_
    unfold w_L_law_J2033
    refine gCall_mk (by omega) (by omega) ?_
    refine l_count v.d v.o S.oA (gR_toInt _) (show (1 : Int) = b2i true from rfl) (fun h1 U1 z1 s1 d1 f1 o1 p1 => ?_)
    have v1 := v.cls S d1 f1 o1
    refine v1.sc (i := i) (j := 1) (by omega) (by omega) hL ?_
    refine v1.sc (i := i) (j := 2) (by omega) (by omega) hL ?_
    refine ⟨gR_toInt _, ?_⟩
    refine if_no q ?_
    unfold w_L_law_J2060
    refine ⟨v1.m.has, ?_⟩
    refine r_count v1.m (gR_toInt _) (show (1 : Int) = b2i true from rfl) (fun h2 r2 d2 f2 p2 => ?_)
    have v2 := v1.ref S d2 f2
    refine ⟨v2.m.has, ?_⟩
    refine r_thrown v2.m ?_
    refine cmpN (Nat.le_trans l_count_le (by decide)) m_count_u p1 p2 v2.o ?_
    exact kk _ _ _ _ _ _ _ _ v2 (by omega) (by omega)
theorem j_J2097 (S : lS A B G O b) (v : lV A B G O b L xs h U st st no z s) (hL : L ≤ 320) (hi : i + 5 ≤ L) (hc : 1400 ≤ kc) (hs : 75000 ≤ ks) (kk : ∀ (h' : gaH) (U' : Nat → List Bool) (st' : GSt) (no' : Int) (z' : Int64) (s' : Value) (c2 s2 : Nat), lV A B G O b L xs h' U' st' st' no' z' s' → kc ≤ c2 + 1400 → ks ≤ s2 + 75000 → K b (A 22) (B 0) O ((i : Int) + 5) h' c2 s2) : w_L_law_J2097 G K b (A 22) (B 0) O (i : Int) h kc ks := by
  unfold w_L_law_J2097
  refine v.sc (i := i) (j := 1) (by omega) (by omega) hL ?_
  refine v.sc (i := i) (j := 2) (by omega) (by omega) hL ?_
  refine v.sc (i := i) (j := 3) (by omega) (by omega) hL ?_
  refine gCall_mk (by omega) (by omega) ?_
  refine l_find_x v.d v.o S.oA (gR_toInt _) (gR_toInt _) (gR_toInt _) (fun h1 U1 z1 s1 d1 f1 o1 p1 => ?_)
  rw [m_find_x_st] at d1
  have v1 := v.cls S d1 f1 o1
  refine v1.sc (i := i) (j := 1) (by omega) (by omega) hL ?_
  refine v1.sc (i := i) (j := 2) (by omega) (by omega) hL ?_
  refine v1.sc (i := i) (j := 3) (by omega) (by omega) hL ?_
  refine ⟨v1.m.has, ?_⟩
  refine r_find_x v1.m (gR_toInt _) (gR_toInt _) (gR_toInt _) (fun h2 r2 d2 f2 p2 => ?_)
  rw [m_find_x_st] at d2
  have v2 := v1.ref S d2 f2
  refine ⟨v2.m.has, ?_⟩
  refine r_thrown v2.m ?_
  refine cmpN (Nat.le_trans l_find_x_le (by decide)) m_find_x_u p1 p2 v2.o ?_
  exact kk _ _ _ _ _ _ _ _ v2 (by omega) (by omega)
theorem j_J2178 (S : lS A B G O b) (v : lV A B G O b L xs h U st st no z s) (hL : L ≤ 320) (hi : i + 5 ≤ L) (hc : 1400 ≤ kc) (hs : 75000 ≤ ks) (kk : ∀ (h' : gaH) (U' : Nat → List Bool) (st' : GSt) (no' : Int) (z' : Int64) (s' : Value) (c2 s2 : Nat), lV A B G O b L xs h' U' st' st' no' z' s' → kc ≤ c2 + 1400 → ks ≤ s2 + 75000 → K b (A 22) (B 0) O ((i : Int) + 5) h' c2 s2) : w_L_law_J2178 G K b (A 22) (B 0) O (i : Int) h kc ks := by
  unfold w_L_law_J2178
  refine v.sc (i := i) (j := 1) (by omega) (by omega) hL ?_
  refine v.sc (i := i) (j := 2) (by omega) (by omega) hL ?_
  refine v.sc (i := i) (j := 3) (by omega) (by omega) hL ?_
  refine gCall_mk (by omega) (by omega) ?_
  refine l_findLast_x v.d v.o S.oA (gR_toInt _) (gR_toInt _) (gR_toInt _) (fun h1 U1 z1 s1 d1 f1 o1 p1 => ?_)
  rw [m_findLast_x_st] at d1
  have v1 := v.cls S d1 f1 o1
  refine v1.sc (i := i) (j := 1) (by omega) (by omega) hL ?_
  refine v1.sc (i := i) (j := 2) (by omega) (by omega) hL ?_
  refine v1.sc (i := i) (j := 3) (by omega) (by omega) hL ?_
  refine ⟨v1.m.has, ?_⟩
  refine r_findLast_x v1.m (gR_toInt _) (gR_toInt _) (gR_toInt _) (fun h2 r2 d2 f2 p2 => ?_)
  rw [m_findLast_x_st] at d2
  have v2 := v1.ref S d2 f2
  refine ⟨v2.m.has, ?_⟩
  refine r_thrown v2.m ?_
  refine cmpN (Nat.le_trans l_findLast_x_le (by decide)) m_findLast_x_u p1 p2 v2.o ?_
  exact kk _ _ _ _ _ _ _ _ v2 (by omega) (by omega)
theorem j_J2259 (S : lS A B G O b) (v : lV A B G O b L xs h U st st no z s) (hL : L ≤ 320) (hi : i + 5 ≤ L) (hc : 1400 ≤ kc) (hs : 75000 ≤ ks) (kk : ∀ (h' : gaH) (U' : Nat → List Bool) (st' : GSt) (no' : Int) (z' : Int64) (s' : Value) (c2 s2 : Nat), lV A B G O b L xs h' U' st' st' no' z' s' → kc ≤ c2 + 1400 → ks ≤ s2 + 75000 → K b (A 22) (B 0) O ((i : Int) + 5) h' c2 s2) : w_L_law_J2259 G K b (A 22) (B 0) O (i : Int) h kc ks := by
  unfold w_L_law_J2259
  refine v.sc (i := i) (j := 1) (by omega) (by omega) hL ?_
  refine v.sc (i := i) (j := 2) (by omega) (by omega) hL ?_
  refine gCall_mk (by omega) (by omega) ?_
  refine l_order v.d v.o S.oA (gR_toInt _) (gR_toInt _) (fun h1 U1 z1 s1 d1 f1 o1 p1 => ?_)
  have v1 := v.cls S d1 f1 o1
  refine v1.sc (i := i) (j := 1) (by omega) (by omega) hL ?_
  refine v1.sc (i := i) (j := 2) (by omega) (by omega) hL ?_
  refine ⟨v1.m.has, ?_⟩
  refine r_order v1.m (gR_toInt _) (gR_toInt _) (fun h2 r2 d2 f2 p2 => ?_)
  have v2 := v1.ref S d2 f2
  refine ⟨v2.m.has, ?_⟩
  refine r_thrown v2.m ?_
  refine cmpN (Nat.le_trans l_order_le (by decide)) m_order_u p1 p2 v2.o ?_
  exact kk _ _ _ _ _ _ _ _ v2 (by omega) (by omega)
theorem j_J2328 (S : lS A B G O b) (v : lV A B G O b L xs h U st st no z s) (hL : L ≤ 320) (hi : i + 5 ≤ L) (hc : 1400 ≤ kc) (hs : 75000 ≤ ks) (kk : ∀ (h' : gaH) (U' : Nat → List Bool) (st' : GSt) (no' : Int) (z' : Int64) (s' : Value) (c2 s2 : Nat), lV A B G O b L xs h' U' st' st' no' z' s' → kc ≤ c2 + 1400 → ks ≤ s2 + 75000 → K b (A 22) (B 0) O ((i : Int) + 5) h' c2 s2) : w_L_law_J2328 G K b (A 22) (B 0) O (i : Int) h kc ks := by
  unfold w_L_law_J2328
  refine v.sc (i := i) (j := 1) (by omega) (by omega) hL ?_
  refine gCall_mk (by omega) (by omega) ?_
  refine l_isMirrored_x v.d v.o S.oA (gR_toInt _) (fun h1 U1 z1 s1 d1 f1 o1 p1 => ?_)
  rw [m_isMirrored_x_st] at d1
  have v1 := v.cls S d1 f1 o1
  refine v1.sc (i := i) (j := 1) (by omega) (by omega) hL ?_
  refine ⟨v1.m.has, ?_⟩
  refine r_isMirrored_x v1.m (gR_toInt _) (fun h2 r2 d2 f2 p2 => ?_)
  rw [m_isMirrored_x_st] at d2
  have v2 := v1.ref S d2 f2
  refine ⟨v2.m.has, ?_⟩
  refine r_thrown v2.m ?_
  refine cmpB (J := fun t0 t1 => w_L_law_J2383 G K b (A 22) (B 0) O (i : Int) t0 t1 h2 _ _) (Nat.le_trans l_isMirrored_x_le (by decide)) m_isMirrored_x_u m_isMirrored_x_b p1 p2 v2.o (fun t => ?_) ?_
  · unfold w_L_law_J2383
    refine ⟨gCmp_R _ _, if_yes (gCmp_self _) ?_⟩
    exact kk _ _ _ _ _ _ _ _ v2 (by omega) (by omega)
  · exact kk _ _ _ _ _ _ _ _ v2 (by omega) (by omega)
theorem j_J2392 (S : lS A B G O b) (v : lV A B G O b L xs h U st st no z s) (hL : L ≤ 320) (hi : i + 5 ≤ L) (hc : 1400 ≤ kc) (hs : 75000 ≤ ks) (kk : ∀ (h' : gaH) (U' : Nat → List Bool) (st' : GSt) (no' : Int) (z' : Int64) (s' : Value) (c2 s2 : Nat), lV A B G O b L xs h' U' st' st' no' z' s' → kc ≤ c2 + 1400 → ks ≤ s2 + 75000 → K b (A 22) (B 0) O ((i : Int) + 5) h' c2 s2) : w_L_law_J2392 G K b (A 22) (B 0) O (i : Int) h kc ks := by
  by_cases q : (xs (i + 3)).toInt = 0
  · unfold w_L_law_J2392
    refine v.sc (i := i) (j := 1) (by omega) (by omega) hL ?_
    refine v.sc (i := i) (j := 2) (by omega) (by omega) hL ?_
    refine v.sc (i := i) (j := 3) (by omega) (by omega) hL ?_
    refine ⟨gR_toInt _, ?_⟩
    refine if_yes q ?_
    unfold w_L_law_J2419
    refine gCall_mk (by omega) (by omega) ?_
    refine l_spread_x v.d v.o S.oA (gR_toInt _) (gR_toInt _) (show (0 : Int) = b2i false from rfl) (fun h1 U1 z1 s1 d1 f1 o1 p1 => ?_)
    rw [m_spread_x_st] at d1
    have v1 := v.cls S d1 f1 o1
    refine v1.sc (i := i) (j := 1) (by omega) (by omega) hL ?_
    refine v1.sc (i := i) (j := 2) (by omega) (by omega) hL ?_
    refine v1.sc (i := i) (j := 3) (by omega) (by omega) hL ?_
    refine ⟨gR_toInt _, ?_⟩
    refine if_yes q ?_
    unfold w_L_law_J2452
    refine ⟨v1.m.has, ?_⟩
    refine r_spread_x v1.m (gR_toInt _) (gR_toInt _) (show (0 : Int) = b2i false from rfl) (fun h2 r2 d2 f2 p2 => ?_)
    rw [m_spread_x_st] at d2
    have v2 := v1.ref S d2 f2
    refine ⟨v2.m.has, ?_⟩
    refine r_thrown v2.m ?_
    refine cmpN (Nat.le_trans l_spread_x_le (by decide)) m_spread_x_u p1 p2 v2.o ?_
    exact kk _ _ _ _ _ _ _ _ v2 (by omega) (by omega)
  · unfold w_L_law_J2392
    refine v.sc (i := i) (j := 1) (by omega) (by omega) hL ?_
    refine v.sc (i := i) (j := 2) (by omega) (by omega) hL ?_
    refine v.sc (i := i) (j := 3) (by omega) (by omega) hL ?_
    refine ⟨gR_toInt _, ?_⟩
    refine if_no q ?_
    unfold w_L_law_J2419
    refine gCall_mk (by omega) (by omega) ?_
    refine l_spread_x v.d v.o S.oA (gR_toInt _) (gR_toInt _) (show (1 : Int) = b2i true from rfl) (fun h1 U1 z1 s1 d1 f1 o1 p1 => ?_)
    rw [m_spread_x_st] at d1
    have v1 := v.cls S d1 f1 o1
    refine v1.sc (i := i) (j := 1) (by omega) (by omega) hL ?_
    refine v1.sc (i := i) (j := 2) (by omega) (by omega) hL ?_
    refine v1.sc (i := i) (j := 3) (by omega) (by omega) hL ?_
    refine ⟨gR_toInt _, ?_⟩
    refine if_no q ?_
    unfold w_L_law_J2452
    refine ⟨v1.m.has, ?_⟩
    refine r_spread_x v1.m (gR_toInt _) (gR_toInt _) (show (1 : Int) = b2i true from rfl) (fun h2 r2 d2 f2 p2 => ?_)
    rw [m_spread_x_st] at d2
    have v2 := v1.ref S d2 f2
    refine ⟨v2.m.has, ?_⟩
    refine r_thrown v2.m ?_
    refine cmpN (Nat.le_trans l_spread_x_le (by decide)) m_spread_x_u p1 p2 v2.o ?_
    exact kk _ _ _ _ _ _ _ _ v2 (by omega) (by omega)
theorem j_J2489 (S : lS A B G O b) (v : lV A B G O b L xs h U st st no z s) (hL : L ≤ 320) (hi : i + 5 ≤ L) (hc : 1400 ≤ kc) (hs : 75000 ≤ ks) (kk : ∀ (h' : gaH) (U' : Nat → List Bool) (st' : GSt) (no' : Int) (z' : Int64) (s' : Value) (c2 s2 : Nat), lV A B G O b L xs h' U' st' st' no' z' s' → kc ≤ c2 + 1400 → ks ≤ s2 + 75000 → K b (A 22) (B 0) O ((i : Int) + 5) h' c2 s2) : w_L_law_J2489 G K b (A 22) (B 0) O (i : Int) h kc ks := by
  by_cases q : (xs (i + 3)).toInt = 0
  · unfold w_L_law_J2489
    refine v.sc (i := i) (j := 1) (by omega) (by omega) hL ?_
    refine v.sc (i := i) (j := 2) (by omega) (by omega) hL ?_
    refine v.sc (i := i) (j := 3) (by omega) (by omega) hL ?_
    refine ⟨gR_toInt _, ?_⟩
    refine if_yes q ?_
    unfold w_L_law_J2516
    refine gCall_mk (by omega) (by omega) ?_
    refine l_kinds_x v.d v.o S.oA (gR_toInt _) (gR_toInt _) (show (0 : Int) = b2i false from rfl) (fun h1 U1 z1 s1 d1 f1 o1 p1 => ?_)
    rw [m_kinds_x_st] at d1
    have v1 := v.cls S d1 f1 o1
    refine v1.sc (i := i) (j := 1) (by omega) (by omega) hL ?_
    refine v1.sc (i := i) (j := 2) (by omega) (by omega) hL ?_
    refine v1.sc (i := i) (j := 3) (by omega) (by omega) hL ?_
    refine ⟨gR_toInt _, ?_⟩
    refine if_yes q ?_
    unfold w_L_law_J2549
    refine ⟨v1.m.has, ?_⟩
    refine r_kinds_x v1.m (gR_toInt _) (gR_toInt _) (show (0 : Int) = b2i false from rfl) (fun h2 r2 d2 f2 p2 => ?_)
    rw [m_kinds_x_st] at d2
    have v2 := v1.ref S d2 f2
    refine ⟨v2.m.has, ?_⟩
    refine r_thrown v2.m ?_
    refine cmpN (Nat.le_trans l_kinds_x_le (by decide)) m_kinds_x_u p1 p2 v2.o ?_
    exact kk _ _ _ _ _ _ _ _ v2 (by omega) (by omega)
  · unfold w_L_law_J2489
    refine v.sc (i := i) (j := 1) (by omega) (by omega) hL ?_
    refine v.sc (i := i) (j := 2) (by omega) (by omega) hL ?_
    refine v.sc (i := i) (j := 3) (by omega) (by omega) hL ?_
    refine ⟨gR_toInt _, ?_⟩
    refine if_no q ?_
    unfold w_L_law_J2516
    refine gCall_mk (by omega) (by omega) ?_
    refine l_kinds_x v.d v.o S.oA (gR_toInt _) (gR_toInt _) (show (1 : Int) = b2i true from rfl) (fun h1 U1 z1 s1 d1 f1 o1 p1 => ?_)
    rw [m_kinds_x_st] at d1
    have v1 := v.cls S d1 f1 o1
    refine v1.sc (i := i) (j := 1) (by omega) (by omega) hL ?_
    refine v1.sc (i := i) (j := 2) (by omega) (by omega) hL ?_
    refine v1.sc (i := i) (j := 3) (by omega) (by omega) hL ?_
    refine ⟨gR_toInt _, ?_⟩
    refine if_no q ?_
    unfold w_L_law_J2549
    refine ⟨v1.m.has, ?_⟩
    refine r_kinds_x v1.m (gR_toInt _) (gR_toInt _) (show (1 : Int) = b2i true from rfl) (fun h2 r2 d2 f2 p2 => ?_)
    rw [m_kinds_x_st] at d2
    have v2 := v1.ref S d2 f2
    refine ⟨v2.m.has, ?_⟩
    refine r_thrown v2.m ?_
    refine cmpN (Nat.le_trans l_kinds_x_le (by decide)) m_kinds_x_u p1 p2 v2.o ?_
    exact kk _ _ _ _ _ _ _ _ v2 (by omega) (by omega)
theorem j_J2586 (S : lS A B G O b) (v : lV A B G O b L xs h U st st no z s) (hL : L ≤ 320) (hi : i + 5 ≤ L) (hc : 1400 ≤ kc) (hs : 75000 ≤ ks) (kk : ∀ (h' : gaH) (U' : Nat → List Bool) (st' : GSt) (no' : Int) (z' : Int64) (s' : Value) (c2 s2 : Nat), lV A B G O b L xs h' U' st' st' no' z' s' → kc ≤ c2 + 1400 → ks ≤ s2 + 75000 → K b (A 22) (B 0) O ((i : Int) + 5) h' c2 s2) : w_L_law_J2586 G K b (A 22) (B 0) O (i : Int) h kc ks := by
  unfold w_L_law_J2586
  refine v.sc (i := i) (j := 1) (by omega) (by omega) hL ?_
  refine gCall_mk (by omega) (by omega) ?_
  refine l_times_x v.d v.o S.oA (gR_toInt _) (fun h1 U1 z1 s1 d1 f1 o1 p1 => ?_)
  rw [m_times_x_st] at d1
  have v1 := v.cls S d1 f1 o1
  refine v1.sc (i := i) (j := 1) (by omega) (by omega) hL ?_
  refine ⟨v1.m.has, ?_⟩
  refine r_times_x v1.m (gR_toInt _) (fun h2 r2 d2 f2 p2 => ?_)
  rw [m_times_x_st] at d2
  have v2 := v1.ref S d2 f2
  refine ⟨v2.m.has, ?_⟩
  refine r_thrown v2.m ?_
  refine cmpN (Nat.le_trans l_times_x_le (by decide)) m_times_x_u p1 p2 v2.o ?_
  exact kk _ _ _ _ _ _ _ _ v2 (by omega) (by omega)
theorem j_J2643 (S : lS A B G O b) (v : lV A B G O b L xs h U st st no z s) (hL : L ≤ 320) (hi : i + 5 ≤ L) (hc : 1400 ≤ kc) (hs : 75000 ≤ ks) (kk : ∀ (h' : gaH) (U' : Nat → List Bool) (st' : GSt) (no' : Int) (z' : Int64) (s' : Value) (c2 s2 : Nat), lV A B G O b L xs h' U' st' st' no' z' s' → kc ≤ c2 + 1400 → ks ≤ s2 + 75000 → K b (A 22) (B 0) O ((i : Int) + 5) h' c2 s2) : w_L_law_J2643 G K b (A 22) (B 0) O (i : Int) h kc ks := by
  unfold w_L_law_J2643
  refine v.sc (i := i) (j := 1) (by omega) (by omega) hL ?_
  refine gCall_mk (by omega) (by omega) ?_
  refine l_overlaps_x v.d v.o S.oA (gR_toInt _) (fun h1 U1 z1 s1 d1 f1 o1 p1 => ?_)
  rw [m_overlaps_x_st] at d1
  have v1 := v.cls S d1 f1 o1
  refine v1.sc (i := i) (j := 1) (by omega) (by omega) hL ?_
  refine ⟨v1.m.has, ?_⟩
  refine r_overlaps_x v1.m (gR_toInt _) (fun h2 r2 d2 f2 p2 => ?_)
  rw [m_overlaps_x_st] at d2
  have v2 := v1.ref S d2 f2
  refine ⟨v2.m.has, ?_⟩
  refine r_thrown v2.m ?_
  refine cmpN (Nat.le_trans l_overlaps_x_le (by decide)) m_overlaps_x_u p1 p2 v2.o ?_
  exact kk _ _ _ _ _ _ _ _ v2 (by omega) (by omega)
theorem j_J2700 (S : lS A B G O b) (v : lV A B G O b L xs h U st st no z s) (hL : L ≤ 320) (hi : i + 5 ≤ L) (hc : 1400 ≤ kc) (hs : 75000 ≤ ks) (kk : ∀ (h' : gaH) (U' : Nat → List Bool) (st' : GSt) (no' : Int) (z' : Int64) (s' : Value) (c2 s2 : Nat), lV A B G O b L xs h' U' st' st' no' z' s' → kc ≤ c2 + 1400 → ks ≤ s2 + 75000 → K b (A 22) (B 0) O ((i : Int) + 5) h' c2 s2) : w_L_law_J2700 G K b (A 22) (B 0) O (i : Int) h kc ks := by
  unfold w_L_law_J2700
  refine v.sc (i := i) (j := 1) (by omega) (by omega) hL ?_
  refine gCall_mk (by omega) (by omega) ?_
  refine l_mirrors_x v.d v.o S.oA (gR_toInt _) (fun h1 U1 z1 s1 d1 f1 o1 p1 => ?_)
  rw [m_mirrors_x_st] at d1
  have v1 := v.cls S d1 f1 o1
  refine v1.sc (i := i) (j := 1) (by omega) (by omega) hL ?_
  refine ⟨v1.m.has, ?_⟩
  refine r_mirrors_x v1.m (gR_toInt _) (fun h2 r2 d2 f2 p2 => ?_)
  rw [m_mirrors_x_st] at d2
  have v2 := v1.ref S d2 f2
  refine ⟨v2.m.has, ?_⟩
  refine r_thrown v2.m ?_
  refine cmpN (Nat.le_trans l_mirrors_x_le (by decide)) m_mirrors_x_u p1 p2 v2.o ?_
  exact kk _ _ _ _ _ _ _ _ v2 (by omega) (by omega)
theorem j_J2757 (S : lS A B G O b) (v : lV A B G O b L xs h U st st no z s) (hL : L ≤ 320) (hi : i + 5 ≤ L) (hc : 1400 ≤ kc) (hs : 75000 ≤ ks) (kk : ∀ (h' : gaH) (U' : Nat → List Bool) (st' : GSt) (no' : Int) (z' : Int64) (s' : Value) (c2 s2 : Nat), lV A B G O b L xs h' U' st' st' no' z' s' → kc ≤ c2 + 1400 → ks ≤ s2 + 75000 → K b (A 22) (B 0) O ((i : Int) + 5) h' c2 s2) : w_L_law_J2757 G K b (A 22) (B 0) O (i : Int) h kc ks := by
  unfold w_L_law_J2757
  refine v.sc (i := i) (j := 1) (by omega) (by omega) hL ?_
  refine gCall_mk (by omega) (by omega) ?_
  refine l_folds_x v.d v.o S.oA (gR_toInt _) (fun h1 U1 z1 s1 d1 f1 o1 p1 => ?_)
  rw [m_folds_x_st] at d1
  have v1 := v.cls S d1 f1 o1
  refine v1.sc (i := i) (j := 1) (by omega) (by omega) hL ?_
  refine ⟨v1.m.has, ?_⟩
  refine r_folds_x v1.m (gR_toInt _) (fun h2 r2 d2 f2 p2 => ?_)
  rw [m_folds_x_st] at d2
  have v2 := v1.ref S d2 f2
  refine ⟨v2.m.has, ?_⟩
  refine r_thrown v2.m ?_
  refine cmpN (Nat.le_trans l_folds_x_le (by decide)) m_folds_x_u p1 p2 v2.o ?_
  exact kk _ _ _ _ _ _ _ _ v2 (by omega) (by omega)
theorem j_J2814 (S : lS A B G O b) (v : lV A B G O b L xs h U st st no z s) (hL : L ≤ 320) (hi : i + 5 ≤ L) (hc : 1400 ≤ kc) (hs : 75000 ≤ ks) (kk : ∀ (h' : gaH) (U' : Nat → List Bool) (st' : GSt) (no' : Int) (z' : Int64) (s' : Value) (c2 s2 : Nat), lV A B G O b L xs h' U' st' st' no' z' s' → kc ≤ c2 + 1400 → ks ≤ s2 + 75000 → K b (A 22) (B 0) O ((i : Int) + 5) h' c2 s2) : w_L_law_J2814 G K b (A 22) (B 0) O (i : Int) h kc ks := by
  unfold w_L_law_J2814
  refine v.sc (i := i) (j := 1) (by omega) (by omega) hL ?_
  refine gCall_mk (by omega) (by omega) ?_
  refine l_least_x v.d v.o S.oA (gR_toInt _) (fun h1 U1 z1 s1 d1 f1 o1 p1 => ?_)
  rw [m_least_x_st] at d1
  have v1 := v.cls S d1 f1 o1
  refine v1.sc (i := i) (j := 1) (by omega) (by omega) hL ?_
  refine ⟨v1.m.has, ?_⟩
  refine r_least_x v1.m (gR_toInt _) (fun h2 r2 d2 f2 p2 => ?_)
  rw [m_least_x_st] at d2
  have v2 := v1.ref S d2 f2
  refine ⟨v2.m.has, ?_⟩
  refine r_thrown v2.m ?_
  refine cmpN (Nat.le_trans l_least_x_le (by decide)) m_least_x_u p1 p2 v2.o ?_
  exact kk _ _ _ _ _ _ _ _ v2 (by omega) (by omega)
theorem j_J2871 (S : lS A B G O b) (v : lV A B G O b L xs h U st st no z s) (hL : L ≤ 320) (hi : i + 5 ≤ L) (hc : 1400 ≤ kc) (hs : 75000 ≤ ks) (kk : ∀ (h' : gaH) (U' : Nat → List Bool) (st' : GSt) (no' : Int) (z' : Int64) (s' : Value) (c2 s2 : Nat), lV A B G O b L xs h' U' st' st' no' z' s' → kc ≤ c2 + 1400 → ks ≤ s2 + 75000 → K b (A 22) (B 0) O ((i : Int) + 5) h' c2 s2) : w_L_law_J2871 G K b (A 22) (B 0) O (i : Int) h kc ks := by
  unfold w_L_law_J2871
  refine v.sc (i := i) (j := 1) (by omega) (by omega) hL ?_
  refine v.sc (i := i) (j := 2) (by omega) (by omega) hL ?_
  refine gCall_mk (by omega) (by omega) ?_
  refine l_isApart v.d v.o S.oA (gR_toInt _) (gR_toInt _) (fun h1 U1 z1 s1 d1 f1 o1 p1 => ?_)
  have v1 := v.cls S d1 f1 o1
  refine v1.sc (i := i) (j := 1) (by omega) (by omega) hL ?_
  refine v1.sc (i := i) (j := 2) (by omega) (by omega) hL ?_
  refine ⟨v1.m.has, ?_⟩
  refine gCall_mk (by omega) (by omega) ?_
  refine r_isApart v1.m (gR_toInt _) (gR_toInt _) (fun h2 r2 d2 f2 p2 => ?_)
  have v2 := v1.ref S d2 f2
  refine ⟨v2.m.has, ?_⟩
  refine r_thrown v2.m ?_
  refine cmpB (J := fun t0 t1 => w_L_law_J2938 G K b (A 22) (B 0) O (i : Int) t0 t1 h2 _ _) (Nat.le_trans l_isApart_le (by decide)) m_isApart_u m_isApart_b p1 p2 v2.o (fun t => ?_) ?_
  · unfold w_L_law_J2938
    refine ⟨gCmp_R _ _, if_yes (gCmp_self _) ?_⟩
    exact kk _ _ _ _ _ _ _ _ v2 (by omega) (by omega)
  · exact kk _ _ _ _ _ _ _ _ v2 (by omega) (by omega)
theorem j_J2947 (S : lS A B G O b) (v : lV A B G O b L xs h U st st no z s) (hL : L ≤ 320) (hi : i + 5 ≤ L) (hc : 1400 ≤ kc) (hs : 75000 ≤ ks) (kk : ∀ (h' : gaH) (U' : Nat → List Bool) (st' : GSt) (no' : Int) (z' : Int64) (s' : Value) (c2 s2 : Nat), lV A B G O b L xs h' U' st' st' no' z' s' → kc ≤ c2 + 1400 → ks ≤ s2 + 75000 → K b (A 22) (B 0) O ((i : Int) + 5) h' c2 s2) : w_L_law_J2947 G K b (A 22) (B 0) O (i : Int) h kc ks := by
  unfold w_L_law_J2947
  refine v.sc (i := i) (j := 1) (by omega) (by omega) hL ?_
  refine gCall_mk (by omega) (by omega) ?_
  refine l_turns_x v.d v.o S.oA (gR_toInt _) v.n3 (fun c1 h1 U1 z1 s1 d1 f1 o1 e1 p1 => ?_)
  have v1 := v.cls S d1 f1 o1
  refine v1.sc (i := i) (j := 1) (by omega) (by omega) hL ?_
  refine ⟨v1.m.has, ?_⟩
  refine gCall_mk (by omega) (by omega) ?_
  refine r_turns_x v1.m (gR_toInt _) v1.n3 S.n1 (fun c2 h2 r2 d2 f2 e2 p2 => ?_)
  have v2 := v1.ref S d2 f2
  refine ⟨v2.m.has, ?_⟩
  refine r_thrown v2.m ?_
  refine cmpT (fun hq => w_L_law_J3472 G K b (A 22) (B 0) O (i : Int) hq _ _) ttx_R (tx_lT v2.m) e1 e2 (fun q => (p1 q).imp (fun _ w => ⟨w.1, w.2.on v.m f2⟩)) p2 v2.o ?_
  exact kk _ _ _ _ _ _ _ _ v2 (by omega) (by omega)
theorem j_J3005 (S : lS A B G O b) (v : lV A B G O b L xs h U st st no z s) (hL : L ≤ 320) (hi : i + 5 ≤ L) (hc : 1400 ≤ kc) (hs : 75000 ≤ ks) (kk : ∀ (h' : gaH) (U' : Nat → List Bool) (st' : GSt) (no' : Int) (z' : Int64) (s' : Value) (c2 s2 : Nat), lV A B G O b L xs h' U' st' st' no' z' s' → kc ≤ c2 + 1400 → ks ≤ s2 + 75000 → K b (A 22) (B 0) O ((i : Int) + 5) h' c2 s2) : w_L_law_J3005 G K b (A 22) (B 0) O (i : Int) h kc ks := by
  by_cases q : (xs (i + 2)).toInt = 0
  · unfold w_L_law_J3005
    refine v.sc (i := i) (j := 1) (by omega) (by omega) hL ?_
    refine v.sc (i := i) (j := 2) (by omega) (by omega) hL ?_
    refine ⟨gR_toInt _, ?_⟩
    refine if_yes q ?_
    unfold w_L_law_J3026
    refine gCall_mk (by omega) (by omega) ?_
    refine l_grown_x v.d v.o S.oA (gR_toInt _) (show (0 : Int) = b2i false from rfl) (fun c1 h1 U1 z1 s1 d1 f1 o1 e1 p1 => ?_)
    have v1 := v.cls S d1 f1 o1
    refine v1.sc (i := i) (j := 1) (by omega) (by omega) hL ?_
    refine v1.sc (i := i) (j := 2) (by omega) (by omega) hL ?_
    refine ⟨gR_toInt _, ?_⟩
    refine if_yes q ?_
    unfold w_L_law_J3053
    refine ⟨v1.m.has, ?_⟩
    refine gCall_mk (by omega) (by omega) ?_
    refine r_grown_x v1.m (gR_toInt _) (show (0 : Int) = b2i false from rfl) (fun c2 h2 r2 d2 f2 e2 p2 => ?_)
    have v2 := v1.ref S d2 f2
    refine ⟨v2.m.has, ?_⟩
    refine r_thrown v2.m ?_
    refine cmpT (fun hq => w_L_law_J3472 G K b (A 22) (B 0) O (i : Int) hq _ _) txt_R (tx_lG v2.m) e1 e2 (fun q => (p1 q).imp (fun _ w => ⟨w.1, w.2.on v.m f2⟩)) p2 v2.o ?_
    exact kk _ _ _ _ _ _ _ _ v2 (by omega) (by omega)
  · unfold w_L_law_J3005
    refine v.sc (i := i) (j := 1) (by omega) (by omega) hL ?_
    refine v.sc (i := i) (j := 2) (by omega) (by omega) hL ?_
    refine ⟨gR_toInt _, ?_⟩
    refine if_no q ?_
    unfold w_L_law_J3026
    refine gCall_mk (by omega) (by omega) ?_
    refine l_grown_x v.d v.o S.oA (gR_toInt _) (show (1 : Int) = b2i true from rfl) (fun c1 h1 U1 z1 s1 d1 f1 o1 e1 p1 => ?_)
    have v1 := v.cls S d1 f1 o1
    refine v1.sc (i := i) (j := 1) (by omega) (by omega) hL ?_
    refine v1.sc (i := i) (j := 2) (by omega) (by omega) hL ?_
    refine ⟨gR_toInt _, ?_⟩
    refine if_no q ?_
    unfold w_L_law_J3053
    refine ⟨v1.m.has, ?_⟩
    refine gCall_mk (by omega) (by omega) ?_
    refine r_grown_x v1.m (gR_toInt _) (show (1 : Int) = b2i true from rfl) (fun c2 h2 r2 d2 f2 e2 p2 => ?_)
    have v2 := v1.ref S d2 f2
    refine ⟨v2.m.has, ?_⟩
    refine r_thrown v2.m ?_
    refine cmpT (fun hq => w_L_law_J3472 G K b (A 22) (B 0) O (i : Int) hq _ _) txt_R (tx_lG v2.m) e1 e2 (fun q => (p1 q).imp (fun _ w => ⟨w.1, w.2.on v.m f2⟩)) p2 v2.o ?_
    exact kk _ _ _ _ _ _ _ _ v2 (by omega) (by omega)
theorem j_J3091 (S : lS A B G O b) (v : lV A B G O b L xs h U st st no z s) (hL : L ≤ 320) (hi : i + 5 ≤ L) (hc : 1400 ≤ kc) (hs : 75000 ≤ ks) (kk : ∀ (h' : gaH) (U' : Nat → List Bool) (st' : GSt) (no' : Int) (z' : Int64) (s' : Value) (c2 s2 : Nat), lV A B G O b L xs h' U' st' st' no' z' s' → kc ≤ c2 + 1400 → ks ≤ s2 + 75000 → K b (A 22) (B 0) O ((i : Int) + 5) h' c2 s2) : w_L_law_J3091 G K b (A 22) (B 0) O (i : Int) h kc ks := by
  by_cases q : (xs (i + 2)).toInt = 0
  · unfold w_L_law_J3091
    refine v.sc (i := i) (j := 1) (by omega) (by omega) hL ?_
    refine v.sc (i := i) (j := 2) (by omega) (by omega) hL ?_
    refine ⟨gR_toInt _, ?_⟩
    refine if_yes q ?_
    unfold w_L_law_J3112
    refine gCall_mk (by omega) (by omega) ?_
    refine l_size v.d v.o S.oA (gR_toInt _) (show (0 : Int) = b2i false from rfl) (fun h1 U1 z1 s1 d1 f1 o1 p1 => ?_)
    have v1 := v.cls S d1 f1 o1
    refine v1.sc (i := i) (j := 1) (by omega) (by omega) hL ?_
    refine v1.sc (i := i) (j := 2) (by omega) (by omega) hL ?_
    refine ⟨gR_toInt _, ?_⟩
    refine if_yes q ?_
    unfold w_L_law_J3139
    refine ⟨v1.m.has, ?_⟩
    refine gCall_mk (by omega) (by omega) ?_
    refine r_size v1.m (gR_toInt _) (show (0 : Int) = b2i false from rfl) (fun h2 r2 d2 f2 p2 => ?_)
    have v2 := v1.ref S d2 f2
    refine ⟨v2.m.has, ?_⟩
    refine r_thrown v2.m ?_
    refine cmpN (Nat.le_trans l_size_le (by decide)) m_size_u p1 p2 v2.o ?_
    exact kk _ _ _ _ _ _ _ _ v2 (by omega) (by omega)
  · unfold w_L_law_J3091
    refine v.sc (i := i) (j := 1) (by omega) (by omega) hL ?_
    refine v.sc (i := i) (j := 2) (by omega) (by omega) hL ?_
    refine ⟨gR_toInt _, ?_⟩
    refine if_no q ?_
    unfold w_L_law_J3112
    refine gCall_mk (by omega) (by omega) ?_
    refine l_size v.d v.o S.oA (gR_toInt _) (show (1 : Int) = b2i true from rfl) (fun h1 U1 z1 s1 d1 f1 o1 p1 => ?_)
    have v1 := v.cls S d1 f1 o1
    refine v1.sc (i := i) (j := 1) (by omega) (by omega) hL ?_
    refine v1.sc (i := i) (j := 2) (by omega) (by omega) hL ?_
    refine ⟨gR_toInt _, ?_⟩
    refine if_no q ?_
    unfold w_L_law_J3139
    refine ⟨v1.m.has, ?_⟩
    refine gCall_mk (by omega) (by omega) ?_
    refine r_size v1.m (gR_toInt _) (show (1 : Int) = b2i true from rfl) (fun h2 r2 d2 f2 p2 => ?_)
    have v2 := v1.ref S d2 f2
    refine ⟨v2.m.has, ?_⟩
    refine r_thrown v2.m ?_
    refine cmpN (Nat.le_trans l_size_le (by decide)) m_size_u p1 p2 v2.o ?_
    exact kk _ _ _ _ _ _ _ _ v2 (by omega) (by omega)
theorem j_J3176 (S : lS A B G O b) (v : lV A B G O b L xs h U st st no z s) (hL : L ≤ 320) (hi : i + 5 ≤ L) (hc : 1400 ≤ kc) (hs : 75000 ≤ ks) (kk : ∀ (h' : gaH) (U' : Nat → List Bool) (st' : GSt) (no' : Int) (z' : Int64) (s' : Value) (c2 s2 : Nat), lV A B G O b L xs h' U' st' st' no' z' s' → kc ≤ c2 + 1400 → ks ≤ s2 + 75000 → K b (A 22) (B 0) O ((i : Int) + 5) h' c2 s2) : w_L_law_J3176 G K b (A 22) (B 0) O (i : Int) h kc ks := by
  by_cases q : (xs (i + 2)).toInt = 0
  · unfold w_L_law_J3176
    refine v.sc (i := i) (j := 1) (by omega) (by omega) hL ?_
    refine v.sc (i := i) (j := 2) (by omega) (by omega) hL ?_
    refine ⟨gR_toInt _, ?_⟩
    refine if_yes q ?_
    unfold w_L_law_J3197
    refine gCall_mk (by omega) (by omega) ?_
    refine l_ups v.d v.o S.oA (gR_toInt _) (show (0 : Int) = b2i false from rfl) (fun h1 U1 z1 s1 d1 f1 o1 p1 => ?_)
    have v1 := v.cls S d1 f1 o1
    refine v1.sc (i := i) (j := 1) (by omega) (by omega) hL ?_
    refine v1.sc (i := i) (j := 2) (by omega) (by omega) hL ?_
    refine ⟨gR_toInt _, ?_⟩
    refine if_yes q ?_
    unfold w_L_law_J3224
    refine ⟨v1.m.has, ?_⟩
    refine gCall_mk (by omega) (by omega) ?_
    refine r_ups v1.m (gR_toInt _) (show (0 : Int) = b2i false from rfl) (fun h2 r2 d2 f2 p2 => ?_)
    have v2 := v1.ref S d2 f2
    refine ⟨v2.m.has, ?_⟩
    refine r_thrown v2.m ?_
    refine cmpN (Nat.le_trans l_ups_le (by decide)) m_ups_u p1 p2 v2.o ?_
    exact kk _ _ _ _ _ _ _ _ v2 (by omega) (by omega)
  · unfold w_L_law_J3176
    refine v.sc (i := i) (j := 1) (by omega) (by omega) hL ?_
    refine v.sc (i := i) (j := 2) (by omega) (by omega) hL ?_
    refine ⟨gR_toInt _, ?_⟩
    refine if_no q ?_
    unfold w_L_law_J3197
    refine gCall_mk (by omega) (by omega) ?_
    refine l_ups v.d v.o S.oA (gR_toInt _) (show (1 : Int) = b2i true from rfl) (fun h1 U1 z1 s1 d1 f1 o1 p1 => ?_)
    have v1 := v.cls S d1 f1 o1
    refine v1.sc (i := i) (j := 1) (by omega) (by omega) hL ?_
    refine v1.sc (i := i) (j := 2) (by omega) (by omega) hL ?_
    refine ⟨gR_toInt _, ?_⟩
    refine if_no q ?_
    unfold w_L_law_J3224
    refine ⟨v1.m.has, ?_⟩
    refine gCall_mk (by omega) (by omega) ?_
    refine r_ups v1.m (gR_toInt _) (show (1 : Int) = b2i true from rfl) (fun h2 r2 d2 f2 p2 => ?_)
    have v2 := v1.ref S d2 f2
    refine ⟨v2.m.has, ?_⟩
    refine r_thrown v2.m ?_
    refine cmpN (Nat.le_trans l_ups_le (by decide)) m_ups_u p1 p2 v2.o ?_
    exact kk _ _ _ _ _ _ _ _ v2 (by omega) (by omega)
theorem j_J3261 (S : lS A B G O b) (v : lV A B G O b L xs h U st st no z s) (hL : L ≤ 320) (hi : i + 5 ≤ L) (hc : 1400 ≤ kc) (hs : 75000 ≤ ks) (kk : ∀ (h' : gaH) (U' : Nat → List Bool) (st' : GSt) (no' : Int) (z' : Int64) (s' : Value) (c2 s2 : Nat), lV A B G O b L xs h' U' st' st' no' z' s' → kc ≤ c2 + 1400 → ks ≤ s2 + 75000 → K b (A 22) (B 0) O ((i : Int) + 5) h' c2 s2) : w_L_law_J3261 G K b (A 22) (B 0) O (i : Int) h kc ks := by
  unfold w_L_law_J3261
  refine v.sc (i := i) (j := 1) (by omega) (by omega) hL ?_
  refine gCall_mk (by omega) (by omega) ?_
  refine l_cross v.d v.o S.oA (gR_toInt _) (fun h1 U1 z1 s1 d1 f1 o1 p1 => ?_)
  have v1 := v.cls S d1 f1 o1
  refine v1.sc (i := i) (j := 1) (by omega) (by omega) hL ?_
  refine ⟨v1.m.has, ?_⟩
  refine gCall_mk (by omega) (by omega) ?_
  refine r_cross v1.m (gR_toInt _) (fun h2 r2 d2 f2 p2 => ?_)
  have v2 := v1.ref S d2 f2
  refine ⟨v2.m.has, ?_⟩
  refine r_thrown v2.m ?_
  refine cmpN (Nat.le_trans l_cross_le (by decide)) m_cross_u p1 p2 v2.o ?_
  exact kk _ _ _ _ _ _ _ _ v2 (by omega) (by omega)
theorem j_J3318 (S : lS A B G O b) (v : lV A B G O b L xs h U st st no z s) (hL : L ≤ 320) (hi : i + 5 ≤ L) (hc : 1400 ≤ kc) (hs : 75000 ≤ ks) (kk : ∀ (h' : gaH) (U' : Nat → List Bool) (st' : GSt) (no' : Int) (z' : Int64) (s' : Value) (c2 s2 : Nat), lV A B G O b L xs h' U' st' st' no' z' s' → kc ≤ c2 + 1400 → ks ≤ s2 + 75000 → K b (A 22) (B 0) O ((i : Int) + 5) h' c2 s2) : w_L_law_J3318 G K b (A 22) (B 0) O (i : Int) h kc ks := by
  unfold w_L_law_J3318
  refine v.sc (i := i) (j := 1) (by omega) (by omega) hL ?_
  refine gCall_mk (by omega) (by omega) ?_
  refine l_alike v.d v.o S.oA (gR_toInt _) (fun h1 U1 z1 s1 d1 f1 o1 p1 => ?_)
  have v1 := v.cls S d1 f1 o1
  refine v1.sc (i := i) (j := 1) (by omega) (by omega) hL ?_
  refine ⟨v1.m.has, ?_⟩
  refine gCall_mk (by omega) (by omega) ?_
  refine r_alike v1.m (gR_toInt _) (fun h2 r2 d2 f2 p2 => ?_)
  have v2 := v1.ref S d2 f2
  refine ⟨v2.m.has, ?_⟩
  refine r_thrown v2.m ?_
  refine cmpN (Nat.le_trans l_alike_le (by decide)) m_alike_u p1 p2 v2.o ?_
  exact kk _ _ _ _ _ _ _ _ v2 (by omega) (by omega)
theorem j_J3375 (S : lS A B G O b) (v : lV A B G O b L xs h U st st no z s) (hL : L ≤ 320) (hi : i + 5 ≤ L) (hc : 1400 ≤ kc) (hs : 75000 ≤ ks) (kk : ∀ (h' : gaH) (U' : Nat → List Bool) (st' : GSt) (no' : Int) (z' : Int64) (s' : Value) (c2 s2 : Nat), lV A B G O b L xs h' U' st' st' no' z' s' → kc ≤ c2 + 1400 → ks ≤ s2 + 75000 → K b (A 22) (B 0) O ((i : Int) + 5) h' c2 s2) : w_L_law_J3375 G K b (A 22) (B 0) O (i : Int) h kc ks := by
  unfold w_L_law_J3375
  refine v.sc (i := i) (j := 1) (by omega) (by omega) hL ?_
  refine gCall_mk (by omega) (by omega) ?_
  refine l_house v.d v.o S.oA (gR_toInt _) (fun h1 U1 z1 s1 d1 f1 o1 p1 => ?_)
  have v1 := v.cls S d1 f1 o1
  refine v1.sc (i := i) (j := 1) (by omega) (by omega) hL ?_
  refine ⟨v1.m.has, ?_⟩
  refine r_house v1.m (gR_toInt _) (fun h2 r2 d2 f2 p2 => ?_)
  have v2 := v1.ref S d2 f2
  refine ⟨v2.m.has, ?_⟩
  refine r_thrown v2.m ?_
  refine cmpN (Nat.le_trans l_house_le (by decide)) m_house_u p1 p2 v2.o ?_
  exact kk _ _ _ _ _ _ _ _ v2 (by omega) (by omega)
theorem j_J3432 (S : lS A B G O b) (v : lV A B G O b L xs h U st st no z s) (hL : L ≤ 320) (hi : i + 5 ≤ L) (hc : 1400 ≤ kc) (hs : 75000 ≤ ks) (kk : ∀ (h' : gaH) (U' : Nat → List Bool) (st' : GSt) (no' : Int) (z' : Int64) (s' : Value) (c2 s2 : Nat), lV A B G O b L xs h' U' st' st' no' z' s' → kc ≤ c2 + 1400 → ks ≤ s2 + 75000 → K b (A 22) (B 0) O ((i : Int) + 5) h' c2 s2) : w_L_law_J3432 G K b (A 22) (B 0) O (i : Int) h kc ks := by
  unfold w_L_law_J3432
  refine ⟨v.d.has, ?_⟩
  refine c_knock (E := []) (X := fun _ _ => True) v.d (fun h1 U1 d1 g1 => ⟨fun _ r1 e1 => ?_, fun q => absurd rfl q⟩)
  have v1 := v.cls S d1 (lF.fr g1) (g1 _ _ S.oA v.o)
  refine ⟨v1.m.has, ?_⟩
  refine r_knock v1.m  (fun h2 r2 d2 f2 p2 => ?_)
  have v2 := v1.ref S d2 f2
  have q1 : r1 = st.C 3 + 1 := e1
  have q2 : r2 = st.C 3 + 1 := p2 rfl
  refine ⟨q1.trans q2.symm, ?_⟩
  exact kk _ _ _ _ _ _ _ _ v2 (by omega) (by omega)
theorem j_J3445 (S : lS A B G O b) (v : lV A B G O b L xs h U st st no z s) (hL : L ≤ 320) (hi : i + 5 ≤ L) (hc : 1400 ≤ kc) (hs : 75000 ≤ ks) (kk : ∀ (h' : gaH) (U' : Nat → List Bool) (st' : GSt) (no' : Int) (z' : Int64) (s' : Value) (c2 s2 : Nat), lV A B G O b L xs h' U' st' st' no' z' s' → kc ≤ c2 + 1400 → ks ≤ s2 + 75000 → K b (A 22) (B 0) O ((i : Int) + 5) h' c2 s2) : w_L_law_J3445 G K b (A 22) (B 0) O (i : Int) h kc ks := by
  unfold w_L_law_J3445
  refine ⟨v.d.has, ?_⟩
  refine gCall_mk (by omega) (by omega) ?_
  refine c_isSound (E := []) v.d (fun h1 U1 d1 g1 => ⟨fun _ r1 e1 => ?_, fun q => absurd rfl q⟩)
  have v1 := v.cls S d1 (lF.fr g1) (g1 _ _ S.oA v.o)
  refine ⟨v1.m.has, ?_⟩
  refine gCall_mk (by omega) (by omega) ?_
  refine r_isSound v1.m  (fun h2 r2 d2 f2 p2 => ?_)
  have v2 := v1.ref S d2 f2
  have q1 : r1 = b2i (soundB (st.T 0) && soundB (st.T 1)) := e1
  have q2 : r2 = b2i (soundB (st.T 0) && soundB (st.T 1)) := p2 rfl
  refine ⟨by rw [q1]; exact b2i_R _, by rw [q2]; exact b2i_R _, if_yes (q1.trans q2.symm) ?_⟩
  exact kk _ _ _ _ _ _ _ _ v2 (by omega) (by omega)
theorem j_J3458 (S : lS A B G O b) (v : lV A B G O b L xs h U st st no z s) (hL : L ≤ 320) (hi : i + 5 ≤ L) (hc : 1400 ≤ kc) (hs : 75000 ≤ ks) (kk : ∀ (h' : gaH) (U' : Nat → List Bool) (st' : GSt) (no' : Int) (z' : Int64) (s' : Value) (c2 s2 : Nat), lV A B G O b L xs h' U' st' st' no' z' s' → kc ≤ c2 + 1400 → ks ≤ s2 + 75000 → K b (A 22) (B 0) O ((i : Int) + 5) h' c2 s2) : w_L_law_J3458 G K b (A 22) (B 0) O (i : Int) h kc ks := by
  unfold w_L_law_J3458
  refine ⟨v.d.has, ?_⟩
  refine gCall_mk (by omega) (by omega) ?_
  refine x_digest v.d (fun h1 U1 d1 g1 => ?_)
  have v1 := v.cls S d1 (lF.fr g1) (g1 _ _ S.oA v.o)
  refine ⟨v1.m.has, ?_⟩
  refine gCall_mk (by omega) (by omega) ?_
  refine xr_digest v1.m (fun h2 d2 f2 => ?_)
  have v2 := v1.ref S d2 f2
  refine ⟨gCmp_R _ _, if_yes (gCmp_self _) ?_⟩
  exact kk _ _ _ _ _ _ _ _ v2 (by omega) (by omega)
theorem j_J3472 (v : lV A B G O b L xs h U st st no z s) (kk : ∀ (h' : gaH) (U' : Nat → List Bool) (st' : GSt) (no' : Int) (z' : Int64) (s' : Value) (c2 s2 : Nat), lV A B G O b L xs h' U' st' st' no' z' s' → kc ≤ c2 + 1400 → ks ≤ s2 + 75000 → K b (A 22) (B 0) O ((i : Int) + 5) h' c2 s2) : w_L_law_J3472 G K b (A 22) (B 0) O (i : Int) h kc ks := by
  unfold w_L_law_J3472
  exact kk _ _ _ _ _ _ _ _ v (by omega) (by omega)
end LC
/-! The law's loop. -/
theorem law_loop {A B : Nat → Nat} {G : gaG} {O b L : Nat} {xs : Nat → Int32} (S : lS A B G O b) (hL : L ≤ 320) : ∀ (n m : Nat) (h : gaH) (U : Nat → List Bool) (st : GSt) (no : Int) (z : Int64) (s : Value) (kc ks : Nat), lV A B G O b L xs h U st st no z s → m ≤ 64 → 64 - m < n → 1400 * (64 - m) ≤ kc → 75000 * (64 - m) ≤ ks → w_L_law_L27 G n b (A 22) (B 0) O ((5 * m : Nat) : Int) h kc ks
  | 0, _, _, _, _, _, _, _, _, _, _, _, h9, _, _ => absurd h9 (Nat.not_lt_zero _)
  | n + 1, m, h, U, st, no, z, s, kc, ks, v, hm, h9, hc0, hs0 => by
    unfold w_L_law_L27
    refine ⟨1102, _, v.bb, Or.inr rfl, ?_⟩
    rw [List.length_map, List.length_range]
    refine ⟨by omega, by omega, ?_⟩
    by_cases q : (L : Int) - 5 < ((5 * m : Nat) : Int)
    · exact if_yes q trivial
    have hi : 5 * m + 5 ≤ L := by omega
    have hc : 1400 ≤ kc := by omega
    have hs : 75000 ≤ ks := by omega
    have kk : ∀ (h' : gaH) (U' : Nat → List Bool) (st' : GSt) (no' : Int) (z' : Int64) (s' : Value) (c2 s2 : Nat), lV A B G O b L xs h' U' st' st' no' z' s' → kc ≤ c2 + 1400 → ks ≤ s2 + 75000 → w_L_law_L27 G n b (A 22) (B 0) O (((5 * m : Nat) : Int) + 5) h' c2 s2 := fun h' U' st' no' z' s' c2 s2 v' k1 k2 => by
      have := law_loop S hL n (m + 1) h' U' st' no' z' s' c2 s2 v' (by omega) (by omega) (by omega) (by omega)
      rw [show ((5 * (m + 1) : Nat) : Int) = ((5 * m : Nat) : Int) + 5 by omega] at this
      exact this
    refine if_no q (v.sc (i := 5 * m) (j := 0) (by omega) (by omega) hL ?_)
    generalize (xs (5 * m + 0)).toInt = c
    exact ⟨gR_toInt _, fun _ => j_J244 S v hL hi hc hs kk, fun _ => j_J313 S v hL hi hc hs kk, fun _ => j_J382 S v hL hi hc hs kk, fun _ => j_J479 S v hL hi hc hs kk, fun _ => j_J560 S v hL hi hc hs kk, fun _ => j_J657 S v hL hi hc hs kk, fun _ => j_J726 S v hL hi hc hs kk, fun _ => j_J807 S v hL hi hc hs kk, fun _ => j_J900 S v hL hi hc hs kk, fun _ => j_J969 S v hL hi hc hs kk, fun _ => j_J1026 S v hL hi hc hs kk, fun _ => j_J1083 S v hL hi hc hs kk, fun _ => j_J1152 S v hL hi hc hs kk, fun _ => j_J1221 S v hL hi hc hs kk, fun _ => j_J1302 S v hL hi hc hs kk, fun _ => j_J1383 S v hL hi hc hs kk, fun _ => j_J1464 S v hL hi hc hs kk, fun _ => j_J1545 S v hL hi hc hs kk, fun _ => j_J1638 S v hL hi hc hs kk, fun _ => j_J1707 S v hL hi hc hs kk, fun _ => j_J1764 S v hL hi hc hs kk, fun _ => j_J1821 S v hL hi hc hs kk, fun _ => j_J1878 S v hL hi hc hs kk, fun _ => j_J1954 S v hL hi hc hs kk, fun _ => j_J2012 S v hL hi hc hs kk, fun _ => j_J2097 S v hL hi hc hs kk, fun _ => j_J2178 S v hL hi hc hs kk, fun _ => j_J2259 S v hL hi hc hs kk, fun _ => j_J2328 S v hL hi hc hs kk, fun _ => j_J2392 S v hL hi hc hs kk, fun _ => j_J2489 S v hL hi hc hs kk, fun _ => j_J2586 S v hL hi hc hs kk, fun _ => j_J2643 S v hL hi hc hs kk, fun _ => j_J2700 S v hL hi hc hs kk, fun _ => j_J2757 S v hL hi hc hs kk, fun _ => j_J2814 S v hL hi hc hs kk, fun _ => j_J2871 S v hL hi hc hs kk, fun _ => j_J2947 S v hL hi hc hs kk, fun _ => j_J3005 S v hL hi hc hs kk, fun _ => j_J3091 S v hL hi hc hs kk, fun _ => j_J3176 S v hL hi hc hs kk, fun _ => j_J3261 S v hL hi hc hs kk, fun _ => j_J3318 S v hL hi hc hs kk, fun _ => j_J3375 S v hL hi hc hs kk, fun _ => j_J3432 S v hL hi hc hs kk, fun _ => j_J3445 S v hL hi hc hs kk, fun _ => j_J3458 S v hL hi hc hs kk, fun _ => j_J3472 v kk⟩
theorem law_ok {G : gaG} {h : gaH} {b L kc ks : Nat} {xs : Nat → Int32} (hL : L ≤ 320) (m1 : h b = some (1102, (List.range L).map (fun i => Value.int (xs i)))) (m2 : h (G.2.2.2 0) = some (1102, gaCodes)) (m3 : h (G.2.2.2 1) = some (1101, gaOnes)) (h1 : 600000 ≤ kc) (h2 : 7300000 ≤ ks) : w_L_law G b h kc ks := by
  unfold w_L_law
  refine (aL.nil h).no (by omega) (by omega) (fun a g1 d1 => gCall_mk (by omega) (by omega) (c_init d1 (fun p1 p2 p3 p4 p5 p6 p7 p8 p9 p10 p11 p12 p13 p14 p15 p16 p17 p18 p19 p20 p21 p22 p23 p24 p25 p26 p27 p28 p29 p30 g2 d2 => d2.no (by omega) (by omega) (fun b0 g3 d3 => gCall_mk (by omega) (by omega) (r_init d3 (fun q1 q2 q3 q4 q5 q6 q7 q8 g4 d4 => d4.no (by omega) (by omega) (fun o g5 d5 => ?_)))))))
  unfold w_X6_init
  refine ⟨66, ?_⟩
  have d6 : aL h g5 (asF a b0 o p1 p2 p3 p4 p5 p6 p7 p8 p9 p10 p11 p12 p13 p14 p15 p16 p17 p18 p19 p20 p21 p22 p23 p24 p25 p26 p27 p28 p29 p30 q1 q2 q3 q4 q5 q6 q7 q8) := d5
  have hD := st_D d6 _ rfl m2
  have hM := st_M d6 _ rfl
  have lt : ∀ i, i < 38 → pAll2.getD i 0 < 41 := by decide +kernel
  have off : ∀ (x : Nat) (e : gaE), h x = some e → ∀ i, i < 38 → x ≠ ky (asF a b0 o p1 p2 p3 p4 p5 p6 p7 p8 p9 p10 p11 p12 p13 p14 p15 p16 p17 p18 p19 p20 p21 p22 p23 p24 p25 p26 p27 p28 p29 p30 q1 q2 q3 q4 q5 q6 q7 q8) (pAll2.getD i 0) := fun x e q i hi z => by
    rw [z, ky_none d6 (lt i hi)] at q
    cases q
  have S : lS (fun i => ky (asF a b0 o p1 p2 p3 p4 p5 p6 p7 p8 p9 p10 p11 p12 p13 p14 p15 p16 p17 p18 p19 p20 p21 p22 p23 p24 p25 p26 p27 p28 p29 p30 q1 q2 q3 q4 q5 q6 q7 q8) (pA.getD i 0)) (fun i => ky (asF a b0 o p1 p2 p3 p4 p5 p6 p7 p8 p9 p10 p11 p12 p13 p14 p15 p16 p17 p18 p19 p20 p21 p22 p23 p24 p25 p26 p27 p28 p29 p30 q1 q2 q3 q4 q5 q6 q7 q8) (pAll2.getD i 0)) G o b := by
    refine ⟨fun i hi => ?_, rfl, fun i j hi hj e => ?_, off _ _ m1, off _ _ m2, off _ _ m3⟩
    · show ky _ _ = ky _ _
      rw [(by decide +kernel : ∀ i, i < 31 → pAll2.getD (6 + i) 0 = pA.getD i 0) i hi]
    · have e2 := ky_inj d6 (lt i hi) (lt j hj) e
      exact (by decide +kernel : ∀ i, i < 38 → ∀ j, j < 38 → pAll2.getD i 0 = pAll2.getD j 0 → i = j) i hi j hj e2
  have v : lV (fun i => ky (asF a b0 o p1 p2 p3 p4 p5 p6 p7 p8 p9 p10 p11 p12 p13 p14 p15 p16 p17 p18 p19 p20 p21 p22 p23 p24 p25 p26 p27 p28 p29 p30 q1 q2 q3 q4 q5 q6 q7 q8) (pA.getD i 0)) (fun i => ky (asF a b0 o p1 p2 p3 p4 p5 p6 p7 p8 p9 p10 p11 p12 p13 p14 p15 p16 p17 p18 p19 p20 p21 p22 p23 p24 p25 p26 p27 p28 p29 p30 q1 q2 q3 q4 q5 q6 q7 q8) (pAll2.getD i 0)) G o b L xs g5 (fun w => if w = 5 ∨ w = 7 then [true] else if w = 6 ∨ w = 8 then [false] else []) st0 st0 0 0 .null := ⟨hD, hM, d6.at 0 rfl, ky_off d6 m1, ky_off d6 m3⟩
  exact law_loop S hL 66 0 g5 _ _ _ _ _ _ _ v (by omega) (by omega) (by omega) (by omega)
