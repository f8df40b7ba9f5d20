/-! The law's cases, one theorem each. -/
section LC
variable {A B : Nat → Nat} {G : gaG} {O b L : Nat} {xs : Nat → Int32} {h : gaH} {U : Nat → List Bool} {st : GSt} {no : Int} {z : Int64} {s : Value} {i kc ks : Nat} {K : Nat → Nat → Nat → Nat → Int → gaH → Nat → Nat → Prop}

theorem m_find_st {x y z : Int} : (m_find st x y z).2.2 = st := by
  unfold m_find
  repeat' split
  all_goals rfl
theorem m_findLast_st {x y z : Int} : (m_findLast st x y z).2.2 = st := by
  unfold m_findLast
  repeat' split
  all_goals rfl
theorem m_folds_st {x : Int} : (m_folds st x).2.2 = st := by
  unfold m_folds
  repeat' split
  all_goals rfl
theorem m_isMirrored_st {x : Int} : (m_isMirrored st x).2.2 = st := by
  unfold m_isMirrored
  repeat' split
  all_goals rfl
theorem m_kinds_st {x y : Int} : (m_kinds st x y).2.2 = st := by
  unfold m_kinds
  repeat' split
  all_goals rfl
theorem m_least_st {x : Int} : (m_least st x).2.2 = st := by
  unfold m_least
  repeat' split
  all_goals rfl
theorem m_mirrors_st {x : Int} : (m_mirrors st x).2.2 = st := by
  unfold m_mirrors
  repeat' split
  all_goals rfl
theorem m_overlaps_st {x : Int} : (m_overlaps st x).2.2 = st := by
  unfold m_overlaps
  repeat' split
  all_goals rfl
theorem m_spread_st {x y : Int} : (m_spread st x y).2.2 = st := by
  unfold m_spread
  repeat' split
  all_goals rfl
theorem m_times_st {x : Int} : (m_times st x).2.2 = st := by
  unfold m_times
  repeat' split
  all_goals rfl
theorem j_J244 (S : lS A B G O b) (v : lV A B G O b L xs h U st st no z s) (hL : L ≤ 320) (hi : i + 5 ≤ L) (hc : 1400 ≤ kc) (hs : 75000 ≤ ks) (kk : ∀ (h' : gaH) (U' : Nat → List Bool) (st' : GSt) (no' : Int) (z' : Int64) (s' : Value) (c2 s2 : Nat), lV A B G O b L xs h' U' st' st' no' z' s' → kc ≤ c2 + 1400 → ks ≤ s2 + 75000 → K b (A 22) (B 0) O ((i : Int) + 5) h' c2 s2) : w_L_law_J244 G K b (A 22) (B 0) O (i : Int) h kc ks := by
  unfold w_L_law_J244
  refine v.sc (i := i) (j := 1) (by omega) (by omega) hL ?_
  refine v.sc (i := i) (j := 2) (by omega) (by omega) hL ?_
  refine gCall_mk (by omega) (by omega) ?_
  refine l_write v.d v.o S.oA (gR_toInt _) (gR_toInt _) (fun h1 U1 z1 s1 d1 f1 o1 p1 => ?_)
  have v1 := v.cls S d1 f1 o1
  refine v1.sc (i := i) (j := 1) (by omega) (by omega) hL ?_
  refine v1.sc (i := i) (j := 2) (by omega) (by omega) hL ?_
  refine ⟨v1.m.has, ?_⟩
  refine gCall_mk (by omega) (by omega) ?_
  refine r_write v1.m (gR_toInt _) (gR_toInt _) (fun h2 r2 d2 f2 p2 => ?_)
  have v2 := v1.ref S d2 f2
  exact kk _ _ _ _ _ _ _ _ v2 (by omega) (by omega)
theorem j_J284 (S : lS A B G O b) (v : lV A B G O b L xs h U st st no z s) (hL : L ≤ 320) (hi : i + 5 ≤ L) (hc : 1400 ≤ kc) (hs : 75000 ≤ ks) (kk : ∀ (h' : gaH) (U' : Nat → List Bool) (st' : GSt) (no' : Int) (z' : Int64) (s' : Value) (c2 s2 : Nat), lV A B G O b L xs h' U' st' st' no' z' s' → kc ≤ c2 + 1400 → ks ≤ s2 + 75000 → K b (A 22) (B 0) O ((i : Int) + 5) h' c2 s2) : w_L_law_J284 G K b (A 22) (B 0) O (i : Int) h kc ks := by
  unfold w_L_law_J284
  refine v.sc (i := i) (j := 1) (by omega) (by omega) hL ?_
  refine v.sc (i := i) (j := 2) (by omega) (by omega) hL ?_
  refine gCall_mk (by omega) (by omega) ?_
  refine l_append v.d v.o S.oA (gR_toInt _) (gR_toInt _) (fun h1 U1 z1 s1 d1 f1 o1 p1 => ?_)
  have v1 := v.cls S d1 f1 o1
  refine v1.sc (i := i) (j := 1) (by omega) (by omega) hL ?_
  refine v1.sc (i := i) (j := 2) (by omega) (by omega) hL ?_
  refine ⟨v1.m.has, ?_⟩
  refine gCall_mk (by omega) (by omega) ?_
  refine r_append v1.m (gR_toInt _) (gR_toInt _) (fun h2 r2 d2 f2 p2 => ?_)
  have v2 := v1.ref S d2 f2
  exact kk _ _ _ _ _ _ _ _ v2 (by omega) (by omega)
theorem j_J324 (S : lS A B G O b) (v : lV A B G O b L xs h U st st no z s) (hL : L ≤ 320) (hi : i + 5 ≤ L) (hc : 1400 ≤ kc) (hs : 75000 ≤ ks) (kk : ∀ (h' : gaH) (U' : Nat → List Bool) (st' : GSt) (no' : Int) (z' : Int64) (s' : Value) (c2 s2 : Nat), lV A B G O b L xs h' U' st' st' no' z' s' → kc ≤ c2 + 1400 → ks ≤ s2 + 75000 → K b (A 22) (B 0) O ((i : Int) + 5) h' c2 s2) : w_L_law_J324 G K b (A 22) (B 0) O (i : Int) h kc ks := by
  by_cases q : (xs (i + 3)).toInt = 0
  · unfold w_L_law_J324
    refine v.sc (i := i) (j := 1) (by omega) (by omega) hL ?_
    refine v.sc (i := i) (j := 2) (by omega) (by omega) hL ?_
    refine v.sc (i := i) (j := 3) (by omega) (by omega) hL ?_
    refine ⟨gR_toInt _, ?_⟩
    refine if_yes q ?_
    unfold w_L_law_J351
    refine gCall_mk (by omega) (by omega) ?_
    refine l_insertSign v.d v.o S.oA (gR_toInt _) (gR_toInt _) (show (0 : Int) = b2i false from rfl) (fun h1 U1 z1 s1 d1 f1 o1 p1 => ?_)
    have v1 := v.cls S d1 f1 o1
    refine v1.sc (i := i) (j := 1) (by omega) (by omega) hL ?_
    refine v1.sc (i := i) (j := 2) (by omega) (by omega) hL ?_
    refine v1.sc (i := i) (j := 3) (by omega) (by omega) hL ?_
    refine ⟨gR_toInt _, ?_⟩
    refine if_yes q ?_
    unfold w_L_law_J384
    refine ⟨v1.m.has, ?_⟩
    refine gCall_mk (by omega) (by omega) ?_
    refine r_insertSign v1.m (gR_toInt _) (gR_toInt _) (show (0 : Int) = b2i false from rfl) (fun h2 r2 d2 f2 p2 => ?_)
    have v2 := v1.ref S d2 f2
    exact kk _ _ _ _ _ _ _ _ v2 (by omega) (by omega)
  · unfold w_L_law_J324
    refine v.sc (i := i) (j := 1) (by omega) (by omega) hL ?_
    refine v.sc (i := i) (j := 2) (by omega) (by omega) hL ?_
    refine v.sc (i := i) (j := 3) (by omega) (by omega) hL ?_
    refine ⟨gR_toInt _, ?_⟩
    refine if_no q ?_
    unfold w_L_law_J351
    refine gCall_mk (by omega) (by omega) ?_
    refine l_insertSign v.d v.o S.oA (gR_toInt _) (gR_toInt _) (show (1 : Int) = b2i true from rfl) (fun h1 U1 z1 s1 d1 f1 o1 p1 => ?_)
    have v1 := v.cls S d1 f1 o1
    refine v1.sc (i := i) (j := 1) (by omega) (by omega) hL ?_
    refine v1.sc (i := i) (j := 2) (by omega) (by omega) hL ?_
    refine v1.sc (i := i) (j := 3) (by omega) (by omega) hL ?_
    refine ⟨gR_toInt _, ?_⟩
    refine if_no q ?_
    unfold w_L_law_J384
    refine ⟨v1.m.has, ?_⟩
    refine gCall_mk (by omega) (by omega) ?_
    refine r_insertSign v1.m (gR_toInt _) (gR_toInt _) (show (1 : Int) = b2i true from rfl) (fun h2 r2 d2 f2 p2 => ?_)
    have v2 := v1.ref S d2 f2
    exact kk _ _ _ _ _ _ _ _ v2 (by omega) (by omega)
theorem j_J392 (S : lS A B G O b) (v : lV A B G O b L xs h U st st no z s) (hL : L ≤ 320) (hi : i + 5 ≤ L) (hc : 1400 ≤ kc) (hs : 75000 ≤ ks) (kk : ∀ (h' : gaH) (U' : Nat → List Bool) (st' : GSt) (no' : Int) (z' : Int64) (s' : Value) (c2 s2 : Nat), lV A B G O b L xs h' U' st' st' no' z' s' → kc ≤ c2 + 1400 → ks ≤ s2 + 75000 → K b (A 22) (B 0) O ((i : Int) + 5) h' c2 s2) : w_L_law_J392 G K b (A 22) (B 0) O (i : Int) h kc ks := by
  unfold w_L_law_J392
  refine v.sc (i := i) (j := 1) (by omega) (by omega) hL ?_
  refine v.sc (i := i) (j := 2) (by omega) (by omega) hL ?_
  refine v.sc (i := i) (j := 3) (by omega) (by omega) hL ?_
  refine gCall_mk (by omega) (by omega) ?_
  refine l_insertSheet v.d v.o S.oA (gR_toInt _) (gR_toInt _) (gR_toInt _) (fun h1 U1 z1 s1 d1 f1 o1 p1 => ?_)
  have v1 := v.cls S d1 f1 o1
  refine v1.sc (i := i) (j := 1) (by omega) (by omega) hL ?_
  refine v1.sc (i := i) (j := 2) (by omega) (by omega) hL ?_
  refine v1.sc (i := i) (j := 3) (by omega) (by omega) hL ?_
  refine ⟨v1.m.has, ?_⟩
  refine gCall_mk (by omega) (by omega) ?_
  refine r_insertSheet v1.m (gR_toInt _) (gR_toInt _) (gR_toInt _) (fun h2 r2 d2 f2 p2 => ?_)
  have v2 := v1.ref S d2 f2
  exact kk _ _ _ _ _ _ _ _ v2 (by omega) (by omega)
theorem j_J444 (S : lS A B G O b) (v : lV A B G O b L xs h U st st no z s) (hL : L ≤ 320) (hi : i + 5 ≤ L) (hc : 1400 ≤ kc) (hs : 75000 ≤ ks) (kk : ∀ (h' : gaH) (U' : Nat → List Bool) (st' : GSt) (no' : Int) (z' : Int64) (s' : Value) (c2 s2 : Nat), lV A B G O b L xs h' U' st' st' no' z' s' → kc ≤ c2 + 1400 → ks ≤ s2 + 75000 → K b (A 22) (B 0) O ((i : Int) + 5) h' c2 s2) : w_L_law_J444 G K b (A 22) (B 0) O (i : Int) h kc ks := by
  by_cases q : (xs (i + 3)).toInt = 0
  · unfold w_L_law_J444
    refine v.sc (i := i) (j := 1) (by omega) (by omega) hL ?_
    refine v.sc (i := i) (j := 2) (by omega) (by omega) hL ?_
    refine v.sc (i := i) (j := 3) (by omega) (by omega) hL ?_
    refine ⟨gR_toInt _, ?_⟩
    refine if_yes q ?_
    unfold w_L_law_J471
    refine gCall_mk (by omega) (by omega) ?_
    refine l_setSign v.d v.o S.oA (gR_toInt _) (gR_toInt _) (show (0 : Int) = b2i false from rfl) (fun h1 U1 z1 s1 d1 f1 o1 p1 => ?_)
    have v1 := v.cls S d1 f1 o1
    refine v1.sc (i := i) (j := 1) (by omega) (by omega) hL ?_
    refine v1.sc (i := i) (j := 2) (by omega) (by omega) hL ?_
    refine v1.sc (i := i) (j := 3) (by omega) (by omega) hL ?_
    refine ⟨gR_toInt _, ?_⟩
    refine if_yes q ?_
    unfold w_L_law_J504
    refine ⟨v1.m.has, ?_⟩
    refine gCall_mk (by omega) (by omega) ?_
    refine r_setSign v1.m (gR_toInt _) (gR_toInt _) (show (0 : Int) = b2i false from rfl) (fun h2 r2 d2 f2 p2 => ?_)
    have v2 := v1.ref S d2 f2
    exact kk _ _ _ _ _ _ _ _ v2 (by omega) (by omega)
  · unfold w_L_law_J444
    refine v.sc (i := i) (j := 1) (by omega) (by omega) hL ?_
    refine v.sc (i := i) (j := 2) (by omega) (by omega) hL ?_
    refine v.sc (i := i) (j := 3) (by omega) (by omega) hL ?_
    refine ⟨gR_toInt _, ?_⟩
    refine if_no q ?_
    unfold w_L_law_J471
    refine gCall_mk (by omega) (by omega) ?_
    refine l_setSign v.d v.o S.oA (gR_toInt _) (gR_toInt _) (show (1 : Int) = b2i true from rfl) (fun h1 U1 z1 s1 d1 f1 o1 p1 => ?_)
    have v1 := v.cls S d1 f1 o1
    refine v1.sc (i := i) (j := 1) (by omega) (by omega) hL ?_
    refine v1.sc (i := i) (j := 2) (by omega) (by omega) hL ?_
    refine v1.sc (i := i) (j := 3) (by omega) (by omega) hL ?_
    refine ⟨gR_toInt _, ?_⟩
    refine if_no q ?_
    unfold w_L_law_J504
    refine ⟨v1.m.has, ?_⟩
    refine gCall_mk (by omega) (by omega) ?_
    refine r_setSign v1.m (gR_toInt _) (gR_toInt _) (show (1 : Int) = b2i true from rfl) (fun h2 r2 d2 f2 p2 => ?_)
    have v2 := v1.ref S d2 f2
    exact kk _ _ _ _ _ _ _ _ v2 (by omega) (by omega)
theorem j_J512 (S : lS A B G O b) (v : lV A B G O b L xs h U st st no z s) (hL : L ≤ 320) (hi : i + 5 ≤ L) (hc : 1400 ≤ kc) (hs : 75000 ≤ ks) (kk : ∀ (h' : gaH) (U' : Nat → List Bool) (st' : GSt) (no' : Int) (z' : Int64) (s' : Value) (c2 s2 : Nat), lV A B G O b L xs h' U' st' st' no' z' s' → kc ≤ c2 + 1400 → ks ≤ s2 + 75000 → K b (A 22) (B 0) O ((i : Int) + 5) h' c2 s2) : w_L_law_J512 G K b (A 22) (B 0) O (i : Int) h kc ks := by
  unfold w_L_law_J512
  refine v.sc (i := i) (j := 1) (by omega) (by omega) hL ?_
  refine v.sc (i := i) (j := 2) (by omega) (by omega) hL ?_
  refine gCall_mk (by omega) (by omega) ?_
  refine l_removeSign v.d v.o S.oA (gR_toInt _) (gR_toInt _) (fun h1 U1 z1 s1 d1 f1 o1 p1 => ?_)
  have v1 := v.cls S d1 f1 o1
  refine v1.sc (i := i) (j := 1) (by omega) (by omega) hL ?_
  refine v1.sc (i := i) (j := 2) (by omega) (by omega) hL ?_
  refine ⟨v1.m.has, ?_⟩
  refine gCall_mk (by omega) (by omega) ?_
  refine r_removeSign v1.m (gR_toInt _) (gR_toInt _) (fun h2 r2 d2 f2 p2 => ?_)
  have v2 := v1.ref S d2 f2
  exact kk _ _ _ _ _ _ _ _ v2 (by omega) (by omega)
theorem j_J552 (S : lS A B G O b) (v : lV A B G O b L xs h U st st no z s) (hL : L ≤ 320) (hi : i + 5 ≤ L) (hc : 1400 ≤ kc) (hs : 75000 ≤ ks) (kk : ∀ (h' : gaH) (U' : Nat → List Bool) (st' : GSt) (no' : Int) (z' : Int64) (s' : Value) (c2 s2 : Nat), lV A B G O b L xs h' U' st' st' no' z' s' → kc ≤ c2 + 1400 → ks ≤ s2 + 75000 → K b (A 22) (B 0) O ((i : Int) + 5) h' c2 s2) : w_L_law_J552 G K b (A 22) (B 0) O (i : Int) h kc ks := by
  unfold w_L_law_J552
  refine v.sc (i := i) (j := 1) (by omega) (by omega) hL ?_
  refine v.sc (i := i) (j := 2) (by omega) (by omega) hL ?_
  refine v.sc (i := i) (j := 3) (by omega) (by omega) hL ?_
  refine gCall_mk (by omega) (by omega) ?_
  refine l_remove v.d v.o S.oA (gR_toInt _) (gR_toInt _) (gR_toInt _) (fun h1 U1 z1 s1 d1 f1 o1 p1 => ?_)
  have v1 := v.cls S d1 f1 o1
  refine v1.sc (i := i) (j := 1) (by omega) (by omega) hL ?_
  refine v1.sc (i := i) (j := 2) (by omega) (by omega) hL ?_
  refine v1.sc (i := i) (j := 3) (by omega) (by omega) hL ?_
  refine ⟨v1.m.has, ?_⟩
  refine gCall_mk (by omega) (by omega) ?_
  refine r_remove v1.m (gR_toInt _) (gR_toInt _) (gR_toInt _) (fun h2 r2 d2 f2 p2 => ?_)
  have v2 := v1.ref S d2 f2
  exact kk _ _ _ _ _ _ _ _ v2 (by omega) (by omega)
theorem j_J604 (S : lS A B G O b) (v : lV A B G O b L xs h U st st no z s) (hL : L ≤ 320) (hi : i + 5 ≤ L) (hc : 1400 ≤ kc) (hs : 75000 ≤ ks) (kk : ∀ (h' : gaH) (U' : Nat → List Bool) (st' : GSt) (no' : Int) (z' : Int64) (s' : Value) (c2 s2 : Nat), lV A B G O b L xs h' U' st' st' no' z' s' → kc ≤ c2 + 1400 → ks ≤ s2 + 75000 → K b (A 22) (B 0) O ((i : Int) + 5) h' c2 s2) : w_L_law_J604 G K b (A 22) (B 0) O (i : Int) h kc ks := by
  unfold w_L_law_J604
  refine v.sc (i := i) (j := 1) (by omega) (by omega) hL ?_
  refine v.sc (i := i) (j := 2) (by omega) (by omega) hL ?_
  refine v.sc (i := i) (j := 3) (by omega) (by omega) hL ?_
  refine v.sc (i := i) (j := 4) (by omega) (by omega) hL ?_
  refine gCall_mk (by omega) (by omega) ?_
  refine l_replace v.d v.o S.oA (gR_toInt _) (gR_toInt _) (gR_toInt _) (gR_toInt _) (fun h1 U1 z1 s1 d1 f1 o1 p1 => ?_)
  have v1 := v.cls S d1 f1 o1
  refine v1.sc (i := i) (j := 1) (by omega) (by omega) hL ?_
  refine v1.sc (i := i) (j := 2) (by omega) (by omega) hL ?_
  refine v1.sc (i := i) (j := 3) (by omega) (by omega) hL ?_
  refine v1.sc (i := i) (j := 4) (by omega) (by omega) hL ?_
  refine ⟨v1.m.has, ?_⟩
  refine gCall_mk (by omega) (by omega) ?_
  refine r_replace v1.m (gR_toInt _) (gR_toInt _) (gR_toInt _) (gR_toInt _) (fun h2 r2 d2 f2 p2 => ?_)
  have v2 := v1.ref S d2 f2
  exact kk _ _ _ _ _ _ _ _ v2 (by omega) (by omega)
theorem j_J668 (S : lS A B G O b) (v : lV A B G O b L xs h U st st no z s) (hL : L ≤ 320) (hi : i + 5 ≤ L) (hc : 1400 ≤ kc) (hs : 75000 ≤ ks) (kk : ∀ (h' : gaH) (U' : Nat → List Bool) (st' : GSt) (no' : Int) (z' : Int64) (s' : Value) (c2 s2 : Nat), lV A B G O b L xs h' U' st' st' no' z' s' → kc ≤ c2 + 1400 → ks ≤ s2 + 75000 → K b (A 22) (B 0) O ((i : Int) + 5) h' c2 s2) : w_L_law_J668 G K b (A 22) (B 0) O (i : Int) h kc ks := by
  unfold w_L_law_J668
  refine v.sc (i := i) (j := 1) (by omega) (by omega) hL ?_
  refine v.sc (i := i) (j := 2) (by omega) (by omega) hL ?_
  refine gCall_mk (by omega) (by omega) ?_
  refine l_cutTo v.d v.o S.oA (gR_toInt _) (gR_toInt _) (fun h1 U1 z1 s1 d1 f1 o1 p1 => ?_)
  have v1 := v.cls S d1 f1 o1
  refine v1.sc (i := i) (j := 1) (by omega) (by omega) hL ?_
  refine v1.sc (i := i) (j := 2) (by omega) (by omega) hL ?_
  refine ⟨v1.m.has, ?_⟩
  refine gCall_mk (by omega) (by omega) ?_
  refine r_cutTo v1.m (gR_toInt _) (gR_toInt _) (fun h2 r2 d2 f2 p2 => ?_)
  have v2 := v1.ref S d2 f2
  exact kk _ _ _ _ _ _ _ _ v2 (by omega) (by omega)
theorem j_J708 (S : lS A B G O b) (v : lV A B G O b L xs h U st st no z s) (hL : L ≤ 320) (hi : i + 5 ≤ L) (hc : 1400 ≤ kc) (hs : 75000 ≤ ks) (kk : ∀ (h' : gaH) (U' : Nat → List Bool) (st' : GSt) (no' : Int) (z' : Int64) (s' : Value) (c2 s2 : Nat), lV A B G O b L xs h' U' st' st' no' z' s' → kc ≤ c2 + 1400 → ks ≤ s2 + 75000 → K b (A 22) (B 0) O ((i : Int) + 5) h' c2 s2) : w_L_law_J708 G K b (A 22) (B 0) O (i : Int) h kc ks := by
  unfold w_L_law_J708
  refine v.sc (i := i) (j := 1) (by omega) (by omega) hL ?_
  refine gCall_mk (by omega) (by omega) ?_
  refine l_turn v.d v.o S.oA (gR_toInt _) (fun h1 U1 z1 s1 d1 f1 o1 p1 => ?_)
  have v1 := v.cls S d1 f1 o1
  refine v1.sc (i := i) (j := 1) (by omega) (by omega) hL ?_
  refine ⟨v1.m.has, ?_⟩
  refine gCall_mk (by omega) (by omega) ?_
  refine r_turn v1.m (gR_toInt _) (fun h2 r2 d2 f2 p2 => ?_)
  have v2 := v1.ref S d2 f2
  exact kk _ _ _ _ _ _ _ _ v2 (by omega) (by omega)
theorem j_J736 (S : lS A B G O b) (v : lV A B G O b L xs h U st st no z s) (hL : L ≤ 320) (hi : i + 5 ≤ L) (hc : 1400 ≤ kc) (hs : 75000 ≤ ks) (kk : ∀ (h' : gaH) (U' : Nat → List Bool) (st' : GSt) (no' : Int) (z' : Int64) (s' : Value) (c2 s2 : Nat), lV A B G O b L xs h' U' st' st' no' z' s' → kc ≤ c2 + 1400 → ks ≤ s2 + 75000 → K b (A 22) (B 0) O ((i : Int) + 5) h' c2 s2) : w_L_law_J736 G K b (A 22) (B 0) O (i : Int) h kc ks := by
  unfold w_L_law_J736
  refine v.sc (i := i) (j := 1) (by omega) (by omega) hL ?_
  refine gCall_mk (by omega) (by omega) ?_
  refine l_exchange v.d v.o S.oA (gR_toInt _) (fun h1 U1 z1 s1 d1 f1 o1 p1 => ?_)
  have v1 := v.cls S d1 f1 o1
  refine v1.sc (i := i) (j := 1) (by omega) (by omega) hL ?_
  refine ⟨v1.m.has, ?_⟩
  refine gCall_mk (by omega) (by omega) ?_
  refine r_exchange v1.m (gR_toInt _) (fun h2 r2 d2 f2 p2 => ?_)
  have v2 := v1.ref S d2 f2
  exact kk _ _ _ _ _ _ _ _ v2 (by omega) (by omega)
theorem j_J764 (S : lS A B G O b) (v : lV A B G O b L xs h U st st no z s) (hL : L ≤ 320) (hi : i + 5 ≤ L) (hc : 1400 ≤ kc) (hs : 75000 ≤ ks) (kk : ∀ (h' : gaH) (U' : Nat → List Bool) (st' : GSt) (no' : Int) (z' : Int64) (s' : Value) (c2 s2 : Nat), lV A B G O b L xs h' U' st' st' no' z' s' → kc ≤ c2 + 1400 → ks ≤ s2 + 75000 → K b (A 22) (B 0) O ((i : Int) + 5) h' c2 s2) : w_L_law_J764 G K b (A 22) (B 0) O (i : Int) h kc ks := by
  unfold w_L_law_J764
  refine v.sc (i := i) (j := 1) (by omega) (by omega) hL ?_
  refine v.sc (i := i) (j := 2) (by omega) (by omega) hL ?_
  refine gCall_mk (by omega) (by omega) ?_
  refine l_rotate v.d v.o S.oA (gR_toInt _) (gR_toInt _) (fun h1 U1 z1 s1 d1 f1 o1 p1 => ?_)
  have v1 := v.cls S d1 f1 o1
  refine v1.sc (i := i) (j := 1) (by omega) (by omega) hL ?_
  refine v1.sc (i := i) (j := 2) (by omega) (by omega) hL ?_
  refine ⟨v1.m.has, ?_⟩
  refine gCall_mk (by omega) (by omega) ?_
  refine r_rotate v1.m (gR_toInt _) (gR_toInt _) (fun h2 r2 d2 f2 p2 => ?_)
  have v2 := v1.ref S d2 f2
  exact kk _ _ _ _ _ _ _ _ v2 (by omega) (by omega)
theorem j_J804 (S : lS A B G O b) (v : lV A B G O b L xs h U st st no z s) (hL : L ≤ 320) (hi : i + 5 ≤ L) (hc : 1400 ≤ kc) (hs : 75000 ≤ ks) (kk : ∀ (h' : gaH) (U' : Nat → List Bool) (st' : GSt) (no' : Int) (z' : Int64) (s' : Value) (c2 s2 : Nat), lV A B G O b L xs h' U' st' st' no' z' s' → kc ≤ c2 + 1400 → ks ≤ s2 + 75000 → K b (A 22) (B 0) O ((i : Int) + 5) h' c2 s2) : w_L_law_J804 G K b (A 22) (B 0) O (i : Int) h kc ks := by
  unfold w_L_law_J804
  refine v.sc (i := i) (j := 1) (by omega) (by omega) hL ?_
  refine v.sc (i := i) (j := 2) (by omega) (by omega) hL ?_
  refine gCall_mk (by omega) (by omega) ?_
  refine l_copy v.d v.o S.oA (gR_toInt _) (gR_toInt _) (fun h1 U1 z1 s1 d1 f1 o1 p1 => ?_)
  have v1 := v.cls S d1 f1 o1
  refine v1.sc (i := i) (j := 1) (by omega) (by omega) hL ?_
  refine v1.sc (i := i) (j := 2) (by omega) (by omega) hL ?_
  refine ⟨v1.m.has, ?_⟩
  refine r_copy v1.m (gR_toInt _) (gR_toInt _) (fun h2 r2 d2 f2 p2 => ?_)
  have v2 := v1.ref S d2 f2
  exact kk _ _ _ _ _ _ _ _ v2 (by omega) (by omega)
theorem j_J844 (S : lS A B G O b) (v : lV A B G O b L xs h U st st no z s) (hL : L ≤ 320) (hi : i + 5 ≤ L) (hc : 1400 ≤ kc) (hs : 75000 ≤ ks) (kk : ∀ (h' : gaH) (U' : Nat → List Bool) (st' : GSt) (no' : Int) (z' : Int64) (s' : Value) (c2 s2 : Nat), lV A B G O b L xs h' U' st' st' no' z' s' → kc ≤ c2 + 1400 → ks ≤ s2 + 75000 → K b (A 22) (B 0) O ((i : Int) + 5) h' c2 s2) : w_L_law_J844 G K b (A 22) (B 0) O (i : Int) h kc ks := by
  unfold w_L_law_J844
  refine v.sc (i := i) (j := 1) (by omega) (by omega) hL ?_
  refine v.sc (i := i) (j := 2) (by omega) (by omega) hL ?_
  refine v.sc (i := i) (j := 3) (by omega) (by omega) hL ?_
  refine gCall_mk (by omega) (by omega) ?_
  refine l_apply v.d v.o S.oA (gR_toInt _) (gR_toInt _) (gR_toInt _) (fun h1 U1 z1 s1 d1 f1 o1 p1 => ?_)
  have v1 := v.cls S d1 f1 o1
  refine v1.sc (i := i) (j := 1) (by omega) (by omega) hL ?_
  refine v1.sc (i := i) (j := 2) (by omega) (by omega) hL ?_
  refine v1.sc (i := i) (j := 3) (by omega) (by omega) hL ?_
  refine ⟨v1.m.has, ?_⟩
  refine gCall_mk (by omega) (by omega) ?_
  refine r_apply v1.m (gR_toInt _) (gR_toInt _) (gR_toInt _) (fun h2 r2 d2 f2 p2 => ?_)
  have v2 := v1.ref S d2 f2
  exact kk _ _ _ _ _ _ _ _ v2 (by omega) (by omega)
theorem j_J896 (S : lS A B G O b) (v : lV A B G O b L xs h U st st no z s) (hL : L ≤ 320) (hi : i + 5 ≤ L) (hc : 1400 ≤ kc) (hs : 75000 ≤ ks) (kk : ∀ (h' : gaH) (U' : Nat → List Bool) (st' : GSt) (no' : Int) (z' : Int64) (s' : Value) (c2 s2 : Nat), lV A B G O b L xs h' U' st' st' no' z' s' → kc ≤ c2 + 1400 → ks ≤ s2 + 75000 → K b (A 22) (B 0) O ((i : Int) + 5) h' c2 s2) : w_L_law_J896 G K b (A 22) (B 0) O (i : Int) h kc ks := by
  unfold w_L_law_J896
  refine v.sc (i := i) (j := 1) (by omega) (by omega) hL ?_
  refine v.sc (i := i) (j := 2) (by omega) (by omega) hL ?_
  refine v.sc (i := i) (j := 3) (by omega) (by omega) hL ?_
  refine gCall_mk (by omega) (by omega) ?_
  refine l_undo v.d v.o S.oA (gR_toInt _) (gR_toInt _) (gR_toInt _) (fun h1 U1 z1 s1 d1 f1 o1 p1 => ?_)
  have v1 := v.cls S d1 f1 o1
  refine v1.sc (i := i) (j := 1) (by omega) (by omega) hL ?_
  refine v1.sc (i := i) (j := 2) (by omega) (by omega) hL ?_
  refine v1.sc (i := i) (j := 3) (by omega) (by omega) hL ?_
  refine ⟨v1.m.has, ?_⟩
  refine gCall_mk (by omega) (by omega) ?_
  refine r_undo v1.m (gR_toInt _) (gR_toInt _) (gR_toInt _) (fun h2 r2 d2 f2 p2 => ?_)
  have v2 := v1.ref S d2 f2
  exact kk _ _ _ _ _ _ _ _ v2 (by omega) (by omega)
theorem j_J948 (S : lS A B G O b) (v : lV A B G O b L xs h U st st no z s) (hL : L ≤ 320) (hi : i + 5 ≤ L) (hc : 1400 ≤ kc) (hs : 75000 ≤ ks) (kk : ∀ (h' : gaH) (U' : Nat → List Bool) (st' : GSt) (no' : Int) (z' : Int64) (s' : Value) (c2 s2 : Nat), lV A B G O b L xs h' U' st' st' no' z' s' → kc ≤ c2 + 1400 → ks ≤ s2 + 75000 → K b (A 22) (B 0) O ((i : Int) + 5) h' c2 s2) : w_L_law_J948 G K b (A 22) (B 0) O (i : Int) h kc ks := by
  unfold w_L_law_J948
  refine v.sc (i := i) (j := 1) (by omega) (by omega) hL ?_
  refine v.sc (i := i) (j := 2) (by omega) (by omega) hL ?_
  refine v.sc (i := i) (j := 3) (by omega) (by omega) hL ?_
  refine gCall_mk (by omega) (by omega) ?_
  refine l_lay v.d v.o S.oA (gR_toInt _) (gR_toInt _) (gR_toInt _) (fun h1 U1 z1 s1 d1 f1 o1 p1 => ?_)
  have v1 := v.cls S d1 f1 o1
  refine v1.sc (i := i) (j := 1) (by omega) (by omega) hL ?_
  refine v1.sc (i := i) (j := 2) (by omega) (by omega) hL ?_
  refine v1.sc (i := i) (j := 3) (by omega) (by omega) hL ?_
  refine ⟨v1.m.has, ?_⟩
  refine gCall_mk (by omega) (by omega) ?_
  refine r_lay v1.m (gR_toInt _) (gR_toInt _) (gR_toInt _) (fun h2 r2 d2 f2 p2 => ?_)
  have v2 := v1.ref S d2 f2
  exact kk _ _ _ _ _ _ _ _ v2 (by omega) (by omega)
theorem j_J1000 (S : lS A B G O b) (v : lV A B G O b L xs h U st st no z s) (hL : L ≤ 320) (hi : i + 5 ≤ L) (hc : 1400 ≤ kc) (hs : 75000 ≤ ks) (kk : ∀ (h' : gaH) (U' : Nat → List Bool) (st' : GSt) (no' : Int) (z' : Int64) (s' : Value) (c2 s2 : Nat), lV A B G O b L xs h' U' st' st' no' z' s' → kc ≤ c2 + 1400 → ks ≤ s2 + 75000 → K b (A 22) (B 0) O ((i : Int) + 5) h' c2 s2) : w_L_law_J1000 G K b (A 22) (B 0) O (i : Int) h kc ks := by
  unfold w_L_law_J1000
  refine v.sc (i := i) (j := 1) (by omega) (by omega) hL ?_
  refine v.sc (i := i) (j := 2) (by omega) (by omega) hL ?_
  refine v.sc (i := i) (j := 3) (by omega) (by omega) hL ?_
  refine gCall_mk (by omega) (by omega) ?_
  refine l_twos v.d v.o S.oA (gR_toInt _) (gR_toInt _) (gR_toInt _) (fun h1 U1 z1 s1 d1 f1 o1 p1 => ?_)
  have v1 := v.cls S d1 f1 o1
  refine v1.sc (i := i) (j := 1) (by omega) (by omega) hL ?_
  refine v1.sc (i := i) (j := 2) (by omega) (by omega) hL ?_
  refine v1.sc (i := i) (j := 3) (by omega) (by omega) hL ?_
  refine ⟨v1.m.has, ?_⟩
  refine gCall_mk (by omega) (by omega) ?_
  refine r_twos v1.m (gR_toInt _) (gR_toInt _) (gR_toInt _) (fun h2 r2 d2 f2 p2 => ?_)
  have v2 := v1.ref S d2 f2
  exact kk _ _ _ _ _ _ _ _ v2 (by omega) (by omega)
theorem j_J1052 (S : lS A B G O b) (v : lV A B G O b L xs h U st st no z s) (hL : L ≤ 320) (hi : i + 5 ≤ L) (hc : 1400 ≤ kc) (hs : 75000 ≤ ks) (kk : ∀ (h' : gaH) (U' : Nat → List Bool) (st' : GSt) (no' : Int) (z' : Int64) (s' : Value) (c2 s2 : Nat), lV A B G O b L xs h' U' st' st' no' z' s' → kc ≤ c2 + 1400 → ks ≤ s2 + 75000 → K b (A 22) (B 0) O ((i : Int) + 5) h' c2 s2) : w_L_law_J1052 G K b (A 22) (B 0) O (i : Int) h kc ks := by
  unfold w_L_law_J1052
  refine v.sc (i := i) (j := 1) (by omega) (by omega) hL ?_
  refine v.sc (i := i) (j := 2) (by omega) (by omega) hL ?_
  refine v.sc (i := i) (j := 3) (by omega) (by omega) hL ?_
  refine v.sc (i := i) (j := 4) (by omega) (by omega) hL ?_
  refine gCall_mk (by omega) (by omega) ?_
  refine l_line v.d v.o S.oA (gR_toInt _) (gR_toInt _) (gR_toInt _) (gR_toInt _) (fun h1 U1 z1 s1 d1 f1 o1 p1 => ?_)
  have v1 := v.cls S d1 f1 o1
  refine v1.sc (i := i) (j := 1) (by omega) (by omega) hL ?_
  refine v1.sc (i := i) (j := 2) (by omega) (by omega) hL ?_
  refine v1.sc (i := i) (j := 3) (by omega) (by omega) hL ?_
  refine v1.sc (i := i) (j := 4) (by omega) (by omega) hL ?_
  refine ⟨v1.m.has, ?_⟩
  refine gCall_mk (by omega) (by omega) ?_
  refine r_line v1.m (gR_toInt _) (gR_toInt _) (gR_toInt _) (gR_toInt _) (fun h2 r2 d2 f2 p2 => ?_)
  have v2 := v1.ref S d2 f2
  exact kk _ _ _ _ _ _ _ _ v2 (by omega) (by omega)
theorem j_J1116 (S : lS A B G O b) (v : lV A B G O b L xs h U st st no z s) (hL : L ≤ 320) (hi : i + 5 ≤ L) (hc : 1400 ≤ kc) (hs : 75000 ≤ ks) (kk : ∀ (h' : gaH) (U' : Nat → List Bool) (st' : GSt) (no' : Int) (z' : Int64) (s' : Value) (c2 s2 : Nat), lV A B G O b L xs h' U' st' st' no' z' s' → kc ≤ c2 + 1400 → ks ≤ s2 + 75000 → K b (A 22) (B 0) O ((i : Int) + 5) h' c2 s2) : w_L_law_J1116 G K b (A 22) (B 0) O (i : Int) h kc ks := by
  unfold w_L_law_J1116
  refine v.sc (i := i) (j := 1) (by omega) (by omega) hL ?_
  refine v.sc (i := i) (j := 2) (by omega) (by omega) hL ?_
  refine gCall_mk (by omega) (by omega) ?_
  refine l_grow v.d v.o S.oA (gR_toInt _) (gR_toInt _) (fun h1 U1 z1 s1 d1 f1 o1 p1 => ?_)
  have v1 := v.cls S d1 f1 o1
  refine v1.sc (i := i) (j := 1) (by omega) (by omega) hL ?_
  refine v1.sc (i := i) (j := 2) (by omega) (by omega) hL ?_
  refine ⟨v1.m.has, ?_⟩
  refine gCall_mk (by omega) (by omega) ?_
  refine r_grow v1.m (gR_toInt _) (gR_toInt _) (fun h2 r2 d2 f2 p2 => ?_)
  have v2 := v1.ref S d2 f2
  exact kk _ _ _ _ _ _ _ _ v2 (by omega) (by omega)
theorem j_J1156 (S : lS A B G O b) (v : lV A B G O b L xs h U st st no z s) (hL : L ≤ 320) (hi : i + 5 ≤ L) (hc : 1400 ≤ kc) (hs : 75000 ≤ ks) (kk : ∀ (h' : gaH) (U' : Nat → List Bool) (st' : GSt) (no' : Int) (z' : Int64) (s' : Value) (c2 s2 : Nat), lV A B G O b L xs h' U' st' st' no' z' s' → kc ≤ c2 + 1400 → ks ≤ s2 + 75000 → K b (A 22) (B 0) O ((i : Int) + 5) h' c2 s2) : w_L_law_J1156 G K b (A 22) (B 0) O (i : Int) h kc ks := by
  unfold w_L_law_J1156
  refine v.sc (i := i) (j := 1) (by omega) (by omega) hL ?_
  refine gCall_mk (by omega) (by omega) ?_
  refine l_shrink v.d v.o S.oA (gR_toInt _) (fun h1 U1 z1 s1 d1 f1 o1 p1 => ?_)
  have v1 := v.cls S d1 f1 o1
  refine v1.sc (i := i) (j := 1) (by omega) (by omega) hL ?_
  refine ⟨v1.m.has, ?_⟩
  refine r_shrink v1.m (gR_toInt _) (fun h2 r2 d2 f2 p2 => ?_)
  have v2 := v1.ref S d2 f2
  exact kk _ _ _ _ _ _ _ _ v2 (by omega) (by omega)
theorem j_J1184 (S : lS A B G O b) (v : lV A B G O b L xs h U st st no z s) (hL : L ≤ 320) (hi : i + 5 ≤ L) (hc : 1400 ≤ kc) (hs : 75000 ≤ ks) (kk : ∀ (h' : gaH) (U' : Nat → List Bool) (st' : GSt) (no' : Int) (z' : Int64) (s' : Value) (c2 s2 : Nat), lV A B G O b L xs h' U' st' st' no' z' s' → kc ≤ c2 + 1400 → ks ≤ s2 + 75000 → K b (A 22) (B 0) O ((i : Int) + 5) h' c2 s2) : w_L_law_J1184 G K b (A 22) (B 0) O (i : Int) h kc ks := by
  unfold w_L_law_J1184
  refine v.sc (i := i) (j := 1) (by omega) (by omega) hL ?_
  refine gCall_mk (by omega) (by omega) ?_
  refine l_fresh v.d v.o S.oA (gR_toInt _) (fun h1 U1 z1 s1 d1 f1 o1 p1 => ?_)
  have v1 := v.cls S d1 f1 o1
  refine v1.sc (i := i) (j := 1) (by omega) (by omega) hL ?_
  refine ⟨v1.m.has, ?_⟩
  refine r_fresh v1.m (gR_toInt _) (fun h2 r2 d2 f2 p2 => ?_)
  have v2 := v1.ref S d2 f2
  exact kk _ _ _ _ _ _ _ _ v2 (by omega) (by omega)
theorem j_J1212 (S : lS A B G O b) (v : lV A B G O b L xs h U st st no z s) (hL : L ≤ 320) (hi : i + 5 ≤ L) (hc : 1400 ≤ kc) (hs : 75000 ≤ ks) (kk : ∀ (h' : gaH) (U' : Nat → List Bool) (st' : GSt) (no' : Int) (z' : Int64) (s' : Value) (c2 s2 : Nat), lV A B G O b L xs h' U' st' st' no' z' s' → kc ≤ c2 + 1400 → ks ≤ s2 + 75000 → K b (A 22) (B 0) O ((i : Int) + 5) h' c2 s2) : w_L_law_J1212 G K b (A 22) (B 0) O (i : Int) h kc ks := by
  unfold w_L_law_J1212
  refine v.sc (i := i) (j := 1) (by omega) (by omega) hL ?_
  refine gCall_mk (by omega) (by omega) ?_
  refine l_length v.d v.o S.oA (gR_toInt _) (fun h1 U1 z1 s1 d1 f1 o1 p1 => ?_)
  have v1 := v.cls S d1 f1 o1
  refine v1.sc (i := i) (j := 1) (by omega) (by omega) hL ?_
  refine ⟨v1.m.has, ?_⟩
  refine r_length v1.m (gR_toInt _) (fun h2 r2 d2 f2 p2 => ?_)
  have v2 := v1.ref S d2 f2
  exact kk _ _ _ _ _ _ _ _ v2 (by omega) (by omega)
theorem j_J1240 (S : lS A B G O b) (v : lV A B G O b L xs h U st st no z s) (hL : L ≤ 320) (hi : i + 5 ≤ L) (hc : 1400 ≤ kc) (hs : 75000 ≤ ks) (kk : ∀ (h' : gaH) (U' : Nat → List Bool) (st' : GSt) (no' : Int) (z' : Int64) (s' : Value) (c2 s2 : Nat), lV A B G O b L xs h' U' st' st' no' z' s' → kc ≤ c2 + 1400 → ks ≤ s2 + 75000 → K b (A 22) (B 0) O ((i : Int) + 5) h' c2 s2) : w_L_law_J1240 G K b (A 22) (B 0) O (i : Int) h kc ks := by
  unfold w_L_law_J1240
  refine v.sc (i := i) (j := 1) (by omega) (by omega) hL ?_
  refine v.sc (i := i) (j := 2) (by omega) (by omega) hL ?_
  refine gCall_mk (by omega) (by omega) ?_
  refine l_isB v.d v.o S.oA (gR_toInt _) (gR_toInt _) (fun h1 U1 z1 s1 d1 f1 o1 p1 => ?_)
  have v1 := v.cls S d1 f1 o1
  refine v1.sc (i := i) (j := 1) (by omega) (by omega) hL ?_
  refine v1.sc (i := i) (j := 2) (by omega) (by omega) hL ?_
  refine ⟨v1.m.has, ?_⟩
  refine r_isB v1.m (gR_toInt _) (gR_toInt _) (fun h2 r2 d2 f2 p2 => ?_)
  have v2 := v1.ref S d2 f2
  exact kk _ _ _ _ _ _ _ _ v2 (by omega) (by omega)
theorem j_J1280 (S : lS A B G O b) (v : lV A B G O b L xs h U st st no z s) (hL : L ≤ 320) (hi : i + 5 ≤ L) (hc : 1400 ≤ kc) (hs : 75000 ≤ ks) (kk : ∀ (h' : gaH) (U' : Nat → List Bool) (st' : GSt) (no' : Int) (z' : Int64) (s' : Value) (c2 s2 : Nat), lV A B G O b L xs h' U' st' st' no' z' s' → kc ≤ c2 + 1400 → ks ≤ s2 + 75000 → K b (A 22) (B 0) O ((i : Int) + 5) h' c2 s2) : w_L_law_J1280 G K b (A 22) (B 0) O (i : Int) h kc ks := by
  unfold w_L_law_J1280
  refine v.sc (i := i) (j := 1) (by omega) (by omega) hL ?_
  refine gCall_mk (by omega) (by omega) ?_
  refine l_text v.d v.o S.oA (gR_toInt _) (fun h1 U1 z1 s1 c1 d1 f1 o1 => ?_)
  have v1 := v.cls S d1 f1 o1
  refine v1.sc (i := i) (j := 1) (by omega) (by omega) hL ?_
  refine ⟨v1.m.has, ?_⟩
  refine gCall_mk (by omega) (by omega) ?_
  refine r_text v1.m (gR_toInt _) (fun c2 h2 r2 d2 f2 => ?_)
  have v2 := v1.ref S d2 f2
  exact kk _ _ _ _ _ _ _ _ v2 (by omega) (by omega)
theorem j_J1308 (S : lS A B G O b) (v : lV A B G O b L xs h U st st no z s) (hL : L ≤ 320) (hi : i + 5 ≤ L) (hc : 1400 ≤ kc) (hs : 75000 ≤ ks) (kk : ∀ (h' : gaH) (U' : Nat → List Bool) (st' : GSt) (no' : Int) (z' : Int64) (s' : Value) (c2 s2 : Nat), lV A B G O b L xs h' U' st' st' no' z' s' → kc ≤ c2 + 1400 → ks ≤ s2 + 75000 → K b (A 22) (B 0) O ((i : Int) + 5) h' c2 s2) : w_L_law_J1308 G K b (A 22) (B 0) O (i : Int) h kc ks := by
  by_cases q : (xs (i + 2)).toInt = 0
  · unfold w_L_law_J1308
    refine v.sc (i := i) (j := 1) (by omega) (by omega) hL ?_
    refine v.sc (i := i) (j := 2) (by omega) (by omega) hL ?_
    refine ⟨gR_toInt _, ?_⟩
    refine if_yes q ?_
    unfold w_L_law_J1329
    refine gCall_mk (by omega) (by omega) ?_
    refine l_count v.d v.o S.oA (gR_toInt _) (show (0 : Int) = b2i false from rfl) (fun h1 U1 z1 s1 d1 f1 o1 p1 => ?_)
    have v1 := v.cls S d1 f1 o1
    refine v1.sc (i := i) (j := 1) (by omega) (by omega) hL ?_
    refine v1.sc (i := i) (j := 2) (by omega) (by omega) hL ?_
    refine ⟨gR_toInt _, ?_⟩
    refine if_yes q ?_
    unfold w_L_law_J1356
    refine ⟨v1.m.has, ?_⟩
    refine r_count v1.m (gR_toInt _) (show (0 : Int) = b2i false from rfl) (fun h2 r2 d2 f2 p2 => ?_)
    have v2 := v1.ref S d2 f2
    exact kk _ _ _ _ _ _ _ _ v2 (by omega) (by omega)
  · unfold w_L_law_J1308
    refine v.sc (i := i) (j := 1) (by omega) (by omega) hL ?_
    refine v.sc (i := i) (j := 2) (by omega) (by omega) hL ?_
    refine ⟨gR_toInt _, ?_⟩
    refine if_no q ?_
    unfold w_L_law_J1329
    refine gCall_mk (by omega) (by omega) ?_
    refine l_count v.d v.o S.oA (gR_toInt _) (show (1 : Int) = b2i true from rfl) (fun h1 U1 z1 s1 d1 f1 o1 p1 => ?_)
    have v1 := v.cls S d1 f1 o1
    refine v1.sc (i := i) (j := 1) (by omega) (by omega) hL ?_
    refine v1.sc (i := i) (j := 2) (by omega) (by omega) hL ?_
    refine ⟨gR_toInt _, ?_⟩
    refine if_no q ?_
    unfold w_L_law_J1356
    refine ⟨v1.m.has, ?_⟩
    refine r_count v1.m (gR_toInt _) (show (1 : Int) = b2i true from rfl) (fun h2 r2 d2 f2 p2 => ?_)
    have v2 := v1.ref S d2 f2
    exact kk _ _ _ _ _ _ _ _ v2 (by omega) (by omega)
theorem j_J1364 (S : lS A B G O b) (v : lV A B G O b L xs h U st st no z s) (hL : L ≤ 320) (hi : i + 5 ≤ L) (hc : 1400 ≤ kc) (hs : 75000 ≤ ks) (kk : ∀ (h' : gaH) (U' : Nat → List Bool) (st' : GSt) (no' : Int) (z' : Int64) (s' : Value) (c2 s2 : Nat), lV A B G O b L xs h' U' st' st' no' z' s' → kc ≤ c2 + 1400 → ks ≤ s2 + 75000 → K b (A 22) (B 0) O ((i : Int) + 5) h' c2 s2) : w_L_law_J1364 G K b (A 22) (B 0) O (i : Int) h kc ks := by
  unfold w_L_law_J1364
  refine v.sc (i := i) (j := 1) (by omega) (by omega) hL ?_
  refine v.sc (i := i) (j := 2) (by omega) (by omega) hL ?_
  refine v.sc (i := i) (j := 3) (by omega) (by omega) hL ?_
  refine gCall_mk (by omega) (by omega) ?_
  refine l_find v.d v.o S.oA (gR_toInt _) (gR_toInt _) (gR_toInt _) (fun h1 U1 z1 s1 d1 f1 o1 p1 => ?_)
  rw [m_find_st] at d1
  have v1 := v.cls S d1 f1 o1
  refine v1.sc (i := i) (j := 1) (by omega) (by omega) hL ?_
  refine v1.sc (i := i) (j := 2) (by omega) (by omega) hL ?_
  refine v1.sc (i := i) (j := 3) (by omega) (by omega) hL ?_
  refine ⟨v1.m.has, ?_⟩
  refine r_find v1.m (gR_toInt _) (gR_toInt _) (gR_toInt _) (fun c2 h2 r2 d2 f2 => ?_)
  have v2 := v1.ref S d2 f2
  exact kk _ _ _ _ _ _ _ _ v2 (by omega) (by omega)
theorem j_J1416 (S : lS A B G O b) (v : lV A B G O b L xs h U st st no z s) (hL : L ≤ 320) (hi : i + 5 ≤ L) (hc : 1400 ≤ kc) (hs : 75000 ≤ ks) (kk : ∀ (h' : gaH) (U' : Nat → List Bool) (st' : GSt) (no' : Int) (z' : Int64) (s' : Value) (c2 s2 : Nat), lV A B G O b L xs h' U' st' st' no' z' s' → kc ≤ c2 + 1400 → ks ≤ s2 + 75000 → K b (A 22) (B 0) O ((i : Int) + 5) h' c2 s2) : w_L_law_J1416 G K b (A 22) (B 0) O (i : Int) h kc ks := by
  unfold w_L_law_J1416
  refine v.sc (i := i) (j := 1) (by omega) (by omega) hL ?_
  refine v.sc (i := i) (j := 2) (by omega) (by omega) hL ?_
  refine v.sc (i := i) (j := 3) (by omega) (by omega) hL ?_
  refine gCall_mk (by omega) (by omega) ?_
  refine l_findLast v.d v.o S.oA (gR_toInt _) (gR_toInt _) (gR_toInt _) (fun h1 U1 z1 s1 d1 f1 o1 p1 => ?_)
  rw [m_findLast_st] at d1
  have v1 := v.cls S d1 f1 o1
  refine v1.sc (i := i) (j := 1) (by omega) (by omega) hL ?_
  refine v1.sc (i := i) (j := 2) (by omega) (by omega) hL ?_
  refine v1.sc (i := i) (j := 3) (by omega) (by omega) hL ?_
  refine ⟨v1.m.has, ?_⟩
  refine r_findLast v1.m (gR_toInt _) (gR_toInt _) (gR_toInt _) (fun c2 h2 r2 d2 f2 => ?_)
  have v2 := v1.ref S d2 f2
  exact kk _ _ _ _ _ _ _ _ v2 (by omega) (by omega)
theorem j_J1468 (S : lS A B G O b) (v : lV A B G O b L xs h U st st no z s) (hL : L ≤ 320) (hi : i + 5 ≤ L) (hc : 1400 ≤ kc) (hs : 75000 ≤ ks) (kk : ∀ (h' : gaH) (U' : Nat → List Bool) (st' : GSt) (no' : Int) (z' : Int64) (s' : Value) (c2 s2 : Nat), lV A B G O b L xs h' U' st' st' no' z' s' → kc ≤ c2 + 1400 → ks ≤ s2 + 75000 → K b (A 22) (B 0) O ((i : Int) + 5) h' c2 s2) : w_L_law_J1468 G K b (A 22) (B 0) O (i : Int) h kc ks := by
  unfold w_L_law_J1468
  refine v.sc (i := i) (j := 1) (by omega) (by omega) hL ?_
  refine v.sc (i := i) (j := 2) (by omega) (by omega) hL ?_
  refine gCall_mk (by omega) (by omega) ?_
  refine l_order v.d v.o S.oA (gR_toInt _) (gR_toInt _) (fun h1 U1 z1 s1 d1 f1 o1 p1 => ?_)
  have v1 := v.cls S d1 f1 o1
  refine v1.sc (i := i) (j := 1) (by omega) (by omega) hL ?_
  refine v1.sc (i := i) (j := 2) (by omega) (by omega) hL ?_
  refine ⟨v1.m.has, ?_⟩
  refine r_order v1.m (gR_toInt _) (gR_toInt _) (fun h2 r2 d2 f2 p2 => ?_)
  have v2 := v1.ref S d2 f2
  exact kk _ _ _ _ _ _ _ _ v2 (by omega) (by omega)
theorem j_J1508 (S : lS A B G O b) (v : lV A B G O b L xs h U st st no z s) (hL : L ≤ 320) (hi : i + 5 ≤ L) (hc : 1400 ≤ kc) (hs : 75000 ≤ ks) (kk : ∀ (h' : gaH) (U' : Nat → List Bool) (st' : GSt) (no' : Int) (z' : Int64) (s' : Value) (c2 s2 : Nat), lV A B G O b L xs h' U' st' st' no' z' s' → kc ≤ c2 + 1400 → ks ≤ s2 + 75000 → K b (A 22) (B 0) O ((i : Int) + 5) h' c2 s2) : w_L_law_J1508 G K b (A 22) (B 0) O (i : Int) h kc ks := by
  unfold w_L_law_J1508
  refine v.sc (i := i) (j := 1) (by omega) (by omega) hL ?_
  refine gCall_mk (by omega) (by omega) ?_
  refine l_isMirrored v.d v.o S.oA (gR_toInt _) (fun h1 U1 z1 s1 d1 f1 o1 p1 => ?_)
  rw [m_isMirrored_st] at d1
  have v1 := v.cls S d1 f1 o1
  refine v1.sc (i := i) (j := 1) (by omega) (by omega) hL ?_
  refine ⟨v1.m.has, ?_⟩
  refine r_isMirrored v1.m (gR_toInt _) (fun c2 h2 r2 d2 f2 => ?_)
  have v2 := v1.ref S d2 f2
  exact kk _ _ _ _ _ _ _ _ v2 (by omega) (by omega)
theorem j_J1536 (S : lS A B G O b) (v : lV A B G O b L xs h U st st no z s) (hL : L ≤ 320) (hi : i + 5 ≤ L) (hc : 1400 ≤ kc) (hs : 75000 ≤ ks) (kk : ∀ (h' : gaH) (U' : Nat → List Bool) (st' : GSt) (no' : Int) (z' : Int64) (s' : Value) (c2 s2 : Nat), lV A B G O b L xs h' U' st' st' no' z' s' → kc ≤ c2 + 1400 → ks ≤ s2 + 75000 → K b (A 22) (B 0) O ((i : Int) + 5) h' c2 s2) : w_L_law_J1536 G K b (A 22) (B 0) O (i : Int) h kc ks := by
  by_cases q : (xs (i + 3)).toInt = 0
  · unfold w_L_law_J1536
    refine v.sc (i := i) (j := 1) (by omega) (by omega) hL ?_
    refine v.sc (i := i) (j := 2) (by omega) (by omega) hL ?_
    refine v.sc (i := i) (j := 3) (by omega) (by omega) hL ?_
    refine ⟨gR_toInt _, ?_⟩
    refine if_yes q ?_
    unfold w_L_law_J1563
    refine gCall_mk (by omega) (by omega) ?_
    refine l_spread v.d v.o S.oA (gR_toInt _) (gR_toInt _) (show (0 : Int) = b2i false from rfl) (fun h1 U1 z1 s1 d1 f1 o1 p1 => ?_)
    rw [m_spread_st] at d1
    have v1 := v.cls S d1 f1 o1
    refine v1.sc (i := i) (j := 1) (by omega) (by omega) hL ?_
    refine v1.sc (i := i) (j := 2) (by omega) (by omega) hL ?_
    refine v1.sc (i := i) (j := 3) (by omega) (by omega) hL ?_
    refine ⟨gR_toInt _, ?_⟩
    refine if_yes q ?_
    unfold w_L_law_J1596
    refine ⟨v1.m.has, ?_⟩
    refine r_spread v1.m (gR_toInt _) (gR_toInt _) (show (0 : Int) = b2i false from rfl) (fun c2 h2 r2 d2 f2 => ?_)
    have v2 := v1.ref S d2 f2
    exact kk _ _ _ _ _ _ _ _ v2 (by omega) (by omega)
  · unfold w_L_law_J1536
    refine v.sc (i := i) (j := 1) (by omega) (by omega) hL ?_
    refine v.sc (i := i) (j := 2) (by omega) (by omega) hL ?_
    refine v.sc (i := i) (j := 3) (by omega) (by omega) hL ?_
    refine ⟨gR_toInt _, ?_⟩
    refine if_no q ?_
    unfold w_L_law_J1563
    refine gCall_mk (by omega) (by omega) ?_
    refine l_spread v.d v.o S.oA (gR_toInt _) (gR_toInt _) (show (1 : Int) = b2i true from rfl) (fun h1 U1 z1 s1 d1 f1 o1 p1 => ?_)
    rw [m_spread_st] at d1
    have v1 := v.cls S d1 f1 o1
    refine v1.sc (i := i) (j := 1) (by omega) (by omega) hL ?_
    refine v1.sc (i := i) (j := 2) (by omega) (by omega) hL ?_
    refine v1.sc (i := i) (j := 3) (by omega) (by omega) hL ?_
    refine ⟨gR_toInt _, ?_⟩
    refine if_no q ?_
    unfold w_L_law_J1596
    refine ⟨v1.m.has, ?_⟩
    refine r_spread v1.m (gR_toInt _) (gR_toInt _) (show (1 : Int) = b2i true from rfl) (fun c2 h2 r2 d2 f2 => ?_)
    have v2 := v1.ref S d2 f2
    exact kk _ _ _ _ _ _ _ _ v2 (by omega) (by omega)
theorem j_J1604 (S : lS A B G O b) (v : lV A B G O b L xs h U st st no z s) (hL : L ≤ 320) (hi : i + 5 ≤ L) (hc : 1400 ≤ kc) (hs : 75000 ≤ ks) (kk : ∀ (h' : gaH) (U' : Nat → List Bool) (st' : GSt) (no' : Int) (z' : Int64) (s' : Value) (c2 s2 : Nat), lV A B G O b L xs h' U' st' st' no' z' s' → kc ≤ c2 + 1400 → ks ≤ s2 + 75000 → K b (A 22) (B 0) O ((i : Int) + 5) h' c2 s2) : w_L_law_J1604 G K b (A 22) (B 0) O (i : Int) h kc ks := by
  by_cases q : (xs (i + 3)).toInt = 0
  · unfold w_L_law_J1604
    refine v.sc (i := i) (j := 1) (by omega) (by omega) hL ?_
    refine v.sc (i := i) (j := 2) (by omega) (by omega) hL ?_
    refine v.sc (i := i) (j := 3) (by omega) (by omega) hL ?_
    refine ⟨gR_toInt _, ?_⟩
    refine if_yes q ?_
    unfold w_L_law_J1631
    refine gCall_mk (by omega) (by omega) ?_
    refine l_kinds v.d v.o S.oA (gR_toInt _) (gR_toInt _) (show (0 : Int) = b2i false from rfl) (fun h1 U1 z1 s1 d1 f1 o1 p1 => ?_)
    rw [m_kinds_st] at d1
    have v1 := v.cls S d1 f1 o1
    refine v1.sc (i := i) (j := 1) (by omega) (by omega) hL ?_
    refine v1.sc (i := i) (j := 2) (by omega) (by omega) hL ?_
    refine v1.sc (i := i) (j := 3) (by omega) (by omega) hL ?_
    refine ⟨gR_toInt _, ?_⟩
    refine if_yes q ?_
    unfold w_L_law_J1664
    refine ⟨v1.m.has, ?_⟩
    refine r_kinds v1.m (gR_toInt _) (gR_toInt _) (show (0 : Int) = b2i false from rfl) (fun c2 h2 r2 d2 f2 => ?_)
    have v2 := v1.ref S d2 f2
    exact kk _ _ _ _ _ _ _ _ v2 (by omega) (by omega)
  · unfold w_L_law_J1604
    refine v.sc (i := i) (j := 1) (by omega) (by omega) hL ?_
    refine v.sc (i := i) (j := 2) (by omega) (by omega) hL ?_
    refine v.sc (i := i) (j := 3) (by omega) (by omega) hL ?_
    refine ⟨gR_toInt _, ?_⟩
    refine if_no q ?_
    unfold w_L_law_J1631
    refine gCall_mk (by omega) (by omega) ?_
    refine l_kinds v.d v.o S.oA (gR_toInt _) (gR_toInt _) (show (1 : Int) = b2i true from rfl) (fun h1 U1 z1 s1 d1 f1 o1 p1 => ?_)
    rw [m_kinds_st] at d1
    have v1 := v.cls S d1 f1 o1
    refine v1.sc (i := i) (j := 1) (by omega) (by omega) hL ?_
    refine v1.sc (i := i) (j := 2) (by omega) (by omega) hL ?_
    refine v1.sc (i := i) (j := 3) (by omega) (by omega) hL ?_
    refine ⟨gR_toInt _, ?_⟩
    refine if_no q ?_
    unfold w_L_law_J1664
    refine ⟨v1.m.has, ?_⟩
    refine r_kinds v1.m (gR_toInt _) (gR_toInt _) (show (1 : Int) = b2i true from rfl) (fun c2 h2 r2 d2 f2 => ?_)
    have v2 := v1.ref S d2 f2
    exact kk _ _ _ _ _ _ _ _ v2 (by omega) (by omega)
theorem j_J1672 (S : lS A B G O b) (v : lV A B G O b L xs h U st st no z s) (hL : L ≤ 320) (hi : i + 5 ≤ L) (hc : 1400 ≤ kc) (hs : 75000 ≤ ks) (kk : ∀ (h' : gaH) (U' : Nat → List Bool) (st' : GSt) (no' : Int) (z' : Int64) (s' : Value) (c2 s2 : Nat), lV A B G O b L xs h' U' st' st' no' z' s' → kc ≤ c2 + 1400 → ks ≤ s2 + 75000 → K b (A 22) (B 0) O ((i : Int) + 5) h' c2 s2) : w_L_law_J1672 G K b (A 22) (B 0) O (i : Int) h kc ks := by
  unfold w_L_law_J1672
  refine v.sc (i := i) (j := 1) (by omega) (by omega) hL ?_
  refine gCall_mk (by omega) (by omega) ?_
  refine l_times v.d v.o S.oA (gR_toInt _) (fun h1 U1 z1 s1 d1 f1 o1 p1 => ?_)
  rw [m_times_st] at d1
  have v1 := v.cls S d1 f1 o1
  refine v1.sc (i := i) (j := 1) (by omega) (by omega) hL ?_
  refine ⟨v1.m.has, ?_⟩
  refine r_times v1.m (gR_toInt _) (fun c2 h2 r2 d2 f2 => ?_)
  have v2 := v1.ref S d2 f2
  exact kk _ _ _ _ _ _ _ _ v2 (by omega) (by omega)
theorem j_J1700 (S : lS A B G O b) (v : lV A B G O b L xs h U st st no z s) (hL : L ≤ 320) (hi : i + 5 ≤ L) (hc : 1400 ≤ kc) (hs : 75000 ≤ ks) (kk : ∀ (h' : gaH) (U' : Nat → List Bool) (st' : GSt) (no' : Int) (z' : Int64) (s' : Value) (c2 s2 : Nat), lV A B G O b L xs h' U' st' st' no' z' s' → kc ≤ c2 + 1400 → ks ≤ s2 + 75000 → K b (A 22) (B 0) O ((i : Int) + 5) h' c2 s2) : w_L_law_J1700 G K b (A 22) (B 0) O (i : Int) h kc ks := by
  unfold w_L_law_J1700
  refine v.sc (i := i) (j := 1) (by omega) (by omega) hL ?_
  refine gCall_mk (by omega) (by omega) ?_
  refine l_overlaps v.d v.o S.oA (gR_toInt _) (fun h1 U1 z1 s1 d1 f1 o1 p1 => ?_)
  rw [m_overlaps_st] at d1
  have v1 := v.cls S d1 f1 o1
  refine v1.sc (i := i) (j := 1) (by omega) (by omega) hL ?_
  refine ⟨v1.m.has, ?_⟩
  refine r_overlaps v1.m (gR_toInt _) (fun c2 h2 r2 d2 f2 => ?_)
  have v2 := v1.ref S d2 f2
  exact kk _ _ _ _ _ _ _ _ v2 (by omega) (by omega)
theorem j_J1728 (S : lS A B G O b) (v : lV A B G O b L xs h U st st no z s) (hL : L ≤ 320) (hi : i + 5 ≤ L) (hc : 1400 ≤ kc) (hs : 75000 ≤ ks) (kk : ∀ (h' : gaH) (U' : Nat → List Bool) (st' : GSt) (no' : Int) (z' : Int64) (s' : Value) (c2 s2 : Nat), lV A B G O b L xs h' U' st' st' no' z' s' → kc ≤ c2 + 1400 → ks ≤ s2 + 75000 → K b (A 22) (B 0) O ((i : Int) + 5) h' c2 s2) : w_L_law_J1728 G K b (A 22) (B 0) O (i : Int) h kc ks := by
  unfold w_L_law_J1728
  refine v.sc (i := i) (j := 1) (by omega) (by omega) hL ?_
  refine gCall_mk (by omega) (by omega) ?_
  refine l_mirrors v.d v.o S.oA (gR_toInt _) (fun h1 U1 z1 s1 d1 f1 o1 p1 => ?_)
  rw [m_mirrors_st] at d1
  have v1 := v.cls S d1 f1 o1
  refine v1.sc (i := i) (j := 1) (by omega) (by omega) hL ?_
  refine ⟨v1.m.has, ?_⟩
  refine r_mirrors v1.m (gR_toInt _) (fun c2 h2 r2 d2 f2 => ?_)
  have v2 := v1.ref S d2 f2
  exact kk _ _ _ _ _ _ _ _ v2 (by omega) (by omega)
theorem j_J1756 (S : lS A B G O b) (v : lV A B G O b L xs h U st st no z s) (hL : L ≤ 320) (hi : i + 5 ≤ L) (hc : 1400 ≤ kc) (hs : 75000 ≤ ks) (kk : ∀ (h' : gaH) (U' : Nat → List Bool) (st' : GSt) (no' : Int) (z' : Int64) (s' : Value) (c2 s2 : Nat), lV A B G O b L xs h' U' st' st' no' z' s' → kc ≤ c2 + 1400 → ks ≤ s2 + 75000 → K b (A 22) (B 0) O ((i : Int) + 5) h' c2 s2) : w_L_law_J1756 G K b (A 22) (B 0) O (i : Int) h kc ks := by
  unfold w_L_law_J1756
  refine v.sc (i := i) (j := 1) (by omega) (by omega) hL ?_
  refine gCall_mk (by omega) (by omega) ?_
  refine l_folds v.d v.o S.oA (gR_toInt _) (fun h1 U1 z1 s1 d1 f1 o1 p1 => ?_)
  rw [m_folds_st] at d1
  have v1 := v.cls S d1 f1 o1
  refine v1.sc (i := i) (j := 1) (by omega) (by omega) hL ?_
  refine ⟨v1.m.has, ?_⟩
  refine r_folds v1.m (gR_toInt _) (fun c2 h2 r2 d2 f2 => ?_)
  have v2 := v1.ref S d2 f2
  exact kk _ _ _ _ _ _ _ _ v2 (by omega) (by omega)
theorem j_J1784 (S : lS A B G O b) (v : lV A B G O b L xs h U st st no z s) (hL : L ≤ 320) (hi : i + 5 ≤ L) (hc : 1400 ≤ kc) (hs : 75000 ≤ ks) (kk : ∀ (h' : gaH) (U' : Nat → List Bool) (st' : GSt) (no' : Int) (z' : Int64) (s' : Value) (c2 s2 : Nat), lV A B G O b L xs h' U' st' st' no' z' s' → kc ≤ c2 + 1400 → ks ≤ s2 + 75000 → K b (A 22) (B 0) O ((i : Int) + 5) h' c2 s2) : w_L_law_J1784 G K b (A 22) (B 0) O (i : Int) h kc ks := by
  unfold w_L_law_J1784
  refine v.sc (i := i) (j := 1) (by omega) (by omega) hL ?_
  refine gCall_mk (by omega) (by omega) ?_
  refine l_least v.d v.o S.oA (gR_toInt _) (fun h1 U1 z1 s1 d1 f1 o1 p1 => ?_)
  rw [m_least_st] at d1
  have v1 := v.cls S d1 f1 o1
  refine v1.sc (i := i) (j := 1) (by omega) (by omega) hL ?_
  refine ⟨v1.m.has, ?_⟩
  refine r_least v1.m (gR_toInt _) (fun c2 h2 r2 d2 f2 => ?_)
  have v2 := v1.ref S d2 f2
  exact kk _ _ _ _ _ _ _ _ v2 (by omega) (by omega)
theorem j_J1812 (S : lS A B G O b) (v : lV A B G O b L xs h U st st no z s) (hL : L ≤ 320) (hi : i + 5 ≤ L) (hc : 1400 ≤ kc) (hs : 75000 ≤ ks) (kk : ∀ (h' : gaH) (U' : Nat → List Bool) (st' : GSt) (no' : Int) (z' : Int64) (s' : Value) (c2 s2 : Nat), lV A B G O b L xs h' U' st' st' no' z' s' → kc ≤ c2 + 1400 → ks ≤ s2 + 75000 → K b (A 22) (B 0) O ((i : Int) + 5) h' c2 s2) : w_L_law_J1812 G K b (A 22) (B 0) O (i : Int) h kc ks := by
  unfold w_L_law_J1812
  refine v.sc (i := i) (j := 1) (by omega) (by omega) hL ?_
  refine v.sc (i := i) (j := 2) (by omega) (by omega) hL ?_
  refine gCall_mk (by omega) (by omega) ?_
  refine l_isApart v.d v.o S.oA (gR_toInt _) (gR_toInt _) (fun h1 U1 z1 s1 d1 f1 o1 p1 => ?_)
  have v1 := v.cls S d1 f1 o1
  refine v1.sc (i := i) (j := 1) (by omega) (by omega) hL ?_
  refine v1.sc (i := i) (j := 2) (by omega) (by omega) hL ?_
  refine ⟨v1.m.has, ?_⟩
  refine gCall_mk (by omega) (by omega) ?_
  refine r_isApart v1.m (gR_toInt _) (gR_toInt _) (fun h2 r2 d2 f2 p2 => ?_)
  have v2 := v1.ref S d2 f2
  exact kk _ _ _ _ _ _ _ _ v2 (by omega) (by omega)
theorem j_J1852 (S : lS A B G O b) (v : lV A B G O b L xs h U st st no z s) (hL : L ≤ 320) (hi : i + 5 ≤ L) (hc : 1400 ≤ kc) (hs : 75000 ≤ ks) (kk : ∀ (h' : gaH) (U' : Nat → List Bool) (st' : GSt) (no' : Int) (z' : Int64) (s' : Value) (c2 s2 : Nat), lV A B G O b L xs h' U' st' st' no' z' s' → kc ≤ c2 + 1400 → ks ≤ s2 + 75000 → K b (A 22) (B 0) O ((i : Int) + 5) h' c2 s2) : w_L_law_J1852 G K b (A 22) (B 0) O (i : Int) h kc ks := by
  unfold w_L_law_J1852
  refine v.sc (i := i) (j := 1) (by omega) (by omega) hL ?_
  refine gCall_mk (by omega) (by omega) ?_
  refine l_turns v.d v.o S.oA (gR_toInt _) v.n3 (fun h1 U1 z1 s1 c1 d1 f1 o1 => ?_)
  have v1 := v.cls S d1 f1 o1
  refine v1.sc (i := i) (j := 1) (by omega) (by omega) hL ?_
  refine ⟨v1.m.has, ?_⟩
  refine gCall_mk (by omega) (by omega) ?_
  refine r_turns v1.m (gR_toInt _) v1.n3 S.n1 (fun c2 h2 r2 d2 f2 => ?_)
  have v2 := v1.ref S d2 f2
  exact kk _ _ _ _ _ _ _ _ v2 (by omega) (by omega)
theorem j_J1880 (S : lS A B G O b) (v : lV A B G O b L xs h U st st no z s) (hL : L ≤ 320) (hi : i + 5 ≤ L) (hc : 1400 ≤ kc) (hs : 75000 ≤ ks) (kk : ∀ (h' : gaH) (U' : Nat → List Bool) (st' : GSt) (no' : Int) (z' : Int64) (s' : Value) (c2 s2 : Nat), lV A B G O b L xs h' U' st' st' no' z' s' → kc ≤ c2 + 1400 → ks ≤ s2 + 75000 → K b (A 22) (B 0) O ((i : Int) + 5) h' c2 s2) : w_L_law_J1880 G K b (A 22) (B 0) O (i : Int) h kc ks := by
  by_cases q : (xs (i + 2)).toInt = 0
  · unfold w_L_law_J1880
    refine v.sc (i := i) (j := 1) (by omega) (by omega) hL ?_
    refine v.sc (i := i) (j := 2) (by omega) (by omega) hL ?_
    refine ⟨gR_toInt _, ?_⟩
    refine if_yes q ?_
    unfold w_L_law_J1901
    refine gCall_mk (by omega) (by omega) ?_
    refine l_grown_x v.d v.o S.oA (gR_toInt _) (show (0 : Int) = b2i false from rfl) (fun c1 h1 U1 z1 s1 d1 f1 o1 e1 p1 => ?_)
    have v1 := v.cls S d1 f1 o1
    refine v1.sc (i := i) (j := 1) (by omega) (by omega) hL ?_
    refine v1.sc (i := i) (j := 2) (by omega) (by omega) hL ?_
    refine ⟨gR_toInt _, ?_⟩
    refine if_yes q ?_
    unfold w_L_law_J1928
    refine ⟨v1.m.has, ?_⟩
    refine gCall_mk (by omega) (by omega) ?_
    refine r_grown_x v1.m (gR_toInt _) (show (0 : Int) = b2i false from rfl) (fun c2 h2 r2 d2 f2 e2 p2 => ?_)
    have v2 := v1.ref S d2 f2
    refine ⟨v2.m.has, ?_⟩
    refine r_thrown v2.m ?_
    refine cmpT (fun hq => w_L_law_J2201 G K b (A 22) (B 0) O (i : Int) hq _ _) txt_R (tx_lG v2.m) e1 e2 (fun q => (p1 q).imp (fun _ w => ⟨w.1, w.2.on v.m f2⟩)) p2 v2.o ?_
    exact kk _ _ _ _ _ _ _ _ v2 (by omega) (by omega)
  · unfold w_L_law_J1880
    refine v.sc (i := i) (j := 1) (by omega) (by omega) hL ?_
    refine v.sc (i := i) (j := 2) (by omega) (by omega) hL ?_
    refine ⟨gR_toInt _, ?_⟩
    refine if_no q ?_
    unfold w_L_law_J1901
    refine gCall_mk (by omega) (by omega) ?_
    refine l_grown_x v.d v.o S.oA (gR_toInt _) (show (1 : Int) = b2i true from rfl) (fun c1 h1 U1 z1 s1 d1 f1 o1 e1 p1 => ?_)
    have v1 := v.cls S d1 f1 o1
    refine v1.sc (i := i) (j := 1) (by omega) (by omega) hL ?_
    refine v1.sc (i := i) (j := 2) (by omega) (by omega) hL ?_
    refine ⟨gR_toInt _, ?_⟩
    refine if_no q ?_
    unfold w_L_law_J1928
    refine ⟨v1.m.has, ?_⟩
    refine gCall_mk (by omega) (by omega) ?_
    refine r_grown_x v1.m (gR_toInt _) (show (1 : Int) = b2i true from rfl) (fun c2 h2 r2 d2 f2 e2 p2 => ?_)
    have v2 := v1.ref S d2 f2
    refine ⟨v2.m.has, ?_⟩
    refine r_thrown v2.m ?_
    refine cmpT (fun hq => w_L_law_J2201 G K b (A 22) (B 0) O (i : Int) hq _ _) txt_R (tx_lG v2.m) e1 e2 (fun q => (p1 q).imp (fun _ w => ⟨w.1, w.2.on v.m f2⟩)) p2 v2.o ?_
    exact kk _ _ _ _ _ _ _ _ v2 (by omega) (by omega)
theorem j_J1966 (S : lS A B G O b) (v : lV A B G O b L xs h U st st no z s) (hL : L ≤ 320) (hi : i + 5 ≤ L) (hc : 1400 ≤ kc) (hs : 75000 ≤ ks) (kk : ∀ (h' : gaH) (U' : Nat → List Bool) (st' : GSt) (no' : Int) (z' : Int64) (s' : Value) (c2 s2 : Nat), lV A B G O b L xs h' U' st' st' no' z' s' → kc ≤ c2 + 1400 → ks ≤ s2 + 75000 → K b (A 22) (B 0) O ((i : Int) + 5) h' c2 s2) : w_L_law_J1966 G K b (A 22) (B 0) O (i : Int) h kc ks := by
  by_cases q : (xs (i + 2)).toInt = 0
  · unfold w_L_law_J1966
    refine v.sc (i := i) (j := 1) (by omega) (by omega) hL ?_
    refine v.sc (i := i) (j := 2) (by omega) (by omega) hL ?_
    refine ⟨gR_toInt _, ?_⟩
    refine if_yes q ?_
    unfold w_L_law_J1987
    refine gCall_mk (by omega) (by omega) ?_
    refine l_size v.d v.o S.oA (gR_toInt _) (show (0 : Int) = b2i false from rfl) (fun h1 U1 z1 s1 d1 f1 o1 p1 => ?_)
    have v1 := v.cls S d1 f1 o1
    refine v1.sc (i := i) (j := 1) (by omega) (by omega) hL ?_
    refine v1.sc (i := i) (j := 2) (by omega) (by omega) hL ?_
    refine ⟨gR_toInt _, ?_⟩
    refine if_yes q ?_
    unfold w_L_law_J2014
    refine ⟨v1.m.has, ?_⟩
    refine gCall_mk (by omega) (by omega) ?_
    refine r_size v1.m (gR_toInt _) (show (0 : Int) = b2i false from rfl) (fun h2 r2 d2 f2 p2 => ?_)
    have v2 := v1.ref S d2 f2
    exact kk _ _ _ _ _ _ _ _ v2 (by omega) (by omega)
  · unfold w_L_law_J1966
    refine v.sc (i := i) (j := 1) (by omega) (by omega) hL ?_
    refine v.sc (i := i) (j := 2) (by omega) (by omega) hL ?_
    refine ⟨gR_toInt _, ?_⟩
    refine if_no q ?_
    unfold w_L_law_J1987
    refine gCall_mk (by omega) (by omega) ?_
    refine l_size v.d v.o S.oA (gR_toInt _) (show (1 : Int) = b2i true from rfl) (fun h1 U1 z1 s1 d1 f1 o1 p1 => ?_)
    have v1 := v.cls S d1 f1 o1
    refine v1.sc (i := i) (j := 1) (by omega) (by omega) hL ?_
    refine v1.sc (i := i) (j := 2) (by omega) (by omega) hL ?_
    refine ⟨gR_toInt _, ?_⟩
    refine if_no q ?_
    unfold w_L_law_J2014
    refine ⟨v1.m.has, ?_⟩
    refine gCall_mk (by omega) (by omega) ?_
    refine r_size v1.m (gR_toInt _) (show (1 : Int) = b2i true from rfl) (fun h2 r2 d2 f2 p2 => ?_)
    have v2 := v1.ref S d2 f2
    exact kk _ _ _ _ _ _ _ _ v2 (by omega) (by omega)
theorem j_J2022 (S : lS A B G O b) (v : lV A B G O b L xs h U st st no z s) (hL : L ≤ 320) (hi : i + 5 ≤ L) (hc : 1400 ≤ kc) (hs : 75000 ≤ ks) (kk : ∀ (h' : gaH) (U' : Nat → List Bool) (st' : GSt) (no' : Int) (z' : Int64) (s' : Value) (c2 s2 : Nat), lV A B G O b L xs h' U' st' st' no' z' s' → kc ≤ c2 + 1400 → ks ≤ s2 + 75000 → K b (A 22) (B 0) O ((i : Int) + 5) h' c2 s2) : w_L_law_J2022 G K b (A 22) (B 0) O (i : Int) h kc ks := by
  by_cases q : (xs (i + 2)).toInt = 0
  · unfold w_L_law_J2022
    refine v.sc (i := i) (j := 1) (by omega) (by omega) hL ?_
    refine v.sc (i := i) (j := 2) (by omega) (by omega) hL ?_
    refine ⟨gR_toInt _, ?_⟩
    refine if_yes q ?_
    unfold w_L_law_J2043
    refine gCall_mk (by omega) (by omega) ?_
    refine l_ups v.d v.o S.oA (gR_toInt _) (show (0 : Int) = b2i false from rfl) (fun h1 U1 z1 s1 d1 f1 o1 p1 => ?_)
    have v1 := v.cls S d1 f1 o1
    refine v1.sc (i := i) (j := 1) (by omega) (by omega) hL ?_
    refine v1.sc (i := i) (j := 2) (by omega) (by omega) hL ?_
    refine ⟨gR_toInt _, ?_⟩
    refine if_yes q ?_
    unfold w_L_law_J2070
    refine ⟨v1.m.has, ?_⟩
    refine gCall_mk (by omega) (by omega) ?_
    refine r_ups v1.m (gR_toInt _) (show (0 : Int) = b2i false from rfl) (fun h2 r2 d2 f2 p2 => ?_)
    have v2 := v1.ref S d2 f2
    exact kk _ _ _ _ _ _ _ _ v2 (by omega) (by omega)
  · unfold w_L_law_J2022
    refine v.sc (i := i) (j := 1) (by omega) (by omega) hL ?_
    refine v.sc (i := i) (j := 2) (by omega) (by omega) hL ?_
    refine ⟨gR_toInt _, ?_⟩
    refine if_no q ?_
    unfold w_L_law_J2043
    refine gCall_mk (by omega) (by omega) ?_
    refine l_ups v.d v.o S.oA (gR_toInt _) (show (1 : Int) = b2i true from rfl) (fun h1 U1 z1 s1 d1 f1 o1 p1 => ?_)
    have v1 := v.cls S d1 f1 o1
    refine v1.sc (i := i) (j := 1) (by omega) (by omega) hL ?_
    refine v1.sc (i := i) (j := 2) (by omega) (by omega) hL ?_
    refine ⟨gR_toInt _, ?_⟩
    refine if_no q ?_
    unfold w_L_law_J2070
    refine ⟨v1.m.has, ?_⟩
    refine gCall_mk (by omega) (by omega) ?_
    refine r_ups v1.m (gR_toInt _) (show (1 : Int) = b2i true from rfl) (fun h2 r2 d2 f2 p2 => ?_)
    have v2 := v1.ref S d2 f2
    exact kk _ _ _ _ _ _ _ _ v2 (by omega) (by omega)
theorem j_J2078 (S : lS A B G O b) (v : lV A B G O b L xs h U st st no z s) (hL : L ≤ 320) (hi : i + 5 ≤ L) (hc : 1400 ≤ kc) (hs : 75000 ≤ ks) (kk : ∀ (h' : gaH) (U' : Nat → List Bool) (st' : GSt) (no' : Int) (z' : Int64) (s' : Value) (c2 s2 : Nat), lV A B G O b L xs h' U' st' st' no' z' s' → kc ≤ c2 + 1400 → ks ≤ s2 + 75000 → K b (A 22) (B 0) O ((i : Int) + 5) h' c2 s2) : w_L_law_J2078 G K b (A 22) (B 0) O (i : Int) h kc ks := by
  unfold w_L_law_J2078
  refine v.sc (i := i) (j := 1) (by omega) (by omega) hL ?_
  refine gCall_mk (by omega) (by omega) ?_
  refine l_cross v.d v.o S.oA (gR_toInt _) (fun h1 U1 z1 s1 d1 f1 o1 p1 => ?_)
  have v1 := v.cls S d1 f1 o1
  refine v1.sc (i := i) (j := 1) (by omega) (by omega) hL ?_
  refine ⟨v1.m.has, ?_⟩
  refine gCall_mk (by omega) (by omega) ?_
  refine r_cross v1.m (gR_toInt _) (fun h2 r2 d2 f2 p2 => ?_)
  have v2 := v1.ref S d2 f2
  exact kk _ _ _ _ _ _ _ _ v2 (by omega) (by omega)
theorem j_J2106 (S : lS A B G O b) (v : lV A B G O b L xs h U st st no z s) (hL : L ≤ 320) (hi : i + 5 ≤ L) (hc : 1400 ≤ kc) (hs : 75000 ≤ ks) (kk : ∀ (h' : gaH) (U' : Nat → List Bool) (st' : GSt) (no' : Int) (z' : Int64) (s' : Value) (c2 s2 : Nat), lV A B G O b L xs h' U' st' st' no' z' s' → kc ≤ c2 + 1400 → ks ≤ s2 + 75000 → K b (A 22) (B 0) O ((i : Int) + 5) h' c2 s2) : w_L_law_J2106 G K b (A 22) (B 0) O (i : Int) h kc ks := by
  unfold w_L_law_J2106
  refine v.sc (i := i) (j := 1) (by omega) (by omega) hL ?_
  refine gCall_mk (by omega) (by omega) ?_
  refine l_alike v.d v.o S.oA (gR_toInt _) (fun h1 U1 z1 s1 d1 f1 o1 p1 => ?_)
  have v1 := v.cls S d1 f1 o1
  refine v1.sc (i := i) (j := 1) (by omega) (by omega) hL ?_
  refine ⟨v1.m.has, ?_⟩
  refine gCall_mk (by omega) (by omega) ?_
  refine r_alike v1.m (gR_toInt _) (fun h2 r2 d2 f2 p2 => ?_)
  have v2 := v1.ref S d2 f2
  exact kk _ _ _ _ _ _ _ _ v2 (by omega) (by omega)
theorem j_J2134 (S : lS A B G O b) (v : lV A B G O b L xs h U st st no z s) (hL : L ≤ 320) (hi : i + 5 ≤ L) (hc : 1400 ≤ kc) (hs : 75000 ≤ ks) (kk : ∀ (h' : gaH) (U' : Nat → List Bool) (st' : GSt) (no' : Int) (z' : Int64) (s' : Value) (c2 s2 : Nat), lV A B G O b L xs h' U' st' st' no' z' s' → kc ≤ c2 + 1400 → ks ≤ s2 + 75000 → K b (A 22) (B 0) O ((i : Int) + 5) h' c2 s2) : w_L_law_J2134 G K b (A 22) (B 0) O (i : Int) h kc ks := by
  unfold w_L_law_J2134
  refine v.sc (i := i) (j := 1) (by omega) (by omega) hL ?_
  refine gCall_mk (by omega) (by omega) ?_
  refine l_house v.d v.o S.oA (gR_toInt _) (fun h1 U1 z1 s1 d1 f1 o1 p1 => ?_)
  have v1 := v.cls S d1 f1 o1
  refine v1.sc (i := i) (j := 1) (by omega) (by omega) hL ?_
  refine ⟨v1.m.has, ?_⟩
  refine r_house v1.m (gR_toInt _) (fun h2 r2 d2 f2 p2 => ?_)
  have v2 := v1.ref S d2 f2
  exact kk _ _ _ _ _ _ _ _ v2 (by omega) (by omega)
theorem j_J2162 (S : lS A B G O b) (v : lV A B G O b L xs h U st st no z s) (hL : L ≤ 320) (hi : i + 5 ≤ L) (hc : 1400 ≤ kc) (hs : 75000 ≤ ks) (kk : ∀ (h' : gaH) (U' : Nat → List Bool) (st' : GSt) (no' : Int) (z' : Int64) (s' : Value) (c2 s2 : Nat), lV A B G O b L xs h' U' st' st' no' z' s' → kc ≤ c2 + 1400 → ks ≤ s2 + 75000 → K b (A 22) (B 0) O ((i : Int) + 5) h' c2 s2) : w_L_law_J2162 G K b (A 22) (B 0) O (i : Int) h kc ks := by
  unfold w_L_law_J2162
  refine ⟨v.d.has, ?_⟩
  refine c_knock (E := []) (X := fun _ _ => True) v.d (fun h1 U1 d1 g1 => ⟨fun _ r1 e1 => ?_, fun q => absurd rfl q⟩)
  have v1 := v.cls S d1 (lF.fr g1) (g1 _ _ S.oA v.o)
  refine ⟨v1.m.has, ?_⟩
  refine r_knock v1.m  (fun h2 r2 d2 f2 p2 => ?_)
  have v2 := v1.ref S d2 f2
  exact kk _ _ _ _ _ _ _ _ v2 (by omega) (by omega)
theorem j_J2175 (S : lS A B G O b) (v : lV A B G O b L xs h U st st no z s) (hL : L ≤ 320) (hi : i + 5 ≤ L) (hc : 1400 ≤ kc) (hs : 75000 ≤ ks) (kk : ∀ (h' : gaH) (U' : Nat → List Bool) (st' : GSt) (no' : Int) (z' : Int64) (s' : Value) (c2 s2 : Nat), lV A B G O b L xs h' U' st' st' no' z' s' → kc ≤ c2 + 1400 → ks ≤ s2 + 75000 → K b (A 22) (B 0) O ((i : Int) + 5) h' c2 s2) : w_L_law_J2175 G K b (A 22) (B 0) O (i : Int) h kc ks := by
  unfold w_L_law_J2175
  refine ⟨v.d.has, ?_⟩
  refine gCall_mk (by omega) (by omega) ?_
  refine c_isSound (E := []) v.d (fun h1 U1 d1 g1 => ⟨fun _ r1 e1 => ?_, fun q => absurd rfl q⟩)
  have v1 := v.cls S d1 (lF.fr g1) (g1 _ _ S.oA v.o)
  refine ⟨v1.m.has, ?_⟩
  refine gCall_mk (by omega) (by omega) ?_
  refine r_isSound v1.m  (fun h2 r2 d2 f2 p2 => ?_)
  have v2 := v1.ref S d2 f2
  exact kk _ _ _ _ _ _ _ _ v2 (by omega) (by omega)
theorem j_J2188 (S : lS A B G O b) (v : lV A B G O b L xs h U st st no z s) (hL : L ≤ 320) (hi : i + 5 ≤ L) (hc : 1400 ≤ kc) (hs : 75000 ≤ ks) (kk : ∀ (h' : gaH) (U' : Nat → List Bool) (st' : GSt) (no' : Int) (z' : Int64) (s' : Value) (c2 s2 : Nat), lV A B G O b L xs h' U' st' st' no' z' s' → kc ≤ c2 + 1400 → ks ≤ s2 + 75000 → K b (A 22) (B 0) O ((i : Int) + 5) h' c2 s2) : w_L_law_J2188 G K b (A 22) (B 0) O (i : Int) h kc ks := by
  unfold w_L_law_J2188
  refine ⟨v.d.has, ?_⟩
  refine gCall_mk (by omega) (by omega) ?_
  refine s_digest v.d (fun h1 U1 r1 d1 g1 => ?_)
  have v1 := v.cls S d1 (lF.fr g1) (g1 _ _ S.oA v.o)
  refine ⟨v1.m.has, ?_⟩
  refine gCall_mk (by omega) (by omega) ?_
  refine r_digest v1.m (fun r2 h2 d2 f2 => ?_)
  have v2 := v1.ref S d2 f2
  exact kk _ _ _ _ _ _ _ _ v2 (by omega) (by omega)
theorem j_J2201 (v : lV A B G O b L xs h U st st no z s) (kk : ∀ (h' : gaH) (U' : Nat → List Bool) (st' : GSt) (no' : Int) (z' : Int64) (s' : Value) (c2 s2 : Nat), lV A B G O b L xs h' U' st' st' no' z' s' → kc ≤ c2 + 1400 → ks ≤ s2 + 75000 → K b (A 22) (B 0) O ((i : Int) + 5) h' c2 s2) : w_L_law_J2201 G K b (A 22) (B 0) O (i : Int) h kc ks := by
  unfold w_L_law_J2201
  exact kk _ _ _ _ _ _ _ _ v (by omega) (by omega)
end LC
/-! The law's loop. -/
theorem law_loop {A B : Nat → Nat} {G : gaG} {O b L : Nat} {xs : Nat → Int32} (S : lS A B G O b) (hL : L ≤ 320) : ∀ (n m : Nat) (h : gaH) (U : Nat → List Bool) (st : GSt) (no : Int) (z : Int64) (s : Value) (kc ks : Nat), lV A B G O b L xs h U st st no z s → m ≤ 64 → 64 - m < n → 1400 * (64 - m) ≤ kc → 75000 * (64 - m) ≤ ks → w_L_law_L27 G n b (A 22) (B 0) O ((5 * m : Nat) : Int) h kc ks
  | 0, _, _, _, _, _, _, _, _, _, _, _, h9, _, _ => absurd h9 (Nat.not_lt_zero _)
  | n + 1, m, h, U, st, no, z, s, kc, ks, v, hm, h9, hc0, hs0 => by
    unfold w_L_law_L27
    refine ⟨1102, _, v.bb, Or.inr rfl, ?_⟩
    rw [List.length_map, List.length_range]
    refine ⟨by omega, by omega, ?_⟩
    by_cases q : (L : Int) - 5 < ((5 * m : Nat) : Int)
    · exact if_yes q trivial
    have hi : 5 * m + 5 ≤ L := by omega
    have hc : 1400 ≤ kc := by omega
    have hs : 75000 ≤ ks := by omega
    have kk : ∀ (h' : gaH) (U' : Nat → List Bool) (st' : GSt) (no' : Int) (z' : Int64) (s' : Value) (c2 s2 : Nat), lV A B G O b L xs h' U' st' st' no' z' s' → kc ≤ c2 + 1400 → ks ≤ s2 + 75000 → w_L_law_L27 G n b (A 22) (B 0) O (((5 * m : Nat) : Int) + 5) h' c2 s2 := fun h' U' st' no' z' s' c2 s2 v' k1 k2 => by
      have := law_loop S hL n (m + 1) h' U' st' no' z' s' c2 s2 v' (by omega) (by omega) (by omega) (by omega)
      rw [show ((5 * (m + 1) : Nat) : Int) = ((5 * m : Nat) : Int) + 5 by omega] at this
      exact this
    refine if_no q (v.sc (i := 5 * m) (j := 0) (by omega) (by omega) hL ?_)
    generalize (xs (5 * m + 0)).toInt = c
    exact ⟨gR_toInt _, fun _ => j_J244 S v hL hi hc hs kk, fun _ => j_J284 S v hL hi hc hs kk, fun _ => j_J324 S v hL hi hc hs kk, fun _ => j_J392 S v hL hi hc hs kk, fun _ => j_J444 S v hL hi hc hs kk, fun _ => j_J512 S v hL hi hc hs kk, fun _ => j_J552 S v hL hi hc hs kk, fun _ => j_J604 S v hL hi hc hs kk, fun _ => j_J668 S v hL hi hc hs kk, fun _ => j_J708 S v hL hi hc hs kk, fun _ => j_J736 S v hL hi hc hs kk, fun _ => j_J764 S v hL hi hc hs kk, fun _ => j_J804 S v hL hi hc hs kk, fun _ => j_J844 S v hL hi hc hs kk, fun _ => j_J896 S v hL hi hc hs kk, fun _ => j_J948 S v hL hi hc hs kk, fun _ => j_J1000 S v hL hi hc hs kk, fun _ => j_J1052 S v hL hi hc hs kk, fun _ => j_J1116 S v hL hi hc hs kk, fun _ => j_J1156 S v hL hi hc hs kk, fun _ => j_J1184 S v hL hi hc hs kk, fun _ => j_J1212 S v hL hi hc hs kk, fun _ => j_J1240 S v hL hi hc hs kk, fun _ => j_J1280 S v hL hi hc hs kk, fun _ => j_J1308 S v hL hi hc hs kk, fun _ => j_J1364 S v hL hi hc hs kk, fun _ => j_J1416 S v hL hi hc hs kk, fun _ => j_J1468 S v hL hi hc hs kk, fun _ => j_J1508 S v hL hi hc hs kk, fun _ => j_J1536 S v hL hi hc hs kk, fun _ => j_J1604 S v hL hi hc hs kk, fun _ => j_J1672 S v hL hi hc hs kk, fun _ => j_J1700 S v hL hi hc hs kk, fun _ => j_J1728 S v hL hi hc hs kk, fun _ => j_J1756 S v hL hi hc hs kk, fun _ => j_J1784 S v hL hi hc hs kk, fun _ => j_J1812 S v hL hi hc hs kk, fun _ => j_J1852 S v hL hi hc hs kk, fun _ => j_J1880 S v hL hi hc hs kk, fun _ => j_J1966 S v hL hi hc hs kk, fun _ => j_J2022 S v hL hi hc hs kk, fun _ => j_J2078 S v hL hi hc hs kk, fun _ => j_J2106 S v hL hi hc hs kk, fun _ => j_J2134 S v hL hi hc hs kk, fun _ => j_J2162 S v hL hi hc hs kk, fun _ => j_J2175 S v hL hi hc hs kk, fun _ => j_J2188 S v hL hi hc hs kk, fun _ => j_J2201 v kk⟩
theorem law_ok {G : gaG} {h : gaH} {b L kc ks : Nat} {xs : Nat → Int32} (hL : L ≤ 320) (m1 : h b = some (1102, (List.range L).map (fun i => Value.int (xs i)))) (m2 : h (G.2.2.2 0) = some (1102, gaCodes)) (m3 : h (G.2.2.2 1) = some (1101, gaOnes)) (h1 : 600000 ≤ kc) (h2 : 7300000 ≤ ks) : w_L_law G b h kc ks := by
  unfold w_L_law
  refine (aL.nil h).no (by omega) (by omega) (fun a g1 d1 => gCall_mk (by omega) (by omega) (c_init d1 (fun p1 p2 p3 p4 p5 p6 p7 p8 p9 p10 p11 p12 p13 p14 p15 p16 p17 p18 p19 p20 p21 p22 p23 p24 p25 p26 p27 p28 p29 p30 g2 d2 => d2.no (by omega) (by omega) (fun b0 g3 d3 => gCall_mk (by omega) (by omega) (r_init d3 (fun q1 q2 q3 q4 q5 q6 q7 q8 g4 d4 => d4.no (by omega) (by omega) (fun o g5 d5 => ?_)))))))
  unfold w_X6_init
  refine ⟨66, ?_⟩
  have d6 : aL h g5 (asF a b0 o p1 p2 p3 p4 p5 p6 p7 p8 p9 p10 p11 p12 p13 p14 p15 p16 p17 p18 p19 p20 p21 p22 p23 p24 p25 p26 p27 p28 p29 p30 q1 q2 q3 q4 q5 q6 q7 q8) := d5
  have hD := st_D d6 _ rfl m2
  have hM := st_M d6 _ rfl
  have lt : ∀ i, i < 38 → pAll2.getD i 0 < 41 := by decide +kernel
  have off : ∀ (x : Nat) (e : gaE), h x = some e → ∀ i, i < 38 → x ≠ ky (asF a b0 o p1 p2 p3 p4 p5 p6 p7 p8 p9 p10 p11 p12 p13 p14 p15 p16 p17 p18 p19 p20 p21 p22 p23 p24 p25 p26 p27 p28 p29 p30 q1 q2 q3 q4 q5 q6 q7 q8) (pAll2.getD i 0) := fun x e q i hi z => by
    rw [z, ky_none d6 (lt i hi)] at q
    cases q
  have S : lS (fun i => ky (asF a b0 o p1 p2 p3 p4 p5 p6 p7 p8 p9 p10 p11 p12 p13 p14 p15 p16 p17 p18 p19 p20 p21 p22 p23 p24 p25 p26 p27 p28 p29 p30 q1 q2 q3 q4 q5 q6 q7 q8) (pA.getD i 0)) (fun i => ky (asF a b0 o p1 p2 p3 p4 p5 p6 p7 p8 p9 p10 p11 p12 p13 p14 p15 p16 p17 p18 p19 p20 p21 p22 p23 p24 p25 p26 p27 p28 p29 p30 q1 q2 q3 q4 q5 q6 q7 q8) (pAll2.getD i 0)) G o b := by
    refine ⟨fun i hi => ?_, rfl, fun i j hi hj e => ?_, off _ _ m1, off _ _ m2, off _ _ m3⟩
    · show ky _ _ = ky _ _
      rw [(by decide +kernel : ∀ i, i < 31 → pAll2.getD (6 + i) 0 = pA.getD i 0) i hi]
    · have e2 := ky_inj d6 (lt i hi) (lt j hj) e
      exact (by decide +kernel : ∀ i, i < 38 → ∀ j, j < 38 → pAll2.getD i 0 = pAll2.getD j 0 → i = j) i hi j hj e2
  have v : lV (fun i => ky (asF a b0 o p1 p2 p3 p4 p5 p6 p7 p8 p9 p10 p11 p12 p13 p14 p15 p16 p17 p18 p19 p20 p21 p22 p23 p24 p25 p26 p27 p28 p29 p30 q1 q2 q3 q4 q5 q6 q7 q8) (pA.getD i 0)) (fun i => ky (asF a b0 o p1 p2 p3 p4 p5 p6 p7 p8 p9 p10 p11 p12 p13 p14 p15 p16 p17 p18 p19 p20 p21 p22 p23 p24 p25 p26 p27 p28 p29 p30 q1 q2 q3 q4 q5 q6 q7 q8) (pAll2.getD i 0)) G o b L xs g5 (fun w => if w = 5 ∨ w = 7 then [true] else if w = 6 ∨ w = 8 then [false] else []) st0 st0 0 0 .null := ⟨hD, hM, d6.at 0 rfl, ky_off d6 m1, ky_off d6 m3⟩
  exact law_loop S hL 66 0 g5 _ _ _ _ _ _ _ v (by omega) (by omega) (by omega) (by omega)
