/-! Twos; and what is read from words, as far as its bounds. -/
def twL : Nat → List Bool
  | 0 => [false]
  | s + 1 => twL s ++ (twL s).map (fun b => !b)
theorem twL_len : ∀ s, s ≤ 6 → (twL s).length = 2 ^ s := by decide +kernel
theorem twL_img : ∀ s, s < 6 → img (codeW 5) (codeW 6) (twL s) = twL (s + 1) := by decide +kernel
theorem twL_take : ∀ s, s ≤ 6 → twL s = (twL 6).take (2 ^ s) := by decide +kernel
def bcE (a0 : Int) : Int := gAnd (((gAnd (((gAnd (a0 - (gAnd (gUshr a0 1) 1431655765)) 858993459) + (gAnd (gUshr (a0 - (gAnd (gUshr a0 1) 1431655765)) 2) 858993459)) + (gUshr ((gAnd (a0 - (gAnd (gUshr a0 1) 1431655765)) 858993459) + (gAnd (gUshr (a0 - (gAnd (gUshr a0 1) 1431655765)) 2) 858993459)) 4)) 252645135) + (gUshr (gAnd (((gAnd (a0 - (gAnd (gUshr a0 1) 1431655765)) 858993459) + (gAnd (gUshr (a0 - (gAnd (gUshr a0 1) 1431655765)) 2) 858993459)) + (gUshr ((gAnd (a0 - (gAnd (gUshr a0 1) 1431655765)) 858993459) + (gAnd (gUshr (a0 - (gAnd (gUshr a0 1) 1431655765)) 2) 858993459)) 4)) 252645135) 8)) + (gUshr ((gAnd (((gAnd (a0 - (gAnd (gUshr a0 1) 1431655765)) 858993459) + (gAnd (gUshr (a0 - (gAnd (gUshr a0 1) 1431655765)) 2) 858993459)) + (gUshr ((gAnd (a0 - (gAnd (gUshr a0 1) 1431655765)) 858993459) + (gAnd (gUshr (a0 - (gAnd (gUshr a0 1) 1431655765)) 2) 858993459)) 4)) 252645135) + (gUshr (gAnd (((gAnd (a0 - (gAnd (gUshr a0 1) 1431655765)) 858993459) + (gAnd (gUshr (a0 - (gAnd (gUshr a0 1) 1431655765)) 2) 858993459)) + (gUshr ((gAnd (a0 - (gAnd (gUshr a0 1) 1431655765)) 858993459) + (gAnd (gUshr (a0 - (gAnd (gUshr a0 1) 1431655765)) 2) 858993459)) 4)) 252645135) 8)) 16)) 63
theorem s_bitCount {x : Int} {h : gaH} {Q : Int → gaH → Prop} (k : Q (bcE x) h) : w_J6_bitCount_0f7a4 x h Q := k
theorem bcE_par : ∀ i : Nat, i < 64 → gAnd (bcE (i : Int)) 1 = b2i ((twL 6).getD i false) := by decide +kernel
theorem getD_take {u : List Bool} {n i : Nat} (hi : i < n) : (u.take n).getD i false = u.getD i false := by rw [List.getD_eq_getElem?_getD, List.getElem?_take_of_lt hi, ← List.getD_eq_getElem?_getD]
section PT
variable {A : Nat → Nat} {h : gaH} {U : Nat → List Bool} {w v g : Nat} {G : gaG}
theorem s_layByRule_L (hw : w < 9) (hw3 : w ≠ 3) {s : Nat} (hs : s ≤ 6) {Q : gaH → Prop} : ∀ (n i : Nat) (h : gaH) (U : Nat → List Bool), gW A h U → gRu A h → U 9 = codeW 5 → U 10 = codeW 6 → i ≤ s → s - i < n → U w = twL i →
    (∀ h' V, gW A h' V → (∀ x, x ≠ w → x ≠ 3 → x ≠ 9 → x ≠ 10 → V x = U x) → V w = twL s → gSm A h h' → Q h') → w_X3_layByRule_L19 Q n (s : Int) (A w) (A 3) (A 25) (i : Int) h
  | 0, i, h, U, _, _, _, _, _, h1, _, _ => absurd h1 (Nat.not_lt_zero _)
  | n + 1, i, h, U, gw, ru, u9, u10, hi, h1, hu, k => by
    have hA := gw.inj
    unfold w_X3_layByRule_L19
    refine ⟨gR_of (by omega) (by omega), gR_of (by omega) (by omega), ?_⟩
    by_cases q : i = s
    · exact if_yes (by omega) (k h U gw (fun _ _ _ _ _ => rfl) (by rw [hu, q]) gSm.rf)
    · have hi2 : img (U 9) (U 10) (U w) = twL (i + 1) := by rw [u9, u10, hu, twL_img i (by omega)]
      have hl : (twL (i + 1)).length ≤ 64 := by
        rw [twL_len (i + 1) (by omega)]
        exact Nat.pow_le_pow_right (by decide) (show i + 1 ≤ 6 by omega)
      refine if_no (by omega) ⟨ru.has, s_layImage gw ru (show w < 11 by omega) (v := 3) (by decide) (fun q => hw3 q.symm) (by rw [hi2]; exact hl) (fun h2 w2 s2 => ⟨w2.has (show w < 11 by omega), s_take w2 (show w < 11 by omega) (v := 3) (by decide) (fun h3 w3 s3 => ?_)⟩)⟩
      rw [hi2] at w2 w3
      rw [show (i : Int) + 1 = ((i + 1 : Nat) : Int) by omega]
      refine s_layByRule_L hw hw3 hs n (i + 1) h3 _ w3 (ru.on hA (s2.tr s3)) (by rw [pu_ne _ _ (by omega), pu_ne _ _ (by decide)]; exact u9) (by rw [pu_ne _ _ (by omega), pu_ne _ _ (by decide)]; exact u10) (by omega) (by omega) (by rw [pu_self, pu_self]) (fun h' V wV hV e s' => k h' V wV (fun x x1 x2 x3 x4 => by rw [hV x x1 x2 x3 x4, pu_ne _ _ x1, pu_ne _ _ x2]) e ((s2.tr s3).tr s'))
theorem s_layByRule (hw : w < 9) (hw3 : w ≠ 3) (gw : gW A h U) (ru : gRu A h) {x : Int} {s : Nat} (hx : x = (s : Int)) (hs : s ≤ 6) {Q : gaH → Prop}
    (k : ∀ h' V, gW A h' V → (∀ x, x ≠ w → x ≠ 3 → x ≠ 9 → x ≠ 10 → V x = U x) → V w = twL s → gSm A h h' → Q h') : w_X3_layByRule x (A w) (A 3) (A 25) h Q := by
  subst hx
  have hA := gw.inj
  unfold w_X3_layByRule
  refine ⟨ru.has, s_ruleTake gw ru (c := 5) (d := 6) rfl rfl (by decide) (by decide) (fun h1 w1 s1 => ⟨w1.has (show w < 11 by omega), s_clear w1 (show w < 11 by omega) (fun h2 w2 s2 => ⟨w2.has (show w < 11 by omega), s_add w2 (show w < 11 by omega) (by rw [pu_self]; decide) (b := false) rfl (fun h3 w3 s3 => ⟨7, ?_⟩)⟩)⟩)⟩
  have s13 := s1.tr (s2.tr s3)
  refine s_layByRule_L hw hw3 hs 7 0 h3 _ w3 (ru.on hA s13) (by rw [pu_ne _ _ (by omega), pu_ne _ _ (by omega), pu_ne _ _ (by decide), pu_self]) (by rw [pu_ne _ _ (by omega), pu_ne _ _ (by omega), pu_self]) (Nat.zero_le _) (by omega) (by rw [pu_self, pu_self]; rfl) (fun h' V wV hV e s' => k h' V wV (fun x x1 x2 x3 x4 => by rw [hV x x1 x2 x3 x4, pu_ne _ _ x1, pu_ne _ _ x1, pu_ne _ _ x4, pu_ne _ _ x3]) e (s13.tr s'))
theorem s_layByCopies_L2 (hw : w < 11) {Q : gaH → Prop} {st : Int} {c : Int} {u : List Bool} (hu2 : u.length ≤ 32) {K : Int → Nat → Int → gaH → Prop} : ∀ (n i : Nat) (h : gaH) (U : Nat → List Bool), gW A h U → i ≤ u.length → u.length - i < n → U w = u ++ (u.take i).map (fun b => !b) →
    (∀ h', gW A h' (pu U w (u ++ u.map (fun b => !b))) → gSm A h h' → K st (A w) (c + 1) h') → w_X3_layByCopies_L24 Q K n st (A w) c (u.length : Int) (i : Int) h
  | 0, i, h, U, _, _, h1, _, _ => absurd h1 (Nat.not_lt_zero _)
  | n + 1, i, h, U, gw, hi, h1, hu, k => by
    have hl : (U w).length = u.length + i := by rw [hu]; simp; omega
    unfold w_X3_layByCopies_L24
    refine ⟨gR_of (by omega) (by omega), gR_of (by omega) (by omega), ?_⟩
    by_cases q : i = u.length
    · refine if_yes (by omega) (k h (gw.eq (fun x _ => ?_)) gSm.rf)
      by_cases e : x = w
      · subst e; rw [pu_self, hu, q, List.take_length]
      · exact pu_ne _ _ e
    · refine if_no (by omega) ⟨gw.has hw, s_isUp gw hw rfl (by omega) ⟨b2i_R _, ?_⟩⟩
      have e1 : (U w).getD i false = u.getD i false := by rw [hu, List.getD_eq_getElem?_getD, List.getElem?_append_left (by omega), ← List.getD_eq_getElem?_getD]
      rw [e1]
      have fin : ∀ b : Bool, b = !(u.getD i false) → w_X3_layByCopies_J45 Q K (w_X3_layByCopies_L24 Q K n) st (A w) c (u.length : Int) (i : Int) (A w) (b2i b) h := by
        intro b hb
        unfold w_X3_layByCopies_J45
        refine ⟨gw.has hw, s_add gw hw (by omega) rfl (fun h1 w1 s1 => ?_)⟩
        rw [show (i : Int) + 1 = ((i + 1 : Nat) : Int) by omega]
        refine s_layByCopies_L2 hw hu2 n (i + 1) h1 _ w1 (by omega) (by omega) ?_ (fun h' w' s' => k h' (w'.eq (fun x _ => ?_)) (s1.tr s'))
        · rw [pu_self, hu, List.take_succ, getD_lt (u := u) (i := i) (by omega), hb]
          simp
        · by_cases e : x = w
          · subst e; rw [pu_self, pu_self]
          · rw [pu_ne _ _ e, pu_ne _ _ e, pu_ne _ _ e]
      cases hz : u.getD i false
      · exact if_yes rfl (fin true (by rw [hz]; rfl))
      · exact if_no (by decide) (fin false (by rw [hz]; rfl))
theorem s_layByCopies_L1 (hw : w < 11) {s : Nat} (hs : s ≤ 6) {Q : gaH → Prop} : ∀ (n i : Nat) (h : gaH) (U : Nat → List Bool), gW A h U → i ≤ s → s - i < n → U w = twL i → (∀ h', gW A h' (pu U w (twL s)) → gSm A h h' → Q h') → w_X3_layByCopies_L11 Q n (s : Int) (A w) (i : Int) h
  | 0, i, h, U, _, _, h1, _, _ => absurd h1 (Nat.not_lt_zero _)
  | n + 1, i, h, U, gw, hi, h1, hu, k => by
    unfold w_X3_layByCopies_L11
    refine ⟨gR_of (by omega) (by omega), gR_of (by omega) (by omega), ?_⟩
    by_cases q : i = s
    · refine if_yes (by omega) (k h (gw.eq (fun x _ => ?_)) gSm.rf)
      by_cases e : x = w
      · subst e; rw [pu_self, hu, q]
      · exact pu_ne _ _ e
    · have hl : (twL i).length ≤ 32 := by
        rw [twL_len i (by omega)]
        exact Nat.pow_le_pow_right (by decide) (show i ≤ 5 by omega)
      refine if_no (by omega) (gw.many hw ⟨33, ?_⟩)
      rw [hu]
      refine s_layByCopies_L2 hw hl 33 0 h U gw (Nat.zero_le _) (by omega) (by rw [hu]; simp) (fun h1 w1 s1 => ?_)
      rw [show (i : Int) + 1 = ((i + 1 : Nat) : Int) by omega]
      refine s_layByCopies_L1 hw hs n (i + 1) h1 _ w1 (by omega) (by omega) (by rw [pu_self]; rfl) (fun h' w' s' => k h' (w'.eq (fun x _ => ?_)) (s1.tr s'))
      by_cases e : x = w
      · subst e; rw [pu_self, pu_self]
      · rw [pu_ne _ _ e, pu_ne _ _ e, pu_ne _ _ e]
theorem s_layByCopies (hw : w < 11) (gw : gW A h U) {x : Int} {s : Nat} (hx : x = (s : Int)) (hs : s ≤ 6) {Q : gaH → Prop} (k : ∀ h', gW A h' (pu U w (twL s)) → gSm A h h' → Q h') : w_X3_layByCopies x (A w) h Q := by
  subst hx
  unfold w_X3_layByCopies
  refine ⟨gw.has hw, s_clear gw hw (fun h2 w2 s2 => ⟨w2.has hw, s_add w2 hw (by rw [pu_self]; decide) (b := false) rfl (fun h3 w3 s3 => ⟨7, ?_⟩)⟩)⟩
  refine s_layByCopies_L1 hw hs 7 0 h3 _ w3 (Nat.zero_le _) (by omega) (by rw [pu_self, pu_self]; rfl) (fun h' w' s' => k h' (w'.eq (fun x _ => ?_)) ((s2.tr s3).tr s'))
  by_cases e : x = w
  · subst e; rw [pu_self, pu_self]
  · rw [pu_ne _ _ e, pu_ne _ _ e, pu_ne _ _ e, pu_ne _ _ e]
theorem s_signBySign_L (hw : w < 11) {s : Nat} (hs : s ≤ 6) {Q : gaH → Prop} : ∀ (n i : Nat) (h : gaH) (U : Nat → List Bool), gW A h U → i ≤ 2 ^ s → 2 ^ s - i < n → U w = (twL 6).take i → (∀ h', gW A h' (pu U w (twL s)) → gSm A h h' → Q h') → w_X3_laySignBySign_L6 Q n (s : Int) (A w) (i : Int) h
  | 0, i, h, U, _, _, h1, _, _ => absurd h1 (Nat.not_lt_zero _)
  | n + 1, i, h, U, gw, hi, h1, hu, k => by
    have hp : 2 ^ s ≤ 64 := Nat.pow_le_pow_right (by decide) hs
    have hsh : gShl 1 (s : Int) = ((2 ^ s : Nat) : Int) := by
      have := gShl_nat (n := 1) (d := s) (by omega) (by omega)
      rw [Nat.one_mul] at this
      exact this
    unfold w_X3_laySignBySign_L6
    rw [hsh]
    refine ⟨gR_of (by omega) (by omega), gR_of (by omega) (by omega), ?_⟩
    by_cases q : i = 2 ^ s
    · refine if_yes (by omega) (k h (gw.eq (fun x _ => ?_)) gSm.rf)
      by_cases e : x = w
      · subst e; rw [pu_self, hu, q, ← twL_take s hs]
      · exact pu_ne _ _ e
    · refine if_no (by omega) (s_bitCount ?_)
      rw [bcE_par i (by omega)]
      have hl : (U w).length = i := by rw [hu, List.length_take, show (twL 6).length = 64 from rfl]; omega
      have fin : ∀ b : Bool, b = (twL 6).getD i false → w_X3_laySignBySign_J29 Q (w_X3_laySignBySign_L6 Q n) (s : Int) (A w) (i : Int) (A w) (b2i b) h := by
        intro b hb
        unfold w_X3_laySignBySign_J29
        refine ⟨gw.has hw, s_add gw hw (by omega) rfl (fun h1 w1 s1 => ?_)⟩
        rw [show (i : Int) + 1 = ((i + 1 : Nat) : Int) by omega]
        refine s_signBySign_L hw hs n (i + 1) h1 _ w1 (by omega) (by omega) ?_ (fun h' w' s' => k h' (w'.eq (fun x _ => ?_)) (s1.tr s'))
        · rw [pu_self, hu, List.take_succ, getD_lt (u := twL 6) (i := i) (by show i < 64; omega), hb]
          rfl
        · by_cases e : x = w
          · subst e; rw [pu_self, pu_self]
          · rw [pu_ne _ _ e, pu_ne _ _ e, pu_ne _ _ e]
      refine ⟨b2i_R _, ?_⟩
      cases hz : (twL 6).getD i false
      · exact if_no (by decide) (fin false hz.symm)
      · exact if_yes rfl (fin true hz.symm)
theorem s_signBySign (hw : w < 11) (gw : gW A h U) {x : Int} {s : Nat} (hx : x = (s : Int)) (hs : s ≤ 6) {Q : gaH → Prop} (k : ∀ h', gW A h' (pu U w (twL s)) → gSm A h h' → Q h') : w_X3_laySignBySign x (A w) h Q := by
  subst hx
  unfold w_X3_laySignBySign
  refine ⟨gw.has hw, s_clear gw hw (fun h2 w2 s2 => ⟨65, ?_⟩)⟩
  have hp : 2 ^ s ≤ 64 := Nat.pow_le_pow_right (by decide) hs
  refine s_signBySign_L hw hs 65 0 h2 _ w2 (Nat.zero_le _) (by omega) (by rw [pu_self]; rfl) (fun h' w' s' => k h' (w'.eq (fun x _ => ?_)) (s2.tr s'))
  by_cases e : x = w
  · subst e; rw [pu_self, pu_self]
  · rw [pu_ne _ _ e, pu_ne _ _ e, pu_ne _ _ e]
end PT
/-! What is read from words: order; the others as far as their bounds. -/
def cmpL : List Bool → List Bool → Int
  | [], [] => 0
  | [], _ :: _ => -1
  | _ :: _, [] => 1
  | a :: s, b :: t => if a = b then cmpL s t else if b = true then -1 else 1
theorem cmpL_R : ∀ u v, -1 ≤ cmpL u v ∧ cmpL u v ≤ 1
  | [], [] => by decide
  | [], _ :: _ => by simp [cmpL]
  | _ :: _, [] => by simp [cmpL]
  | a :: s, b :: t => by
    unfold cmpL
    split
    · exact cmpL_R s t
    · split <;> decide
theorem cmpL_eq : ∀ u v, cmpL u v = 0 ↔ u = v
  | [], [] => by simp [cmpL]
  | [], _ :: _ => by simp [cmpL]
  | _ :: _, [] => by simp [cmpL]
  | a :: s, b :: t => by
    have ih := cmpL_eq s t
    unfold cmpL
    by_cases q : a = b
    · rw [if_pos q, ih, q]; simp
    · rw [if_neg q]
      constructor
      · intro z; split at z <;> omega
      · intro z; exact absurd (List.cons.inj z).1 q
section PQ
variable {A : Nat → Nat} {h : gaH} {U : Nat → List Bool} {w v g : Nat}
theorem s_compare {x y : Int} (hx : gR x) (hy : gR y) {Q : Int → gaH → Prop} (k1 : x < y → Q (-1) h) (k2 : x = y → Q 0 h) (k3 : y < x → Q 1 h) : w_J6_compare_7cf53 x y h Q := by
  unfold w_J6_compare_7cf53
  refine ⟨hx, hy, ?_⟩
  by_cases q : y ≤ x
  · refine if_yes q ⟨hx, hy, ?_⟩
    by_cases z : x = y
    · exact if_yes z (k2 z)
    · exact if_no z (k3 (by omega))
  · exact if_no q (k1 (by omega))
theorem s_orderOf_L (gw : gW A h U) (hw : w < 11) (hv : v < 11) {Q : Int → gaH → Prop} : ∀ (n i : Nat), i ≤ (U w).length → i ≤ (U v).length → (U w).length - i < n → Q (cmpL ((U w).drop i) ((U v).drop i)) h → w_X1_orderOf_L14 Q n (A w) (A v) (min ((U w).length : Int) ((U v).length : Int)) (i : Int) h
  | 0, i, _, _, h1, _ => absurd h1 (Nat.not_lt_zero _)
  | n + 1, i, hi, hj, h1, k => by
    have l1 := gw.le hw
    have l2 := gw.le hv
    unfold w_X1_orderOf_L14
    refine ⟨gR_of (by omega) (by omega), gR_of (by omega) (by omega), ?_⟩
    by_cases q : (U w).length ≤ i ∨ (U v).length ≤ i
    · refine if_yes (by omega) (gw.many hw (gw.many hv (s_compare (gR_of (by omega) (by omega)) (gR_of (by omega) (by omega)) (fun z => ?_) (fun z => ?_) (fun z => ?_))))
      · rw [List.drop_of_length_le (show (U w).length ≤ i by omega), take_one (u := U v) (i := i) (by omega)] at k
        exact k
      · rw [List.drop_of_length_le (show (U w).length ≤ i by omega), List.drop_of_length_le (show (U v).length ≤ i by omega)] at k
        exact k
      · rw [List.drop_of_length_le (show (U v).length ≤ i by omega), take_one (u := U w) (i := i) (by omega)] at k
        exact k
    · refine if_no (by omega) ⟨gw.has hw, s_isUp gw hw rfl (by omega) ⟨gw.has hv, s_isUp gw hv rfl (by omega) ⟨b2i_R _, b2i_R _, ?_⟩⟩⟩
      rw [take_one (u := U w) (i := i) (by omega), take_one (u := U v) (i := i) (by omega)] at k
      unfold cmpL at k
      by_cases z : (U w).getD i false = (U v).getD i false
      · rw [if_pos z] at k
        refine if_yes (congrArg b2i z) ?_
        rw [show (i : Int) + 1 = ((i + 1 : Nat) : Int) by omega]
        exact s_orderOf_L gw hw hv n (i + 1) (by omega) (by omega) (by omega) k
      · rw [if_neg z] at k
        refine if_no (fun q9 => z ((b2i_eq _ _).mp q9)) ⟨gw.has hv, s_isUp gw hv rfl (by omega) ⟨b2i_R _, ?_⟩⟩
        generalize (U v).getD i false = y at k
        cases y
        · exact if_yes rfl k
        · exact if_no (by decide) k
theorem s_orderOf (gw : gW A h U) (hw : w < 11) (hv : v < 11) {Q : Int → gaH → Prop} (k : Q (cmpL (U w) (U v)) h) : w_X1_orderOf (A w) (A v) h Q := by
  have l1 := gw.le hw
  have l2 := gw.le hv
  exact gw.many hw (gw.many hv ⟨gR_of (by omega) (by omega), gR_of (by omega) (by omega), (U w).length + 1, s_orderOf_L gw hw hv _ 0 (Nat.zero_le _) (Nat.zero_le _) (by omega) k⟩)
theorem half_nat (l : Nat) (hl : l ≤ 1000) : gDiv (l : Int) 2 = ((l / 2 : Nat) : Int) := gDiv_nat (b := 2) (by omega) (by decide)
theorem s_isMir_L (gw : gW A h U) (hw : w < 11) {a l : Nat} (hal : a + l ≤ (U w).length) {Q : Int → gaH → Prop} (k0 : Q 0 h) (k1 : Q 1 h) : ∀ (n i : Nat), i ≤ l / 2 → l / 2 - i < n → w_X1_isMirroredPart_L2 Q n (A w) (a : Int) (l : Int) (i : Int) h
  | 0, i, _, h1 => absurd h1 (Nat.not_lt_zero _)
  | n + 1, i, hi, h1 => by
    have l1 := gw.le hw
    unfold w_X1_isMirroredPart_L2
    rw [half_nat l (by omega)]
    refine ⟨gR_of (by omega) (by omega), gR_of (by omega) (by omega), ?_⟩
    by_cases q : l / 2 ≤ i
    · exact if_yes (by omega) k1
    · refine if_no (by omega) ⟨gw.has hw, s_isUp (i := a + i) gw hw (by omega) (by omega) ⟨gw.has hw, s_isUp (i := a + l - 1 - i) gw hw (by omega) (by omega) ⟨b2i_R _, b2i_R _, ?_⟩⟩⟩
      by_cases z : b2i ((U w).getD (a + i) false) = b2i ((U w).getD (a + l - 1 - i) false)
      · refine if_yes z ?_
        rw [show (i : Int) + 1 = ((i + 1 : Nat) : Int) by omega]
        exact s_isMir_L gw hw hal k0 k1 n (i + 1) (by omega) (by omega)
      · exact if_no z k0
theorem s_isMir (gw : gW A h U) (hw : w < 11) {x y : Int} {a l : Nat} (hx : x = (a : Int)) (hy : y = (l : Int)) (hal : a + l ≤ (U w).length) {Q : Int → gaH → Prop} (k0 : Q 0 h) (k1 : Q 1 h) : w_X1_isMirroredPart (A w) x y h Q := by
  subst hx; subst hy
  exact ⟨l / 2 + 1, s_isMir_L gw hw hal k0 k1 _ 0 (Nat.zero_le _) (by omega)⟩
theorem s_onRing (gw : gW A h U) (hw : w < 11) {x : Int} {p : Nat} (hx : x = (p : Int)) (hp : p < 2 * (U w).length) {Q : Int → gaH → Prop} (k : Q (b2i ((U w).getD (if p < (U w).length then p else p - (U w).length) false)) h) : w_X1_isUpOnRing (A w) x h Q := by
  subst hx
  have l1 := gw.le hw
  unfold w_X1_isUpOnRing
  refine gw.many hw ⟨gR_of (by omega) (by omega), gR_of (by omega) (by omega), ?_⟩
  by_cases q : p < (U w).length
  · rw [if_pos q] at k
    refine if_no (by omega) ?_
    unfold w_X1_isUpOnRing_J19
    exact ⟨gw.has hw, s_isUp gw hw rfl q ⟨b2i_nar _, k⟩⟩
  · rw [if_neg q] at k
    refine if_yes (by omega) (gw.many hw ?_)
    unfold w_X1_isUpOnRing_J19
    exact ⟨gw.has hw, s_isUp (i := p - (U w).length) gw hw (by omega) (by omega) ⟨b2i_nar _, k⟩⟩
theorem s_ringOrder_L (gw : gW A h U) (hw : w < 11) {a b l : Nat} (hab : l = 0 ∨ (a < (U w).length ∧ b < (U w).length ∧ l ≤ (U w).length)) (hl : l ≤ 64) {Q : Int → gaH → Prop} (k0 : Q 0 h) (k1 : Q 1 h) (k2 : Q (-1) h) : ∀ (n i : Nat), i ≤ l → l - i < n → w_X1_ringOrder_L3 Q n (A w) (a : Int) (b : Int) (l : Int) (i : Int) h
  | 0, i, _, h1 => absurd h1 (Nat.not_lt_zero _)
  | n + 1, i, hi, h1 => by
    have l1 := gw.le hw
    unfold w_X1_ringOrder_L3
    refine ⟨gR_of (by omega) (by omega), gR_of (by omega) (by omega), ?_⟩
    by_cases q : l ≤ i
    · exact if_yes (by omega) k0
    · refine if_no (by omega) (s_onRing (p := a + i) gw hw (by omega) (by omega) (s_onRing (p := b + i) gw hw (by omega) (by omega) ⟨b2i_R _, b2i_R _, ?_⟩))
      generalize (U w).getD (if a + i < (U w).length then a + i else a + i - (U w).length) false = y
      generalize (U w).getD (if b + i < (U w).length then b + i else b + i - (U w).length) false = z
      by_cases e : b2i y = b2i z
      · refine if_yes e ?_
        rw [show (i : Int) + 1 = ((i + 1 : Nat) : Int) by omega]
        exact s_ringOrder_L gw hw hab hl k0 k1 k2 n (i + 1) (by omega) (by omega)
      · refine if_no e ⟨b2i_R _, ?_⟩
        cases y
        · exact if_yes rfl k2
        · exact if_no (by decide) k1
theorem s_ringOrder (gw : gW A h U) (hw : w < 11) {x y z : Int} {a b l : Nat} (hx : x = (a : Int)) (hy : y = (b : Int)) (hz : z = (l : Int)) (hab : l = 0 ∨ (a < (U w).length ∧ b < (U w).length ∧ l ≤ (U w).length)) (hl : l ≤ 64) {Q : Int → gaH → Prop} (k0 : Q 0 h) (k1 : Q 1 h) (k2 : Q (-1) h) : w_X1_ringOrder (A w) x y z h Q := by
  subst hx; subst hy; subst hz
  exact ⟨l + 1, s_ringOrder_L gw hw hab hl k0 k1 k2 _ 0 (Nat.zero_le _) (by omega)⟩
theorem s_timesWith_L (gw : gW A h U) (hw : w < 11) {p : Nat} (hp : 1 ≤ p ∧ p ≤ 64) {Q : Int → gaH → Prop} (k : ∀ r : Nat, r ≤ 65 → Q (r : Int) h) : ∀ (n i c m : Nat), i ≤ (U w).length → (U w).length - i < n → c ≤ i → m ≤ i → w_X1_timesWith_L7 Q n (A w) (p : Int) (c : Int) (m : Int) (i : Int) h
  | 0, i, _, _, _, h1, _, _ => absurd h1 (Nat.not_lt_zero _)
  | n + 1, i, c, m, hi, h1, hc, hm => by
    have l1 := gw.le hw
    unfold w_X1_timesWith_L7
    refine gw.many hw ⟨gR_of (by omega) (by omega), gR_of (by omega) (by omega), ?_⟩
    by_cases q : (U w).length ≤ i + p
    · refine if_yes (by omega) ⟨gR_of (by omega) (by omega), if_no (by omega) ⟨gR_of (by omega) (by omega), by omega, ?_⟩⟩
      rw [gDiv_nat (a := m) (b := p) (by omega) (by omega)]
      have := Nat.div_le_self m p
      exact k (m / p + 1) (by omega)
    · refine if_no (by omega) ⟨gw.has hw, s_isUp gw hw rfl (by omega) ⟨gw.has hw, s_isUp (i := i + p) gw hw (by omega) (by omega) ⟨b2i_R _, b2i_R _, ?_⟩⟩⟩
      have fin : ∀ t : Nat, t ≤ i + 1 → w_X1_timesWith_J42 Q (w_X1_timesWith_L7 Q n) (A w) (p : Int) (m : Int) (i : Int) (t : Int) h := by
        intro t ht
        unfold w_X1_timesWith_J42
        refine ⟨gR_of (by omega) (by omega), gR_of (by omega) (by omega), ?_⟩
        rw [show (i : Int) + 1 = ((i + 1 : Nat) : Int) by omega, show max (m : Int) (t : Int) = ((max m t : Nat) : Int) by omega]
        exact s_timesWith_L gw hw hp k n (i + 1) t (max m t) (by omega) (by omega) (by omega) (by omega)
      by_cases z : b2i ((U w).getD i false) = b2i ((U w).getD (i + p) false)
      · refine if_yes z ?_
        rw [show (c : Int) + 1 = ((c + 1 : Nat) : Int) by omega]
        exact fin (c + 1) (by omega)
      · exact if_no z (fin 0 (by omega))
theorem s_timesOf_L (gw : gW A h U) (hw : w < 11) {Q : Int → gaH → Prop} (k : ∀ r : Nat, r ≤ 65 → Q (r : Int) h) : ∀ (n i m : Nat), 1 ≤ i → i ≤ (U w).length + 1 → (U w).length + 1 - i < n → m ≤ 65 → w_X1_timesOf_L4 Q n (A w) (m : Int) (i : Int) h
  | 0, i, _, _, _, h1, _ => absurd h1 (Nat.not_lt_zero _)
  | n + 1, i, m, h0, hi, h1, hm => by
    have l1 := gw.le hw
    unfold w_X1_timesOf_L4
    refine gw.many hw ⟨gR_of (by omega) (by omega), gR_of (by omega) (by omega), ?_⟩
    by_cases q : (U w).length < i
    · exact if_yes (by omega) (k m hm)
    · refine if_no (by omega) ⟨(U w).length + 1, s_timesWith_L (p := i) gw hw (by omega) (fun r hr => ⟨gR_of (by omega) (by omega), gR_of (by omega) (by omega), ?_⟩) _ 0 0 0 (Nat.zero_le _) (by omega) (Nat.le_refl _) (Nat.le_refl _)⟩
      rw [show (i : Int) + 1 = ((i + 1 : Nat) : Int) by omega, show max (m : Int) (r : Int) = ((max m r : Nat) : Int) by omega]
      exact s_timesOf_L gw hw k n (i + 1) (max m r) (by omega) (by omega) (by omega) (by omega)
theorem s_timesOf (gw : gW A h U) (hw : w < 11) {Q : Int → gaH → Prop} (k : ∀ r : Nat, r ≤ 65 → Q (r : Int) h) : w_X1_timesOf (A w) h Q :=
  ⟨(U w).length + 1, s_timesOf_L gw hw k _ 1 0 (Nat.le_refl _) (by omega) (by omega) (by decide)⟩
theorem s_isOverlap_L (gw : gW A h U) (hw : w < 11) {a p : Nat} (hap : a + 2 * p < (U w).length) {Q : Int → gaH → Prop} (k0 : Q 0 h) (k1 : Q 1 h) : ∀ (n i : Nat), a ≤ i → i ≤ a + p + 1 → a + p + 1 - i < n → w_X1_isOverlap_L2 Q n (A w) (a : Int) (p : Int) (i : Int) h
  | 0, i, _, _, h1 => absurd h1 (Nat.not_lt_zero _)
  | n + 1, i, h0, hi, h1 => by
    have l1 := gw.le hw
    unfold w_X1_isOverlap_L2
    refine ⟨gR_of (by omega) (by omega), gR_of (by omega) (by omega), ?_⟩
    by_cases q : a + p < i
    · exact if_yes (by omega) k1
    · refine if_no (by omega) ⟨gw.has hw, s_isUp gw hw rfl (by omega) ⟨gw.has hw, s_isUp (i := i + p) gw hw (by omega) (by omega) ⟨b2i_R _, b2i_R _, ?_⟩⟩⟩
      by_cases z : b2i ((U w).getD i false) = b2i ((U w).getD (i + p) false)
      · refine if_yes z ?_
        rw [show (i : Int) + 1 = ((i + 1 : Nat) : Int) by omega]
        exact s_isOverlap_L gw hw hap k0 k1 n (i + 1) (by omega) (by omega) (by omega)
      · exact if_no z k0
theorem s_overlaps_L2 (gw : gW A h U) (hw : w < 11) {p : Nat} {Q : Int → gaH → Prop} {K : Nat → Int → Int → gaH → Prop} {B : Nat} (hB : B ≤ 100000) (k : ∀ r : Nat, r ≤ B + 65 → K (A w) (r : Int) ((p : Int) + 1) h) (hp : p ≤ 64) : ∀ (n i c : Nat), i ≤ (U w).length → (U w).length - i < n → c ≤ B + i → w_X1_overlapsOf_L14 Q K n (A w) (c : Int) (p : Int) (i : Int) h
  | 0, i, _, _, h1, _ => absurd h1 (Nat.not_lt_zero _)
  | n + 1, i, c, hi, h1, hc => by
    have l1 := gw.le hw
    unfold w_X1_overlapsOf_L14
    refine gw.many hw ⟨gR_of (by omega) (by omega), gR_of (by omega) (by omega), ?_⟩
    by_cases q : (U w).length ≤ i + 2 * p
    · exact if_yes (by omega) (k c (by omega))
    · have e1 : (i : Int) + 1 = ((i + 1 : Nat) : Int) := by omega
      refine if_no (by omega) ⟨p + 2, s_isOverlap_L (a := i) (p := p) gw hw (by omega) ⟨gR_of (by decide) (by decide), if_yes rfl ?_⟩ ⟨gR_of (by decide) (by decide), if_no (by decide) ?_⟩ _ i (Nat.le_refl _) (by omega) (by omega)⟩
      · rw [e1]
        exact s_overlaps_L2 gw hw hB k hp n (i + 1) c (by omega) (by omega) (by omega)
      · rw [e1, show (c : Int) + 1 = ((c + 1 : Nat) : Int) by omega]
        exact s_overlaps_L2 gw hw hB k hp n (i + 1) (c + 1) (by omega) (by omega) (by omega)
theorem s_overlaps_L1 (gw : gW A h U) (hw : w < 11) {Q : Int → gaH → Prop} (k : ∀ r : Nat, r ≤ 10000 → Q (r : Int) h) : ∀ (n i c : Nat), i ≤ 65 → 65 - i < n → c ≤ i * 65 → w_X1_overlapsOf_L4 Q n (A w) (c : Int) (i : Int) h
  | 0, i, _, _, h1, _ => absurd h1 (Nat.not_lt_zero _)
  | n + 1, i, c, hi, h1, hc => by
    have l1 := gw.le hw
    unfold w_X1_overlapsOf_L4
    refine gw.many hw ⟨gR_of (by omega) (by omega), gR_of (by omega) (by omega), ?_⟩
    by_cases q : (U w).length ≤ i
    · exact if_yes (by omega) (k c (by omega))
    · refine if_no (by omega) ⟨(U w).length + 1, s_overlaps_L2 (p := i) (B := c) gw hw (by omega) (fun r hr => ?_) (by omega) _ 0 c (Nat.zero_le _) (by omega) (by omega)⟩
      rw [show (i : Int) + 1 = ((i + 1 : Nat) : Int) by omega]
      exact s_overlaps_L1 gw hw k n (i + 1) r (by omega) (by omega) (by omega)
theorem s_overlapsOf (gw : gW A h U) (hw : w < 11) {Q : Int → gaH → Prop} (k : ∀ r : Nat, r ≤ 10000 → Q (r : Int) h) : w_X1_overlapsOf (A w) h Q :=
  ⟨66, s_overlaps_L1 gw hw k _ 1 0 (by decide) (by decide) (by decide)⟩
theorem s_folds_L (gw : gW A h U) (hw : w < 11) {Q : Int → gaH → Prop} (k : ∀ r : Nat, r ≤ 64 → Q (r : Int) h) : ∀ (n i c : Nat), i ≤ (U w).length → (U w).length - i < n → c ≤ i → w_X1_foldsOf_L4 Q n (A w) (c : Int) (i : Int) h
  | 0, i, _, _, h1, _ => absurd h1 (Nat.not_lt_zero _)
  | n + 1, i, c, hi, h1, hc => by
    have l1 := gw.le hw
    unfold w_X1_foldsOf_L4
    refine gw.many hw ⟨gR_of (by omega) (by omega), gR_of (by omega) (by omega), ?_⟩
    have e1 : (i : Int) + 1 = ((i + 1 : Nat) : Int) := by omega
    by_cases q : (U w).length ≤ i
    · exact if_yes (by omega) (k c (by omega))
    · have no : w_X1_foldsOf_L4 Q n (A w) (c : Int) ((i : Int) + 1) h := by
        rw [e1]
        exact s_folds_L gw hw k n (i + 1) c (by omega) (by omega) (by omega)
      refine if_no (by omega) (s_isMir (a := 0) (l := i) gw hw rfl rfl (by omega) ⟨gR_of (by decide) (by decide), if_yes rfl no⟩ ⟨gR_of (by decide) (by decide), if_no (by decide) (gw.many hw (s_isMir (a := i) (l := (U w).length - i) gw hw rfl (by omega) (by omega) ⟨gR_of (by decide) (by decide), if_yes rfl no⟩ ⟨gR_of (by decide) (by decide), if_no (by decide) ?_⟩))⟩)
      rw [e1, show (c : Int) + 1 = ((c + 1 : Nat) : Int) by omega]
      exact s_folds_L gw hw k n (i + 1) (c + 1) (by omega) (by omega) (by omega)
theorem s_foldsOf (gw : gW A h U) (hw : w < 11) {Q : Int → gaH → Prop} (k : ∀ r : Nat, r ≤ 64 → Q (r : Int) h) : w_X1_foldsOf (A w) h Q :=
  ⟨(U w).length + 1, s_folds_L gw hw k _ 0 0 (Nat.zero_le _) (by omega) (Nat.le_refl _)⟩
theorem s_least_L (gw : gW A h U) (hw : w < 11) {Q : Int → gaH → Prop} (k : ∀ r : Nat, r ≤ 64 → Q (r : Int) h) : ∀ (n i c : Nat), i ≤ (U w).length + 1 → (U w).length + 1 - i < n → c < i → w_X1_leastOf_L4 Q n (A w) (c : Int) (i : Int) h
  | 0, i, _, _, h1, _ => absurd h1 (Nat.not_lt_zero _)
  | n + 1, i, c, hi, h1, hc => by
    have l1 := gw.le hw
    unfold w_X1_leastOf_L4
    refine gw.many hw ⟨gR_of (by omega) (by omega), gR_of (by omega) (by omega), ?_⟩
    have e1 : (i : Int) + 1 = ((i + 1 : Nat) : Int) := by omega
    by_cases q : (U w).length ≤ i
    · exact if_yes (by omega) (k c (by omega))
    · have go : ∀ d : Nat, d < i + 1 → w_X1_leastOf_L4 Q n (A w) (d : Int) ((i : Int) + 1) h := by
        intro d hd
        rw [e1]
        exact s_least_L gw hw k n (i + 1) d (by omega) (by omega) (by omega)
      exact if_no (by omega) (gw.many hw (s_ringOrder (a := i) (b := c) (l := (U w).length) gw hw rfl rfl rfl (by omega) (by omega) ⟨gR_of (by decide) (by decide), if_yes (by decide) (go c (by omega))⟩ ⟨gR_of (by decide) (by decide), if_yes (by decide) (go c (by omega))⟩ ⟨gR_of (by decide) (by decide), if_no (by decide) (go i (by omega))⟩))
theorem s_leastOf (gw : gW A h U) (hw : w < 11) {Q : Int → gaH → Prop} (k : ∀ r : Nat, r ≤ 64 → Q (r : Int) h) : w_X1_leastOf (A w) h Q := by
  by_cases q : (U w).length = 0
  · refine ⟨1, ?_⟩
    unfold w_X1_leastOf_L4
    exact gw.many hw ⟨gR_of (by decide) (by decide), gR_of (by omega) (by omega), if_yes (by omega) (k 0 (by decide))⟩
  · exact ⟨(U w).length + 1, s_least_L gw hw k _ 1 0 (by omega) (by omega) (by decide)⟩
theorem s_readEarlier_L (gw : gW A h U) (hw : w < 11) {a l : Nat} (hal : l = 0 ∨ (a < (U w).length ∧ l ≤ (U w).length)) (ha : a ≤ 64) (hl : l ≤ 64) {Q : Int → gaH → Prop} (k0 : Q 0 h) (k1 : Q 1 h) : ∀ (n i : Nat), i ≤ a → a - i < n → w_X1_isReadEarlier_L2 Q n (A w) (a : Int) (l : Int) (i : Int) h
  | 0, i, _, h1 => absurd h1 (Nat.not_lt_zero _)
  | n + 1, i, hi, h1 => by
    unfold w_X1_isReadEarlier_L2
    refine ⟨gR_of (by omega) (by omega), gR_of (by omega) (by omega), ?_⟩
    by_cases q : a ≤ i
    · exact if_yes (by omega) k0
    · have go : w_X1_isReadEarlier_L2 Q n (A w) (a : Int) (l : Int) ((i : Int) + 1) h := by
        rw [show (i : Int) + 1 = ((i + 1 : Nat) : Int) by omega]
        exact s_readEarlier_L gw hw hal ha hl k0 k1 n (i + 1) (by omega) (by omega)
      exact if_no (by omega) (s_ringOrder (a := i) (b := a) (l := l) gw hw rfl rfl rfl (by omega) hl ⟨gR_of (by decide) (by decide), if_yes rfl k1⟩ ⟨gR_of (by decide) (by decide), if_no (by decide) go⟩ ⟨gR_of (by decide) (by decide), if_no (by decide) go⟩)
theorem s_readEarlier (gw : gW A h U) (hw : w < 11) {x y : Int} {a l : Nat} (hx : x = (a : Int)) (hy : y = (l : Int)) (hal : l = 0 ∨ (a < (U w).length ∧ l ≤ (U w).length)) (ha : a ≤ 64) (hl : l ≤ 64) {Q : Int → gaH → Prop} (k0 : Q 0 h) (k1 : Q 1 h) : w_X1_isReadEarlier (A w) x y h Q := by
  subst hx; subst hy
  exact ⟨a + 1, s_readEarlier_L gw hw hal ha hl k0 k1 _ 0 (Nat.zero_le _) (by omega)⟩
/-- how many parts begin -/
def begins (n l : Nat) (ring : Bool) : Nat := if ring = true then max n 1 else n - l + 1
theorem s_beginnings (gw : gW A h U) (hw : w < 11) {x y : Int} {l : Nat} {b : Bool} (hx : x = (l : Int)) (hy : y = b2i b) (hl : l ≤ (U w).length) {Q : Int → gaH → Prop} (k : Q (begins (U w).length l b : Int) h) : w_X1_beginnings (A w) x y h Q := by
  subst hx; subst hy
  have l1 := gw.le hw
  unfold w_X1_beginnings
  refine ⟨b2i_R _, ?_⟩
  unfold begins at k
  cases b
  · refine if_yes rfl (gw.many hw ?_)
    rw [if_neg (by decide)] at k
    rw [show ((U w).length : Int) - (l : Int) + 1 = (((U w).length - l + 1 : Nat) : Int) by omega]
    exact k
  · refine if_no (by decide) (gw.many hw ⟨gR_of (by omega) (by omega), ?_⟩)
    rw [if_pos rfl] at k
    rw [show max ((U w).length : Int) 1 = ((max (U w).length 1 : Nat) : Int) by omega]
    exact k
theorem begins_le {n l i : Nat} {b : Bool} (hl : l ≤ n) (hi : i < begins n l b) : i ≤ n ∧ (l = 0 ∨ (i < n ∧ l ≤ n)) := by
  unfold begins at hi
  split at hi <;> omega
theorem s_kinds_L (gw : gW A h U) (hw : w < 11) {l : Nat} {b : Bool} (hl : l ≤ (U w).length) {Q : Int → gaH → Prop} (k : ∀ r : Nat, r ≤ 65 → Q (r : Int) h) : ∀ (n i c : Nat), i ≤ begins (U w).length l b → begins (U w).length l b - i < n → c ≤ i → w_X1_kindsOf_L13 Q n (A w) (l : Int) (c : Int) (begins (U w).length l b : Int) (i : Int) h
  | 0, i, _, _, h1, _ => absurd h1 (Nat.not_lt_zero _)
  | n + 1, i, c, hi, h1, hc => by
    have l1 := gw.le hw
    have hb : begins (U w).length l b ≤ 65 := by unfold begins; split <;> omega
    unfold w_X1_kindsOf_L13
    refine ⟨gR_of (by omega) (by omega), gR_of (by omega) (by omega), ?_⟩
    by_cases q : begins (U w).length l b ≤ i
    · exact if_yes (by omega) (k c (by omega))
    · have e := begins_le hl (show i < begins (U w).length l b by omega)
      have e1 : (i : Int) + 1 = ((i + 1 : Nat) : Int) := by omega
      refine if_no (by omega) (s_readEarlier (a := i) (l := l) gw hw rfl rfl e.2 (by omega) (by omega) ⟨gR_of (by decide) (by decide), if_yes rfl ?_⟩ ⟨gR_of (by decide) (by decide), if_no (by decide) ?_⟩)
      · rw [e1, show (c : Int) + 1 = ((c + 1 : Nat) : Int) by omega]
        exact s_kinds_L gw hw hl k n (i + 1) (c + 1) (by omega) (by omega) (by omega)
      · rw [e1]
        exact s_kinds_L gw hw hl k n (i + 1) c (by omega) (by omega) (by omega)
theorem s_kindsOf (gw : gW A h U) (hw : w < 11) {x y : Int} {l : Nat} {b : Bool} (hx : x = (l : Int)) (hy : y = b2i b) (hl : l ≤ (U w).length) {Q : Int → gaH → Prop} (k : ∀ r : Nat, r ≤ 65 → Q (r : Int) h) : w_X1_kindsOf (A w) x y h Q := by
  subst hx
  unfold w_X1_kindsOf
  exact s_beginnings (b := b) gw hw rfl hy hl ⟨begins (U w).length l b + 1, s_kinds_L gw hw hl k _ 0 0 (Nat.zero_le _) (by omega) (Nat.le_refl _)⟩
theorem s_mirrors_L2 (gw : gW A h U) (hw : w < 11) {a : Nat} (ha : a < (U w).length) {Q : Int → gaH → Prop} {K : Nat → Int → Int → gaH → Prop} {B : Nat} (hB : B ≤ 100000) (k : ∀ r : Nat, r ≤ B + 65 → K (A w) (r : Int) ((a : Int) + 1) h) : ∀ (n i c : Nat), 1 ≤ i → i ≤ (U w).length - a + 1 → (U w).length - a + 1 - i < n → c ≤ B + i → w_X1_mirrorsOf_L14 Q K n (A w) (c : Int) (a : Int) (i : Int) h
  | 0, i, _, _, _, h1, _ => absurd h1 (Nat.not_lt_zero _)
  | n + 1, i, c, h0, hi, h1, hc => by
    have l1 := gw.le hw
    unfold w_X1_mirrorsOf_L14
    refine gw.many hw ⟨gR_of (by omega) (by omega), gR_of (by omega) (by omega), ?_⟩
    have e1 : (i : Int) + 1 = ((i + 1 : Nat) : Int) := by omega
    by_cases q : (U w).length - a < i
    · exact if_yes (by omega) (k c (by omega))
    · have no : w_X1_mirrorsOf_L14 Q K n (A w) (c : Int) (a : Int) ((i : Int) + 1) h := by
        rw [e1]
        exact s_mirrors_L2 gw hw ha hB k n (i + 1) c (by omega) (by omega) (by omega) (by omega)
      refine if_no (by omega) (s_isMir (a := a) (l := i) gw hw rfl rfl (by omega) ⟨gR_of (by decide) (by decide), if_yes rfl no⟩ ⟨gR_of (by decide) (by decide), if_no (by decide) (s_readEarlier (a := a) (l := i) gw hw rfl rfl (by omega) (by omega) (by omega) ⟨gR_of (by decide) (by decide), if_yes rfl ?_⟩ ⟨gR_of (by decide) (by decide), if_no (by decide) no⟩)⟩)
      rw [e1, show (c : Int) + 1 = ((c + 1 : Nat) : Int) by omega]
      exact s_mirrors_L2 gw hw ha hB k n (i + 1) (c + 1) (by omega) (by omega) (by omega) (by omega)
theorem s_mirrors_L1 (gw : gW A h U) (hw : w < 11) {Q : Int → gaH → Prop} (k : ∀ r : Nat, r ≤ 10000 → Q (r : Int) h) : ∀ (n i c : Nat), i ≤ 64 → 64 - i < n → c ≤ i * 66 → w_X1_mirrorsOf_L4 Q n (A w) (c : Int) (i : Int) h
  | 0, i, _, _, h1, _ => absurd h1 (Nat.not_lt_zero _)
  | n + 1, i, c, hi, h1, hc => by
    have l1 := gw.le hw
    unfold w_X1_mirrorsOf_L4
    refine gw.many hw ⟨gR_of (by omega) (by omega), gR_of (by omega) (by omega), ?_⟩
    by_cases q : (U w).length ≤ i
    · exact if_yes (by omega) (k c (by omega))
    · refine if_no (by omega) ⟨66, s_mirrors_L2 (a := i) (B := c) gw hw (by omega) (by omega) (fun r hr => ?_) _ 1 c (Nat.le_refl _) (by omega) (by omega) (by omega)⟩
      rw [show (i : Int) + 1 = ((i + 1 : Nat) : Int) by omega]
      exact s_mirrors_L1 gw hw k n (i + 1) r (by omega) (by omega) (by omega)
theorem s_mirrorsOf (gw : gW A h U) (hw : w < 11) {Q : Int → gaH → Prop} (k : ∀ r : Nat, r ≤ 10000 → Q (r : Int) h) : w_X1_mirrorsOf (A w) h Q :=
  ⟨65, s_mirrors_L1 gw hw k _ 0 0 (by decide) (by decide) (by decide)⟩
theorem s_upsInPart_L (gw : gW A h U) (hw : w < 11) {a l : Nat} (hal : l = 0 ∨ (a < (U w).length ∧ l ≤ (U w).length)) (ha : a ≤ 64) (hl : l ≤ 64) {Q : Int → gaH → Prop} (k : ∀ r : Nat, r ≤ l → Q (r : Int) h) : ∀ (n i c : Nat), i ≤ l → l - i < n → c ≤ i → w_X1_upsInPart_L5 Q n (A w) (a : Int) (l : Int) (c : Int) ((a : Int) + (i : Int)) h
  | 0, i, _, _, h1, _ => absurd h1 (Nat.not_lt_zero _)
  | n + 1, i, c, hi, h1, hc => by
    have l1 := gw.le hw
    unfold w_X1_upsInPart_L5
    refine ⟨gR_of (by omega) (by omega), gR_of (by omega) (by omega), ?_⟩
    by_cases q : l ≤ i
    · exact if_yes (by omega) (k c (by omega))
    · have e1 : (a : Int) + (i : Int) + 1 = (a : Int) + ((i + 1 : Nat) : Int) := by omega
      refine if_no (by omega) (s_onRing (p := a + i) gw hw (by omega) (by omega) ⟨b2i_R _, ?_⟩)
      generalize (U w).getD (if a + i < (U w).length then a + i else a + i - (U w).length) false = y
      cases y
      · refine if_yes rfl ?_
        rw [e1]
        exact s_upsInPart_L gw hw hal ha hl k n (i + 1) c (by omega) (by omega) (by omega)
      · refine if_no (by decide) ?_
        rw [e1, show (c : Int) + 1 = ((c + 1 : Nat) : Int) by omega]
        exact s_upsInPart_L gw hw hal ha hl k n (i + 1) (c + 1) (by omega) (by omega) (by omega)
theorem s_upsInPart (gw : gW A h U) (hw : w < 11) {x y : Int} {a l : Nat} (hx : x = (a : Int)) (hy : y = (l : Int)) (hal : l = 0 ∨ (a < (U w).length ∧ l ≤ (U w).length)) (ha : a ≤ 64) (hl : l ≤ 64) {Q : Int → gaH → Prop} (k : ∀ r : Nat, r ≤ l → Q (r : Int) h) : w_X1_upsInPart (A w) x y h Q := by
  subst hx; subst hy
  refine ⟨l + 1, ?_⟩
  have := s_upsInPart_L gw hw hal ha hl k (l + 1) 0 0 (Nat.zero_le _) (by omega) (Nat.le_refl _)
  rw [show (a : Int) + ((0 : Nat) : Int) = (a : Int) by omega] at this
  exact this
theorem s_spread_L (gw : gW A h U) (hw : w < 11) {l : Nat} {b : Bool} (hl : l ≤ (U w).length) {Q : Int → gaH → Prop} (k : ∀ r : Int, -64 ≤ r → r ≤ 64 → Q r h) : ∀ (n i c d : Nat), i ≤ begins (U w).length l b → begins (U w).length l b - i < n → c ≤ 64 → d ≤ 64 → w_X1_spreadOf_L16 Q n (A w) (l : Int) (c : Int) (d : Int) (begins (U w).length l b : Int) (i : Int) h
  | 0, i, _, _, _, h1, _, _ => absurd h1 (Nat.not_lt_zero _)
  | n + 1, i, c, d, hi, h1, hc, hd => by
    have l1 := gw.le hw
    have hb : begins (U w).length l b ≤ 65 := by unfold begins; split <;> omega
    unfold w_X1_spreadOf_L16
    refine ⟨gR_of (by omega) (by omega), gR_of (by omega) (by omega), ?_⟩
    by_cases q : begins (U w).length l b ≤ i
    · exact if_yes (by omega) (k _ (by omega) (by omega))
    · have e := begins_le hl (show i < begins (U w).length l b by omega)
      refine if_no (by omega) (s_upsInPart (a := i) (l := l) gw hw rfl rfl e.2 (by omega) (by omega) (fun r hr => ⟨gR_of (by omega) (by omega), gR_of (by omega) (by omega), gR_of (by omega) (by omega), gR_of (by omega) (by omega), ?_⟩))
      rw [show (i : Int) + 1 = ((i + 1 : Nat) : Int) by omega, show max (c : Int) (r : Int) = ((max c r : Nat) : Int) by omega, show min (d : Int) (r : Int) = ((min d r : Nat) : Int) by omega]
      exact s_spread_L gw hw hl k n (i + 1) (max c r) (min d r) (by omega) (by omega) (by omega) (by omega)
theorem s_spreadOf (gw : gW A h U) (hw : w < 11) {x y : Int} {l : Nat} {b : Bool} (hx : x = (l : Int)) (hy : y = b2i b) (hl : l ≤ (U w).length) {Q : Int → gaH → Prop} (k : ∀ r : Int, -64 ≤ r → r ≤ 64 → Q r h) : w_X1_spreadOf (A w) x y h Q := by
  subst hx
  have l1 := gw.le hw
  unfold w_X1_spreadOf
  exact s_beginnings (b := b) gw hw rfl hy hl ⟨begins (U w).length l b + 1, s_spread_L gw hw hl k _ 0 0 l (Nat.zero_le _) (by omega) (by decide) (by omega)⟩
end PQ
/-! The garden: its state, and what its methods' shared steps do. -/
abbrev GSt : Type := (Nat → List Bool) × (Nat → List Nat) × (Nat → Int)
abbrev GSt.S (st : GSt) : Nat → List Bool := st.1
abbrev GSt.T (st : GSt) : Nat → List Nat := st.2.1
abbrev GSt.C (st : GSt) : Nat → Int := st.2.2
def gX (A : Nat → Nat) (h : gaH) (C : Nat → Int) : Prop := h (A 22) = some (5, [.ref (A 23), .ref (A 24), .ref (A 25), .ref (A 3), .ref (A 4), gi (C 0), gi (C 1), gi (C 2), gi (C 3)]) ∧ h (A 23) = some (110, [.ref (A 0), .ref (A 1), .ref (A 2)]) ∧ h (A 24) = some (111, [.ref (A 26), .ref (A 27)])
def gD (A : Nat → Nat) (G : gaG) (h : gaH) (U : Nat → List Bool) (st : GSt) : Prop := gW A h U ∧ gRu A h ∧ gX A h st.C ∧ (∀ g, g < 2 → gGr A h g (st.T g)) ∧ (∀ g, g < 2 → gOk (st.T g)) ∧ (∀ g, g < 2 → U (5 + 2 * g) = (grw (st.T g)).1 ∧ U (6 + 2 * g) = (grw (st.T g)).2) ∧ (∀ w, w < 3 → U w = st.S w) ∧ h (G.2.2.2 0) = some (1102, gaCodes) ∧ ∀ i, i < 31 → G.2.2.2 0 ≠ A i
theorem gD.w {A : Nat → Nat} {G : gaG} {h : gaH} {U : Nat → List Bool} {st : GSt} (d : gD A G h U st) : gW A h U := d.1
theorem gD.ru {A : Nat → Nat} {G : gaG} {h : gaH} {U : Nat → List Bool} {st : GSt} (d : gD A G h U st) : gRu A h := d.2.1
theorem gD.x {A : Nat → Nat} {G : gaG} {h : gaH} {U : Nat → List Bool} {st : GSt} (d : gD A G h U st) : gX A h st.C := d.2.2.1
theorem gD.gr {A : Nat → Nat} {G : gaG} {h : gaH} {U : Nat → List Bool} {st : GSt} (d : gD A G h U st) : ∀ g, g < 2 → gGr A h g (st.T g) := d.2.2.2.1
theorem gD.ok {A : Nat → Nat} {G : gaG} {h : gaH} {U : Nat → List Bool} {st : GSt} (d : gD A G h U st) : ∀ g, g < 2 → gOk (st.T g) := d.2.2.2.2.1
theorem gD.gw {A : Nat → Nat} {G : gaG} {h : gaH} {U : Nat → List Bool} {st : GSt} (d : gD A G h U st) : ∀ g, g < 2 → U (5 + 2 * g) = (grw (st.T g)).1 ∧ U (6 + 2 * g) = (grw (st.T g)).2 := d.2.2.2.2.2.1
theorem gD.s {A : Nat → Nat} {G : gaG} {h : gaH} {U : Nat → List Bool} {st : GSt} (d : gD A G h U st) : ∀ w, w < 3 → U w = st.S w := d.2.2.2.2.2.2.1
theorem gD.mc {A : Nat → Nat} {G : gaG} {h : gaH} {U : Nat → List Bool} {st : GSt} (d : gD A G h U st) : h (G.2.2.2 0) = some (1102, gaCodes) := d.2.2.2.2.2.2.2.1
theorem gD.ne {A : Nat → Nat} {G : gaG} {h : gaH} {U : Nat → List Bool} {st : GSt} (d : gD A G h U st) : ∀ i, i < 31 → G.2.2.2 0 ≠ A i := d.2.2.2.2.2.2.2.2
theorem gD.has {A : Nat → Nat} {G : gaG} {h : gaH} {U : Nat → List Bool} {st : GSt} (d : gD A G h U st) : gHas h (A 22) 5 := ⟨_, d.x.1⟩
def gFr (A : Nat → Nat) (h h' : gaH) : Prop := ∀ b e, (∀ i, i < 31 → b ≠ A i) → h b = some e → h' b = some e
theorem gFr.rf {A : Nat → Nat} {h : gaH} : gFr A h h := fun _ _ _ q => q
theorem gFr.tr {A : Nat → Nat} {h h1 h2 : gaH} (x : gFr A h h1) (y : gFr A h1 h2) : gFr A h h2 := fun b e hb q => y b e hb (x b e hb q)
theorem gFr.sm {A : Nat → Nat} {h h1 : gaH} (x : gSm A h h1) : gFr A h h1 := fun b e hb q => (x b (fun w hw => hb w (by omega))).trans q
theorem gFr.sk {A : Nat → Nat} {h h1 : gaH} (x : gSk A h h1) : gFr A h h1 := fun b e hb q => (x b (fun w hw => hb w (by omega)) (hb 30 (by decide))).trans q
theorem gFr.sg {A : Nat → Nat} {h h1 : gaH} {g : Nat} (hg : g < 2) (x : gSg A g h h1) : gFr A h h1 := fun b e hb q => (x b (fun w hw => hb w (by omega)) (hb _ (by omega)) (hb _ (by omega))).trans q
theorem gFr.up {A : Nat → Nat} {h : gaH} {i : Nat} (hi : i < 31) {e : gaE} : gFr A h (gaUp h (A i) e) := fun b f hb q => by rw [gaUp_ne _ _ (hb i hi)]; exact q
def gRes (A : Nat → Nat) (G : gaG) (h : gaH) (E : List String) (X : String → gaH → Prop) (Q : Int → gaH → Prop) (o : Nat × (Int → Prop) × GSt) : Prop := ∀ h' U', gD A G h' U' o.2.2 → gFr A h h' → (o.1 = 0 → ∀ r, o.2.1 r → Q r h') ∧ (o.1 ≠ 0 → X (E.getD (o.1 - 1) "") h')
theorem gCall_mk {C S c s : Nat} {K : Nat → Nat → Prop} (h1 : C ≤ c) (h2 : S ≤ s) (k : K (c - C) (s - S)) : gCall C S c s K := ⟨h1, h2, _, _, rfl, rfl, k⟩
theorem ite_both {c : Prop} [Decidable c] {X Y : Prop} (k1 : c → X) (k2 : ¬ c → Y) : (if c then X else Y) := by
  by_cases q : c
  · rw [if_pos q]; exact k1 q
  · rw [if_neg q]; exact k2 q
section GV
variable {A : Nat → Nat} {h : gaH} {U : Nat → List Bool} {w v : Nat} {Q : gaH → Prop}
theorem v_clear (g : gW A h U) (hw : w < 11) (k : ∀ h' V, gW A h' V → gSm A h h' → V w = [] → (∀ v, v ≠ w → V v = U v) → Q h') : w_X4_clear (A w) h Q := s_clear g hw (fun h' w' s' => k h' _ w' s' (pu_self _ _ _) (fun _ q => pu_ne _ _ q))
theorem v_add (g : gW A h U) (hw : w < 11) (hl : (U w).length < 64) {x : Int} {b : Bool} (hx : x = b2i b) (k : ∀ h' V, gW A h' V → gSm A h h' → V w = U w ++ [b] → (∀ v, v ≠ w → V v = U v) → Q h') : w_X4_add (A w) x h Q := s_add g hw hl hx (fun h' w' s' => k h' _ w' s' (pu_self _ _ _) (fun _ q => pu_ne _ _ q))
theorem v_addPart (g : gW A h U) (hw : w < 11) (hv : v < 11) (hne : v ≠ w) {x y : Int} {i t : Nat} (hx : x = (i : Int)) (hy : y = (t : Int)) (hi : i ≤ t) (ht : t ≤ (U v).length) (hl : (U w).length + (t - i) ≤ 64) (k : ∀ h' V, gW A h' V → gSm A h h' → V w = U w ++ ((U v).drop i).take (t - i) → (∀ v, v ≠ w → V v = U v) → Q h') : w_X4_addPart (A w) (A v) x y h Q := s_addPart g hw hv hne hx hy hi ht hl (fun h' w' s' => k h' _ w' s' (pu_self _ _ _) (fun _ q => pu_ne _ _ q))
theorem v_takeTurned (g : gW A h U) (hw : w < 11) (hv : v < 11) (hne : v ≠ w) (k : ∀ h' V, gW A h' V → gSm A h h' → V w = (U v).reverse → (∀ v, v ≠ w → V v = U v) → Q h') : w_X4_takeTurned (A w) (A v) h Q := s_takeTurned g hw hv hne (fun h' w' s' => k h' _ w' s' (pu_self _ _ _) (fun _ q => pu_ne _ _ q))
end GV
section GD
variable {A : Nat → Nat} {G : gaG} {h : gaH} {U : Nat → List Bool} {st : GSt} {E : List String} {X : String → gaH → Prop} {Q : Int → gaH → Prop} {w v g : Nat}
theorem gRes.ok {P : Int → Prop} {st' : GSt} (k : gRes A G h E X Q (0, P, st')) {h' : gaH} {U' : Nat → List Bool} (d : gD A G h' U' st') (f : gFr A h h') {r : Int} (hr : P r) : Q r h' := (k h' U' d f).1 rfl r hr
theorem gRes.ex {c : Nat} {P : Int → Prop} {st' : GSt} (k : gRes A G h E X Q (c + 1, P, st')) {h' : gaH} {U' : Nat → List Bool} (d : gD A G h' U' st') (f : gFr A h h') : X (E.getD c "") h' := (k h' U' d f).2 (Nat.succ_ne_zero c)
theorem gRes.on {o : Nat × (Int → Prop) × GSt} (k : gRes A G h E X Q o) {h1 : gaH} (f : gFr A h h1) : gRes A G h1 E X Q o := fun h' U' d f2 => k h' U' d (f.tr f2)
theorem gD.f0 (d : gD A G h U st) {K : Nat → Prop} (k : K (A 23)) : gA h (A 22) 5 0 K := gA_mk d.x.1 rfl k
theorem gD.f1 (d : gD A G h U st) {K : Nat → Prop} (k : K (A 24)) : gA h (A 22) 5 1 K := gA_mk d.x.1 rfl k
theorem gD.f2 (d : gD A G h U st) {K : Nat → Prop} (k : K (A 25)) : gA h (A 22) 5 2 K := gA_mk d.x.1 rfl k
theorem gD.f3 (d : gD A G h U st) {K : Nat → Prop} (k : K (A 3)) : gA h (A 22) 5 3 K := gA_mk d.x.1 rfl k
theorem gD.f4 (d : gD A G h U st) {K : Nat → Prop} (k : K (A 4)) : gA h (A 22) 5 4 K := gA_mk d.x.1 rfl k
theorem gD.cn (d : gD A G h U st) {i f : Nat} (hf : f = 5 + i) (hi : i < 4) {K : Int → Prop} (k : K (st.C i)) : gI h (A 22) 5 f K := by
  subst hf
  refine gI_mk d.x.1 (x := st.C i) ?_ k
  rcases (show i = 0 ∨ i = 1 ∨ i = 2 ∨ i = 3 by omega) with rfl | rfl | rfl | rfl <;> rfl
/-- words and marks have changed, neither growths' nor others than these sheets -/
theorem gD.k (d : gD A G h U st) {h' : gaH} {U' : Nat → List Bool} {S' : Nat → List Bool} (w' : gW A h' U') (s : gSk A h h') (hs : ∀ w, w < 3 → U' w = S' w) (hg : ∀ w, 5 ≤ w → w < 9 → U' w = U w) : gD A G h' U' (S', st.T, st.C) := by
  have hA := d.w.inj
  exact ⟨w', d.ru.onk hA s, ⟨(s.at hA (by decide) (by decide)).trans d.x.1, (s.at hA (by decide) (by decide)).trans d.x.2.1, (s.at hA (by decide) (by decide)).trans d.x.2.2⟩, fun g hg => (d.gr g hg).onk hA hg s, d.ok, fun g q => by rw [hg _ (by omega) (by omega), hg _ (by omega) (by omega)]; exact d.gw g q, hs, (s _ (fun w hw => d.ne w (by omega)) (d.ne 30 (by decide))).trans d.mc, d.ne⟩
/-- words that count for nothing have changed -/
theorem gD.b (d : gD A G h U st) {h' : gaH} {U' : Nat → List Bool} (w' : gW A h' U') (s : gSm A h h') (hs : ∀ w, w < 3 → U' w = U w) (hg : ∀ w, 5 ≤ w → w < 9 → U' w = U w) : gD A G h' U' st :=
  d.k (S' := st.S) w' (gSk.of s) (fun w hw => (hs w hw).trans (d.s w hw)) hg
theorem gD.bk (d : gD A G h U st) {h' : gaH} {U' : Nat → List Bool} (w' : gW A h' U') (s : gSk A h h') (hs : ∀ w, w < 3 → U' w = U w) (hg : ∀ w, 5 ≤ w → w < 9 → U' w = U w) : gD A G h' U' st :=
  d.k (S' := st.S) w' s (fun w hw => (hs w hw).trans (d.s w hw)) hg
/-- one sheet's word has changed -/
theorem gD.sh (d : gD A G h U st) {h' : gaH} {u : List Bool} (hw : w < 3) (w' : gW A h' (pu U w u)) (s : gSm A h h') : gD A G h' (pu U w u) (pu st.S w u, st.T, st.C) :=
  d.k w' (gSk.of s) (fun v hv => by
    by_cases e : v = w
    · rw [e, pu_self, pu_self]
    · rw [pu_ne _ _ e, pu_ne _ _ e]; exact d.s v hv) (fun v h5 h9 => pu_ne _ _ (by omega))
theorem gD.inc (d : gD A G h U st) {i f : Nat} (hf : f = 5 + i) (hi : i < 4) {x : Int} (hx : x = st.C i + 1) {K : gaH → Prop} (k : ∀ h', gD A G h' U (st.S, st.T, pu st.C i (st.C i + 1)) → gFr A h h' → K h') : gPF h (A 22) 5 f (gi x) K := by
  subst hf; subst hx
  have hA := d.w.inj
  have ne : ∀ j, j < 31 → j ≠ 22 → A j ≠ A 22 := fun j hj hn q => hn (hA _ _ hj (by decide) q)
  refine gPF_mk d.x.1 (show 5 + i < 9 by omega) (k _ ⟨d.w.off (by decide) (by decide) _, ?_, ⟨?_, ?_, ?_⟩, fun g hg => ?_, d.ok, d.gw, d.s, ?_, d.ne⟩ (gFr.up (by decide)))
  · show gaUp _ _ _ _ = _
    rw [gaUp_ne _ _ (ne _ (by decide) (by decide))]; exact d.ru
  · rw [gaUp_self]
    rcases (show i = 0 ∨ i = 1 ∨ i = 2 ∨ i = 3 by omega) with rfl | rfl | rfl | rfl <;> rfl
  · rw [gaUp_ne _ _ (ne _ (by decide) (by decide))]; exact d.x.2.1
  · rw [gaUp_ne _ _ (ne _ (by decide) (by decide))]; exact d.x.2.2
  · obtain ⟨a0, row, a1, a2, a3, a4⟩ := d.gr g hg
    exact ⟨by rw [gaUp_ne _ _ (ne _ (by omega) (by omega))]; exact a0, row, a1, a2, by rw [gaUp_ne _ _ (ne _ (by omega) (by omega))]; exact a3, a4⟩
  · rw [gaUp_ne _ _ (d.ne _ (by decide))]; exact d.mc
abbrev okS (x : Int) : Prop := 0 ≤ x ∧ x ≤ 2
abbrev okG (x : Int) : Prop := 0 ≤ x ∧ x ≤ 1
abbrev okP (x y : Int) : Prop := (2 ≤ x ∧ x ≤ 31) ∧ 2 ≤ y ∧ y ≤ 31
abbrev bad (n : Nat) (st : GSt) : Nat × (Int → Prop) × GSt := (n, fun _ => False, st)
abbrev done (st : GSt) (r : Int) : Nat × (Int → Prop) × GSt := (0, fun x => x = r, st)
abbrev GSt.sheet (st : GSt) (w : Nat) (u : List Bool) : GSt := (pu st.S w u, st.T, pu st.C 0 (st.C 0 + 1))
abbrev GSt.turn (st : GSt) (g : Nat) (ts : List Nat) : GSt := (st.S, pu st.T g ts, pu st.C 1 (st.C 1 + 1))
abbrev GSt.refuse (st : GSt) : GSt := (st.S, st.T, pu st.C 2 (st.C 2 + 1))
theorem c_wordOf (d : gD A G h U st) {x : Int} (hx : gR x) {Q : Nat → gaH → Prop} (e : ¬ okS x → X "java/lang/IndexOutOfBoundsException" h) (k : ∀ w : Nat, w < 3 → x = (w : Int) → Q (A w) h) : w_X5_wordOf X (A 22) x h Q := by
  unfold w_X5_wordOf
  refine ⟨hx, ?_⟩
  by_cases q : x < 0
  · exact if_yes q ⟨by decide, by decide, e (by omega)⟩
  · refine if_no q (d.f0 (gAL_mk d.x.2.1 (x := 3) rfl ⟨hx, by decide, ?_⟩))
    by_cases z : x < 3
    · refine if_yes z (d.f0 ?_)
      obtain ⟨w, rfl⟩ : ∃ w : Nat, x = (w : Int) := ⟨x.toNat, by omega⟩
      refine ⟨_, A w, d.x.2.1, by omega, by omega, ?_, k w (by omega) rfl⟩
      rw [Int.toNat_natCast]
      rcases (show w = 0 ∨ w = 1 ∨ w = 2 by omega) with rfl | rfl | rfl <;> rfl
    · exact if_no z ⟨by decide, by decide, e (by omega)⟩
theorem c_growthOf (d : gD A G h U st) {x : Int} (hx : gR x) {Q : Nat → gaH → Prop} (e : ¬ okG x → X "java/lang/IndexOutOfBoundsException" h) (k : ∀ g : Nat, g < 2 → x = (g : Int) → Q (A (26 + g)) h) : w_X5_growthOf X (A 22) x h Q := by
  unfold w_X5_growthOf
  refine ⟨hx, ?_⟩
  by_cases q : x < 0
  · exact if_yes q ⟨by decide, by decide, e (by omega)⟩
  · refine if_no q (d.f1 (gAL_mk d.x.2.2 (x := 2) rfl ⟨hx, by decide, ?_⟩))
    by_cases z : x < 2
    · refine if_yes z (d.f1 ?_)
      obtain ⟨w, rfl⟩ : ∃ w : Nat, x = (w : Int) := ⟨x.toNat, by omega⟩
      refine ⟨_, A (26 + w), d.x.2.2, by omega, by omega, ?_, k w (by omega) rfl⟩
      rw [Int.toNat_natCast]
      rcases (show w = 0 ∨ w = 1 by omega) with rfl | rfl <;> rfl
    · exact if_no z ⟨by decide, by decide, e (by omega)⟩
theorem c_nI0 {Q : gaH → Prop} (e : X "java/lang/IndexOutOfBoundsException" h) : w_X5_needIndex X 0 h Q := ⟨by decide, if_yes rfl ⟨by decide, by decide, e⟩⟩
theorem c_nI1 {Q : gaH → Prop} (k : Q h) : w_X5_needIndex X 1 h Q := ⟨by decide, if_no (by decide) k⟩
theorem c_nA0 {Q : gaH → Prop} (e : X "java/lang/IllegalArgumentException" h) : w_X5_needArgument X 0 h Q := ⟨by decide, if_yes rfl ⟨by decide, by decide, e⟩⟩
theorem c_nA1 {Q : gaH → Prop} (k : Q h) : w_X5_needArgument X 1 h Q := ⟨by decide, if_no (by decide) k⟩
theorem c_nS0 {Q : gaH → Prop} (e : X "java/lang/IllegalStateException" h) : w_X5_needState X 0 h Q := ⟨by decide, if_yes rfl ⟨by decide, by decide, e⟩⟩
theorem c_nS1 {Q : gaH → Prop} (k : Q h) : w_X5_needState X 1 h Q := ⟨by decide, if_no (by decide) k⟩
theorem c_sheetDone (d : gD A G h U st) {r : Int} (k : ∀ h', gD A G h' U (st.S, st.T, pu st.C 0 (st.C 0 + 1)) → gFr A h h' → Q r h') : w_X5_sheetActDone (A 22) r h Q := d.cn (i := 0) rfl (by decide) (d.inc (i := 0) rfl (by decide) rfl k)
theorem c_growthDone (d : gD A G h U st) {r : Int} (k : ∀ h', gD A G h' U (st.S, st.T, pu st.C 1 (st.C 1 + 1)) → gFr A h h' → Q r h') : w_X5_growthActDone (A 22) r h Q := d.cn (i := 1) rfl (by decide) (d.inc (i := 1) rfl (by decide) rfl k)
theorem c_refuse (d : gD A G h U st) (k : gRes A G h E X Q (done st.refuse (-9))) : w_X5_refuse (A 22) h Q := d.cn (i := 2) rfl (by decide) (d.inc (i := 2) rfl (by decide) rfl (fun _ d' f => k.ok d' f rfl))
/-- a sheet is to have this word, and the act is done -/
theorem c_end (d : gD A G h U st) (hw : w < 3) {u : List Bool} {h1 : gaH} (w1 : gW A h1 (pu U w u)) (s1 : gSm A h h1) {r : Int} (k : gRes A G h E X Q (done (st.sheet w u) r)) : w_X5_sheetActDone (A 22) r h1 Q :=
  c_sheetDone (d.sh hw w1 s1) (fun _ d2 f => k.ok d2 ((gFr.sm s1).tr f) rfl)
theorem c_takeRule (d : gD A G h U st) {x y : Int} (hx : gR x) (hy : gR y) {Q : gaH → Prop} (e : ¬ okP x y → X "java/lang/IllegalArgumentException" h) (k : okP x y → ∀ h', gD A G h' (pu (pu U 9 (codeW x.toNat)) 10 (codeW y.toNat)) st → gSm A h h' → Q h') : w_X5_takeRule X (A 22) x y h Q := by
  have b1 : ¬ (2 ≤ x ∧ x ≤ 31) → w_X5_takeRule_J15 X Q (A 22) x y h 2 12 := fun q => by
    unfold w_X5_takeRule_J15 w_X5_takeRule_J16
    (first | refine And.intro (show gR _ from by first | assumption | omega | decide | exact b2i_R _ | exact gR_of (by omega) (by omega)) ?_ | refine And.intro (show gHas _ _ _ from by first | exact gW.has (gD.w (by assumption)) (by omega) | exact gD.has (by assumption) | exact gRu.has (gD.ru (by assumption)) | exact gGr.has (gD.gr (by assumption) _ (by omega))) ?_ | refine gCall_mk (by decide) (by decide) ?_ | refine if_yes (by first | assumption | omega | decide | exact b2i_R _ | exact gR_of (by omega) (by omega)) ?_ | refine if_no (by first | assumption | omega | decide | exact b2i_R _ | exact gR_of (by omega) (by omega)) ?_)
    exact c_nA0 (e (by omega))
  unfold w_X5_takeRule
  (first | refine And.intro (show gR _ from by first | assumption | omega | decide | exact b2i_R _ | exact gR_of (by omega) (by omega)) ?_ | refine And.intro (show gHas _ _ _ from by first | exact gW.has (gD.w (by assumption)) (by omega) | exact gD.has (by assumption) | exact gRu.has (gD.ru (by assumption)) | exact gGr.has (gD.gr (by assumption) _ (by omega))) ?_ | refine gCall_mk (by decide) (by decide) ?_ | refine if_yes (by first | assumption | omega | decide | exact b2i_R _ | exact gR_of (by omega) (by omega)) ?_ | refine if_no (by first | assumption | omega | decide | exact b2i_R _ | exact gR_of (by omega) (by omega)) ?_)
  by_cases q1 : x < 2
  · exact if_yes q1 (b1 (by omega))
  (first | refine And.intro (show gR _ from by first | assumption | omega | decide | exact b2i_R _ | exact gR_of (by omega) (by omega)) ?_ | refine And.intro (show gHas _ _ _ from by first | exact gW.has (gD.w (by assumption)) (by omega) | exact gD.has (by assumption) | exact gRu.has (gD.ru (by assumption)) | exact gGr.has (gD.gr (by assumption) _ (by omega))) ?_ | refine gCall_mk (by decide) (by decide) ?_ | refine if_yes (by first | assumption | omega | decide | exact b2i_R _ | exact gR_of (by omega) (by omega)) ?_ | refine if_no (by first | assumption | omega | decide | exact b2i_R _ | exact gR_of (by omega) (by omega)) ?_); (first | refine And.intro (show gR _ from by first | assumption | omega | decide | exact b2i_R _ | exact gR_of (by omega) (by omega)) ?_ | refine And.intro (show gHas _ _ _ from by first | exact gW.has (gD.w (by assumption)) (by omega) | exact gD.has (by assumption) | exact gRu.has (gD.ru (by assumption)) | exact gGr.has (gD.gr (by assumption) _ (by omega))) ?_ | refine gCall_mk (by decide) (by decide) ?_ | refine if_yes (by first | assumption | omega | decide | exact b2i_R _ | exact gR_of (by omega) (by omega)) ?_ | refine if_no (by first | assumption | omega | decide | exact b2i_R _ | exact gR_of (by omega) (by omega)) ?_)
  by_cases q2 : 31 < x
  · exact if_yes q2 (b1 (by omega))
  (first | refine And.intro (show gR _ from by first | assumption | omega | decide | exact b2i_R _ | exact gR_of (by omega) (by omega)) ?_ | refine And.intro (show gHas _ _ _ from by first | exact gW.has (gD.w (by assumption)) (by omega) | exact gD.has (by assumption) | exact gRu.has (gD.ru (by assumption)) | exact gGr.has (gD.gr (by assumption) _ (by omega))) ?_ | refine gCall_mk (by decide) (by decide) ?_ | refine if_yes (by first | assumption | omega | decide | exact b2i_R _ | exact gR_of (by omega) (by omega)) ?_ | refine if_no (by first | assumption | omega | decide | exact b2i_R _ | exact gR_of (by omega) (by omega)) ?_)
  unfold w_X5_takeRule_J16
  (first | refine And.intro (show gR _ from by first | assumption | omega | decide | exact b2i_R _ | exact gR_of (by omega) (by omega)) ?_ | refine And.intro (show gHas _ _ _ from by first | exact gW.has (gD.w (by assumption)) (by omega) | exact gD.has (by assumption) | exact gRu.has (gD.ru (by assumption)) | exact gGr.has (gD.gr (by assumption) _ (by omega))) ?_ | refine gCall_mk (by decide) (by decide) ?_ | refine if_yes (by first | assumption | omega | decide | exact b2i_R _ | exact gR_of (by omega) (by omega)) ?_ | refine if_no (by first | assumption | omega | decide | exact b2i_R _ | exact gR_of (by omega) (by omega)) ?_)
  refine c_nA1 ?_
  have b2 : ¬ (2 ≤ y ∧ y ≤ 31) → w_X5_takeRule_J34 X Q (A 22) x y h 1 6 := fun q => by
    unfold w_X5_takeRule_J34 w_X5_takeRule_J35
    (first | refine And.intro (show gR _ from by first | assumption | omega | decide | exact b2i_R _ | exact gR_of (by omega) (by omega)) ?_ | refine And.intro (show gHas _ _ _ from by first | exact gW.has (gD.w (by assumption)) (by omega) | exact gD.has (by assumption) | exact gRu.has (gD.ru (by assumption)) | exact gGr.has (gD.gr (by assumption) _ (by omega))) ?_ | refine gCall_mk (by decide) (by decide) ?_ | refine if_yes (by first | assumption | omega | decide | exact b2i_R _ | exact gR_of (by omega) (by omega)) ?_ | refine if_no (by first | assumption | omega | decide | exact b2i_R _ | exact gR_of (by omega) (by omega)) ?_)
    exact c_nA0 (e (by omega))
  (first | refine And.intro (show gR _ from by first | assumption | omega | decide | exact b2i_R _ | exact gR_of (by omega) (by omega)) ?_ | refine And.intro (show gHas _ _ _ from by first | exact gW.has (gD.w (by assumption)) (by omega) | exact gD.has (by assumption) | exact gRu.has (gD.ru (by assumption)) | exact gGr.has (gD.gr (by assumption) _ (by omega))) ?_ | refine gCall_mk (by decide) (by decide) ?_ | refine if_yes (by first | assumption | omega | decide | exact b2i_R _ | exact gR_of (by omega) (by omega)) ?_ | refine if_no (by first | assumption | omega | decide | exact b2i_R _ | exact gR_of (by omega) (by omega)) ?_)
  by_cases q3 : y < 2
  · exact if_yes q3 (b2 (by omega))
  (first | refine And.intro (show gR _ from by first | assumption | omega | decide | exact b2i_R _ | exact gR_of (by omega) (by omega)) ?_ | refine And.intro (show gHas _ _ _ from by first | exact gW.has (gD.w (by assumption)) (by omega) | exact gD.has (by assumption) | exact gRu.has (gD.ru (by assumption)) | exact gGr.has (gD.gr (by assumption) _ (by omega))) ?_ | refine gCall_mk (by decide) (by decide) ?_ | refine if_yes (by first | assumption | omega | decide | exact b2i_R _ | exact gR_of (by omega) (by omega)) ?_ | refine if_no (by first | assumption | omega | decide | exact b2i_R _ | exact gR_of (by omega) (by omega)) ?_); (first | refine And.intro (show gR _ from by first | assumption | omega | decide | exact b2i_R _ | exact gR_of (by omega) (by omega)) ?_ | refine And.intro (show gHas _ _ _ from by first | exact gW.has (gD.w (by assumption)) (by omega) | exact gD.has (by assumption) | exact gRu.has (gD.ru (by assumption)) | exact gGr.has (gD.gr (by assumption) _ (by omega))) ?_ | refine gCall_mk (by decide) (by decide) ?_ | refine if_yes (by first | assumption | omega | decide | exact b2i_R _ | exact gR_of (by omega) (by omega)) ?_ | refine if_no (by first | assumption | omega | decide | exact b2i_R _ | exact gR_of (by omega) (by omega)) ?_)
  by_cases q4 : 31 < y
  · exact if_yes q4 (b2 (by omega))
  (first | refine And.intro (show gR _ from by first | assumption | omega | decide | exact b2i_R _ | exact gR_of (by omega) (by omega)) ?_ | refine And.intro (show gHas _ _ _ from by first | exact gW.has (gD.w (by assumption)) (by omega) | exact gD.has (by assumption) | exact gRu.has (gD.ru (by assumption)) | exact gGr.has (gD.gr (by assumption) _ (by omega))) ?_ | refine gCall_mk (by decide) (by decide) ?_ | refine if_yes (by first | assumption | omega | decide | exact b2i_R _ | exact gR_of (by omega) (by omega)) ?_ | refine if_no (by first | assumption | omega | decide | exact b2i_R _ | exact gR_of (by omega) (by omega)) ?_)
  unfold w_X5_takeRule_J35
  (first | refine And.intro (show gR _ from by first | assumption | omega | decide | exact b2i_R _ | exact gR_of (by omega) (by omega)) ?_ | refine And.intro (show gHas _ _ _ from by first | exact gW.has (gD.w (by assumption)) (by omega) | exact gD.has (by assumption) | exact gRu.has (gD.ru (by assumption)) | exact gGr.has (gD.gr (by assumption) _ (by omega))) ?_ | refine gCall_mk (by decide) (by decide) ?_ | refine if_yes (by first | assumption | omega | decide | exact b2i_R _ | exact gR_of (by omega) (by omega)) ?_ | refine if_no (by first | assumption | omega | decide | exact b2i_R _ | exact gR_of (by omega) (by omega)) ?_)
  refine c_nA1 (d.f2 ?_)
  (first | refine And.intro (show gR _ from by first | assumption | omega | decide | exact b2i_R _ | exact gR_of (by omega) (by omega)) ?_ | refine And.intro (show gHas _ _ _ from by first | exact gW.has (gD.w (by assumption)) (by omega) | exact gD.has (by assumption) | exact gRu.has (gD.ru (by assumption)) | exact gGr.has (gD.gr (by assumption) _ (by omega))) ?_ | refine gCall_mk (by decide) (by decide) ?_ | refine if_yes (by first | assumption | omega | decide | exact b2i_R _ | exact gR_of (by omega) (by omega)) ?_ | refine if_no (by first | assumption | omega | decide | exact b2i_R _ | exact gR_of (by omega) (by omega)) ?_)
  exact s_ruleTake d.w d.ru (c := x.toNat) (d := y.toNat) (by omega) (by omega) (by omega) (by omega) (fun h' w' s' => k ⟨⟨by omega, by omega⟩, by omega, by omega⟩ h' (d.b w' s' (fun v hv => by rw [pu_ne _ _ (by omega), pu_ne _ _ (by omega)]) (fun v _ hv => by rw [pu_ne _ _ (by omega), pu_ne _ _ (by omega)])) s')
def exch (st : GSt) (w : Nat) (f t : Nat) (v : List Bool) : Nat × (Int → Prop) × GSt :=
  if (st.S w).length - (t - f) + v.length ≤ 64 then done (st.sheet w ((st.S w).take f ++ v ++ (st.S w).drop t)) (((st.S w).take f ++ v ++ (st.S w).drop t).length : Int) else done st.refuse (-9)
theorem c_exch (d : gD A G h U st) (hw : w < 3) (hv : v < 11) (hv3 : v ≠ 3) {x y : Int} {f t : Nat} (hx : x = (f : Int)) (hy : y = (t : Int)) (hft : f ≤ t) (ht : t ≤ (U w).length) (k : gRes A G h E X Q (exch st w f t (U v))) : w_X5_exchangePart (A 22) (A w) x y (A v) h Q := by
  subst hx; subst hy
  have l1 := d.w.le (show w < 11 by omega)
  have l2 := d.w.le hv
  have e0 := d.s w hw
  unfold exch at k
  rw [← e0] at k
  unfold w_X5_exchangePart
  refine d.w.many (by omega) (d.w.many hv ?_)
  (first | refine And.intro (show gR _ from by first | assumption | omega | decide | exact b2i_R _ | exact gR_of (by omega) (by omega)) ?_ | refine And.intro (show gHas _ _ _ from by first | exact gW.has (gD.w (by assumption)) (by omega) | exact gD.has (by assumption) | exact gRu.has (gD.ru (by assumption)) | exact gGr.has (gD.gr (by assumption) _ (by omega))) ?_ | refine gCall_mk (by decide) (by decide) ?_ | refine if_yes (by first | assumption | omega | decide | exact b2i_R _ | exact gR_of (by omega) (by omega)) ?_ | refine if_no (by first | assumption | omega | decide | exact b2i_R _ | exact gR_of (by omega) (by omega)) ?_)
  by_cases q : (U w).length - (t - f) + (U v).length ≤ 64
  · rw [if_pos q] at k
    refine if_yes (by omega) (d.f3 ?_)
    (first | refine And.intro (show gR _ from by first | assumption | omega | decide | exact b2i_R _ | exact gR_of (by omega) (by omega)) ?_ | refine And.intro (show gHas _ _ _ from by first | exact gW.has (gD.w (by assumption)) (by omega) | exact gD.has (by assumption) | exact gRu.has (gD.ru (by assumption)) | exact gGr.has (gD.gr (by assumption) _ (by omega))) ?_ | refine gCall_mk (by decide) (by decide) ?_ | refine if_yes (by first | assumption | omega | decide | exact b2i_R _ | exact gR_of (by omega) (by omega)) ?_ | refine if_no (by first | assumption | omega | decide | exact b2i_R _ | exact gR_of (by omega) (by omega)) ?_)
    refine v_clear d.w (by decide) (fun h1 V1 w1 s1 e1 o1 => ?_)
    have d1 := d.b w1 s1 (fun v hv => o1 _ (by omega)) (fun v h5 _ => o1 _ (by omega))
    refine d1.f3 ?_
    (first | refine And.intro (show gR _ from by first | assumption | omega | decide | exact b2i_R _ | exact gR_of (by omega) (by omega)) ?_ | refine And.intro (show gHas _ _ _ from by first | exact gW.has (gD.w (by assumption)) (by omega) | exact gD.has (by assumption) | exact gRu.has (gD.ru (by assumption)) | exact gGr.has (gD.gr (by assumption) _ (by omega))) ?_ | refine gCall_mk (by decide) (by decide) ?_ | refine if_yes (by first | assumption | omega | decide | exact b2i_R _ | exact gR_of (by omega) (by omega)) ?_ | refine if_no (by first | assumption | omega | decide | exact b2i_R _ | exact gR_of (by omega) (by omega)) ?_)
    have a1 := o1 w (by omega)
    refine v_addPart w1 (show 3 < 11 by decide) (show w < 11 by omega) (by omega) (i := 0) (t := f) rfl rfl (Nat.zero_le _) (by rw [a1]; omega) (by rw [e1]; simp; omega) (fun h2 V2 w2 s2 e2 o2 => ?_)
    rw [e1, a1] at e2
    have d2 := d1.b w2 s2 (fun v hv => o2 _ (by omega)) (fun v h5 _ => o2 _ (by omega))
    refine d2.f3 (d2.w.many hv ?_)
    have a2 : V2 v = U v := (o2 v hv3).trans (o1 v hv3)
    rw [a2]
    (first | refine And.intro (show gR _ from by first | assumption | omega | decide | exact b2i_R _ | exact gR_of (by omega) (by omega)) ?_ | refine And.intro (show gHas _ _ _ from by first | exact gW.has (gD.w (by assumption)) (by omega) | exact gD.has (by assumption) | exact gRu.has (gD.ru (by assumption)) | exact gGr.has (gD.gr (by assumption) _ (by omega))) ?_ | refine gCall_mk (by decide) (by decide) ?_ | refine if_yes (by first | assumption | omega | decide | exact b2i_R _ | exact gR_of (by omega) (by omega)) ?_ | refine if_no (by first | assumption | omega | decide | exact b2i_R _ | exact gR_of (by omega) (by omega)) ?_)
    refine v_addPart w2 (show 3 < 11 by decide) hv hv3 (i := 0) (t := (U v).length) rfl rfl (Nat.zero_le _) (by rw [a2]; omega) (by rw [e2]; simp; omega) (fun h3 V3 w3 s3 e3 o3 => ?_)
    rw [e2, a2] at e3
    have d3 := d2.b w3 s3 (fun v hv => o3 _ (by omega)) (fun v h5 _ => o3 _ (by omega))
    have a3 : V3 w = U w := (o3 w (by omega)).trans ((o2 w (by omega)).trans a1)
    refine d3.f3 (d3.w.many (show w < 11 by omega) ?_)
    rw [a3]
    (first | refine And.intro (show gR _ from by first | assumption | omega | decide | exact b2i_R _ | exact gR_of (by omega) (by omega)) ?_ | refine And.intro (show gHas _ _ _ from by first | exact gW.has (gD.w (by assumption)) (by omega) | exact gD.has (by assumption) | exact gRu.has (gD.ru (by assumption)) | exact gGr.has (gD.gr (by assumption) _ (by omega))) ?_ | refine gCall_mk (by decide) (by decide) ?_ | refine if_yes (by first | assumption | omega | decide | exact b2i_R _ | exact gR_of (by omega) (by omega)) ?_ | refine if_no (by first | assumption | omega | decide | exact b2i_R _ | exact gR_of (by omega) (by omega)) ?_)
    refine v_addPart w3 (show 3 < 11 by decide) (show w < 11 by omega) (by omega) (i := t) (t := (U w).length) rfl rfl ht (by rw [a3]; omega) (by rw [e3]; simp; omega) (fun h4 V4 w4 s4 e4 o4 => ?_)
    rw [e3, a3] at e4
    have e5 : V4 3 = (U w).take f ++ U v ++ (U w).drop t := by rw [e4]; simp [List.take_of_length_le]
    have d4 := d3.b w4 s4 (fun v hv => o4 _ (by omega)) (fun v h5 _ => o4 _ (by omega))
    refine d4.f3 ?_
    (first | refine And.intro (show gR _ from by first | assumption | omega | decide | exact b2i_R _ | exact gR_of (by omega) (by omega)) ?_ | refine And.intro (show gHas _ _ _ from by first | exact gW.has (gD.w (by assumption)) (by omega) | exact gD.has (by assumption) | exact gRu.has (gD.ru (by assumption)) | exact gGr.has (gD.gr (by assumption) _ (by omega))) ?_ | refine gCall_mk (by decide) (by decide) ?_ | refine if_yes (by first | assumption | omega | decide | exact b2i_R _ | exact gR_of (by omega) (by omega)) ?_ | refine if_no (by first | assumption | omega | decide | exact b2i_R _ | exact gR_of (by omega) (by omega)) ?_)
    refine s_take w4 (show w < 11 by omega) (show 3 < 11 by decide) (fun h5 w5 s5 => ?_)
    rw [e5] at w5
    refine w5.many (show w < 11 by omega) ?_
    rw [pu_self]
    have d5 := d4.sh hw w5 s5
    (first | refine And.intro (show gR _ from by first | assumption | omega | decide | exact b2i_R _ | exact gR_of (by omega) (by omega)) ?_ | refine And.intro (show gHas _ _ _ from by first | exact gW.has (gD.w (by assumption)) (by omega) | exact gD.has (by assumption) | exact gRu.has (gD.ru (by assumption)) | exact gGr.has (gD.gr (by assumption) _ (by omega))) ?_ | refine gCall_mk (by decide) (by decide) ?_ | refine if_yes (by first | assumption | omega | decide | exact b2i_R _ | exact gR_of (by omega) (by omega)) ?_ | refine if_no (by first | assumption | omega | decide | exact b2i_R _ | exact gR_of (by omega) (by omega)) ?_)
    exact c_end d4 hw w5 s5 (k.on ((gFr.sm s1).tr ((gFr.sm s2).tr ((gFr.sm s3).tr (gFr.sm s4)))))
  · rw [if_neg q] at k
    refine if_no (by omega) ?_
    (first | refine And.intro (show gR _ from by first | assumption | omega | decide | exact b2i_R _ | exact gR_of (by omega) (by omega)) ?_ | refine And.intro (show gHas _ _ _ from by first | exact gW.has (gD.w (by assumption)) (by omega) | exact gD.has (by assumption) | exact gRu.has (gD.ru (by assumption)) | exact gGr.has (gD.gr (by assumption) _ (by omega))) ?_ | refine gCall_mk (by decide) (by decide) ?_ | refine if_yes (by first | assumption | omega | decide | exact b2i_R _ | exact gR_of (by omega) (by omega)) ?_ | refine if_no (by first | assumption | omega | decide | exact b2i_R _ | exact gR_of (by omega) (by omega)) ?_)
    exact c_refuse d k
def settled (st : GSt) (w : Nat) (u : List Bool) : Nat × (Int → Prop) × GSt := done (st.sheet w u) (if st.S w = u then 0 else 1)
theorem c_settle (d : gD A G h U st) (hw : w < 3) (hv : v < 11) (k : gRes A G h E X Q (settled st w (U v))) : w_X5_settle (A 22) (A w) (A v) h Q := by
  have e0 := d.s w hw
  unfold settled at k
  rw [← e0] at k
  unfold w_X5_settle
  refine s_orderOf d.w (by omega) hv ?_
  have r1 := cmpL_R (U w) (U v)
  have r2 := cmpL_eq (U w) (U v)
  (first | refine And.intro (show gR _ from by first | assumption | omega | decide | exact b2i_R _ | exact gR_of (by omega) (by omega)) ?_ | refine And.intro (show gHas _ _ _ from by first | exact gW.has (gD.w (by assumption)) (by omega) | exact gD.has (by assumption) | exact gRu.has (gD.ru (by assumption)) | exact gGr.has (gD.gr (by assumption) _ (by omega))) ?_ | refine gCall_mk (by decide) (by decide) ?_ | refine if_yes (by first | assumption | omega | decide | exact b2i_R _ | exact gR_of (by omega) (by omega)) ?_ | refine if_no (by first | assumption | omega | decide | exact b2i_R _ | exact gR_of (by omega) (by omega)) ?_)
  have fin : ∀ t : Int, t = (if U w = U v then 1 else 0) → w_X5_settle_J13 Q (A 22) (A w) (A v) t h := by
    intro t ht
    unfold w_X5_settle_J13
    (first | refine And.intro (show gR _ from by first | assumption | omega | decide | exact b2i_R _ | exact gR_of (by omega) (by omega)) ?_ | refine And.intro (show gHas _ _ _ from by first | exact gW.has (gD.w (by assumption)) (by omega) | exact gD.has (by assumption) | exact gRu.has (gD.ru (by assumption)) | exact gGr.has (gD.gr (by assumption) _ (by omega))) ?_ | refine gCall_mk (by decide) (by decide) ?_ | refine if_yes (by first | assumption | omega | decide | exact b2i_R _ | exact gR_of (by omega) (by omega)) ?_ | refine if_no (by first | assumption | omega | decide | exact b2i_R _ | exact gR_of (by omega) (by omega)) ?_)
    refine s_take d.w (show w < 11 by omega) hv (fun h1 w1 s1 => ?_)
    have d1 := d.sh hw w1 s1
    by_cases q : U w = U v
    · rw [if_pos q] at ht k
      subst ht
      (repeat (first | refine And.intro (show gR _ from by first | assumption | omega | decide | exact b2i_R _ | exact gR_of (by omega) (by omega)) ?_ | refine And.intro (show gHas _ _ _ from by first | exact gW.has (gD.w (by assumption)) (by omega) | exact gD.has (by assumption) | exact gRu.has (gD.ru (by assumption)) | exact gGr.has (gD.gr (by assumption) _ (by omega))) ?_ | refine gCall_mk (by decide) (by decide) ?_ | refine if_yes (by first | assumption | omega | decide | exact b2i_R _ | exact gR_of (by omega) (by omega)) ?_ | refine if_no (by first | assumption | omega | decide | exact b2i_R _ | exact gR_of (by omega) (by omega)) ?_))
      exact c_end d hw w1 s1 k
    · rw [if_neg q] at ht k
      subst ht
      (repeat (first | refine And.intro (show gR _ from by first | assumption | omega | decide | exact b2i_R _ | exact gR_of (by omega) (by omega)) ?_ | refine And.intro (show gHas _ _ _ from by first | exact gW.has (gD.w (by assumption)) (by omega) | exact gD.has (by assumption) | exact gRu.has (gD.ru (by assumption)) | exact gGr.has (gD.gr (by assumption) _ (by omega))) ?_ | refine gCall_mk (by decide) (by decide) ?_ | refine if_yes (by first | assumption | omega | decide | exact b2i_R _ | exact gR_of (by omega) (by omega)) ?_ | refine if_no (by first | assumption | omega | decide | exact b2i_R _ | exact gR_of (by omega) (by omega)) ?_))
      exact c_end d hw w1 s1 k
  by_cases q : U w = U v
  · exact if_yes (r2.mpr q) (fin 1 (by rw [if_pos q]))
  · exact if_no (fun z => q (r2.mp z)) (fin 0 (by rw [if_neg q]))
end GD
