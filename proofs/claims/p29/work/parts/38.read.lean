/-! Twos; and what is read from words, as far as its bounds. -/
def twL : Nat → List Bool
  | 0 => [false]
  | s + 1 => twL s ++ (twL s).map (fun b => !b)
theorem twL_len : ∀ s, s ≤ 6 → (twL s).length = 2 ^ s := by decide +kernel
theorem twL_img : ∀ s, s < 6 → img (codeW 5) (codeW 6) (twL s) = twL (s + 1) := by decide +kernel
theorem twL_take : ∀ s, s ≤ 6 → twL s = (twL 6).take (2 ^ s) := by decide +kernel
def bcE (a0 : Int) : Int := gAnd (((gAnd (((gAnd (a0 - (gAnd (gUshr a0 1) 1431655765)) 858993459) + (gAnd (gUshr (a0 - (gAnd (gUshr a0 1) 1431655765)) 2) 858993459)) + (gUshr ((gAnd (a0 - (gAnd (gUshr a0 1) 1431655765)) 858993459) + (gAnd (gUshr (a0 - (gAnd (gUshr a0 1) 1431655765)) 2) 858993459)) 4)) 252645135) + (gUshr (gAnd (((gAnd (a0 - (gAnd (gUshr a0 1) 1431655765)) 858993459) + (gAnd (gUshr (a0 - (gAnd (gUshr a0 1) 1431655765)) 2) 858993459)) + (gUshr ((gAnd (a0 - (gAnd (gUshr a0 1) 1431655765)) 858993459) + (gAnd (gUshr (a0 - (gAnd (gUshr a0 1) 1431655765)) 2) 858993459)) 4)) 252645135) 8)) + (gUshr ((gAnd (((gAnd (a0 - (gAnd (gUshr a0 1) 1431655765)) 858993459) + (gAnd (gUshr (a0 - (gAnd (gUshr a0 1) 1431655765)) 2) 858993459)) + (gUshr ((gAnd (a0 - (gAnd (gUshr a0 1) 1431655765)) 858993459) + (gAnd (gUshr (a0 - (gAnd (gUshr a0 1) 1431655765)) 2) 858993459)) 4)) 252645135) + (gUshr (gAnd (((gAnd (a0 - (gAnd (gUshr a0 1) 1431655765)) 858993459) + (gAnd (gUshr (a0 - (gAnd (gUshr a0 1) 1431655765)) 2) 858993459)) + (gUshr ((gAnd (a0 - (gAnd (gUshr a0 1) 1431655765)) 858993459) + (gAnd (gUshr (a0 - (gAnd (gUshr a0 1) 1431655765)) 2) 858993459)) 4)) 252645135) 8)) 16)) 63
theorem s_bitCount {x : Int} {h : gaH} {Q : Int → gaH → Prop} (k : Q (bcE x) h) : w_J6_bitCount_0f7a4 x h Q := k
theorem bcE_par : ∀ i : Nat, i < 64 → gAnd (bcE (i : Int)) 1 = b2i ((twL 6).getD i false) := by decide +kernel
theorem getD_take {u : List Bool} {n i : Nat} (hi : i < n) : (u.take n).getD i false = u.getD i false := by rw [List.getD_eq_getElem?_getD, List.getElem?_take_of_lt hi, ← List.getD_eq_getElem?_getD]
section PT
variable {A : Nat → Nat} {h : gaH} {U : Nat → List Bool} {w v g : Nat} {G : gaG}
theorem s_layByRule_L (hw : w < 9) (hw3 : w ≠ 3) {s : Nat} (hs : s ≤ 6) {Q : gaH → Prop} : ∀ (n i : Nat) (h : gaH) (U : Nat → List Bool), gW A h U → gRu A h → U 9 = codeW 5 → U 10 = codeW 6 → i ≤ s → s - i < n → U w = twL i →
    (∀ h' V, gW A h' V → (∀ x, x ≠ w → x ≠ 3 → x ≠ 9 → x ≠ 10 → V x = U x) → V w = twL s → gSm A h h' → Q h') → w_X3_layByRule_L19 Q n (s : Int) (A w) (A 3) (A 25) (i : Int) h
  | 0, i, h, U, _, _, _, _, _, h1, _, _ => absurd h1 (Nat.not_lt_zero _)
  | n + 1, i, h, U, gw, ru, u9, u10, hi, h1, hu, k => by
    have hA := gw.inj
    unfold w_X3_layByRule_L19
    refine ⟨gR_of (by omega) (by omega), gR_of (by omega) (by omega), ?_⟩
    by_cases q : i = s
    · exact if_yes (by omega) (k h U gw (fun _ _ _ _ _ => rfl) (by rw [hu, q]) gSm.rf)
    · have hi2 : img (U 9) (U 10) (U w) = twL (i + 1) := by rw [u9, u10, hu, twL_img i (by omega)]
      have hl : (twL (i + 1)).length ≤ 64 := by
        rw [twL_len (i + 1) (by omega)]
        exact Nat.pow_le_pow_right (by decide) (show i + 1 ≤ 6 by omega)
      refine if_no (by omega) ⟨ru.has, s_layImage gw ru (show w < 11 by omega) (v := 3) (by decide) (fun q => hw3 q.symm) (by rw [hi2]; exact hl) (fun h2 w2 s2 => ⟨w2.has (show w < 11 by omega), s_take w2 (show w < 11 by omega) (v := 3) (by decide) (fun h3 w3 s3 => ?_)⟩)⟩
      rw [hi2] at w2 w3
      rw [show (i : Int) + 1 = ((i + 1 : Nat) : Int) by omega]
      refine s_layByRule_L hw hw3 hs n (i + 1) h3 _ w3 (ru.on hA (s2.tr s3)) (by rw [pu_ne _ _ (by omega), pu_ne _ _ (by decide)]; exact u9) (by rw [pu_ne _ _ (by omega), pu_ne _ _ (by decide)]; exact u10) (by omega) (by omega) (by rw [pu_self, pu_self]) (fun h' V wV hV e s' => k h' V wV (fun x x1 x2 x3 x4 => by rw [hV x x1 x2 x3 x4, pu_ne _ _ x1, pu_ne _ _ x2]) e ((s2.tr s3).tr s'))
theorem s_layByRule (hw : w < 9) (hw3 : w ≠ 3) (gw : gW A h U) (ru : gRu A h) {x : Int} {s : Nat} (hx : x = (s : Int)) (hs : s ≤ 6) {Q : gaH → Prop}
    (k : ∀ h' V, gW A h' V → (∀ x, x ≠ w → x ≠ 3 → x ≠ 9 → x ≠ 10 → V x = U x) → V w = twL s → gSm A h h' → Q h') : w_X3_layByRule x (A w) (A 3) (A 25) h Q := by
  subst hx
  have hA := gw.inj
  unfold w_X3_layByRule
  refine ⟨ru.has, s_ruleTake gw ru (c := 5) (d := 6) rfl rfl (by decide) (by decide) (fun h1 w1 s1 => ⟨w1.has (show w < 11 by omega), s_clear w1 (show w < 11 by omega) (fun h2 w2 s2 => ⟨w2.has (show w < 11 by omega), s_add w2 (show w < 11 by omega) (by rw [pu_self]; decide) (b := false) rfl (fun h3 w3 s3 => ⟨7, ?_⟩)⟩)⟩)⟩
  have s13 := s1.tr (s2.tr s3)
  refine s_layByRule_L hw hw3 hs 7 0 h3 _ w3 (ru.on hA s13) (by rw [pu_ne _ _ (by omega), pu_ne _ _ (by omega), pu_ne _ _ (by decide), pu_self]) (by rw [pu_ne _ _ (by omega), pu_ne _ _ (by omega), pu_self]) (Nat.zero_le _) (by omega) (by rw [pu_self, pu_self]; rfl) (fun h' V wV hV e s' => k h' V wV (fun x x1 x2 x3 x4 => by rw [hV x x1 x2 x3 x4, pu_ne _ _ x1, pu_ne _ _ x1, pu_ne _ _ x4, pu_ne _ _ x3]) e (s13.tr s'))
theorem s_layByCopies_L2 (hw : w < 11) {Q : gaH → Prop} {st : Int} {c : Int} {u : List Bool} (hu2 : u.length ≤ 32) {K : Int → Nat → Int → gaH → Prop} : ∀ (n i : Nat) (h : gaH) (U : Nat → List Bool), gW A h U → i ≤ u.length → u.length - i < n → U w = u ++ (u.take i).map (fun b => !b) →
    (∀ h', gW A h' (pu U w (u ++ u.map (fun b => !b))) → gSm A h h' → K st (A w) (c + 1) h') → w_X3_layByCopies_L24 Q K n st (A w) c (u.length : Int) (i : Int) h
  | 0, i, h, U, _, _, h1, _, _ => absurd h1 (Nat.not_lt_zero _)
  | n + 1, i, h, U, gw, hi, h1, hu, k => by
    have hl : (U w).length = u.length + i := by rw [hu]; simp; omega
    unfold w_X3_layByCopies_L24
    refine ⟨gR_of (by omega) (by omega), gR_of (by omega) (by omega), ?_⟩
    by_cases q : i = u.length
    · refine if_yes (by omega) (k h (gw.eq (fun x _ => ?_)) gSm.rf)
      by_cases e : x = w
      · subst e; rw [pu_self, hu, q, List.take_length]
      · exact pu_ne _ _ e
    · refine if_no (by omega) ⟨gw.has hw, s_isUp gw hw rfl (by omega) ⟨b2i_R _, ?_⟩⟩
      have e1 : (U w).getD i false = u.getD i false := by rw [hu, List.getD_eq_getElem?_getD, List.getElem?_append_left (by omega), ← List.getD_eq_getElem?_getD]
      rw [e1]
      have fin : ∀ b : Bool, b = !(u.getD i false) → w_X3_layByCopies_J45 Q K (w_X3_layByCopies_L24 Q K n) st (A w) c (u.length : Int) (i : Int) (A w) (b2i b) h := by
        intro b hb
        unfold w_X3_layByCopies_J45
        refine ⟨gw.has hw, s_add gw hw (by omega) rfl (fun h1 w1 s1 => ?_)⟩
        rw [show (i : Int) + 1 = ((i + 1 : Nat) : Int) by omega]
        refine s_layByCopies_L2 hw hu2 n (i + 1) h1 _ w1 (by omega) (by omega) ?_ (fun h' w' s' => k h' (w'.eq (fun x _ => ?_)) (s1.tr s'))
        · rw [pu_self, hu, List.take_succ, getD_lt (u := u) (i := i) (by omega), hb]
          simp
        · by_cases e : x = w
          · subst e; rw [pu_self, pu_self]
          · rw [pu_ne _ _ e, pu_ne _ _ e, pu_ne _ _ e]
      cases hz : u.getD i false
      · exact if_yes rfl (fin true (by rw [hz]; rfl))
      · exact if_no (by decide) (fin false (by rw [hz]; rfl))
theorem s_layByCopies_L1 (hw : w < 11) {s : Nat} (hs : s ≤ 6) {Q : gaH → Prop} : ∀ (n i : Nat) (h : gaH) (U : Nat → List Bool), gW A h U → i ≤ s → s - i < n → U w = twL i → (∀ h', gW A h' (pu U w (twL s)) → gSm A h h' → Q h') → w_X3_layByCopies_L11 Q n (s : Int) (A w) (i : Int) h
  | 0, i, h, U, _, _, h1, _, _ => absurd h1 (Nat.not_lt_zero _)
  | n + 1, i, h, U, gw, hi, h1, hu, k => by
    unfold w_X3_layByCopies_L11
    refine ⟨gR_of (by omega) (by omega), gR_of (by omega) (by omega), ?_⟩
    by_cases q : i = s
    · refine if_yes (by omega) (k h (gw.eq (fun x _ => ?_)) gSm.rf)
      by_cases e : x = w
      · subst e; rw [pu_self, hu, q]
      · exact pu_ne _ _ e
    · have hl : (twL i).length ≤ 32 := by
        rw [twL_len i (by omega)]
        exact Nat.pow_le_pow_right (by decide) (show i ≤ 5 by omega)
      refine if_no (by omega) (gw.many hw ⟨33, ?_⟩)
      rw [hu]
      refine s_layByCopies_L2 hw hl 33 0 h U gw (Nat.zero_le _) (by omega) (by rw [hu]; simp) (fun h1 w1 s1 => ?_)
      rw [show (i : Int) + 1 = ((i + 1 : Nat) : Int) by omega]
      refine s_layByCopies_L1 hw hs n (i + 1) h1 _ w1 (by omega) (by omega) (by rw [pu_self]; rfl) (fun h' w' s' => k h' (w'.eq (fun x _ => ?_)) (s1.tr s'))
      by_cases e : x = w
      · subst e; rw [pu_self, pu_self]
      · rw [pu_ne _ _ e, pu_ne _ _ e, pu_ne _ _ e]
theorem s_layByCopies (hw : w < 11) (gw : gW A h U) {x : Int} {s : Nat} (hx : x = (s : Int)) (hs : s ≤ 6) {Q : gaH → Prop} (k : ∀ h', gW A h' (pu U w (twL s)) → gSm A h h' → Q h') : w_X3_layByCopies x (A w) h Q := by
  subst hx
  unfold w_X3_layByCopies
  refine ⟨gw.has hw, s_clear gw hw (fun h2 w2 s2 => ⟨w2.has hw, s_add w2 hw (by rw [pu_self]; decide) (b := false) rfl (fun h3 w3 s3 => ⟨7, ?_⟩)⟩)⟩
  refine s_layByCopies_L1 hw hs 7 0 h3 _ w3 (Nat.zero_le _) (by omega) (by rw [pu_self, pu_self]; rfl) (fun h' w' s' => k h' (w'.eq (fun x _ => ?_)) ((s2.tr s3).tr s'))
  by_cases e : x = w
  · subst e; rw [pu_self, pu_self]
  · rw [pu_ne _ _ e, pu_ne _ _ e, pu_ne _ _ e, pu_ne _ _ e]
theorem s_signBySign_L (hw : w < 11) {s : Nat} (hs : s ≤ 6) {Q : gaH → Prop} : ∀ (n i : Nat) (h : gaH) (U : Nat → List Bool), gW A h U → i ≤ 2 ^ s → 2 ^ s - i < n → U w = (twL 6).take i → (∀ h', gW A h' (pu U w (twL s)) → gSm A h h' → Q h') → w_X3_laySignBySign_L6 Q n (s : Int) (A w) (i : Int) h
  | 0, i, h, U, _, _, h1, _, _ => absurd h1 (Nat.not_lt_zero _)
  | n + 1, i, h, U, gw, hi, h1, hu, k => by
    have hp : 2 ^ s ≤ 64 := Nat.pow_le_pow_right (by decide) hs
    have hsh : gShl 1 (s : Int) = ((2 ^ s : Nat) : Int) := by
      have := gShl_nat (n := 1) (d := s) (by omega) (by omega)
      rw [Nat.one_mul] at this
      exact this
    unfold w_X3_laySignBySign_L6
    rw [hsh]
    refine ⟨gR_of (by omega) (by omega), gR_of (by omega) (by omega), ?_⟩
    by_cases q : i = 2 ^ s
    · refine if_yes (by omega) (k h (gw.eq (fun x _ => ?_)) gSm.rf)
      by_cases e : x = w
      · subst e; rw [pu_self, hu, q, ← twL_take s hs]
      · exact pu_ne _ _ e
    · refine if_no (by omega) (s_bitCount ?_)
      rw [bcE_par i (by omega)]
      have hl : (U w).length = i := by rw [hu, List.length_take, show (twL 6).length = 64 from rfl]; omega
      have fin : ∀ b : Bool, b = (twL 6).getD i false → w_X3_laySignBySign_J29 Q (w_X3_laySignBySign_L6 Q n) (s : Int) (A w) (i : Int) (A w) (b2i b) h := by
        intro b hb
        unfold w_X3_laySignBySign_J29
        refine ⟨gw.has hw, s_add gw hw (by omega) rfl (fun h1 w1 s1 => ?_)⟩
        rw [show (i : Int) + 1 = ((i + 1 : Nat) : Int) by omega]
        refine s_signBySign_L hw hs n (i + 1) h1 _ w1 (by omega) (by omega) ?_ (fun h' w' s' => k h' (w'.eq (fun x _ => ?_)) (s1.tr s'))
        · rw [pu_self, hu, List.take_succ, getD_lt (u := twL 6) (i := i) (by show i < 64; omega), hb]
          rfl
        · by_cases e : x = w
          · subst e; rw [pu_self, pu_self]
          · rw [pu_ne _ _ e, pu_ne _ _ e, pu_ne _ _ e]
      refine ⟨b2i_R _, ?_⟩
      cases hz : (twL 6).getD i false
      · exact if_no (by decide) (fin false hz.symm)
      · exact if_yes rfl (fin true hz.symm)
theorem s_signBySign (hw : w < 11) (gw : gW A h U) {x : Int} {s : Nat} (hx : x = (s : Int)) (hs : s ≤ 6) {Q : gaH → Prop} (k : ∀ h', gW A h' (pu U w (twL s)) → gSm A h h' → Q h') : w_X3_laySignBySign x (A w) h Q := by
  subst hx
  unfold w_X3_laySignBySign
  refine ⟨gw.has hw, s_clear gw hw (fun h2 w2 s2 => ⟨65, ?_⟩)⟩
  have hp : 2 ^ s ≤ 64 := Nat.pow_le_pow_right (by decide) hs
  refine s_signBySign_L hw hs 65 0 h2 _ w2 (Nat.zero_le _) (by omega) (by rw [pu_self]; rfl) (fun h' w' s' => k h' (w'.eq (fun x _ => ?_)) (s2.tr s'))
  by_cases e : x = w
  · subst e; rw [pu_self, pu_self]
  · rw [pu_ne _ _ e, pu_ne _ _ e, pu_ne _ _ e]
end PT
