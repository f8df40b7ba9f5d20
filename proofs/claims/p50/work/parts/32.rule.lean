/-! More of words: parts, turned words, words of codes; joined words; rules. -/
section PR
variable {A : Nat → Nat} {h : gaH} {U : Nat → List Bool} {w v : Nat}
theorem gW.inj (g : gW A h U) : gInj A := by obtain ⟨R, N, g, -⟩ := g; exact g.1
theorem getD_lt {u : List Bool} {i : Nat} (hi : i < u.length) : u[i]? = some (u.getD i false) := by
  rw [List.getD_eq_getElem?_getD, List.getElem?_eq_getElem hi]; rfl
theorem take_one {u : List Bool} {i : Nat} (hi : i < u.length) : u.drop i = u.getD i false :: u.drop (i + 1) := by
  rw [List.drop_eq_getElem_cons hi, List.getD_eq_getElem?_getD, List.getElem?_eq_getElem hi]; rfl
theorem s_addPart_L (hw : w < 11) (hv : v < 11) (hne : v ≠ w) {t : Nat} {Q : gaH → Prop} : ∀ (n i : Nat) (h : gaH) (U : Nat → List Bool), gW A h U → i ≤ t → t ≤ (U v).length → t - i < n → (U w).length + (t - i) ≤ 64 →
    (∀ h', gW A h' (pu U w (U w ++ ((U v).drop i).take (t - i))) → gSm A h h' → Q h') → w_X4_addPart_L3 Q n (A w) (A v) (t : Int) (i : Int) h
  | 0, i, h, U, _, _, _, h1, _, _ => absurd h1 (Nat.not_lt_zero _)
  | n + 1, i, h, U, g, hi, ht, h1, hl, k => by
    have hle := g.le hv
    unfold w_X4_addPart_L3
    refine ⟨gR_of (by omega) (by omega), gR_of (by omega) (by omega), ?_⟩
    by_cases q : i = t
    · subst q
      refine if_yes (Int.le_refl _) (k h ?_ gSm.rf)
      refine g.eq (fun x _ => ?_)
      by_cases e : x = w
      · rw [e, pu_self, Nat.sub_self, List.take_zero, List.append_nil]
      · exact pu_ne _ _ e
    · refine if_no (by omega) ⟨g.has hv, s_isUp g hv rfl (by omega) ⟨g.has hw, s_add g hw (by omega) rfl (fun h' g' s => ?_)⟩⟩
      refine s_addPart_L hw hv hne n (i + 1) h' _ g' (by omega) (by rw [pu_ne _ _ hne]; exact ht) (by omega) (by rw [pu_self, List.length_append]; simp only [List.length_cons, List.length_nil]; omega) (fun h2 g2 s2 => k h2 (g2.eq (fun x _ => ?_)) (s.tr s2))
      by_cases e : x = w
      · subst e
        rw [pu_self, pu_self, pu_self, pu_ne _ _ hne, take_one (u := U v) (i := i) (by omega), show t - i = (t - (i + 1)) + 1 by omega, List.take_succ_cons, List.append_assoc]
        rfl
      · rw [pu_ne _ _ e, pu_ne _ _ e, pu_ne _ _ e]
theorem s_addPart (g : gW A h U) (hw : w < 11) (hv : v < 11) (hne : v ≠ w) {x y : Int} {i t : Nat} (hx : x = (i : Int)) (hy : y = (t : Int)) (hi : i ≤ t) (ht : t ≤ (U v).length) (hl : (U w).length + (t - i) ≤ 64) {Q : gaH → Prop}
    (k : ∀ h', gW A h' (pu U w (U w ++ ((U v).drop i).take (t - i))) → gSm A h h' → Q h') : w_X4_addPart (A w) (A v) x y h Q := by
  subst hx; subst hy
  exact ⟨t - i + 1, s_addPart_L hw hv hne _ i h U g hi ht (by omega) hl k⟩
theorem s_takeTurned_L (hw : w < 11) (hv : v < 11) (hne : v ≠ w) {Q : gaH → Prop} : ∀ (n i : Nat) (h : gaH) (U : Nat → List Bool), gW A h U → i ≤ (U v).length → i < n → (U w).length + i ≤ 64 →
    (∀ h', gW A h' (pu U w (U w ++ ((U v).take i).reverse)) → gSm A h h' → Q h') → w_X4_takeTurned_L11 Q n (A w) (A v) ((i : Int) - 1) h
  | 0, i, h, U, _, _, h1, _, _ => absurd h1 (Nat.not_lt_zero _)
  | n + 1, i, h, U, g, hi, h1, hl, k => by
    have hle := g.le hv
    unfold w_X4_takeTurned_L11
    refine ⟨gR_of (by omega) (by omega), ?_⟩
    cases i with
    | zero =>
      refine if_yes (by omega) (k h ?_ gSm.rf)
      refine g.eq (fun x _ => ?_)
      by_cases e : x = w
      · rw [e, pu_self, List.take_zero, List.reverse_nil, List.append_nil]
      · exact pu_ne _ _ e
    | succ i =>
      refine if_no (by omega) ⟨g.has hv, s_isUp (i := i) g hv (by omega) (by omega) ⟨g.has hw, s_add g hw (by omega) rfl (fun h' g' s => ?_)⟩⟩
      rw [show ((i + 1 : Nat) : Int) - 1 + -1 = (i : Int) - 1 by omega]
      refine s_takeTurned_L hw hv hne n i h' _ g' (by rw [pu_ne _ _ hne]; omega) (by omega) (by rw [pu_self, List.length_append]; simp only [List.length_cons, List.length_nil]; omega) (fun h2 g2 s2 => k h2 (g2.eq (fun x _ => ?_)) (s.tr s2))
      by_cases e : x = w
      · subst e
        rw [pu_self, pu_self, pu_self, pu_ne _ _ hne, List.take_succ, getD_lt (u := U v) (i := i) (by omega)]
        simp
      · rw [pu_ne _ _ e, pu_ne _ _ e, pu_ne _ _ e]
theorem s_takeTurned (g : gW A h U) (hw : w < 11) (hv : v < 11) (hne : v ≠ w) {Q : gaH → Prop} (k : ∀ h', gW A h' (pu U w (U v).reverse) → gSm A h h' → Q h') : w_X4_takeTurned (A w) (A v) h Q := by
  unfold w_X4_takeTurned
  refine ⟨g.has hw, s_clear g hw (fun h' g' s => ?_)⟩
  refine g'.many hv ⟨65, ?_⟩
  have hle := g.le hv
  have e0 : pu U w [] v = U v := pu_ne _ _ hne
  refine s_takeTurned_L hw hv hne 65 _ h' _ g' (Nat.le_refl _) (by rw [e0]; omega) (by rw [pu_self, e0]; simpa using hle) (fun h2 g2 s2 => k h2 (g2.eq (fun x _ => ?_)) (s.tr s2))
  by_cases e : x = w
  · subst e; rw [pu_self, pu_self, pu_self, e0, List.take_length]; rfl
  · rw [pu_ne _ _ e, pu_ne _ _ e, pu_ne _ _ e]
/-- the word of a code -/
def codeL : Nat → Nat → List Bool
  | 0, _ => []
  | f + 1, n => if n ≤ 1 then [] else codeL f (n / 2) ++ [decide (n % 2 = 1)]
theorem codeL_fuel : ∀ (f g n : Nat), n < 2 ^ f → n < 2 ^ g → codeL f n = codeL g n
  | 0, g, n, h1, h2 => by
    have : n = 0 := by simpa using h1
    subst this
    cases g <;> simp [codeL]
  | f + 1, 0, n, h1, h2 => by
    have : n = 0 := by simpa using h2
    subst this
    simp [codeL]
  | f + 1, g + 1, n, h1, h2 => by
    unfold codeL
    rw [codeL_fuel f g (n / 2) (by rw [Nat.pow_succ] at h1; omega) (by rw [Nat.pow_succ] at h2; omega)]
/-- the word of a code of at most 16 digits -/
abbrev codeW (n : Nat) : List Bool := codeL 16 n
theorem codeW_step {n : Nat} (hn : n < 65536) : codeW n = if n ≤ 1 then [] else codeW (n / 2) ++ [decide (n % 2 = 1)] := by
  show codeL 16 n = _
  rw [codeL, codeL_fuel 15 16 (n / 2) (by omega) (by omega)]
theorem codeL_len : ∀ (f n : Nat), (codeL f n).length ≤ f
  | 0, _ => Nat.zero_le _
  | f + 1, n => by
    unfold codeL
    split
    · simp
    · have := codeL_len f (n / 2)
      simp; omega
theorem s_takeCode_L (hw : w < 11) {c : Nat} (hc : c < 65536) {Q : gaH → Prop} : ∀ (n d : Nat) (h : gaH) (U : Nat → List Bool) (f : Int), gW A h U → d ≤ 16 → d < n → f = b2i (decide (1 ≤ c / 2 ^ d)) → U w = codeW (c / 2 ^ d) →
    (∀ h', gW A h' (pu U w (codeW c)) → gSm A h h' → Q h') → w_X4_takeCode_L9 Q n (A w) (c : Int) f ((d : Int) - 1) h
  | 0, d, h, U, f, _, _, h1, _, _, _ => absurd h1 (Nat.not_lt_zero _)
  | n + 1, d, h, U, f, g, hd, h1, hf, hu, k => by
    unfold w_X4_takeCode_L9
    refine ⟨gR_of (by omega) (by omega), ?_⟩
    cases d with
    | zero =>
      refine if_yes (by omega) (k h ?_ gSm.rf)
      refine g.eq (fun x _ => ?_)
      by_cases e : x = w
      · rw [e, pu_self, hu, Nat.pow_zero, Nat.div_one]
      · exact pu_ne _ _ e
    | succ d =>
      have e1 : ((d + 1 : Nat) : Int) - 1 = (d : Int) := by omega
      have hs : gShr (c : Int) (((d + 1 : Nat) : Int) - 1) = ((c / 2 ^ d : Nat) : Int) := by rw [e1]; exact gShr_nat (by omega) (by omega)
      have hle : c / 2 ^ d ≤ c := Nat.div_le_self _ _
      have ha : gAnd (gShr (c : Int) (((d + 1 : Nat) : Int) - 1)) 1 = ((c / 2 ^ d % 2 : Nat) : Int) := by rw [hs]; exact gAnd1_nat (by omega)
      have hh : c / 2 ^ d / 2 = c / 2 ^ (d + 1) := by rw [Nat.div_div_eq_div_mul, Nat.pow_succ]
      have hst := codeW_step (n := c / 2 ^ d) (by omega)
      rw [hh] at hst
      have hlen : (U w).length ≤ 16 := by rw [hu]; exact codeL_len 16 _
      -- what goes on behind the sign
      have next : ∀ (h' : gaH) (V : Nat → List Bool) (f' : Int), gW A h' V → gSm A h h' → (∀ x, x ≠ w → V x = U x) → f' = b2i (decide (1 ≤ c / 2 ^ d)) → V w = codeW (c / 2 ^ d) → w_X4_takeCode_L9 Q n (A w) (c : Int) f' (((d + 1 : Nat) : Int) - 1 + -1) h' := by
        intro h' V f' g' s hV hf' hw'
        rw [e1, show (d : Int) + -1 = (d : Int) - 1 by omega]
        refine s_takeCode_L hw hc n d h' V f' g' (by omega) (by omega) hf' hw' (fun h2 g2 s2 => k h2 (g2.eq (fun x _ => ?_)) (s.tr s2))
        by_cases e : x = w
        · rw [e, pu_self, pu_self]
        · rw [pu_ne _ _ e, pu_ne _ _ e, hV x e]
      have bit : ∀ t : Int, t = b2i (decide (c / 2 ^ d % 2 = 1)) → w_X4_takeCode_J27 Q (w_X4_takeCode_L9 Q n) (A w) (c : Int) f (((d + 1 : Nat) : Int) - 1) t h := by
        intro t ht
        unfold w_X4_takeCode_J27
        rw [hf]
        refine ⟨b2i_R _, ?_⟩
        by_cases q : 1 ≤ c / 2 ^ (d + 1)
        · have q2 : 1 ≤ c / 2 ^ d := by omega
          rw [decide_eq_true q]
          refine if_no (by decide) ⟨g.has hw, s_add g hw (by omega) ht (fun h' g' s => ?_)⟩
          unfold w_X4_takeCode_J39
          refine ⟨gR_of (by decide) (by decide), if_no (by decide) ?_⟩
          unfold w_X4_takeCode_J48
          refine next h' _ 1 g' s (fun x hx => pu_ne _ _ hx) (by rw [decide_eq_true q2]; rfl) ?_
          rw [pu_self, hst, if_neg (by omega), hu]
        · have q0 : c / 2 ^ (d + 1) = 0 := Nat.lt_one_iff.mp (Nat.not_le.mp q)
          have q1 : c / 2 ^ d ≤ 1 := by omega
          rw [decide_eq_false q]
          refine if_yes rfl ?_
          unfold w_X4_takeCode_J39
          refine ⟨gR_of (by decide) (by decide), if_yes rfl ?_⟩
          have hu0 : U w = codeW (c / 2 ^ d) := by
            rw [hst, if_pos q1, hu, q0]
            rfl
          rw [ht]
          refine ⟨b2i_R _, ?_⟩
          by_cases z : c / 2 ^ d % 2 = 1
          · rw [decide_eq_true z]
            refine if_no (by decide) ?_
            unfold w_X4_takeCode_J48
            exact next h U 1 g gSm.rf (fun _ _ => rfl) (by rw [decide_eq_true (by omega)]; rfl) hu0
          · rw [decide_eq_false z]
            refine if_yes rfl ?_
            exact next h U 0 g gSm.rf (fun _ _ => rfl) (by rw [decide_eq_false (by omega)]; rfl) hu0
      refine if_no (by omega) ?_
      rw [ha]
      refine ⟨gR_of (by omega) (by omega), ?_⟩
      by_cases z : c / 2 ^ d % 2 = 1
      · exact if_yes (by omega) (bit 1 (by rw [decide_eq_true z]; rfl))
      · exact if_no (by omega) (bit 0 (by rw [decide_eq_false z]; rfl))
theorem s_takeCode (g : gW A h U) (hw : w < 11) {x : Int} {c : Nat} (hx : x = (c : Int)) (hc : c < 65536) {Q : gaH → Prop} (k : ∀ h', gW A h' (pu U w (codeW c)) → gSm A h h' → Q h') : w_X4_takeCode (A w) x h Q := by
  subst hx
  unfold w_X4_takeCode
  refine ⟨g.has hw, s_clear g hw (fun h' g' s => ⟨17, ?_⟩)⟩
  have e : c / 2 ^ 16 = 0 := Nat.div_eq_of_lt (by omega)
  refine s_takeCode_L hw hc 17 16 h' _ 0 g' (Nat.le_refl _) (by decide) (by rw [e]; rfl) (by rw [pu_self, e]; rfl) (fun h2 g2 s2 => k h2 (g2.eq (fun x _ => ?_)) (s.tr s2))
  by_cases q : x = w
  · subst q; rw [pu_self, pu_self]
  · rw [pu_ne _ _ q, pu_ne _ _ q, pu_ne _ _ q]
end PR
