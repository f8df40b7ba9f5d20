/-! Rules: how many b's, parts, joined words, images. -/
def ones : List Bool → Nat
  | [] => 0
  | b :: t => (if b = true then 1 else 0) + ones t
theorem ones_app : ∀ (u v : List Bool), ones (u ++ v) = ones u + ones v
  | [], v => by simp [ones]
  | b :: t, v => by simp only [List.cons_append, ones, ones_app t v]; omega
theorem ones_le : ∀ u : List Bool, ones u ≤ u.length
  | [] => Nat.le_refl _
  | b :: t => by
    have := ones_le t
    simp only [ones, List.length_cons]
    split <;> omega
def img (x y : List Bool) : List Bool → List Bool
  | [] => []
  | b :: t => (if b = true then y else x) ++ img x y t
theorem img_app (x y : List Bool) : ∀ (u v : List Bool), img x y (u ++ v) = img x y u ++ img x y v
  | [], v => by simp [img]
  | b :: t, v => by simp only [List.cons_append, img, img_app x y t v, List.append_assoc]
theorem img_len (x y : List Bool) : ∀ u : List Bool, (img x y u).length = (u.length - ones u) * x.length + ones u * y.length
  | [] => by simp [img, ones]
  | b :: t => by
    have h1 := ones_le t
    simp only [img, ones, List.length_append, List.length_cons, img_len x y t]
    cases b
    · simp only [Bool.false_eq_true, if_false, Nat.zero_add]
      rw [show t.length + 1 - ones t = (t.length - ones t) + 1 by omega, Nat.add_mul, Nat.one_mul]
      omega
    · simp only [if_true]
      rw [show t.length + 1 - (1 + ones t) = t.length - ones t by omega, Nat.add_mul, Nat.one_mul]
      omega
/-- the first place at which two words joined both ways are unlike -/
def unl (u v : List Bool) : Nat → Nat → Int
  | 0, _ => -1
  | f + 1, i => if (u ++ v).length ≤ i then -1 else if (u ++ v).getD i false = (v ++ u).getD i false then unl u v f (i + 1) else (i : Int)
def unlike (u v : List Bool) : Int := unl u v ((u ++ v).length + 1) 0
section PU
variable {A : Nat → Nat} {h : gaH} {U : Nat → List Bool} {w v : Nat}
theorem b2i_eq (a b : Bool) : (b2i a = b2i b) = (a = b) := by cases a <;> cases b <;> simp [b2i]
theorem s_upsOf_L (g : gW A h U) (hw : w < 11) {Q : Int → gaH → Prop} : ∀ (n i c : Nat), i ≤ (U w).length → (U w).length - i < n → c ≤ i → Q ((c + ones ((U w).drop i) : Nat) : Int) h → w_X1_upsOf_L4 Q n (A w) (c : Int) (i : Int) h
  | 0, i, c, _, h1, _, _ => absurd h1 (Nat.not_lt_zero _)
  | n + 1, i, c, hi, h1, hc, k => by
    have hle := g.le hw
    unfold w_X1_upsOf_L4
    refine g.many hw ⟨gR_of (by omega) (by omega), gR_of (by omega) (by omega), ?_⟩
    by_cases q : i = (U w).length
    · rw [q, List.drop_length] at k
      exact if_yes (by omega) k
    · rw [take_one (show i < (U w).length by omega)] at k
      refine if_no (by omega) ⟨g.has hw, s_isUp g hw rfl (by omega) ⟨b2i_R _, ?_⟩⟩
      generalize (U w).getD i false = z at k
      cases z
      · refine if_yes rfl (s_upsOf_L g hw n (i + 1) c (by omega) (by omega) (by omega) ?_)
        simpa [ones] using k
      · refine if_no (by decide) ?_
        rw [show (c : Int) + 1 = ((c + 1 : Nat) : Int) by omega]
        refine s_upsOf_L g hw n (i + 1) (c + 1) (by omega) (by omega) (by omega) ?_
        simp only [ones, if_true] at k
        rw [show c + 1 + ones ((U w).drop (i + 1)) = c + (1 + ones ((U w).drop (i + 1))) by omega]
        exact k
theorem s_upsOf (g : gW A h U) (hw : w < 11) {Q : Int → gaH → Prop} (k : Q (ones (U w) : Int) h) : w_X1_upsOf (A w) h Q := by
  refine ⟨(U w).length + 1, s_upsOf_L g hw _ 0 0 (Nat.zero_le _) (by omega) (Nat.le_refl _) ?_⟩
  rw [List.drop_zero, Nat.zero_add]
  exact k
/-- v stands in w at a place -/
def stands (u v : List Bool) (i : Nat) : Bool := decide (i + v.length ≤ u.length) && decide ((u.drop i).take v.length = v)
theorem s_standsAt_L (g : gW A h U) (hw : w < 11) (hv : v < 11) {p : Nat} (hp : p + (U v).length ≤ (U w).length) {Q : Int → gaH → Prop} : ∀ (n i : Nat), i ≤ (U v).length → (U v).length - i < n → Q (b2i (decide (((U w).drop (p + i)).take ((U v).length - i) = (U v).drop i))) h → w_X1_standsAt_L17 Q n (A w) (p : Int) (A v) (i : Int) h
  | 0, i, _, h1, _ => absurd h1 (Nat.not_lt_zero _)
  | n + 1, i, hi, h1, k => by
    have hle := g.le hw
    unfold w_X1_standsAt_L17
    refine g.many hv ⟨gR_of (by omega) (by omega), gR_of (by omega) (by omega), ?_⟩
    by_cases q : i = (U v).length
    · refine if_yes (by omega) ?_
      rw [q, List.drop_length, Nat.sub_self, List.take_zero, decide_eq_true rfl] at k
      exact k
    · refine if_no (by omega) ⟨g.has hw, s_isUp (i := p + i) g hw (by omega) (by omega) ⟨g.has hv, s_isUp g hv rfl (by omega) ⟨b2i_R _, b2i_R _, ?_⟩⟩⟩
      rw [take_one (u := U w) (i := p + i) (by omega), take_one (u := U v) (i := i) (by omega), show (U v).length - i = ((U v).length - (i + 1)) + 1 by omega, List.take_succ_cons] at k
      by_cases z : (U w).getD (p + i) false = (U v).getD i false
      · refine if_yes (congrArg b2i z) ?_
        rw [show (i : Int) + 1 = ((i + 1 : Nat) : Int) by omega]
        refine s_standsAt_L g hw hv hp n (i + 1) (by omega) (by omega) ?_
        rw [z] at k
        simp only [List.cons.injEq, true_and] at k
        exact k
      · refine if_no (fun q9 => z ((b2i_eq _ _).mp q9)) ?_
        rw [decide_eq_false (by intro e; exact z (List.cons.inj e).1)] at k
        exact k
theorem s_standsAt (g : gW A h U) (hw : w < 11) (hv : v < 11) {x : Int} {p : Nat} (hx : x = (p : Int)) (hp : p ≤ 1000) {Q : Int → gaH → Prop} (k : Q (b2i (stands (U w) (U v) p)) h) : w_X1_standsAt (A w) x (A v) h Q := by
  subst hx
  have h1 := g.le hw
  have h2 := g.le hv
  unfold w_X1_standsAt
  refine g.many hv (g.many hw ⟨gR_of (by omega) (by omega), gR_of (by omega) (by omega), ?_⟩)
  by_cases q : p + (U v).length ≤ (U w).length
  · refine if_yes (by omega) ⟨(U v).length + 1, s_standsAt_L g hw hv q _ 0 (Nat.zero_le _) (by omega) ?_⟩
    unfold stands at k
    rw [decide_eq_true q, Bool.true_and] at k
    simpa using k
  · refine if_no (by omega) ?_
    unfold stands at k
    rw [decide_eq_false q, Bool.false_and] at k
    exact k
theorem s_isUpJoined (g : gW A h U) (hw : w < 11) (hv : v < 11) {x : Int} {p : Nat} (hx : x = (p : Int)) (hp : p < (U w ++ U v).length) {Q : Int → gaH → Prop} (k : Q (b2i ((U w ++ U v).getD p false)) h) : w_X1_isUpJoined (A w) (A v) x h Q := by
  subst hx
  have h1 := g.le hw
  have h2 := g.le hv
  rw [List.length_append] at hp
  unfold w_X1_isUpJoined
  refine g.many hw ⟨gR_of (by omega) (by omega), gR_of (by omega) (by omega), ?_⟩
  by_cases q : (U w).length ≤ p
  · refine if_yes (by omega) (g.many hw ⟨g.has hv, s_isUp (i := p - (U w).length) g hv (by omega) (by omega) ⟨b2i_nar _, ?_⟩⟩)
    rw [List.getD_eq_getElem?_getD, List.getElem?_append_right q, ← List.getD_eq_getElem?_getD] at k
    exact k
  · refine if_no (by omega) ⟨g.has hw, s_isUp g hw rfl (by omega) ⟨b2i_nar _, ?_⟩⟩
    rw [List.getD_eq_getElem?_getD, List.getElem?_append_left (by omega), ← List.getD_eq_getElem?_getD] at k
    exact k
theorem s_unlike_L (g : gW A h U) (hw : w < 11) (hv : v < 11) {Q : Int → gaH → Prop} : ∀ (n i f : Nat), i ≤ (U w ++ U v).length → (U w ++ U v).length - i < n → (U w ++ U v).length - i < f → Q (unl (U w) (U v) f i) h → w_X1_firstUnlikeJoined_L2 Q n (A w) (A v) (i : Int) h
  | 0, i, f, _, h1, _, _ => absurd h1 (Nat.not_lt_zero _)
  | n + 1, i, 0, _, _, h1, _ => absurd h1 (Nat.not_lt_zero _)
  | n + 1, i, f + 1, hi, h1, h2, k => by
    have l1 := g.le hw
    have l2 := g.le hv
    have e1 : (U w ++ U v).length = (U w).length + (U v).length := List.length_append
    have e2 : (U v ++ U w).length = (U v).length + (U w).length := List.length_append
    unfold w_X1_firstUnlikeJoined_L2
    refine g.many hw (g.many hv ⟨gR_of (by omega) (by omega), gR_of (by omega) (by omega), ?_⟩)
    unfold unl at k
    by_cases q : (U w ++ U v).length ≤ i
    · rw [if_pos q] at k
      exact if_yes (by omega) k
    · rw [if_neg q] at k
      refine if_no (by omega) (s_isUpJoined g hw hv rfl (by omega) (s_isUpJoined g hv hw rfl (by omega) ⟨b2i_R _, b2i_R _, ?_⟩))
      by_cases z : (U w ++ U v).getD i false = (U v ++ U w).getD i false
      · rw [if_pos z] at k
        refine if_yes (congrArg b2i z) ?_
        rw [show (i : Int) + 1 = ((i + 1 : Nat) : Int) by omega]
        exact s_unlike_L g hw hv n (i + 1) f (by omega) (by omega) (by omega) k
      · rw [if_neg z] at k
        exact if_no (fun q9 => z ((b2i_eq _ _).mp q9)) k
theorem s_unlike (g : gW A h U) (hw : w < 11) (hv : v < 11) {Q : Int → gaH → Prop} (k : Q (unlike (U w) (U v)) h) : w_X1_firstUnlikeJoined (A w) (A v) h Q :=
  ⟨(U w ++ U v).length + 1, s_unlike_L g hw hv _ 0 _ (Nat.zero_le _) (by omega) (by omega) k⟩
theorem unl_R (u v : List Bool) : ∀ (f i : Nat), f + i ≤ 1000 → -1 ≤ unl u v f i ∧ unl u v f i ≤ 1000
  | 0, i, _ => by unfold unl; omega
  | f + 1, i, hf => by
    unfold unl
    split
    · omega
    · split
      · exact unl_R u v f (i + 1) (by omega)
      · omega
/-- the object of the rule -/
def gRu (A : Nat → Nat) (h : gaH) : Prop := h (A 25) = some (3, [.ref (A 9), .ref (A 10), .ref (A 30)])
theorem gRu.on (r : gRu A h) (hA : gInj A) {h' : gaH} (s : gSm A h h') : gRu A h' := (s.at hA (by decide) (by decide)).trans r
theorem gRu.has (r : gRu A h) : gHas h (A 25) 3 := ⟨_, r⟩
theorem s_keepsApart (g : gW A h U) (r : gRu A h) {Q : Int → gaH → Prop} (k : Q (b2i (decide (unlike (U 9) (U 10) ≠ -1))) h) : w_X2_keepsApart (A 25) h Q := by
  have h1 := g.le (w := 9) (by decide)
  have h2 := g.le (w := 10) (by decide)
  unfold w_X2_keepsApart
  refine gA_mk r rfl (gA_mk r rfl (s_unlike g (w := 9) (v := 10) (by decide) (by decide) ?_))
  have := unl_R (U 9) (U 10) ((U 9 ++ U 10).length + 1) 0 (by rw [List.length_append]; omega)
  unfold unlike at k ⊢
  refine ⟨gR_of (by omega) (by omega), ?_⟩
  by_cases q : unl (U 9) (U 10) ((U 9 ++ U 10).length + 1) 0 = -1
  · rw [decide_eq_false (fun z => z q)] at k
    exact if_yes q k
  · rw [decide_eq_true q] at k
    exact if_no q k
theorem s_ruleTake (g : gW A h U) (r : gRu A h) {x y : Int} {c d : Nat} (hx : x = (c : Int)) (hy : y = (d : Int)) (hc : c < 65536) (hd : d < 65536) {Q : gaH → Prop} (k : ∀ h', gW A h' (pu (pu U 9 (codeW c)) 10 (codeW d)) → gSm A h h' → Q h') : w_X2_take (A 25) x y h Q := by
  unfold w_X2_take
  refine gA_mk r rfl ⟨g.has (w := 9) (by decide), s_takeCode g (w := 9) (by decide) hx hc (fun h1 g1 s1 => ?_)⟩
  refine gA_mk (r.on g.inj s1) rfl ⟨g1.has (w := 10) (by decide), s_takeCode g1 (w := 10) (by decide) hy hd (fun h2 g2 s2 => k h2 g2 (s1.tr s2))⟩
theorem s_imageLength (g : gW A h U) (r : gRu A h) (hw : w < 11) {Q : Int → gaH → Prop} (k : Q ((img (U 9) (U 10) (U w)).length : Int) h) : w_X2_imageLength (A 25) (A w) h Q := by
  unfold w_X2_imageLength
  refine s_upsOf g hw (g.many hw (gA_mk r rfl (g.many (w := 9) (by decide) (gA_mk r rfl (g.many (w := 10) (by decide) ?_)))))
  have e := img_len (U 9) (U 10) (U w)
  have h1 := ones_le (U w)
  rw [e] at k
  rw [show (((U w).length : Int) - (ones (U w) : Int)) = (((U w).length - ones (U w) : Nat) : Int) by omega]
  rw [← Int.natCast_mul, ← Int.natCast_mul, ← Int.natCast_add]
  exact k
theorem s_layImage_L (r0 : gInj A) (hw : w < 11) (hv : v < 9) (hne : v ≠ w) {Q : gaH → Prop} : ∀ (n i : Nat) (h : gaH) (U : Nat → List Bool), gW A h U → gRu A h → i ≤ (U w).length → (U w).length - i < n → (U v).length + (img (U 9) (U 10) ((U w).drop i)).length ≤ 64 →
    (∀ h', gW A h' (pu U v (U v ++ img (U 9) (U 10) ((U w).drop i))) → gSm A h h' → Q h') → w_X2_layImage_L6 Q n (A 25) (A w) (A v) (i : Int) h
  | 0, i, h, U, _, _, _, h1, _, _ => absurd h1 (Nat.not_lt_zero _)
  | n + 1, i, h, U, g, r, hi, h1, hl, k => by
    have hle := g.le hw
    unfold w_X2_layImage_L6
    refine g.many hw ⟨gR_of (by omega) (by omega), gR_of (by omega) (by omega), ?_⟩
    by_cases q : i = (U w).length
    · refine if_yes (by omega) (k h (g.eq (fun x _ => ?_)) gSm.rf)
      by_cases e : x = v
      · rw [e, pu_self, q, List.drop_length]; simp [img]
      · exact pu_ne _ _ e
    · refine if_no (by omega) ⟨g.has hw, s_isUp g hw rfl (by omega) ⟨b2i_R _, ?_⟩⟩
      have hd := take_one (u := U w) (i := i) (by omega)
      -- with the sign's part p
      have part : ∀ p : Nat, (p = 9 ∨ p = 10) → (if (U w).getD i false = true then U 10 else U 9) = U p → w_X2_layImage_J33 Q (w_X2_layImage_L6 Q n) (A 25) (A w) (A v) (i : Int) (A p) h := by
        intro p hp he
        have e3 : img (U 9) (U 10) ((U w).drop i) = U p ++ img (U 9) (U 10) ((U w).drop (i + 1)) := by rw [hd, img, he]
        rw [e3] at hl k
        rw [List.length_append] at hl
        unfold w_X2_layImage_J33
        refine g.many (w := p) (by omega) ⟨g.has (show v < 11 by omega), s_addPart (i := 0) g (show v < 11 by omega) (show p < 11 by omega) (by omega) rfl rfl (Nat.zero_le _) (Nat.le_refl _) (by omega) (fun h' g' s => ?_)⟩
        have n1 : ∀ x, x ≠ v → pu U v (U v ++ ((U p).drop 0).take ((U p).length - 0)) x = U x := fun x hx => pu_ne _ _ hx
        have n2 : pu U v (U v ++ ((U p).drop 0).take ((U p).length - 0)) v = U v ++ U p := by rw [pu_self, List.drop_zero, Nat.sub_zero, List.take_length]
        rw [show (i : Int) + 1 = ((i + 1 : Nat) : Int) by omega]
        refine s_layImage_L r0 hw hv hne n (i + 1) h' _ g' (r.on r0 s) (by rw [n1 w hne.symm]; omega) (by rw [n1 w hne.symm]; omega) (by rw [n2, n1 w hne.symm, n1 9 (by omega), n1 10 (by omega), List.length_append]; omega) (fun h2 g2 s2 => k h2 (g2.eq (fun x _ => ?_)) (s.tr s2))
        by_cases e : x = v
        · subst e
          rw [pu_self, pu_self, n2, n1 w hne.symm, n1 9 (by omega), n1 10 (by omega), List.append_assoc]
        · rw [pu_ne _ _ e, pu_ne _ _ e, n1 x e]
      cases hz : (U w).getD i false
      · exact if_yes rfl (gA_mk r rfl (part 9 (Or.inl rfl) (by rw [hz]; rfl)))
      · exact if_no (by decide) (gA_mk r rfl (part 10 (Or.inr rfl) (by rw [hz]; rfl)))
theorem s_layImage (g : gW A h U) (r : gRu A h) (hw : w < 11) (hv : v < 9) (hne : v ≠ w) (hl : (img (U 9) (U 10) (U w)).length ≤ 64) {Q : gaH → Prop} (k : ∀ h', gW A h' (pu U v (img (U 9) (U 10) (U w))) → gSm A h h' → Q h') : w_X2_layImage (A 25) (A w) (A v) h Q := by
  unfold w_X2_layImage
  refine ⟨g.has (show v < 11 by omega), s_clear g (show v < 11 by omega) (fun h1 g1 s1 => ⟨65, ?_⟩)⟩
  have hle := g.le hw
  have n1 : ∀ x, x ≠ v → pu U v [] x = U x := fun x hx => pu_ne _ _ hx
  refine s_layImage_L g.inj hw hv hne 65 0 h1 _ g1 (r.on g.inj s1) (Nat.zero_le _) (by rw [n1 w hne.symm]; omega) (by rw [pu_self, n1 w hne.symm, n1 9 (by omega), n1 10 (by omega), List.drop_zero]; simpa using hl) (fun h2 g2 s2 => k h2 (g2.eq (fun x _ => ?_)) (s1.tr s2))
  by_cases e : x = v
  · subst e
    rw [pu_self, pu_self, pu_self, n1 w hne.symm, n1 9 (by omega), n1 10 (by omega), List.drop_zero]; rfl
  · rw [pu_ne _ _ e, pu_ne _ _ e, n1 x e]
end PU
