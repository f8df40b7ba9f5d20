/-! What is read from words: order; the others as far as their bounds. -/
def cmpL : List Bool → List Bool → Int
  | [], [] => 0
  | [], _ :: _ => -1
  | _ :: _, [] => 1
  | a :: s, b :: t => if a = b then cmpL s t else if b = true then -1 else 1
theorem cmpL_R : ∀ u v, -1 ≤ cmpL u v ∧ cmpL u v ≤ 1
  | [], [] => by decide
  | [], _ :: _ => by simp [cmpL]
  | _ :: _, [] => by simp [cmpL]
  | a :: s, b :: t => by
    unfold cmpL
    split
    · exact cmpL_R s t
    · split <;> decide
theorem cmpL_eq : ∀ u v, cmpL u v = 0 ↔ u = v
  | [], [] => by simp [cmpL]
  | [], _ :: _ => by simp [cmpL]
  | _ :: _, [] => by simp [cmpL]
  | a :: s, b :: t => by
    have ih := cmpL_eq s t
    unfold cmpL
    by_cases q : a = b
    · rw [if_pos q, ih, q]; simp
    · rw [if_neg q]
      constructor
      · intro z; split at z <;> omega
      · intro z; exact absurd (List.cons.inj z).1 q
section PQ
variable {A : Nat → Nat} {h : gaH} {U : Nat → List Bool} {w v g : Nat}
theorem s_compare {x y : Int} (hx : gR x) (hy : gR y) {Q : Int → gaH → Prop} (k1 : x < y → Q (-1) h) (k2 : x = y → Q 0 h) (k3 : y < x → Q 1 h) : w_J6_compare_7cf53 x y h Q := by
  unfold w_J6_compare_7cf53
  refine ⟨hx, hy, ?_⟩
  by_cases q : y ≤ x
  · refine if_yes q ⟨hx, hy, ?_⟩
    by_cases z : x = y
    · exact if_yes z (k2 z)
    · exact if_no z (k3 (by omega))
  · exact if_no q (k1 (by omega))
theorem s_orderOf_L (gw : gW A h U) (hw : w < 11) (hv : v < 11) {Q : Int → gaH → Prop} : ∀ (n i : Nat), i ≤ (U w).length → i ≤ (U v).length → (U w).length - i < n → Q (cmpL ((U w).drop i) ((U v).drop i)) h → w_X1_orderOf_L14 Q n (A w) (A v) (min ((U w).length : Int) ((U v).length : Int)) (i : Int) h
  | 0, i, _, _, h1, _ => absurd h1 (Nat.not_lt_zero _)
  | n + 1, i, hi, hj, h1, k => by
    have l1 := gw.le hw
    have l2 := gw.le hv
    unfold w_X1_orderOf_L14
    refine ⟨gR_of (by omega) (by omega), gR_of (by omega) (by omega), ?_⟩
    by_cases q : (U w).length ≤ i ∨ (U v).length ≤ i
    · refine if_yes (by omega) (gw.many hw (gw.many hv (s_compare (gR_of (by omega) (by omega)) (gR_of (by omega) (by omega)) (fun z => ?_) (fun z => ?_) (fun z => ?_))))
      · rw [List.drop_of_length_le (show (U w).length ≤ i by omega), take_one (u := U v) (i := i) (by omega)] at k
        exact k
      · rw [List.drop_of_length_le (show (U w).length ≤ i by omega), List.drop_of_length_le (show (U v).length ≤ i by omega)] at k
        exact k
      · rw [List.drop_of_length_le (show (U v).length ≤ i by omega), take_one (u := U w) (i := i) (by omega)] at k
        exact k
    · refine if_no (by omega) ⟨gw.has hw, s_isUp gw hw rfl (by omega) ⟨gw.has hv, s_isUp gw hv rfl (by omega) ⟨b2i_R _, b2i_R _, ?_⟩⟩⟩
      rw [take_one (u := U w) (i := i) (by omega), take_one (u := U v) (i := i) (by omega)] at k
      unfold cmpL at k
      by_cases z : (U w).getD i false = (U v).getD i false
      · rw [if_pos z] at k
        refine if_yes (congrArg b2i z) ?_
        rw [show (i : Int) + 1 = ((i + 1 : Nat) : Int) by omega]
        exact s_orderOf_L gw hw hv n (i + 1) (by omega) (by omega) (by omega) k
      · rw [if_neg z] at k
        refine if_no (fun q9 => z ((b2i_eq _ _).mp q9)) ⟨gw.has hv, s_isUp gw hv rfl (by omega) ⟨b2i_R _, ?_⟩⟩
        generalize (U v).getD i false = y at k
        cases y
        · exact if_yes rfl k
        · exact if_no (by decide) k
theorem s_orderOf (gw : gW A h U) (hw : w < 11) (hv : v < 11) {Q : Int → gaH → Prop} (k : Q (cmpL (U w) (U v)) h) : w_X1_orderOf (A w) (A v) h Q := by
  have l1 := gw.le hw
  have l2 := gw.le hv
  exact gw.many hw (gw.many hv ⟨gR_of (by omega) (by omega), gR_of (by omega) (by omega), (U w).length + 1, s_orderOf_L gw hw hv _ 0 (Nat.zero_le _) (Nat.zero_le _) (by omega) k⟩)
theorem half_nat (l : Nat) (hl : l ≤ 1000) : gDiv (l : Int) 2 = ((l / 2 : Nat) : Int) := gDiv_nat (b := 2) (by omega) (by decide)
theorem s_isMir_L (gw : gW A h U) (hw : w < 11) {a l : Nat} (hal : a + l ≤ (U w).length) {Q : Int → gaH → Prop} (k0 : Q 0 h) (k1 : Q 1 h) : ∀ (n i : Nat), i ≤ l / 2 → l / 2 - i < n → w_X1_isMirroredPart_L2 Q n (A w) (a : Int) (l : Int) (i : Int) h
  | 0, i, _, h1 => absurd h1 (Nat.not_lt_zero _)
  | n + 1, i, hi, h1 => by
    have l1 := gw.le hw
    unfold w_X1_isMirroredPart_L2
    rw [half_nat l (by omega)]
    refine ⟨gR_of (by omega) (by omega), gR_of (by omega) (by omega), ?_⟩
    by_cases q : l / 2 ≤ i
    · exact if_yes (by omega) k1
    · refine if_no (by omega) ⟨gw.has hw, s_isUp (i := a + i) gw hw (by omega) (by omega) ⟨gw.has hw, s_isUp (i := a + l - 1 - i) gw hw (by omega) (by omega) ⟨b2i_R _, b2i_R _, ?_⟩⟩⟩
      by_cases z : b2i ((U w).getD (a + i) false) = b2i ((U w).getD (a + l - 1 - i) false)
      · refine if_yes z ?_
        rw [show (i : Int) + 1 = ((i + 1 : Nat) : Int) by omega]
        exact s_isMir_L gw hw hal k0 k1 n (i + 1) (by omega) (by omega)
      · exact if_no z k0
theorem s_isMir (gw : gW A h U) (hw : w < 11) {x y : Int} {a l : Nat} (hx : x = (a : Int)) (hy : y = (l : Int)) (hal : a + l ≤ (U w).length) {Q : Int → gaH → Prop} (k0 : Q 0 h) (k1 : Q 1 h) : w_X1_isMirroredPart (A w) x y h Q := by
  subst hx; subst hy
  exact ⟨l / 2 + 1, s_isMir_L gw hw hal k0 k1 _ 0 (Nat.zero_le _) (by omega)⟩
theorem s_onRing (gw : gW A h U) (hw : w < 11) {x : Int} {p : Nat} (hx : x = (p : Int)) (hp : p < 2 * (U w).length) {Q : Int → gaH → Prop} (k : Q (b2i ((U w).getD (if p < (U w).length then p else p - (U w).length) false)) h) : w_X1_isUpOnRing (A w) x h Q := by
  subst hx
  have l1 := gw.le hw
  unfold w_X1_isUpOnRing
  refine gw.many hw ⟨gR_of (by omega) (by omega), gR_of (by omega) (by omega), ?_⟩
  by_cases q : p < (U w).length
  · rw [if_pos q] at k
    refine if_no (by omega) ?_
    unfold w_X1_isUpOnRing_J19
    exact ⟨gw.has hw, s_isUp gw hw rfl q ⟨b2i_nar _, k⟩⟩
  · rw [if_neg q] at k
    refine if_yes (by omega) (gw.many hw ?_)
    unfold w_X1_isUpOnRing_J19
    exact ⟨gw.has hw, s_isUp (i := p - (U w).length) gw hw (by omega) (by omega) ⟨b2i_nar _, k⟩⟩
theorem s_ringOrder_L (gw : gW A h U) (hw : w < 11) {a b l : Nat} (hab : l = 0 ∨ (a < (U w).length ∧ b < (U w).length ∧ l ≤ (U w).length)) (hl : l ≤ 64) {Q : Int → gaH → Prop} (k0 : Q 0 h) (k1 : Q 1 h) (k2 : Q (-1) h) : ∀ (n i : Nat), i ≤ l → l - i < n → w_X1_ringOrder_L3 Q n (A w) (a : Int) (b : Int) (l : Int) (i : Int) h
  | 0, i, _, h1 => absurd h1 (Nat.not_lt_zero _)
  | n + 1, i, hi, h1 => by
    have l1 := gw.le hw
    unfold w_X1_ringOrder_L3
    refine ⟨gR_of (by omega) (by omega), gR_of (by omega) (by omega), ?_⟩
    by_cases q : l ≤ i
    · exact if_yes (by omega) k0
    · refine if_no (by omega) (s_onRing (p := a + i) gw hw (by omega) (by omega) (s_onRing (p := b + i) gw hw (by omega) (by omega) ⟨b2i_R _, b2i_R _, ?_⟩))
      generalize (U w).getD (if a + i < (U w).length then a + i else a + i - (U w).length) false = y
      generalize (U w).getD (if b + i < (U w).length then b + i else b + i - (U w).length) false = z
      by_cases e : b2i y = b2i z
      · refine if_yes e ?_
        rw [show (i : Int) + 1 = ((i + 1 : Nat) : Int) by omega]
        exact s_ringOrder_L gw hw hab hl k0 k1 k2 n (i + 1) (by omega) (by omega)
      · refine if_no e ⟨b2i_R _, ?_⟩
        cases y
        · exact if_yes rfl k2
        · exact if_no (by decide) k1
theorem s_ringOrder (gw : gW A h U) (hw : w < 11) {x y z : Int} {a b l : Nat} (hx : x = (a : Int)) (hy : y = (b : Int)) (hz : z = (l : Int)) (hab : l = 0 ∨ (a < (U w).length ∧ b < (U w).length ∧ l ≤ (U w).length)) (hl : l ≤ 64) {Q : Int → gaH → Prop} (k0 : Q 0 h) (k1 : Q 1 h) (k2 : Q (-1) h) : w_X1_ringOrder (A w) x y z h Q := by
  subst hx; subst hy; subst hz
  exact ⟨l + 1, s_ringOrder_L gw hw hab hl k0 k1 k2 _ 0 (Nat.zero_le _) (by omega)⟩
theorem s_timesWith_L (gw : gW A h U) (hw : w < 11) {p : Nat} (hp : 1 ≤ p ∧ p ≤ 64) {Q : Int → gaH → Prop} (k : ∀ r : Nat, r ≤ 65 → Q (r : Int) h) : ∀ (n i c m : Nat), i ≤ (U w).length → (U w).length - i < n → c ≤ i → m ≤ i → w_X1_timesWith_L7 Q n (A w) (p : Int) (c : Int) (m : Int) (i : Int) h
  | 0, i, _, _, _, h1, _, _ => absurd h1 (Nat.not_lt_zero _)
  | n + 1, i, c, m, hi, h1, hc, hm => by
    have l1 := gw.le hw
    unfold w_X1_timesWith_L7
    refine gw.many hw ⟨gR_of (by omega) (by omega), gR_of (by omega) (by omega), ?_⟩
    by_cases q : (U w).length ≤ i + p
    · refine if_yes (by omega) ⟨gR_of (by omega) (by omega), if_no (by omega) ⟨gR_of (by omega) (by omega), by omega, ?_⟩⟩
      rw [gDiv_nat (a := m) (b := p) (by omega) (by omega)]
      have := Nat.div_le_self m p
      exact k (m / p + 1) (by omega)
    · refine if_no (by omega) ⟨gw.has hw, s_isUp gw hw rfl (by omega) ⟨gw.has hw, s_isUp (i := i + p) gw hw (by omega) (by omega) ⟨b2i_R _, b2i_R _, ?_⟩⟩⟩
      have fin : ∀ t : Nat, t ≤ i + 1 → w_X1_timesWith_J42 Q (w_X1_timesWith_L7 Q n) (A w) (p : Int) (m : Int) (i : Int) (t : Int) h := by
        intro t ht
        unfold w_X1_timesWith_J42
        refine ⟨gR_of (by omega) (by omega), gR_of (by omega) (by omega), ?_⟩
        rw [show (i : Int) + 1 = ((i + 1 : Nat) : Int) by omega, show max (m : Int) (t : Int) = ((max m t : Nat) : Int) by omega]
        exact s_timesWith_L gw hw hp k n (i + 1) t (max m t) (by omega) (by omega) (by omega) (by omega)
      by_cases z : b2i ((U w).getD i false) = b2i ((U w).getD (i + p) false)
      · refine if_yes z ?_
        rw [show (c : Int) + 1 = ((c + 1 : Nat) : Int) by omega]
        exact fin (c + 1) (by omega)
      · exact if_no z (fin 0 (by omega))
theorem s_timesOf_L (gw : gW A h U) (hw : w < 11) {Q : Int → gaH → Prop} (k : ∀ r : Nat, r ≤ 65 → Q (r : Int) h) : ∀ (n i m : Nat), 1 ≤ i → i ≤ (U w).length + 1 → (U w).length + 1 - i < n → m ≤ 65 → w_X1_timesOf_L4 Q n (A w) (m : Int) (i : Int) h
  | 0, i, _, _, _, h1, _ => absurd h1 (Nat.not_lt_zero _)
  | n + 1, i, m, h0, hi, h1, hm => by
    have l1 := gw.le hw
    unfold w_X1_timesOf_L4
    refine gw.many hw ⟨gR_of (by omega) (by omega), gR_of (by omega) (by omega), ?_⟩
    by_cases q : (U w).length < i
    · exact if_yes (by omega) (k m hm)
    · refine if_no (by omega) ⟨(U w).length + 1, s_timesWith_L (p := i) gw hw (by omega) (fun r hr => ⟨gR_of (by omega) (by omega), gR_of (by omega) (by omega), ?_⟩) _ 0 0 0 (Nat.zero_le _) (by omega) (Nat.le_refl _) (Nat.le_refl _)⟩
      rw [show (i : Int) + 1 = ((i + 1 : Nat) : Int) by omega, show max (m : Int) (r : Int) = ((max m r : Nat) : Int) by omega]
      exact s_timesOf_L gw hw k n (i + 1) (max m r) (by omega) (by omega) (by omega) (by omega)
theorem s_timesOf (gw : gW A h U) (hw : w < 11) {Q : Int → gaH → Prop} (k : ∀ r : Nat, r ≤ 65 → Q (r : Int) h) : w_X1_timesOf (A w) h Q :=
  ⟨(U w).length + 1, s_timesOf_L gw hw k _ 1 0 (Nat.le_refl _) (by omega) (by omega) (by decide)⟩
theorem s_isOverlap_L (gw : gW A h U) (hw : w < 11) {a p : Nat} (hap : a + 2 * p < (U w).length) {Q : Int → gaH → Prop} (k0 : Q 0 h) (k1 : Q 1 h) : ∀ (n i : Nat), a ≤ i → i ≤ a + p + 1 → a + p + 1 - i < n → w_X1_isOverlap_L2 Q n (A w) (a : Int) (p : Int) (i : Int) h
  | 0, i, _, _, h1 => absurd h1 (Nat.not_lt_zero _)
  | n + 1, i, h0, hi, h1 => by
    have l1 := gw.le hw
    unfold w_X1_isOverlap_L2
    refine ⟨gR_of (by omega) (by omega), gR_of (by omega) (by omega), ?_⟩
    by_cases q : a + p < i
    · exact if_yes (by omega) k1
    · refine if_no (by omega) ⟨gw.has hw, s_isUp gw hw rfl (by omega) ⟨gw.has hw, s_isUp (i := i + p) gw hw (by omega) (by omega) ⟨b2i_R _, b2i_R _, ?_⟩⟩⟩
      by_cases z : b2i ((U w).getD i false) = b2i ((U w).getD (i + p) false)
      · refine if_yes z ?_
        rw [show (i : Int) + 1 = ((i + 1 : Nat) : Int) by omega]
        exact s_isOverlap_L gw hw hap k0 k1 n (i + 1) (by omega) (by omega) (by omega)
      · exact if_no z k0
theorem s_overlaps_L2 (gw : gW A h U) (hw : w < 11) {p : Nat} {Q : Int → gaH → Prop} {K : Nat → Int → Int → gaH → Prop} {B : Nat} (hB : B ≤ 100000) (k : ∀ r : Nat, r ≤ B + 65 → K (A w) (r : Int) ((p : Int) + 1) h) (hp : p ≤ 64) : ∀ (n i c : Nat), i ≤ (U w).length → (U w).length - i < n → c ≤ B + i → w_X1_overlapsOf_L14 Q K n (A w) (c : Int) (p : Int) (i : Int) h
  | 0, i, _, _, h1, _ => absurd h1 (Nat.not_lt_zero _)
  | n + 1, i, c, hi, h1, hc => by
    have l1 := gw.le hw
    unfold w_X1_overlapsOf_L14
    refine gw.many hw ⟨gR_of (by omega) (by omega), gR_of (by omega) (by omega), ?_⟩
    by_cases q : (U w).length ≤ i + 2 * p
    · exact if_yes (by omega) (k c (by omega))
    · have e1 : (i : Int) + 1 = ((i + 1 : Nat) : Int) := by omega
      refine if_no (by omega) ⟨p + 2, s_isOverlap_L (a := i) (p := p) gw hw (by omega) ⟨gR_of (by decide) (by decide), if_yes rfl ?_⟩ ⟨gR_of (by decide) (by decide), if_no (by decide) ?_⟩ _ i (Nat.le_refl _) (by omega) (by omega)⟩
      · rw [e1]
        exact s_overlaps_L2 gw hw hB k hp n (i + 1) c (by omega) (by omega) (by omega)
      · rw [e1, show (c : Int) + 1 = ((c + 1 : Nat) : Int) by omega]
        exact s_overlaps_L2 gw hw hB k hp n (i + 1) (c + 1) (by omega) (by omega) (by omega)
theorem s_overlaps_L1 (gw : gW A h U) (hw : w < 11) {Q : Int → gaH → Prop} (k : ∀ r : Nat, r ≤ 10000 → Q (r : Int) h) : ∀ (n i c : Nat), i ≤ 65 → 65 - i < n → c ≤ i * 65 → w_X1_overlapsOf_L4 Q n (A w) (c : Int) (i : Int) h
  | 0, i, _, _, h1, _ => absurd h1 (Nat.not_lt_zero _)
  | n + 1, i, c, hi, h1, hc => by
    have l1 := gw.le hw
    unfold w_X1_overlapsOf_L4
    refine gw.many hw ⟨gR_of (by omega) (by omega), gR_of (by omega) (by omega), ?_⟩
    by_cases q : (U w).length ≤ i
    · exact if_yes (by omega) (k c (by omega))
    · refine if_no (by omega) ⟨(U w).length + 1, s_overlaps_L2 (p := i) (B := c) gw hw (by omega) (fun r hr => ?_) (by omega) _ 0 c (Nat.zero_le _) (by omega) (by omega)⟩
      rw [show (i : Int) + 1 = ((i + 1 : Nat) : Int) by omega]
      exact s_overlaps_L1 gw hw k n (i + 1) r (by omega) (by omega) (by omega)
theorem s_overlapsOf (gw : gW A h U) (hw : w < 11) {Q : Int → gaH → Prop} (k : ∀ r : Nat, r ≤ 10000 → Q (r : Int) h) : w_X1_overlapsOf (A w) h Q :=
  ⟨66, s_overlaps_L1 gw hw k _ 1 0 (by decide) (by decide) (by decide)⟩
theorem s_folds_L (gw : gW A h U) (hw : w < 11) {Q : Int → gaH → Prop} (k : ∀ r : Nat, r ≤ 64 → Q (r : Int) h) : ∀ (n i c : Nat), i ≤ (U w).length → (U w).length - i < n → c ≤ i → w_X1_foldsOf_L4 Q n (A w) (c : Int) (i : Int) h
  | 0, i, _, _, h1, _ => absurd h1 (Nat.not_lt_zero _)
  | n + 1, i, c, hi, h1, hc => by
    have l1 := gw.le hw
    unfold w_X1_foldsOf_L4
    refine gw.many hw ⟨gR_of (by omega) (by omega), gR_of (by omega) (by omega), ?_⟩
    have e1 : (i : Int) + 1 = ((i + 1 : Nat) : Int) := by omega
    by_cases q : (U w).length ≤ i
    · exact if_yes (by omega) (k c (by omega))
    · have no : w_X1_foldsOf_L4 Q n (A w) (c : Int) ((i : Int) + 1) h := by
        rw [e1]
        exact s_folds_L gw hw k n (i + 1) c (by omega) (by omega) (by omega)
      refine if_no (by omega) (s_isMir (a := 0) (l := i) gw hw rfl rfl (by omega) ⟨gR_of (by decide) (by decide), if_yes rfl no⟩ ⟨gR_of (by decide) (by decide), if_no (by decide) (gw.many hw (s_isMir (a := i) (l := (U w).length - i) gw hw rfl (by omega) (by omega) ⟨gR_of (by decide) (by decide), if_yes rfl no⟩ ⟨gR_of (by decide) (by decide), if_no (by decide) ?_⟩))⟩)
      rw [e1, show (c : Int) + 1 = ((c + 1 : Nat) : Int) by omega]
      exact s_folds_L gw hw k n (i + 1) (c + 1) (by omega) (by omega) (by omega)
theorem s_foldsOf (gw : gW A h U) (hw : w < 11) {Q : Int → gaH → Prop} (k : ∀ r : Nat, r ≤ 64 → Q (r : Int) h) : w_X1_foldsOf (A w) h Q :=
  ⟨(U w).length + 1, s_folds_L gw hw k _ 0 0 (Nat.zero_le _) (by omega) (Nat.le_refl _)⟩
theorem s_least_L (gw : gW A h U) (hw : w < 11) {Q : Int → gaH → Prop} (k : ∀ r : Nat, r ≤ 64 → Q (r : Int) h) : ∀ (n i c : Nat), i ≤ (U w).length + 1 → (U w).length + 1 - i < n → c < i → w_X1_leastOf_L4 Q n (A w) (c : Int) (i : Int) h
  | 0, i, _, _, h1, _ => absurd h1 (Nat.not_lt_zero _)
  | n + 1, i, c, hi, h1, hc => by
    have l1 := gw.le hw
    unfold w_X1_leastOf_L4
    refine gw.many hw ⟨gR_of (by omega) (by omega), gR_of (by omega) (by omega), ?_⟩
    have e1 : (i : Int) + 1 = ((i + 1 : Nat) : Int) := by omega
    by_cases q : (U w).length ≤ i
    · exact if_yes (by omega) (k c (by omega))
    · have go : ∀ d : Nat, d < i + 1 → w_X1_leastOf_L4 Q n (A w) (d : Int) ((i : Int) + 1) h := by
        intro d hd
        rw [e1]
        exact s_least_L gw hw k n (i + 1) d (by omega) (by omega) (by omega)
      exact if_no (by omega) (gw.many hw (s_ringOrder (a := i) (b := c) (l := (U w).length) gw hw rfl rfl rfl (by omega) (by omega) ⟨gR_of (by decide) (by decide), if_yes (by decide) (go c (by omega))⟩ ⟨gR_of (by decide) (by decide), if_yes (by decide) (go c (by omega))⟩ ⟨gR_of (by decide) (by decide), if_no (by decide) (go i (by omega))⟩))
theorem s_leastOf (gw : gW A h U) (hw : w < 11) {Q : Int → gaH → Prop} (k : ∀ r : Nat, r ≤ 64 → Q (r : Int) h) : w_X1_leastOf (A w) h Q := by
  by_cases q : (U w).length = 0
  · refine ⟨1, ?_⟩
    unfold w_X1_leastOf_L4
    exact gw.many hw ⟨gR_of (by decide) (by decide), gR_of (by omega) (by omega), if_yes (by omega) (k 0 (by decide))⟩
  · exact ⟨(U w).length + 1, s_least_L gw hw k _ 1 0 (by omega) (by omega) (by decide)⟩
theorem s_readEarlier_L (gw : gW A h U) (hw : w < 11) {a l : Nat} (hal : l = 0 ∨ (a < (U w).length ∧ l ≤ (U w).length)) (ha : a ≤ 64) (hl : l ≤ 64) {Q : Int → gaH → Prop} (k0 : Q 0 h) (k1 : Q 1 h) : ∀ (n i : Nat), i ≤ a → a - i < n → w_X1_isReadEarlier_L2 Q n (A w) (a : Int) (l : Int) (i : Int) h
  | 0, i, _, h1 => absurd h1 (Nat.not_lt_zero _)
  | n + 1, i, hi, h1 => by
    unfold w_X1_isReadEarlier_L2
    refine ⟨gR_of (by omega) (by omega), gR_of (by omega) (by omega), ?_⟩
    by_cases q : a ≤ i
    · exact if_yes (by omega) k0
    · have go : w_X1_isReadEarlier_L2 Q n (A w) (a : Int) (l : Int) ((i : Int) + 1) h := by
        rw [show (i : Int) + 1 = ((i + 1 : Nat) : Int) by omega]
        exact s_readEarlier_L gw hw hal ha hl k0 k1 n (i + 1) (by omega) (by omega)
      exact if_no (by omega) (s_ringOrder (a := i) (b := a) (l := l) gw hw rfl rfl rfl (by omega) hl ⟨gR_of (by decide) (by decide), if_yes rfl k1⟩ ⟨gR_of (by decide) (by decide), if_no (by decide) go⟩ ⟨gR_of (by decide) (by decide), if_no (by decide) go⟩)
theorem s_readEarlier (gw : gW A h U) (hw : w < 11) {x y : Int} {a l : Nat} (hx : x = (a : Int)) (hy : y = (l : Int)) (hal : l = 0 ∨ (a < (U w).length ∧ l ≤ (U w).length)) (ha : a ≤ 64) (hl : l ≤ 64) {Q : Int → gaH → Prop} (k0 : Q 0 h) (k1 : Q 1 h) : w_X1_isReadEarlier (A w) x y h Q := by
  subst hx; subst hy
  exact ⟨a + 1, s_readEarlier_L gw hw hal ha hl k0 k1 _ 0 (Nat.zero_le _) (by omega)⟩
/-- how many parts begin -/
def begins (n l : Nat) (ring : Bool) : Nat := if ring = true then max n 1 else n - l + 1
theorem s_beginnings (gw : gW A h U) (hw : w < 11) {x y : Int} {l : Nat} {b : Bool} (hx : x = (l : Int)) (hy : y = b2i b) (hl : l ≤ (U w).length) {Q : Int → gaH → Prop} (k : Q (begins (U w).length l b : Int) h) : w_X1_beginnings (A w) x y h Q := by
  subst hx; subst hy
  have l1 := gw.le hw
  unfold w_X1_beginnings
  refine ⟨b2i_R _, ?_⟩
  unfold begins at k
  cases b
  · refine if_yes rfl (gw.many hw ?_)
    rw [if_neg (by decide)] at k
    rw [show ((U w).length : Int) - (l : Int) + 1 = (((U w).length - l + 1 : Nat) : Int) by omega]
    exact k
  · refine if_no (by decide) (gw.many hw ⟨gR_of (by omega) (by omega), ?_⟩)
    rw [if_pos rfl] at k
    rw [show max ((U w).length : Int) 1 = ((max (U w).length 1 : Nat) : Int) by omega]
    exact k
theorem begins_le {n l i : Nat} {b : Bool} (hl : l ≤ n) (hi : i < begins n l b) : i ≤ n ∧ (l = 0 ∨ (i < n ∧ l ≤ n)) := by
  unfold begins at hi
  split at hi <;> omega
theorem s_kinds_L (gw : gW A h U) (hw : w < 11) {l : Nat} {b : Bool} (hl : l ≤ (U w).length) {Q : Int → gaH → Prop} (k : ∀ r : Nat, r ≤ 65 → Q (r : Int) h) : ∀ (n i c : Nat), i ≤ begins (U w).length l b → begins (U w).length l b - i < n → c ≤ i → w_X1_kindsOf_L13 Q n (A w) (l : Int) (c : Int) (begins (U w).length l b : Int) (i : Int) h
  | 0, i, _, _, h1, _ => absurd h1 (Nat.not_lt_zero _)
  | n + 1, i, c, hi, h1, hc => by
    have l1 := gw.le hw
    have hb : begins (U w).length l b ≤ 65 := by unfold begins; split <;> omega
    unfold w_X1_kindsOf_L13
    refine ⟨gR_of (by omega) (by omega), gR_of (by omega) (by omega), ?_⟩
    by_cases q : begins (U w).length l b ≤ i
    · exact if_yes (by omega) (k c (by omega))
    · have e := begins_le hl (show i < begins (U w).length l b by omega)
      have e1 : (i : Int) + 1 = ((i + 1 : Nat) : Int) := by omega
      refine if_no (by omega) (s_readEarlier (a := i) (l := l) gw hw rfl rfl e.2 (by omega) (by omega) ⟨gR_of (by decide) (by decide), if_yes rfl ?_⟩ ⟨gR_of (by decide) (by decide), if_no (by decide) ?_⟩)
      · rw [e1, show (c : Int) + 1 = ((c + 1 : Nat) : Int) by omega]
        exact s_kinds_L gw hw hl k n (i + 1) (c + 1) (by omega) (by omega) (by omega)
      · rw [e1]
        exact s_kinds_L gw hw hl k n (i + 1) c (by omega) (by omega) (by omega)
theorem s_kindsOf (gw : gW A h U) (hw : w < 11) {x y : Int} {l : Nat} {b : Bool} (hx : x = (l : Int)) (hy : y = b2i b) (hl : l ≤ (U w).length) {Q : Int → gaH → Prop} (k : ∀ r : Nat, r ≤ 65 → Q (r : Int) h) : w_X1_kindsOf (A w) x y h Q := by
  subst hx
  unfold w_X1_kindsOf
  exact s_beginnings (b := b) gw hw rfl hy hl ⟨begins (U w).length l b + 1, s_kinds_L gw hw hl k _ 0 0 (Nat.zero_le _) (by omega) (Nat.le_refl _)⟩
theorem s_mirrors_L2 (gw : gW A h U) (hw : w < 11) {a : Nat} (ha : a < (U w).length) {Q : Int → gaH → Prop} {K : Nat → Int → Int → gaH → Prop} {B : Nat} (hB : B ≤ 100000) (k : ∀ r : Nat, r ≤ B + 65 → K (A w) (r : Int) ((a : Int) + 1) h) : ∀ (n i c : Nat), 1 ≤ i → i ≤ (U w).length - a + 1 → (U w).length - a + 1 - i < n → c ≤ B + i → w_X1_mirrorsOf_L14 Q K n (A w) (c : Int) (a : Int) (i : Int) h
  | 0, i, _, _, _, h1, _ => absurd h1 (Nat.not_lt_zero _)
  | n + 1, i, c, h0, hi, h1, hc => by
    have l1 := gw.le hw
    unfold w_X1_mirrorsOf_L14
    refine gw.many hw ⟨gR_of (by omega) (by omega), gR_of (by omega) (by omega), ?_⟩
    have e1 : (i : Int) + 1 = ((i + 1 : Nat) : Int) := by omega
    by_cases q : (U w).length - a < i
    · exact if_yes (by omega) (k c (by omega))
    · have no : w_X1_mirrorsOf_L14 Q K n (A w) (c : Int) (a : Int) ((i : Int) + 1) h := by
        rw [e1]
        exact s_mirrors_L2 gw hw ha hB k n (i + 1) c (by omega) (by omega) (by omega) (by omega)
      refine if_no (by omega) (s_isMir (a := a) (l := i) gw hw rfl rfl (by omega) ⟨gR_of (by decide) (by decide), if_yes rfl no⟩ ⟨gR_of (by decide) (by decide), if_no (by decide) (s_readEarlier (a := a) (l := i) gw hw rfl rfl (by omega) (by omega) (by omega) ⟨gR_of (by decide) (by decide), if_yes rfl ?_⟩ ⟨gR_of (by decide) (by decide), if_no (by decide) no⟩)⟩)
      rw [e1, show (c : Int) + 1 = ((c + 1 : Nat) : Int) by omega]
      exact s_mirrors_L2 gw hw ha hB k n (i + 1) (c + 1) (by omega) (by omega) (by omega) (by omega)
theorem s_mirrors_L1 (gw : gW A h U) (hw : w < 11) {Q : Int → gaH → Prop} (k : ∀ r : Nat, r ≤ 10000 → Q (r : Int) h) : ∀ (n i c : Nat), i ≤ 64 → 64 - i < n → c ≤ i * 66 → w_X1_mirrorsOf_L4 Q n (A w) (c : Int) (i : Int) h
  | 0, i, _, _, h1, _ => absurd h1 (Nat.not_lt_zero _)
  | n + 1, i, c, hi, h1, hc => by
    have l1 := gw.le hw
    unfold w_X1_mirrorsOf_L4
    refine gw.many hw ⟨gR_of (by omega) (by omega), gR_of (by omega) (by omega), ?_⟩
    by_cases q : (U w).length ≤ i
    · exact if_yes (by omega) (k c (by omega))
    · refine if_no (by omega) ⟨66, s_mirrors_L2 (a := i) (B := c) gw hw (by omega) (by omega) (fun r hr => ?_) _ 1 c (Nat.le_refl _) (by omega) (by omega) (by omega)⟩
      rw [show (i : Int) + 1 = ((i + 1 : Nat) : Int) by omega]
      exact s_mirrors_L1 gw hw k n (i + 1) r (by omega) (by omega) (by omega)
theorem s_mirrorsOf (gw : gW A h U) (hw : w < 11) {Q : Int → gaH → Prop} (k : ∀ r : Nat, r ≤ 10000 → Q (r : Int) h) : w_X1_mirrorsOf (A w) h Q :=
  ⟨65, s_mirrors_L1 gw hw k _ 0 0 (by decide) (by decide) (by decide)⟩
theorem s_upsInPart_L (gw : gW A h U) (hw : w < 11) {a l : Nat} (hal : l = 0 ∨ (a < (U w).length ∧ l ≤ (U w).length)) (ha : a ≤ 64) (hl : l ≤ 64) {Q : Int → gaH → Prop} (k : ∀ r : Nat, r ≤ l → Q (r : Int) h) : ∀ (n i c : Nat), i ≤ l → l - i < n → c ≤ i → w_X1_upsInPart_L5 Q n (A w) (a : Int) (l : Int) (c : Int) ((a : Int) + (i : Int)) h
  | 0, i, _, _, h1, _ => absurd h1 (Nat.not_lt_zero _)
  | n + 1, i, c, hi, h1, hc => by
    have l1 := gw.le hw
    unfold w_X1_upsInPart_L5
    refine ⟨gR_of (by omega) (by omega), gR_of (by omega) (by omega), ?_⟩
    by_cases q : l ≤ i
    · exact if_yes (by omega) (k c (by omega))
    · have e1 : (a : Int) + (i : Int) + 1 = (a : Int) + ((i + 1 : Nat) : Int) := by omega
      refine if_no (by omega) (s_onRing (p := a + i) gw hw (by omega) (by omega) ⟨b2i_R _, ?_⟩)
      generalize (U w).getD (if a + i < (U w).length then a + i else a + i - (U w).length) false = y
      cases y
      · refine if_yes rfl ?_
        rw [e1]
        exact s_upsInPart_L gw hw hal ha hl k n (i + 1) c (by omega) (by omega) (by omega)
      · refine if_no (by decide) ?_
        rw [e1, show (c : Int) + 1 = ((c + 1 : Nat) : Int) by omega]
        exact s_upsInPart_L gw hw hal ha hl k n (i + 1) (c + 1) (by omega) (by omega) (by omega)
theorem s_upsInPart (gw : gW A h U) (hw : w < 11) {x y : Int} {a l : Nat} (hx : x = (a : Int)) (hy : y = (l : Int)) (hal : l = 0 ∨ (a < (U w).length ∧ l ≤ (U w).length)) (ha : a ≤ 64) (hl : l ≤ 64) {Q : Int → gaH → Prop} (k : ∀ r : Nat, r ≤ l → Q (r : Int) h) : w_X1_upsInPart (A w) x y h Q := by
  subst hx; subst hy
  refine ⟨l + 1, ?_⟩
  have := s_upsInPart_L gw hw hal ha hl k (l + 1) 0 0 (Nat.zero_le _) (by omega) (Nat.le_refl _)
  rw [show (a : Int) + ((0 : Nat) : Int) = (a : Int) by omega] at this
  exact this
theorem s_spread_L (gw : gW A h U) (hw : w < 11) {l : Nat} {b : Bool} (hl : l ≤ (U w).length) {Q : Int → gaH → Prop} (k : ∀ r : Int, -64 ≤ r → r ≤ 64 → Q r h) : ∀ (n i c d : Nat), i ≤ begins (U w).length l b → begins (U w).length l b - i < n → c ≤ 64 → d ≤ 64 → w_X1_spreadOf_L16 Q n (A w) (l : Int) (c : Int) (d : Int) (begins (U w).length l b : Int) (i : Int) h
  | 0, i, _, _, _, h1, _, _ => absurd h1 (Nat.not_lt_zero _)
  | n + 1, i, c, d, hi, h1, hc, hd => by
    have l1 := gw.le hw
    have hb : begins (U w).length l b ≤ 65 := by unfold begins; split <;> omega
    unfold w_X1_spreadOf_L16
    refine ⟨gR_of (by omega) (by omega), gR_of (by omega) (by omega), ?_⟩
    by_cases q : begins (U w).length l b ≤ i
    · exact if_yes (by omega) (k _ (by omega) (by omega))
    · have e := begins_le hl (show i < begins (U w).length l b by omega)
      refine if_no (by omega) (s_upsInPart (a := i) (l := l) gw hw rfl rfl e.2 (by omega) (by omega) (fun r hr => ⟨gR_of (by omega) (by omega), gR_of (by omega) (by omega), gR_of (by omega) (by omega), gR_of (by omega) (by omega), ?_⟩))
      rw [show (i : Int) + 1 = ((i + 1 : Nat) : Int) by omega, show max (c : Int) (r : Int) = ((max c r : Nat) : Int) by omega, show min (d : Int) (r : Int) = ((min d r : Nat) : Int) by omega]
      exact s_spread_L gw hw hl k n (i + 1) (max c r) (min d r) (by omega) (by omega) (by omega) (by omega)
theorem s_spreadOf (gw : gW A h U) (hw : w < 11) {x y : Int} {l : Nat} {b : Bool} (hx : x = (l : Int)) (hy : y = b2i b) (hl : l ≤ (U w).length) {Q : Int → gaH → Prop} (k : ∀ r : Int, -64 ≤ r → r ≤ 64 → Q r h) : w_X1_spreadOf (A w) x y h Q := by
  subst hx
  have l1 := gw.le hw
  unfold w_X1_spreadOf
  exact s_beginnings (b := b) gw hw rfl hy hl ⟨begins (U w).length l b + 1, s_spread_L gw hw hl k _ 0 0 l (Nat.zero_le _) (by omega) (by decide) (by omega)⟩
end PQ
