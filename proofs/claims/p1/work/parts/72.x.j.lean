/-! What is read from words, to the last: what the readings are. -/
def sm (f : Nat → Nat) : Nat → Nat
  | 0 => 0
  | n + 1 => sm f n + f n
theorem sm_le {f : Nat → Nat} {b : Nat} (h : ∀ i, f i ≤ b) : ∀ n, sm f n ≤ n * b
  | 0 => by simp [sm]
  | n + 1 => by
    have := sm_le h n
    have := h n
    rw [Nat.succ_mul]
    show sm f n + f n ≤ _
    omega
theorem sm_congr {f g : Nat → Nat} : ∀ n, (∀ i, i < n → f i = g i) → sm f n = sm g n
  | 0, _ => rfl
  | n + 1, h => by
    show sm f n + f n = sm g n + g n
    rw [sm_congr n (fun i hi => h i (by omega)), h n (by omega)]
theorem sm_add (f g : Nat → Nat) : ∀ n, sm (fun i => f i + g i) n = sm f n + sm g n
  | 0 => rfl
  | n + 1 => by
    show sm (fun i => f i + g i) n + (f n + g n) = (sm f n + f n) + (sm g n + g n)
    rw [sm_add f g n]; omega
theorem sm_tail {f : Nat → Nat} (a : Nat) : ∀ n, a ≤ n → (∀ i, a ≤ i → f i = 0) → sm f n = sm f a
  | 0, h, _ => by rw [show a = 0 by omega]
  | n + 1, h, z => by
    by_cases q : a = n + 1
    · rw [q]
    · show sm f n + f n = _
      rw [sm_tail a n (by omega) z, z n (by omega)]; rfl
theorem sm_nil : ∀ n, sm (fun _ => 0) n = 0
  | 0 => rfl
  | n + 1 => by
    show sm (fun _ => 0) n + 0 = 0
    rw [sm_nil n]
theorem sm_swap (f : Nat → Nat → Nat) (n : Nat) : ∀ m, sm (fun i => sm (f i) n) m = sm (fun j => sm (fun i => f i j) m) n
  | 0 => (sm_nil n).symm
  | m + 1 => by
    show sm (fun i => sm (f i) n) m + sm (f m) n = sm (fun j => sm (fun i => f i j) m + f m j) n
    rw [sm_add, sm_swap f n m]
def b2n (b : Bool) : Nat := if b = true then 1 else 0
theorem b2n_le (b : Bool) : b2n b ≤ 1 := by cases b <;> decide
theorem b2n_b2i (b : Bool) : ((b2n b : Nat) : Int) = b2i b := by cases b <;> rfl
theorem smb_le (P : Nat → Bool) (n : Nat) : sm (fun i => b2n (P i)) n ≤ n := by
  have := sm_le (f := fun i => b2n (P i)) (b := 1) (fun i => b2n_le _) n
  omega
theorem smb_yes {P : Nat → Bool} {n : Nat} (h : P n = true) : sm (fun i => b2n (P i)) (n + 1) = sm (fun i => b2n (P i)) n + 1 := by
  show _ + b2n (P n) = _
  rw [h]; rfl
theorem smb_no {P : Nat → Bool} {n : Nat} (h : P n = false) : sm (fun i => b2n (P i)) (n + 1) = sm (fun i => b2n (P i)) n := by
  show _ + b2n (P n) = _
  rw [h]; rfl
def mxf (f : Nat → Nat) : Nat → Nat
  | 0 => 0
  | n + 1 => max (mxf f n) (f n)
def mnf (f : Nat → Nat) (l : Nat) : Nat → Nat
  | 0 => l
  | n + 1 => min (mnf f l n) (f n)
theorem mxf_le {f : Nat → Nat} {b : Nat} (h : ∀ i, f i ≤ b) : ∀ n, mxf f n ≤ b
  | 0 => Nat.zero_le _
  | n + 1 => by
    have := mxf_le h n
    have := h n
    show max _ _ ≤ b
    omega
theorem mnf_le {f : Nat → Nat} {l : Nat} : ∀ n, mnf f l n ≤ l
  | 0 => Nat.le_refl _
  | n + 1 => by
    have := mnf_le (f := f) (l := l) n
    show min _ _ ≤ l
    omega
/-- the sign at a place of the ring -/
def rg (u : List Bool) (p : Nat) : Bool := u.getD (p % u.length) false
theorem rg_lt {u : List Bool} {p : Nat} (h : p < u.length) : rg u p = u.getD p false := by unfold rg; rw [Nat.mod_eq_of_lt h]
abbrev lk (u : List Bool) (a b l : Nat) : Bool := decide (∀ t, t < l → rg u (a + t) = rg u (b + t))
abbrev mir (u : List Bool) (a l : Nat) : Bool := decide (∀ t, t < l → u.getD (a + t) false = u.getD (a + l - 1 - t) false)
abbrev ovl (u : List Bool) (a p : Nat) : Bool := decide (∀ t, t < p + 1 → u.getD (a + t) false = u.getD (a + p + t) false)
/-- whether a part is read earlier, ahead of a place -/
def er (u : List Bool) (a l : Nat) : Nat → Bool
  | 0 => false
  | e + 1 => er u a l e || lk u e a l
theorem er_up {u : List Bool} {a l : Nat} {i : Nat} (h : er u a l i = true) : ∀ m, i ≤ m → er u a l m = true
  | 0, hm => by rw [← h, show i = 0 by omega]
  | m + 1, hm => by
    by_cases q : i = m + 1
    · rw [← q]; exact h
    · show (er u a l m || lk u m a l) = true
      rw [er_up h m (by omega)]; rfl
theorem er_yes {u : List Bool} {a l i : Nat} (h : lk u i a l = true) : er u a l (i + 1) = true := by
  show (er u a l i || lk u i a l) = true
  rw [h, Bool.or_true]
theorem er_no {u : List Bool} {a l i : Nat} (h0 : er u a l i = false) (h : lk u i a l = false) : er u a l (i + 1) = false := by
  show (er u a l i || lk u i a l) = false
  rw [h0, h]; rfl
/-- two ring parts in order: the first place at which they differ says it -/
def rO (u : List Bool) (a b : Nat) : Nat → Nat → Int
  | 0, _ => 0
  | k + 1, i => if rg u (a + i) = rg u (b + i) then rO u a b k (i + 1) else if rg u (a + i) = true then 1 else -1
theorem rO_R (u : List Bool) (a b : Nat) : ∀ k i, gR (rO u a b k i)
  | 0, _ => (by decide : gR 0)
  | k + 1, i => by
    unfold rO
    split
    · exact rO_R u a b k (i + 1)
    · split <;> decide
theorem rO_zero (u : List Bool) (a b : Nat) : ∀ k i, rO u a b k i = 0 ↔ ∀ t, t < k → rg u (a + (i + t)) = rg u (b + (i + t))
  | 0, i => ⟨fun _ t h => absurd h (Nat.not_lt_zero _), fun _ => rfl⟩
  | k + 1, i => by
    unfold rO
    by_cases q : rg u (a + i) = rg u (b + i)
    · rw [if_pos q, rO_zero u a b k (i + 1)]
      constructor
      · intro h t ht
        cases t with
        | zero => exact q
        | succ t =>
          have := h t (by omega)
          rw [show i + 1 + t = i + (t + 1) by omega] at this
          exact this
      · intro h t ht
        have := h (t + 1) (by omega)
        rw [show i + (t + 1) = i + 1 + t by omega] at this
        exact this
    · rw [if_neg q]
      constructor
      · intro h
        split at h <;> cases h
      · intro h
        exact absurd (h 0 (by omega)) q
theorem rO_lk (u : List Bool) (a b l : Nat) : (rO u a b l 0 = 0) = (lk u a b l = true) := by
  rw [rO_zero, decide_eq_true_eq]
  simp only [Nat.zero_add]
/-- where the least turn of the ring begins, of those looked at -/
def lst (u : List Bool) : Nat → Nat
  | 0 => 0
  | 1 => 0
  | k + 2 => if rO u (k + 1) (lst u (k + 1)) u.length 0 < 0 then k + 1 else lst u (k + 1)
theorem lst_lt (u : List Bool) : ∀ k, 1 ≤ k → lst u k < k
  | 0, h => by omega
  | 1, _ => Nat.zero_lt_one
  | k + 2, _ => by
    have := lst_lt u (k + 1) (by omega)
    unfold lst
    split <;> omega
theorem lst_step {u : List Bool} {i : Nat} (h : 1 ≤ i) : lst u (i + 1) = if rO u i (lst u i) u.length 0 < 0 then i else lst u i := by
  obtain ⟨k, rfl⟩ : ∃ k, i = k + 1 := ⟨i - 1, by omega⟩
  rfl
/-- the first place, up from one, at which a part stands -/
def fndU (u v : List Bool) : Nat → Nat → Int
  | 0, _ => -1
  | k + 1, i => if stands u v i = true then (i : Int) else fndU u v k (i + 1)
def fndD (u v : List Bool) : Nat → Int
  | 0 => -1
  | i + 1 => if stands u v i = true then (i : Int) else fndD u v i
section PX
variable {A : Nat → Nat} {h : gaH} {U : Nat → List Bool} {w v g : Nat}
theorem x_isMir_L (gw : gW A h U) (hw : w < 11) {a l : Nat} (hal : a + l ≤ (U w).length) {Q : Int → gaH → Prop} (k : Q (b2i (mir (U w) a l)) h) : ∀ (n i : Nat), i ≤ l / 2 → l / 2 - i < n → (∀ t, t < i → (U w).getD (a + t) false = (U w).getD (a + l - 1 - t) false) → w_X1_isMirroredPart_L2 Q n (A w) (a : Int) (l : Int) (i : Int) h
  | 0, i, _, h1, _ => absurd h1 (Nat.not_lt_zero _)
  | n + 1, i, hi, h1, inv => by
    have l1 := gw.le hw
    unfold w_X1_isMirroredPart_L2
    rw [half_nat l (by omega)]
    refine ⟨gR_of (by omega) (by omega), gR_of (by omega) (by omega), ?_⟩
    by_cases q : l / 2 ≤ i
    · refine if_yes (by omega) ?_
      have e : mir (U w) a l = true := decide_eq_true (fun t ht => by
        by_cases z : t < l / 2
        · exact inv t (by omega)
        · by_cases y : l - 1 - t < l / 2
          · have := inv (l - 1 - t) (by omega)
            rw [show a + l - 1 - (l - 1 - t) = a + t by omega, show a + (l - 1 - t) = a + l - 1 - t by omega] at this
            exact this.symm
          · rw [show a + l - 1 - t = a + t by omega])
      rw [e] at k; exact k
    · refine if_no (by omega) ⟨gw.has hw, s_isUp (i := a + i) gw hw (by omega) (by omega) ⟨gw.has hw, s_isUp (i := a + l - 1 - i) gw hw (by omega) (by omega) ⟨b2i_R _, b2i_R _, ?_⟩⟩⟩
      by_cases z : (U w).getD (a + i) false = (U w).getD (a + l - 1 - i) false
      · refine if_yes (congrArg b2i z) ?_
        rw [show (i : Int) + 1 = ((i + 1 : Nat) : Int) by omega]
        refine x_isMir_L gw hw hal k n (i + 1) (by omega) (by omega) (fun t ht => ?_)
        by_cases y : t = i
        · rw [y]; exact z
        · exact inv t (by omega)
      · have e : mir (U w) a l = false := decide_eq_false (fun y => z (y i (by omega)))
        rw [e] at k
        exact if_no (fun y => z ((b2i_eq _ _).mp y)) k
theorem x_isMir (gw : gW A h U) (hw : w < 11) {x y : Int} {a l : Nat} (hx : x = (a : Int)) (hy : y = (l : Int)) (hal : a + l ≤ (U w).length) {Q : Int → gaH → Prop} (k : Q (b2i (mir (U w) a l)) h) : w_X1_isMirroredPart (A w) x y h Q := by
  subst hx; subst hy
  exact ⟨l / 2 + 1, x_isMir_L gw hw hal k _ 0 (Nat.zero_le _) (by omega) (fun t ht => absurd ht (Nat.not_lt_zero _))⟩
theorem x_onRing (gw : gW A h U) (hw : w < 11) {x : Int} {p : Nat} (hx : x = (p : Int)) (hp : p < 2 * (U w).length) {Q : Int → gaH → Prop} (k : Q (b2i (rg (U w) p)) h) : w_X1_isUpOnRing (A w) x h Q := by
  refine s_onRing gw hw hx hp ?_
  have e : (if p < (U w).length then p else p - (U w).length) = p % (U w).length := by
    by_cases q : p < (U w).length
    · rw [if_pos q, Nat.mod_eq_of_lt q]
    · rw [if_neg q, Nat.mod_eq_sub_mod (by omega), Nat.mod_eq_of_lt (by omega)]
  rw [e]; exact k
theorem x_ringOrder_L (gw : gW A h U) (hw : w < 11) {a b l : Nat} (hab : l = 0 ∨ (a < (U w).length ∧ b < (U w).length ∧ l ≤ (U w).length)) (hl : l ≤ 64) {Q : Int → gaH → Prop} : ∀ (n i m : Nat), i + m = l → m < n → Q (rO (U w) a b m i) h → w_X1_ringOrder_L3 Q n (A w) (a : Int) (b : Int) (l : Int) (i : Int) h
  | 0, i, _, _, h1, _ => absurd h1 (Nat.not_lt_zero _)
  | n + 1, i, 0, hi, h1, k => by
    have l1 := gw.le hw
    unfold w_X1_ringOrder_L3
    exact ⟨gR_of (by omega) (by omega), gR_of (by omega) (by omega), if_yes (by omega) k⟩
  | n + 1, i, m + 1, hi, h1, k => by
    have l1 := gw.le hw
    unfold w_X1_ringOrder_L3
    refine ⟨gR_of (by omega) (by omega), gR_of (by omega) (by omega), ?_⟩
    refine if_no (by omega) (x_onRing (p := a + i) gw hw (by omega) (by omega) (x_onRing (p := b + i) gw hw (by omega) (by omega) ⟨b2i_R _, b2i_R _, ?_⟩))
    unfold rO at k
    by_cases e : rg (U w) (a + i) = rg (U w) (b + i)
    · rw [if_pos e] at k
      refine if_yes (congrArg b2i e) ?_
      rw [show (i : Int) + 1 = ((i + 1 : Nat) : Int) by omega]
      exact x_ringOrder_L gw hw hab hl n (i + 1) m (by omega) (by omega) k
    · rw [if_neg e] at k
      refine if_no (fun y => e ((b2i_eq _ _).mp y)) ⟨b2i_R _, ?_⟩
      generalize rg (U w) (a + i) = y at k
      cases y
      · exact if_yes rfl k
      · exact if_no (by decide) k
theorem x_ringOrder (gw : gW A h U) (hw : w < 11) {x y z : Int} {a b l : Nat} (hx : x = (a : Int)) (hy : y = (b : Int)) (hz : z = (l : Int)) (hab : l = 0 ∨ (a < (U w).length ∧ b < (U w).length ∧ l ≤ (U w).length)) (hl : l ≤ 64) {Q : Int → gaH → Prop} (k : Q (rO (U w) a b l 0) h) : w_X1_ringOrder (A w) x y z h Q := by
  subst hx; subst hy; subst hz
  exact ⟨l + 1, x_ringOrder_L gw hw hab hl _ 0 l (by omega) (by omega) k⟩
theorem x_readEarlier_L (gw : gW A h U) (hw : w < 11) {a l : Nat} (hal : l = 0 ∨ (a < (U w).length ∧ l ≤ (U w).length)) (ha : a ≤ 64) (hl : l ≤ 64) {Q : Int → gaH → Prop} (k : Q (b2i (er (U w) a l a)) h) : ∀ (n i : Nat), i ≤ a → a - i < n → er (U w) a l i = false → w_X1_isReadEarlier_L2 Q n (A w) (a : Int) (l : Int) (i : Int) h
  | 0, i, _, h1, _ => absurd h1 (Nat.not_lt_zero _)
  | n + 1, i, hi, h1, inv => by
    unfold w_X1_isReadEarlier_L2
    refine ⟨gR_of (by omega) (by omega), gR_of (by omega) (by omega), ?_⟩
    by_cases q : a ≤ i
    · obtain rfl : i = a := by omega
      rw [inv] at k
      exact if_yes (by omega) k
    · refine if_no (by omega) (x_ringOrder (a := i) (b := a) (l := l) gw hw rfl rfl rfl (by omega) hl ⟨rO_R _ _ _ _ _, ?_⟩)
      by_cases z : rO (U w) i a l 0 = 0
      · have e := er_up (er_yes ((rO_lk _ _ _ _).mp z)) a (by omega)
        rw [e] at k
        exact if_yes z k
      · refine if_no z ?_
        rw [show (i : Int) + 1 = ((i + 1 : Nat) : Int) by omega]
        refine x_readEarlier_L gw hw hal ha hl k n (i + 1) (by omega) (by omega) (er_no inv ?_)
        rw [rO_lk] at z
        exact Bool.eq_false_iff.mpr z
theorem x_readEarlier (gw : gW A h U) (hw : w < 11) {x y : Int} {a l : Nat} (hx : x = (a : Int)) (hy : y = (l : Int)) (hal : l = 0 ∨ (a < (U w).length ∧ l ≤ (U w).length)) (ha : a ≤ 64) (hl : l ≤ 64) {Q : Int → gaH → Prop} (k : Q (b2i (er (U w) a l a)) h) : w_X1_isReadEarlier (A w) x y h Q := by
  subst hx; subst hy
  exact ⟨a + 1, x_readEarlier_L gw hw hal ha hl k _ 0 (Nat.zero_le _) (by omega) rfl⟩
abbrev kdF (u : List Bool) (l : Nat) : Nat → Nat := fun i => b2n (!er u i l i)
theorem x_kinds_L (gw : gW A h U) (hw : w < 11) {l : Nat} {b : Bool} (hl : l ≤ (U w).length) {Q : Int → gaH → Prop} (k : Q (sm (kdF (U w) l) (begins (U w).length l b) : Int) h) : ∀ (n i c : Nat), i ≤ begins (U w).length l b → begins (U w).length l b - i < n → c = sm (kdF (U w) l) i → w_X1_kindsOf_L13 Q n (A w) (l : Int) (c : Int) (begins (U w).length l b : Int) (i : Int) h
  | 0, i, _, _, h1, _ => absurd h1 (Nat.not_lt_zero _)
  | n + 1, i, c, hi, h1, hc => by
    have l1 := gw.le hw
    have hb : begins (U w).length l b ≤ 65 := by unfold begins; split <;> omega
    unfold w_X1_kindsOf_L13
    refine ⟨gR_of (by omega) (by omega), gR_of (by omega) (by omega), ?_⟩
    by_cases q : begins (U w).length l b ≤ i
    · obtain rfl : i = begins (U w).length l b := by omega
      subst hc
      exact if_yes (by omega) k
    · have e := begins_le hl (show i < begins (U w).length l b by omega)
      have e1 : (i : Int) + 1 = ((i + 1 : Nat) : Int) := by omega
      refine if_no (by omega) (x_readEarlier (a := i) (l := l) gw hw rfl rfl e.2 (by omega) (by omega) ⟨b2i_R _, ?_⟩)
      cases z : er (U w) i l i
      · refine if_yes rfl ?_
        rw [e1, show (c : Int) + 1 = ((c + 1 : Nat) : Int) by omega]
        refine x_kinds_L gw hw hl k n (i + 1) (c + 1) (by omega) (by omega) ?_
        rw [hc]; exact (smb_yes (P := fun i => !er (U w) i l i) (by show (!er (U w) i l i) = true; rw [z]; rfl)).symm
      · refine if_no (by decide) ?_
        rw [e1]
        refine x_kinds_L gw hw hl k n (i + 1) c (by omega) (by omega) ?_
        rw [hc]; exact (smb_no (P := fun i => !er (U w) i l i) (by show (!er (U w) i l i) = false; rw [z]; rfl)).symm
theorem x_kindsOf (gw : gW A h U) (hw : w < 11) {x y : Int} {l : Nat} {b : Bool} (hx : x = (l : Int)) (hy : y = b2i b) (hl : l ≤ (U w).length) {Q : Int → gaH → Prop} (k : Q (sm (kdF (U w) l) (begins (U w).length l b) : Int) h) : w_X1_kindsOf (A w) x y h Q := by
  subst hx
  unfold w_X1_kindsOf
  exact s_beginnings (b := b) gw hw rfl hy hl ⟨begins (U w).length l b + 1, x_kinds_L gw hw hl k _ 0 0 (Nat.zero_le _) (by omega) rfl⟩
abbrev flF (u : List Bool) : Nat → Nat := fun p => b2n (mir u 0 p && mir u p (u.length - p))
theorem x_folds_L (gw : gW A h U) (hw : w < 11) {Q : Int → gaH → Prop} (k : Q (sm (flF (U w)) (U w).length : Int) h) : ∀ (n i c : Nat), i ≤ (U w).length → (U w).length - i < n → c = sm (flF (U w)) i → w_X1_foldsOf_L4 Q n (A w) (c : Int) (i : Int) h
  | 0, i, _, _, h1, _ => absurd h1 (Nat.not_lt_zero _)
  | n + 1, i, c, hi, h1, hc => by
    have l1 := gw.le hw
    unfold w_X1_foldsOf_L4
    refine gw.many hw ⟨gR_of (by omega) (by omega), gR_of (by omega) (by omega), ?_⟩
    have e1 : (i : Int) + 1 = ((i + 1 : Nat) : Int) := by omega
    by_cases q : (U w).length ≤ i
    · obtain rfl : i = (U w).length := by omega
      subst hc
      exact if_yes (by omega) k
    · have no : (mir (U w) 0 i && mir (U w) i ((U w).length - i)) = false → w_X1_foldsOf_L4 Q n (A w) (c : Int) ((i : Int) + 1) h := fun z => by
        rw [e1]
        refine x_folds_L gw hw k n (i + 1) c (by omega) (by omega) ?_
        rw [hc]; exact (smb_no (P := fun p => mir (U w) 0 p && mir (U w) p ((U w).length - p)) z).symm
      refine if_no (by omega) (x_isMir (a := 0) (l := i) gw hw rfl rfl (by omega) ⟨b2i_R _, ?_⟩)
      generalize hy : mir (U w) 0 i = y at no
      cases y
      · exact if_yes rfl (no rfl)
      · refine if_no (by decide) (gw.many hw (x_isMir (a := i) (l := (U w).length - i) gw hw rfl (by omega) (by omega) ⟨b2i_R _, ?_⟩))
        generalize hz : mir (U w) i ((U w).length - i) = z at no
        cases z
        · exact if_yes rfl (no rfl)
        · refine if_no (by decide) ?_
          rw [e1, show (c : Int) + 1 = ((c + 1 : Nat) : Int) by omega]
          refine x_folds_L gw hw k n (i + 1) (c + 1) (by omega) (by omega) ?_
          rw [hc]; exact (smb_yes (P := fun p => mir (U w) 0 p && mir (U w) p ((U w).length - p)) (by show (mir (U w) 0 i && mir (U w) i ((U w).length - i)) = true; rw [hy, hz]; rfl)).symm
theorem x_foldsOf (gw : gW A h U) (hw : w < 11) {Q : Int → gaH → Prop} (k : Q (sm (flF (U w)) (U w).length : Int) h) : w_X1_foldsOf (A w) h Q :=
  ⟨(U w).length + 1, x_folds_L gw hw k _ 0 0 (Nat.zero_le _) (by omega) rfl⟩
theorem x_least_L (gw : gW A h U) (hw : w < 11) {Q : Int → gaH → Prop} (k : Q (lst (U w) (U w).length : Int) h) : ∀ (n i : Nat), 1 ≤ i → i ≤ (U w).length → (U w).length - i < n → w_X1_leastOf_L4 Q n (A w) (lst (U w) i : Int) (i : Int) h
  | 0, i, _, _, h1 => absurd h1 (Nat.not_lt_zero _)
  | n + 1, i, h0, hi, h1 => by
    have l1 := gw.le hw
    have l2 := lst_lt (U w) i h0
    unfold w_X1_leastOf_L4
    refine gw.many hw ⟨gR_of (by omega) (by omega), gR_of (by omega) (by omega), ?_⟩
    have e1 : (i : Int) + 1 = ((i + 1 : Nat) : Int) := by omega
    by_cases q : (U w).length ≤ i
    · obtain rfl : i = (U w).length := by omega
      exact if_yes (by omega) k
    · refine if_no (by omega) (gw.many hw (x_ringOrder (a := i) (b := lst (U w) i) (l := (U w).length) gw hw rfl rfl rfl (by omega) (by omega) ⟨rO_R _ _ _ _ _, ?_⟩))
      have ih := x_least_L gw hw k n (i + 1) (by omega) (by omega) (by omega)
      rw [lst_step h0] at ih
      rw [e1]
      by_cases z : rO (U w) i (lst (U w) i) (U w).length 0 < 0
      · rw [if_pos z] at ih
        exact if_no (by omega) ih
      · rw [if_neg z] at ih
        exact if_yes (by omega) ih
theorem x_leastOf (gw : gW A h U) (hw : w < 11) {Q : Int → gaH → Prop} (k : Q (lst (U w) (U w).length : Int) h) : w_X1_leastOf (A w) h Q := by
  have l1 := gw.le hw
  by_cases q : (U w).length = 0
  · refine ⟨1, ?_⟩
    rw [q] at k
    unfold w_X1_leastOf_L4
    exact gw.many hw ⟨gR_of (by decide) (by decide), gR_of (by omega) (by omega), if_yes (by omega) k⟩
  · exact ⟨(U w).length + 1, x_least_L gw hw k _ 1 (Nat.le_refl _) (by omega) (by omega)⟩
abbrev mrF (u : List Bool) (a l : Nat) : Nat := b2n (decide (1 ≤ l ∧ a + l ≤ u.length) && (mir u a l && !er u a l a))
theorem mrF_0 {u : List Bool} {a l : Nat} (h : ¬ (1 ≤ l ∧ a + l ≤ u.length)) : mrF u a l = 0 := by
  show b2n (decide _ && _) = 0
  rw [decide_eq_false h]; rfl
theorem x_mirrors_L2 (gw : gW A h U) (hw : w < 11) {a : Nat} (ha : a < (U w).length) {Q : Int → gaH → Prop} {K : Nat → Int → Int → gaH → Prop} {B : Nat} (hB : B ≤ 100000) (k : K (A w) ((B + sm (mrF (U w) a) 66 : Nat) : Int) ((a : Int) + 1) h) : ∀ (n i c : Nat), 1 ≤ i → i ≤ (U w).length - a + 1 → (U w).length - a + 1 - i < n → c = B + sm (mrF (U w) a) i → w_X1_mirrorsOf_L14 Q K n (A w) (c : Int) (a : Int) (i : Int) h
  | 0, i, _, _, _, h1, _ => absurd h1 (Nat.not_lt_zero _)
  | n + 1, i, c, h0, hi, h1, hc => by
    have l1 := gw.le hw
    unfold w_X1_mirrorsOf_L14
    refine gw.many hw ⟨gR_of (by omega) (by omega), gR_of (by omega) (by omega), ?_⟩
    have e1 : (i : Int) + 1 = ((i + 1 : Nat) : Int) := by omega
    by_cases q : (U w).length - a < i
    · refine if_yes (by omega) ?_
      rw [sm_tail i 66 (by omega) (fun j hj => mrF_0 (by omega)), ← hc] at k
      exact k
    · have di : decide (1 ≤ i ∧ a + i ≤ (U w).length) = true := decide_eq_true (by omega)
      have no : (mir (U w) a i && !er (U w) a i a) = false → w_X1_mirrorsOf_L14 Q K n (A w) (c : Int) (a : Int) ((i : Int) + 1) h := fun z => by
        rw [e1]
        refine x_mirrors_L2 gw hw ha hB k n (i + 1) c (by omega) (by omega) (by omega) ?_
        show c = B + (sm (mrF (U w) a) i + b2n (decide (1 ≤ i ∧ a + i ≤ (U w).length) && (mir (U w) a i && !er (U w) a i a)))
        rw [z, di, hc]; rfl
      refine if_no (by omega) (x_isMir (a := a) (l := i) gw hw rfl rfl (by omega) ⟨b2i_R _, ?_⟩)
      generalize hy : mir (U w) a i = y at no
      cases y
      · exact if_yes rfl (no rfl)
      · refine if_no (by decide) (x_readEarlier (a := a) (l := i) gw hw rfl rfl (by omega) (by omega) (by omega) ⟨b2i_R _, ?_⟩)
        generalize hz : er (U w) a i a = z at no
        cases z
        · refine if_yes rfl ?_
          rw [e1, show (c : Int) + 1 = ((c + 1 : Nat) : Int) by omega]
          refine x_mirrors_L2 gw hw ha hB k n (i + 1) (c + 1) (by omega) (by omega) (by omega) ?_
          show c + 1 = B + (sm (mrF (U w) a) i + b2n (decide (1 ≤ i ∧ a + i ≤ (U w).length) && (mir (U w) a i && !er (U w) a i a)))
          rw [hy, hz, di, hc]; rfl
        · exact if_no (by decide) (no rfl)
theorem x_mirrors_L1 (gw : gW A h U) (hw : w < 11) {Q : Int → gaH → Prop} (k : Q (sm (fun a => sm (mrF (U w) a) 66) (U w).length : Int) h) : ∀ (n i c : Nat), i ≤ (U w).length → (U w).length - i < n → c = sm (fun a => sm (mrF (U w) a) 66) i → w_X1_mirrorsOf_L4 Q n (A w) (c : Int) (i : Int) h
  | 0, i, _, _, h1, _ => absurd h1 (Nat.not_lt_zero _)
  | n + 1, i, c, hi, h1, hc => by
    have l1 := gw.le hw
    have b1 := sm_le (f := fun a => sm (mrF (U w) a) 66) (b := 66) (fun a => by
      have := sm_le (f := mrF (U w) a) (b := 1) (fun l => b2n_le _) 66
      omega) i
    unfold w_X1_mirrorsOf_L4
    refine gw.many hw ⟨gR_of (by omega) (by omega), gR_of (by omega) (by omega), ?_⟩
    by_cases q : (U w).length ≤ i
    · obtain rfl : i = (U w).length := by omega
      subst hc
      exact if_yes (by omega) k
    · refine if_no (by omega) ⟨66, x_mirrors_L2 (a := i) (B := c) gw hw (by omega) (by omega) ?_ _ 1 c (Nat.le_refl _) (by omega) (by omega) ?_⟩
      · rw [show (i : Int) + 1 = ((i + 1 : Nat) : Int) by omega]
        refine x_mirrors_L1 gw hw k n (i + 1) _ (by omega) (by omega) ?_
        rw [hc]; rfl
      · show c = c + (0 + mrF (U w) i 0)
        rw [mrF_0 (by omega)]; rfl
theorem x_mirrorsOf (gw : gW A h U) (hw : w < 11) {Q : Int → gaH → Prop} (k : Q (sm (fun a => sm (mrF (U w) a) 66) (U w).length : Int) h) : w_X1_mirrorsOf (A w) h Q := by
  have l1 := gw.le hw
  exact ⟨66, x_mirrors_L1 gw hw k _ 0 0 (Nat.zero_le _) (by omega) rfl⟩
abbrev ovF (u : List Bool) (p a : Nat) : Nat := b2n (decide (1 ≤ p ∧ a + 2 * p < u.length) && ovl u a p)
theorem ovF_0 {u : List Bool} {p a : Nat} (h : ¬ (1 ≤ p ∧ a + 2 * p < u.length)) : ovF u p a = 0 := by
  show b2n (decide _ && _) = 0
  rw [decide_eq_false h]; rfl
theorem ovS_0 {u : List Bool} {p : Nat} (h : ¬ (1 ≤ p ∧ 2 * p < u.length)) (n : Nat) : sm (ovF u p) n = 0 := by
  rw [sm_congr (g := fun _ => 0) n (fun a _ => ovF_0 (by omega)), sm_nil]
theorem x_isOverlap_L (gw : gW A h U) (hw : w < 11) {a p : Nat} (hap : a + 2 * p < (U w).length) {Q : Int → gaH → Prop} (k : Q (b2i (ovl (U w) a p)) h) : ∀ (n i : Nat), i ≤ p + 1 → p + 1 - i < n → (∀ t, t < i → (U w).getD (a + t) false = (U w).getD (a + p + t) false) → w_X1_isOverlap_L2 Q n (A w) (a : Int) (p : Int) ((a + i : Nat) : Int) h
  | 0, i, _, h1, _ => absurd h1 (Nat.not_lt_zero _)
  | n + 1, i, hi, h1, inv => by
    have l1 := gw.le hw
    unfold w_X1_isOverlap_L2
    refine ⟨gR_of (by omega) (by omega), gR_of (by omega) (by omega), ?_⟩
    by_cases q : p < i
    · have e : ovl (U w) a p = true := decide_eq_true (fun t ht => inv t (by omega))
      rw [e] at k
      exact if_yes (by omega) k
    · refine if_no (by omega) ⟨gw.has hw, s_isUp gw hw rfl (by omega) ⟨gw.has hw, s_isUp (i := a + p + i) gw hw (by omega) (by omega) ⟨b2i_R _, b2i_R _, ?_⟩⟩⟩
      by_cases z : (U w).getD (a + i) false = (U w).getD (a + p + i) false
      · refine if_yes (congrArg b2i z) ?_
        rw [show ((a + i : Nat) : Int) + 1 = ((a + (i + 1) : Nat) : Int) by omega]
        refine x_isOverlap_L gw hw hap k n (i + 1) (by omega) (by omega) (fun t ht => ?_)
        by_cases y : t = i
        · rw [y]; exact z
        · exact inv t (by omega)
      · have e : ovl (U w) a p = false := decide_eq_false (fun y => z (y i (by omega)))
        rw [e] at k
        exact if_no (fun y => z ((b2i_eq _ _).mp y)) k
theorem x_overlaps_L2 (gw : gW A h U) (hw : w < 11) {p : Nat} {Q : Int → gaH → Prop} {K : Nat → Int → Int → gaH → Prop} {B : Nat} (hB : B ≤ 100000) (hp0 : 1 ≤ p) (hp : p ≤ 64) (k : K (A w) ((B + sm (ovF (U w) p) 66 : Nat) : Int) ((p : Int) + 1) h) : ∀ (n i c : Nat), i ≤ (U w).length → (U w).length - i < n → c = B + sm (ovF (U w) p) i → w_X1_overlapsOf_L14 Q K n (A w) (c : Int) (p : Int) (i : Int) h
  | 0, i, _, _, h1, _ => absurd h1 (Nat.not_lt_zero _)
  | n + 1, i, c, hi, h1, hc => by
    have l1 := gw.le hw
    unfold w_X1_overlapsOf_L14
    refine gw.many hw ⟨gR_of (by omega) (by omega), gR_of (by omega) (by omega), ?_⟩
    by_cases q : (U w).length ≤ i + 2 * p
    · refine if_yes (by omega) ?_
      rw [sm_tail i 66 (by omega) (fun j hj => ovF_0 (by omega)), ← hc] at k
      exact k
    · have e1 : (i : Int) + 1 = ((i + 1 : Nat) : Int) := by omega
      have di : decide (1 ≤ p ∧ i + 2 * p < (U w).length) = true := decide_eq_true (by omega)
      refine if_no (by omega) ⟨p + 2, x_isOverlap_L (a := i) (p := p) gw hw (by omega) ⟨b2i_R _, ?_⟩ _ 0 (Nat.zero_le _) (by omega) (fun t ht => absurd ht (Nat.not_lt_zero _))⟩
      cases z : ovl (U w) i p
      · refine if_yes rfl ?_
        rw [e1]
        refine x_overlaps_L2 gw hw hB hp0 hp k n (i + 1) c (by omega) (by omega) ?_
        show c = B + (sm (ovF (U w) p) i + b2n (decide (1 ≤ p ∧ i + 2 * p < (U w).length) && ovl (U w) i p))
        rw [z, di, hc]; rfl
      · refine if_no (by decide) ?_
        rw [e1, show (c : Int) + 1 = ((c + 1 : Nat) : Int) by omega]
        refine x_overlaps_L2 gw hw hB hp0 hp k n (i + 1) (c + 1) (by omega) (by omega) ?_
        show c + 1 = B + (sm (ovF (U w) p) i + b2n (decide (1 ≤ p ∧ i + 2 * p < (U w).length) && ovl (U w) i p))
        rw [z, di, hc]; rfl
theorem x_overlaps_L1 (gw : gW A h U) (hw : w < 11) {Q : Int → gaH → Prop} (k : Q (sm (fun p => sm (ovF (U w) p) 66) 66 : Int) h) : ∀ (n i c : Nat), 1 ≤ i → i ≤ 65 → 65 - i < n → c = sm (fun p => sm (ovF (U w) p) 66) i → w_X1_overlapsOf_L4 Q n (A w) (c : Int) (i : Int) h
  | 0, i, _, _, _, h1, _ => absurd h1 (Nat.not_lt_zero _)
  | n + 1, i, c, h0, hi, h1, hc => by
    have l1 := gw.le hw
    have b1 := sm_le (f := fun p => sm (ovF (U w) p) 66) (b := 66) (fun a => by
      have := sm_le (f := ovF (U w) a) (b := 1) (fun l => b2n_le _) 66
      omega) i
    unfold w_X1_overlapsOf_L4
    refine gw.many hw ⟨gR_of (by omega) (by omega), gR_of (by omega) (by omega), ?_⟩
    by_cases q : (U w).length ≤ i
    · refine if_yes (by omega) ?_
      rw [sm_tail i 66 (by omega) (fun j hj => ovS_0 (by omega) 66), ← hc] at k
      exact k
    · refine if_no (by omega) ⟨(U w).length + 1, x_overlaps_L2 (p := i) (B := c) gw hw (by omega) h0 (by omega) ?_ _ 0 c (Nat.zero_le _) (by omega) rfl⟩
      rw [show (i : Int) + 1 = ((i + 1 : Nat) : Int) by omega]
      refine x_overlaps_L1 gw hw k n (i + 1) _ (by omega) (by omega) (by omega) ?_
      rw [hc]; rfl
theorem x_overlapsOf (gw : gW A h U) (hw : w < 11) {Q : Int → gaH → Prop} (k : Q (sm (fun p => sm (ovF (U w) p) 66) 66 : Int) h) : w_X1_overlapsOf (A w) h Q :=
  ⟨66, x_overlaps_L1 gw hw k _ 1 0 (by decide) (by decide) (by decide) (by show 0 = 0 + sm (ovF (U w) 0) 66; rw [ovS_0 (by omega)])⟩
abbrev upF (u : List Bool) (l a : Nat) : Nat := sm (fun t => b2n (rg u (a + t))) l
theorem upF_le (u : List Bool) (l a : Nat) : upF u l a ≤ l := smb_le (fun t => rg u (a + t)) l
theorem x_upsInPart_L (gw : gW A h U) (hw : w < 11) {a l : Nat} (hal : l = 0 ∨ (a < (U w).length ∧ l ≤ (U w).length)) (ha : a ≤ 64) (hl : l ≤ 64) {Q : Int → gaH → Prop} (k : Q (upF (U w) l a : Int) h) : ∀ (n i c : Nat), i ≤ l → l - i < n → c = sm (fun t => b2n (rg (U w) (a + t))) i → w_X1_upsInPart_L5 Q n (A w) (a : Int) (l : Int) (c : Int) ((a : Int) + (i : Int)) h
  | 0, i, _, _, h1, _ => absurd h1 (Nat.not_lt_zero _)
  | n + 1, i, c, hi, h1, hc => by
    have l1 := gw.le hw
    unfold w_X1_upsInPart_L5
    refine ⟨gR_of (by omega) (by omega), gR_of (by omega) (by omega), ?_⟩
    by_cases q : l ≤ i
    · obtain rfl : i = l := by omega
      subst hc
      exact if_yes (by omega) k
    · have e1 : (a : Int) + (i : Int) + 1 = (a : Int) + ((i + 1 : Nat) : Int) := by omega
      refine if_no (by omega) (x_onRing (p := a + i) gw hw (by omega) (by omega) ⟨b2i_R _, ?_⟩)
      cases z : rg (U w) (a + i)
      · refine if_yes rfl ?_
        rw [e1]
        refine x_upsInPart_L gw hw hal ha hl k n (i + 1) c (by omega) (by omega) ?_
        rw [hc]; exact (smb_no (P := fun t => rg (U w) (a + t)) z).symm
      · refine if_no (by decide) ?_
        rw [e1, show (c : Int) + 1 = ((c + 1 : Nat) : Int) by omega]
        refine x_upsInPart_L gw hw hal ha hl k n (i + 1) (c + 1) (by omega) (by omega) ?_
        rw [hc]; exact (smb_yes (P := fun t => rg (U w) (a + t)) z).symm
theorem x_upsInPart (gw : gW A h U) (hw : w < 11) {x y : Int} {a l : Nat} (hx : x = (a : Int)) (hy : y = (l : Int)) (hal : l = 0 ∨ (a < (U w).length ∧ l ≤ (U w).length)) (ha : a ≤ 64) (hl : l ≤ 64) {Q : Int → gaH → Prop} (k : Q (upF (U w) l a : Int) h) : w_X1_upsInPart (A w) x y h Q := by
  subst hx; subst hy
  refine ⟨l + 1, ?_⟩
  have := x_upsInPart_L gw hw hal ha hl k (l + 1) 0 0 (Nat.zero_le _) (by omega) rfl
  rw [show (a : Int) + ((0 : Nat) : Int) = (a : Int) by omega] at this
  exact this
abbrev sprV (u : List Bool) (l n : Nat) : Int := (mxf (upF u l) n : Int) - (mnf (upF u l) l n : Int)
theorem x_spread_L (gw : gW A h U) (hw : w < 11) {l : Nat} {b : Bool} (hl : l ≤ (U w).length) {Q : Int → gaH → Prop} (k : Q (sprV (U w) l (begins (U w).length l b)) h) : ∀ (n i : Nat), i ≤ begins (U w).length l b → begins (U w).length l b - i < n → w_X1_spreadOf_L16 Q n (A w) (l : Int) (mxf (upF (U w) l) i : Int) (mnf (upF (U w) l) l i : Int) (begins (U w).length l b : Int) (i : Int) h
  | 0, i, _, h1 => absurd h1 (Nat.not_lt_zero _)
  | n + 1, i, hi, h1 => by
    have l1 := gw.le hw
    have hb : begins (U w).length l b ≤ 65 := by unfold begins; split <;> omega
    have b1 := mxf_le (upF_le (U w) l) i
    have b2 := mnf_le (f := upF (U w) l) (l := l) i
    have b3 := upF_le (U w) l i
    unfold w_X1_spreadOf_L16
    refine ⟨gR_of (by omega) (by omega), gR_of (by omega) (by omega), ?_⟩
    by_cases q : begins (U w).length l b ≤ i
    · obtain rfl : i = begins (U w).length l b := by omega
      exact if_yes (by omega) k
    · have e := begins_le hl (show i < begins (U w).length l b by omega)
      refine if_no (by omega) (x_upsInPart (a := i) (l := l) gw hw rfl rfl e.2 (by omega) (by omega) ⟨gR_of (by omega) (by omega), gR_of (by omega) (by omega), gR_of (by omega) (by omega), gR_of (by omega) (by omega), ?_⟩)
      rw [show (i : Int) + 1 = ((i + 1 : Nat) : Int) by omega, show max (mxf (upF (U w) l) i : Int) (upF (U w) l i : Int) = ((mxf (upF (U w) l) (i + 1) : Nat) : Int) from (by show _ = ((max (mxf (upF (U w) l) i) (upF (U w) l i) : Nat) : Int); omega), show min (mnf (upF (U w) l) l i : Int) (upF (U w) l i : Int) = ((mnf (upF (U w) l) l (i + 1) : Nat) : Int) from (by show _ = ((min (mnf (upF (U w) l) l i) (upF (U w) l i) : Nat) : Int); omega)]
      exact x_spread_L gw hw hl k n (i + 1) (by omega) (by omega)
theorem x_spreadOf (gw : gW A h U) (hw : w < 11) {x y : Int} {l : Nat} {b : Bool} (hx : x = (l : Int)) (hy : y = b2i b) (hl : l ≤ (U w).length) {Q : Int → gaH → Prop} (k : Q (sprV (U w) l (begins (U w).length l b)) h) : w_X1_spreadOf (A w) x y h Q := by
  subst hx
  have l1 := gw.le hw
  unfold w_X1_spreadOf
  exact s_beginnings (b := b) gw hw rfl hy hl ⟨begins (U w).length l b + 1, x_spread_L gw hw hl k _ 0 (Nat.zero_le _) (by omega)⟩
end PX
/-! How often a word stands behind itself: both ways of counting. -/
def rpt (u : List Bool) (k p c : Nat) : Prop := 1 ≤ p ∧ 1 ≤ c ∧ k + c * p ≤ u.length ∧ ∀ j, k ≤ j → j + p < k + c * p → u.getD j false = u.getD (j + p) false
def isT (u : List Bool) (r : Int) : Prop := (∀ k p c : Nat, rpt u k p c → (c : Int) ≤ r) ∧ (r = 0 ∧ u.length = 0 ∨ ∃ k p c : Nat, r = (c : Int) ∧ rpt u k p c)
theorem rpt_len {u : List Bool} {k p c : Nat} (h : rpt u k p c) : k < u.length ∧ p ≤ u.length ∧ c ≤ u.length := by
  obtain ⟨h1, h2, h3, -⟩ := h
  have a1 := Nat.le_mul_of_pos_left p h2
  have a2 := Nat.le_mul_of_pos_right c h1
  omega
theorem isT_u {u : List Bool} : ∀ a b : Int, isT u a → isT u b → a = b := by
  intro a b ha hb
  rcases ha.2 with ⟨x, y⟩ | ⟨k, p, c, x, y⟩
  · rcases hb.2 with ⟨z, _⟩ | ⟨k', p', c', _, y'⟩
    · rw [x, z]
    · have := (rpt_len y').1; omega
  · rcases hb.2 with ⟨_, z⟩ | ⟨k', p', c', x', y'⟩
    · have := (rpt_len y).1; omega
    · have h1 := hb.1 k p c y
      have h2 := ha.1 k' p' c' y'
      omega
theorem rpt_per {u : List Bool} {k p c : Nat} (h : rpt u k p c) {t : Nat} (ht : t < p) : ∀ b, b < c → u.getD (k + t + b * p) false = u.getD (k + t) false
  | 0, _ => by rw [Nat.zero_mul]; rfl
  | b + 1, hb => by
    have ih := rpt_per h ht b (by omega)
    have e : (b + 1) * p = b * p + p := Nat.succ_mul b p
    have m : (b + 2) * p ≤ c * p := Nat.mul_le_mul_right p hb
    have e2 : (b + 2) * p = b * p + p + p := by rw [Nat.succ_mul (b + 1) p, e]
    have := h.2.2.2 (k + t + b * p) (by omega) (by omega)
    rw [e, ← Nat.add_assoc, ← this, ih]
section PT2
variable {A : Nat → Nat} {h : gaH} {U : Nat → List Bool} {w v g : Nat}
theorem x_timesWith_L (gw : gW A h U) (hw : w < 11) {p : Nat} (hp : 1 ≤ p ∧ p ≤ 64) {Q : Int → gaH → Prop} (k : ∀ r : Nat, r ≤ 65 → (∃ s, rpt (U w) s p r) → (∀ s c, rpt (U w) s p c → c ≤ r) → Q (r : Int) h) : ∀ (n i c m : Nat), i + p ≤ (U w).length → (U w).length - i < n → c ≤ i → m ≤ i → (∀ j, i - c ≤ j → j < i → (U w).getD j false = (U w).getD (j + p) false) → (∀ s, s ≤ i → (∀ j, s ≤ j → j < i → (U w).getD j false = (U w).getD (j + p) false) → i - s ≤ c) → (∃ s, s + m ≤ i ∧ ∀ j, s ≤ j → j < s + m → (U w).getD j false = (U w).getD (j + p) false) → (∀ s e, s + e ≤ i → (∀ j, s ≤ j → j < s + e → (U w).getD j false = (U w).getD (j + p) false) → e ≤ m) → w_X1_timesWith_L7 Q n (A w) (p : Int) (c : Int) (m : Int) (i : Int) h
  | 0, i, _, _, _, h1, _, _, _, _, _, _ => absurd h1 (Nat.not_lt_zero _)
  | n + 1, i, c, m, hi, h1, hc, hm, run, mx, att, up => by
    have l1 := gw.le hw
    unfold w_X1_timesWith_L7
    refine gw.many hw ⟨gR_of (by omega) (by omega), gR_of (by omega) (by omega), ?_⟩
    by_cases q : (U w).length ≤ i + p
    · refine if_yes (by omega) ⟨gR_of (by omega) (by omega), if_no (by omega) ⟨gR_of (by omega) (by omega), by omega, ?_⟩⟩
      rw [gDiv_nat (a := m) (b := p) (by omega) (by omega)]
      have d1 := Nat.div_le_self m p
      have d2 := Nat.div_mul_le_self m p
      have e1 : (m / p + 1) * p = m / p * p + p := Nat.succ_mul _ _
      have hle : ∀ x, x * p ≤ m → x ≤ m / p := fun x hx => (Nat.le_div_iff_mul_le (show 0 < p by omega)).mpr hx
      generalize m / p = d at d1 d2 e1 hle ⊢
      refine k (d + 1) (by omega) ?_ (fun s c' hr => ?_)
      · obtain ⟨s, s1, s2⟩ := att
        exact ⟨s, hp.1, by omega, by omega, fun j j1 j2 => s2 j j1 (by omega)⟩
      · obtain ⟨r1, r2, r3, r4⟩ := hr
        have e2 : c' * p = (c' - 1) * p + p := by
          rw [← Nat.succ_mul]
          congr 1
          omega
        have := up s ((c' - 1) * p) (by omega) (fun j j1 j2 => r4 j j1 (by omega))
        have := hle _ this
        omega
    · refine if_no (by omega) ⟨gw.has hw, s_isUp gw hw rfl (by omega) ⟨gw.has hw, s_isUp (i := i + p) gw hw (by omega) (by omega) ⟨b2i_R _, b2i_R _, ?_⟩⟩⟩
      by_cases z : (U w).getD i false = (U w).getD (i + p) false
      · refine if_yes (congrArg b2i z) ?_
        unfold w_X1_timesWith_J42
        refine ⟨gR_of (by omega) (by omega), gR_of (by omega) (by omega), ?_⟩
        rw [show (i : Int) + 1 = ((i + 1 : Nat) : Int) by omega, show max (m : Int) ((c : Int) + 1) = ((max m (c + 1) : Nat) : Int) by omega, show (c : Int) + 1 = ((c + 1 : Nat) : Int) by omega]
        refine x_timesWith_L gw hw hp k n (i + 1) (c + 1) (max m (c + 1)) (by omega) (by omega) (by omega) (by omega) (fun j j1 j2 => ?_) (fun s s1 s2 => ?_) ?_ (fun s e s1 s2 => ?_)
        · by_cases y : j = i
          · rw [y]; exact z
          · exact run j (by omega) (by omega)
        · by_cases y : s = i + 1
          · omega
          · have := mx s (by omega) (fun j j1 j2 => s2 j j1 (by omega))
            omega
        · by_cases y : c + 1 ≤ m
          · obtain ⟨s, s1, s2⟩ := att
            rw [Nat.max_eq_left y]
            exact ⟨s, by omega, s2⟩
          · rw [Nat.max_eq_right (by omega)]
            refine ⟨i - c, by omega, fun j j1 j2 => ?_⟩
            by_cases y2 : j = i
            · rw [y2]; exact z
            · exact run j j1 (by omega)
        · by_cases y : s + e ≤ i
          · have := up s e y s2
            omega
          · by_cases y2 : e = 0
            · omega
            · have := mx s (by omega) (fun j j1 j2 => s2 j j1 (by omega))
              omega
      · refine if_no (fun y => z ((b2i_eq _ _).mp y)) ?_
        unfold w_X1_timesWith_J42
        refine ⟨gR_of (by omega) (by omega), gR_of (by omega) (by omega), ?_⟩
        rw [show (i : Int) + 1 = ((i + 1 : Nat) : Int) by omega, show max (m : Int) 0 = (m : Int) by omega]
        refine x_timesWith_L gw hw hp k n (i + 1) 0 m (by omega) (by omega) (by omega) (by omega) (fun j j1 j2 => by omega) (fun s s1 s2 => ?_) ?_ (fun s e s1 s2 => ?_)
        · by_cases y : s = i + 1
          · omega
          · exact absurd (s2 i (by omega) (by omega)) z
        · obtain ⟨s, s1, s2⟩ := att
          exact ⟨s, by omega, s2⟩
        · by_cases y : s + e ≤ i
          · exact up s e y s2
          · by_cases y2 : e = 0
            · omega
            · exact absurd (s2 i (by omega) (by omega)) z
theorem x_timesOf_L (gw : gW A h U) (hw : w < 11) {Q : Int → gaH → Prop} (k : ∀ r : Int, isT (U w) r → Q r h) : ∀ (n i m : Nat), 1 ≤ i → i ≤ (U w).length + 1 → (U w).length + 1 - i < n → m ≤ 65 → (m = 0 ∧ i = 1 ∨ ∃ s p, rpt (U w) s p m) → (∀ p, p < i → ∀ s c, rpt (U w) s p c → c ≤ m) → w_X1_timesOf_L4 Q n (A w) (m : Int) (i : Int) h
  | 0, i, _, _, _, h1, _, _, _ => absurd h1 (Nat.not_lt_zero _)
  | n + 1, i, m, h0, hi, h1, hm, att, up => by
    have l1 := gw.le hw
    unfold w_X1_timesOf_L4
    refine gw.many hw ⟨gR_of (by omega) (by omega), gR_of (by omega) (by omega), ?_⟩
    by_cases q : (U w).length < i
    · refine if_yes (by omega) (k m ⟨fun s p c hr => ?_, ?_⟩)
      · have := (rpt_len hr).2.1
        have := up p (by omega) s c hr
        omega
      · rcases att with ⟨a1, a2⟩ | ⟨s, p, a1⟩
        · exact Or.inl ⟨by omega, by omega⟩
        · exact Or.inr ⟨s, p, m, rfl, a1⟩
    · refine if_no (by omega) ⟨(U w).length + 1, x_timesWith_L (p := i) gw hw (by omega) (fun r hr ra ru => ⟨gR_of (by omega) (by omega), gR_of (by omega) (by omega), ?_⟩) _ 0 0 0 (by omega) (by omega) (Nat.le_refl _) (Nat.le_refl _) (fun j j1 j2 => by omega) (fun s s1 _ => by omega) ⟨0, by omega, fun j j1 j2 => by omega⟩ (fun s e s1 _ => by omega)⟩
      rw [show (i : Int) + 1 = ((i + 1 : Nat) : Int) by omega, show max (m : Int) (r : Int) = ((max m r : Nat) : Int) by omega]
      refine x_timesOf_L gw hw k n (i + 1) (max m r) (by omega) (by omega) (by omega) (by omega) (Or.inr ?_) (fun p hp s c hrep => ?_)
      · by_cases y : r ≤ m
        · rw [Nat.max_eq_left y]
          rcases att with ⟨a1, a2⟩ | a1
          · obtain ⟨s, sr⟩ := ra
            have := sr.2.1
            omega
          · exact a1
        · rw [Nat.max_eq_right (by omega)]
          obtain ⟨s, sr⟩ := ra
          exact ⟨s, i, sr⟩
      · by_cases y : p = i
        · subst y
          have := ru s c hrep
          omega
        · have := up p (by omega) s c hrep
          omega
theorem x_timesOf (gw : gW A h U) (hw : w < 11) {Q : Int → gaH → Prop} (k : ∀ r : Int, isT (U w) r → Q r h) : w_X1_timesOf (A w) h Q :=
  ⟨(U w).length + 1, x_timesOf_L gw hw k _ 1 0 (Nat.le_refl _) (by omega) (by omega) (by decide) (Or.inl ⟨rfl, rfl⟩) (fun p hp s c hr => by
    have := hr.1
    omega)⟩
end PT2
/-! The reference's readings, to the last. -/
section RX
variable {B : Nat → Nat} {h h0 : gaH} {st : GSt} {no : Int} {a b o : Nat} {u v : List Bool} {w g : Nat} {x y z : Int} {Q : Int → gaH → Prop}
theorem rgM {u : List Bool} {p i : Nat} (h0 : 0 < u.length) (hp : p + i < 2000) (hl : u.length ≤ 64) : gRem ((p : Int) + (i : Int)) (u.length : Int) = (((p + i) % u.length : Nat) : Int) := by
  have := gRem_nat (a := p + i) (b := u.length) (by omega) (by omega)
  rw [← this]; congr 1
theorem xr_areLike_L (r : mR h a u) (hl : u.length ≤ 64) {p q l : Nat} (hp : p ≤ 500) (hq : q ≤ 500) (hll : l ≤ 500) (h0 : l = 0 ∨ 0 < u.length) (k : Q (b2i (lk u p q l)) h) : ∀ (n i : Nat), i ≤ l → l - i < n → (∀ t, t < i → rg u (p + t) = rg u (q + t)) → w_X7_areLike_L3 Q n a (p : Int) (q : Int) (l : Int) (i : Int) h
  | 0, _, _, h9, _ => absurd h9 (Nat.not_lt_zero _)
  | n + 1, i, hi, h9, inv => by
    unfold w_X7_areLike_L3
    refine ⟨by omega, by omega, ?_⟩
    by_cases q1 : l ≤ i
    · have e : lk u p q l = true := decide_eq_true (fun t ht => inv t (by omega))
      rw [e] at k
      exact if_yes (by omega) k
    · refine if_no (by omega) (r.len ⟨by omega, by omega, ?_⟩)
      rw [rgM (by omega) (by omega) hl]
      refine r.at rfl (Nat.mod_lt _ (by omega)) (by omega) (r.len ⟨by omega, by omega, ?_⟩)
      rw [rgM (by omega) (by omega) hl]
      refine r.at rfl (Nat.mod_lt _ (by omega)) (by omega) ⟨b2i_R _, b2i_R _, ?_⟩
      by_cases z : rg u (p + i) = rg u (q + i)
      · refine if_yes (congrArg b2i z) ?_
        rw [show (i : Int) + 1 = ((i + 1 : Nat) : Int) by omega]
        refine xr_areLike_L r hl hp hq hll h0 k n (i + 1) (by omega) (by omega) (fun t ht => ?_)
        by_cases y : t = i
        · rw [y]; exact z
        · exact inv t (by omega)
      · have e : lk u p q l = false := decide_eq_false (fun y => z (y i (by omega)))
        rw [e] at k
        exact if_no (fun y => z ((b2i_eq _ _).mp y)) k
theorem xr_areLike (r : mR h a u) (hl : u.length ≤ 64) {p q l : Nat} (hx : x = (p : Int)) (hy : y = (q : Int)) (hz : z = (l : Int)) (hp : p ≤ 500) (hq : q ≤ 500) (hll : l ≤ 500) (h0 : l = 0 ∨ 0 < u.length) (k : Q (b2i (lk u p q l)) h) : w_X7_areLike a x y z h Q := by
  subst hx; subst hy; subst hz
  exact ⟨l + 1, xr_areLike_L r hl hp hq hll h0 k _ 0 (Nat.zero_le _) (by omega) (fun t ht => absurd ht (Nat.not_lt_zero _))⟩
theorem xr_isMir_L (r : mR h a u) (hl : u.length ≤ 64) {f t : Nat} (hf : f ≤ t) (ht : t ≤ u.length) (k : Q (b2i (mir u f (t - f))) h) : ∀ (n i : Nat), i ≤ t - f → t - f - i < n → (∀ j, j < i → u.getD (f + j) false = u.getD (f + (t - f) - 1 - j) false) → w_X7_isMirrored_L2 Q n a (f : Int) (t : Int) (i : Int) h
  | 0, _, _, h9, _ => absurd h9 (Nat.not_lt_zero _)
  | n + 1, i, hi, h9, inv => by
    unfold w_X7_isMirrored_L2
    refine ⟨by omega, by omega, ?_⟩
    by_cases q1 : t - f ≤ i
    · have e : mir u f (t - f) = true := decide_eq_true (fun j hj => inv j (by omega))
      rw [e] at k
      exact if_yes (by omega) k
    · refine if_no (by omega) (r.at (i := f + i) (by omega) (by omega) (by omega) (r.at (i := f + (t - f) - 1 - i) (by omega) (by omega) (by omega) ⟨b2i_R _, b2i_R _, ?_⟩))
      by_cases z : u.getD (f + i) false = u.getD (f + (t - f) - 1 - i) false
      · refine if_yes (congrArg b2i z) ?_
        rw [show (i : Int) + 1 = ((i + 1 : Nat) : Int) by omega]
        refine xr_isMir_L r hl hf ht k n (i + 1) (by omega) (by omega) (fun j hj => ?_)
        by_cases y : j = i
        · rw [y]; exact z
        · exact inv j (by omega)
      · have e : mir u f (t - f) = false := decide_eq_false (fun y => z (y i (by omega)))
        rw [e] at k
        exact if_no (fun y => z ((b2i_eq _ _).mp y)) k
theorem xr_isMir (r : mR h a u) (hl : u.length ≤ 64) {f t : Nat} (hx : x = (f : Int)) (hy : y = (t : Int)) (hf : f ≤ t) (ht : t ≤ u.length) (k : Q (b2i (mir u f (t - f))) h) : w_X7_isMirrored a x y h Q := by
  subst hx; subst hy
  exact ⟨t + 1, xr_isMir_L r hl hf ht k _ 0 (Nat.zero_le _) (by omega) (fun j hj => absurd hj (Nat.not_lt_zero _))⟩
theorem b2n_add (m : Nat) (t : Bool) : (m : Int) + b2i t = ((m + b2n t : Nat) : Int) := by
  have := b2n_b2i t
  omega
theorem xr_folds_L4 (r : mR h a u) (hl : u.length ≤ 64) (k : Q (sm (flF u) u.length : Int) h) : ∀ (n s m : Nat), s ≤ u.length → u.length - s < n → m = sm (flF u) s → w_X7_foldsOf_L4 Q n a (m : Int) (s : Int) h
  | 0, _, _, _, h9, _ => absurd h9 (Nat.not_lt_zero _)
  | n + 1, s, m, h1, h9, hm => by
    unfold w_X7_foldsOf_L4
    refine r.len ⟨by omega, by omega, ?_⟩
    by_cases q : u.length ≤ s
    · obtain rfl : s = u.length := by omega
      subst hm
      exact if_yes (by omega) k
    · have go : ∀ c : Bool, c = (mir u 0 s && mir u s (u.length - s)) → w_X7_foldsOf_J35 Q (w_X7_foldsOf_L4 Q n) a (s : Int) (m : Int) (b2i c) h := fun c hc => by
        unfold w_X7_foldsOf_J35
        refine r_one rfl ?_
        rw [show (s : Int) + 1 = ((s + 1 : Nat) : Int) by omega, b2n_add]
        refine xr_folds_L4 r hl k n (s + 1) _ (by omega) (by omega) ?_
        show m + b2n c = sm (flF u) s + b2n (mir u 0 s && mir u s (u.length - s))
        rw [hm, hc]
      refine if_no (by omega) (xr_isMir (f := 0) (t := s) r hl rfl rfl (Nat.zero_le _) (by omega) ⟨b2i_R _, ?_⟩)
      rw [Nat.sub_zero]
      generalize mir u 0 s = y at go
      cases y
      · exact if_yes rfl (go false rfl)
      · refine if_no (by decide) (r.len (xr_isMir (f := s) (t := u.length) r hl rfl rfl (by omega) (Nat.le_refl _) ⟨b2i_R _, ?_⟩))
        generalize mir u s (u.length - s) = y2 at go
        cases y2
        · exact if_yes rfl (go false rfl)
        · exact if_no (by decide) (go true rfl)
theorem xr_foldsOf (r : mR h a u) (hl : u.length ≤ 64) (k : Q (sm (flF u) u.length : Int) h) : w_X7_foldsOf a h Q :=
  ⟨65, xr_folds_L4 r hl k 65 0 0 (Nat.zero_le _) (by omega) rfl⟩
theorem lk_ovl {u : List Bool} {s p : Nat} (h : s + 2 * p < u.length) : lk u s (s + p) (p + 1) = ovl u s p := by
  refine decide_eq_decide.mpr ⟨fun H t ht => ?_, fun H t ht => ?_⟩
  · have := H t ht
    rw [rg_lt (by omega), rg_lt (by omega)] at this
    exact this
  · rw [rg_lt (by omega), rg_lt (by omega)]
    exact H t ht
theorem xr_over_L12 {K4 : Nat → Int → Int → gaH → Prop} (r : mR h a u) (hl : u.length ≤ 64) {s B : Nat} (hs : s ≤ 64) (k : K4 a ((B + sm (fun p => ovF u p s) 66 : Nat) : Int) ((s : Int) + 1) h) : ∀ (n p m : Nat), 1 ≤ p → p ≤ 65 → 66 - p < n → m = B + sm (fun p => ovF u p s) p → w_X7_overlapsOf_L12 Q K4 n a (m : Int) (s : Int) (p : Int) h
  | 0, _, _, _, _, h9, _ => absurd h9 (Nat.not_lt_zero _)
  | n + 1, p, m, h0, h2, h9, hm => by
    unfold w_X7_overlapsOf_L12
    refine r.len ⟨by omega, by omega, ?_⟩
    by_cases q : u.length ≤ s + 2 * p
    · refine if_yes (by omega) ?_
      rw [sm_tail p 66 (by omega) (fun j hj => ovF_0 (by omega)), ← hm] at k
      exact k
    · refine if_no (by omega) (xr_areLike r hl rfl (show (s : Int) + (p : Int) = ((s + p : Nat) : Int) by omega) (show (p : Int) + 1 = ((p + 1 : Nat) : Int) by omega) (by omega) (by omega) (by omega) (by omega) (r_one rfl ?_))
      rw [lk_ovl (by omega), show (p : Int) + 1 = ((p + 1 : Nat) : Int) by omega, b2n_add]
      refine xr_over_L12 r hl hs k n (p + 1) _ (by omega) (by omega) (by omega) ?_
      show m + b2n (ovl u s p) = B + (sm (fun p => ovF u p s) p + b2n (decide (1 ≤ p ∧ s + 2 * p < u.length) && ovl u s p))
      rw [hm, decide_eq_true (show 1 ≤ p ∧ s + 2 * p < u.length by omega), Bool.true_and]
      omega
theorem xr_over_L4 (r : mR h a u) (hl : u.length ≤ 64) (k : Q (sm (fun a => sm (fun p => ovF u p a) 66) 66 : Int) h) : ∀ (n s m : Nat), s ≤ u.length → u.length - s < n → m = sm (fun a => sm (fun p => ovF u p a) 66) s → w_X7_overlapsOf_L4 Q n a (m : Int) (s : Int) h
  | 0, _, _, _, h9, _ => absurd h9 (Nat.not_lt_zero _)
  | n + 1, s, m, h1, h9, hm => by
    unfold w_X7_overlapsOf_L4
    refine r.len ⟨by omega, by omega, ?_⟩
    by_cases q : u.length ≤ s
    · refine if_yes (by omega) ?_
      rw [sm_tail s 66 (by omega) (fun j hj => by rw [sm_congr (g := fun _ => 0) 66 (fun p _ => ovF_0 (by omega)), sm_nil]), ← hm] at k
      exact k
    · refine if_no (by omega) ⟨67, xr_over_L12 (B := m) r hl (by omega) ?_ 67 1 m (by decide) (by decide) (by decide) ?_⟩
      · rw [show (s : Int) + 1 = ((s + 1 : Nat) : Int) by omega]
        refine xr_over_L4 r hl k n (s + 1) _ (by omega) (by omega) ?_
        rw [hm]; rfl
      · show m = m + (0 + ovF u 0 s)
        rw [ovF_0 (by omega)]; rfl
theorem xr_overlapsOf (r : mR h a u) (hl : u.length ≤ 64) (k : Q (sm (fun p => sm (ovF u p) 66) 66 : Int) h) : w_X7_overlapsOf a h Q :=
  ⟨65, xr_over_L4 r hl (by rw [sm_swap (fun a p => ovF u p a) 66 66]; exact k) 65 0 0 (Nat.zero_le _) (by omega) rfl⟩
theorem xr_least_L12 {K4 : Nat → Int → Int → gaH → Prop} (r : mR h a u) (hl : u.length ≤ 64) {m s : Nat} (hm : m ≤ 64) (hs : s ≤ 64) : ∀ (n i e : Nat), i + e = u.length → e < n → K4 a ((if rO u s m e i < 0 then s else m : Nat) : Int) ((s : Int) + 1) h → w_X7_leastOf_L12 Q K4 n a (m : Int) (s : Int) (i : Int) h
  | 0, _, _, _, h9, _ => absurd h9 (Nat.not_lt_zero _)
  | n + 1, i, 0, h1, h9, k => by
    unfold w_X7_leastOf_L12
    refine r.len ⟨by omega, by omega, if_yes (by omega) ?_⟩
    unfold w_X7_leastOf_J43
    refine r.len ⟨by omega, by omega, if_yes (by omega) ?_⟩
    rw [if_neg (show ¬ rO u s m 0 i < 0 by unfold rO; decide)] at k
    exact k
  | n + 1, i, e + 1, h1, h9, k => by
    unfold w_X7_leastOf_L12
    refine r.len ⟨by omega, by omega, ?_⟩
    refine if_no (by omega) (r.len ⟨by omega, by omega, ?_⟩)
    rw [rgM (by omega) (by omega) hl]
    refine r.at rfl (Nat.mod_lt _ (by omega)) (by omega) (r.len ⟨by omega, by omega, ?_⟩)
    rw [rgM (by omega) (by omega) hl]
    refine r.at rfl (Nat.mod_lt _ (by omega)) (by omega) ⟨b2i_R _, b2i_R _, ?_⟩
    unfold rO at k
    by_cases z : rg u (s + i) = rg u (m + i)
    · rw [if_pos z] at k
      refine if_yes (congrArg b2i z.symm) ?_
      rw [show (i : Int) + 1 = ((i + 1 : Nat) : Int) by omega]
      exact xr_least_L12 r hl hm hs n (i + 1) e (by omega) (by omega) k
    · rw [if_neg z] at k
      refine if_no (fun y => z ((b2i_eq _ _).mp y).symm) ?_
      unfold w_X7_leastOf_J43
      refine r.len ⟨by omega, by omega, ?_⟩
      refine if_no (by omega) (r.len ⟨by omega, by omega, ?_⟩)
      rw [rgM (by omega) (by omega) hl]
      refine r.at rfl (Nat.mod_lt _ (by omega)) (by omega) ⟨b2i_R _, ?_⟩
      show if b2i (rg u (s + i)) = 0 then _ else _
      generalize rg u (s + i) = y at k
      cases y
      · exact if_yes rfl k
      · exact if_no (by decide) k
theorem xr_least_L4 (r : mR h a u) (hl : u.length ≤ 64) (k : Q (lst u u.length : Int) h) : ∀ (n s : Nat), 1 ≤ s → s ≤ u.length → u.length - s < n → w_X7_leastOf_L4 Q n a (lst u s : Int) (s : Int) h
  | 0, _, _, _, h9 => absurd h9 (Nat.not_lt_zero _)
  | n + 1, s, h0, h1, h9 => by
    have l2 := lst_lt u s h0
    unfold w_X7_leastOf_L4
    refine r.len ⟨by omega, by omega, ?_⟩
    by_cases q : u.length ≤ s
    · obtain rfl : s = u.length := by omega
      exact if_yes (by omega) k
    · refine if_no (by omega) ⟨66, xr_least_L12 r hl (by omega) (by omega) 66 0 u.length (by omega) (by omega) ?_⟩
      have ih := xr_least_L4 r hl k n (s + 1) (by omega) (by omega) (by omega)
      rw [lst_step h0] at ih
      rw [show (s : Int) + 1 = ((s + 1 : Nat) : Int) by omega]
      exact ih
theorem xr_leastOf (r : mR h a u) (hl : u.length ≤ 64) (k : Q (lst u u.length : Int) h) : w_X7_leastOf a h Q := by
  by_cases q : u.length = 0
  · refine ⟨1, ?_⟩
    rw [q] at k
    unfold w_X7_leastOf_L4
    exact r.len ⟨by omega, by omega, if_yes (by omega) k⟩
  · exact ⟨66, xr_least_L4 r hl k 66 1 (Nat.le_refl _) (by omega) (by omega)⟩
theorem xr_parts {l : Nat} {c : Bool} (r : mR h a u) (hx : x = (l : Int)) (hy : y = b2i c) (hul : u.length ≤ 64) (hl : l ≤ u.length) (k : Q (begins u.length l c : Int) h) : w_X7_parts a x y h Q := by
  subst hx; subst hy
  have j : begins u.length l c = u.length - l + 1 → w_X7_parts_J14 Q a (l : Int) h := fun e => by
    unfold w_X7_parts_J14
    refine r.len ?_
    rw [show (u.length : Int) - (l : Int) + 1 = ((u.length - l + 1 : Nat) : Int) by omega, ← e]
    exact k
  unfold w_X7_parts
  refine ⟨b2i_R _, ?_⟩
  cases c
  · exact if_yes rfl (j rfl)
  · refine if_no (by decide) (r.len ⟨by omega, ?_⟩)
    by_cases q : u.length = 0
    · exact if_yes (by omega) (j (by show max u.length 1 = _; omega))
    · refine if_no (by omega) (r.len ?_)
      have e : begins u.length l true = u.length := by show max u.length 1 = _; omega
      rw [e] at k; exact k
theorem xr_kinds_L74 {K56 : Int → Int → Nat → Int → Int → gaH → Prop} {l : Nat} {c y5 : Int} (r : mR h a u) (hul : u.length ≤ 64) (hl : l ≤ u.length) {s : Nat} (hs : s ≤ 65) (hs0 : u.length = 0 → s ≤ 0) (k : K56 (l : Int) c a (y5 + b2i (!er u s l s)) ((s : Int) + 1) h) : ∀ (n i : Nat), i ≤ s → s - i < n → w_X7_kinds_L74 Q K56 n (l : Int) c a y5 (s : Int) (b2i (!er u s l i)) (i : Int) h
  | 0, _, _, h9 => absurd h9 (Nat.not_lt_zero _)
  | n + 1, i, h1, h9 => by
    unfold w_X7_kinds_L74
    refine ⟨by omega, by omega, ?_⟩
    by_cases q : s ≤ i
    · obtain rfl : i = s := by omega
      exact if_yes (by omega) (r_one rfl k)
    · refine if_no (by omega) (xr_areLike r hul rfl rfl rfl (by omega) (by omega) (by omega) (by omega) ⟨b2i_R _, ?_⟩)
      have ih := xr_kinds_L74 r hul hl hs hs0 k n (i + 1) (by omega) (by omega)
      rw [show (i : Int) + 1 = ((i + 1 : Nat) : Int) by omega]
      have e1 : gAnd (b2i (!er u s l i)) 1 = b2i ((!er u s l i) && true) := gAnd_bit _ true
      have e0 : gAnd (b2i (!er u s l i)) 0 = b2i ((!er u s l i) && false) := gAnd_bit _ false
      have e2 : er u s l (i + 1) = (er u s l i || lk u i s l) := rfl
      rw [e1, e0]
      rw [e2] at ih
      generalize lk u i s l = t at ih
      cases t
      · rw [Bool.or_false] at ih
        rw [Bool.and_true]
        exact if_yes rfl ih
      · rw [Bool.or_true] at ih
        rw [Bool.and_false]
        exact if_no (by decide) ih
theorem xr_kinds_L56 {l : Nat} {c : Bool} (r : mR h a u) (hul : u.length ≤ 64) (hl : l ≤ u.length) (k : Q (sm (kdF u l) (begins u.length l c) : Int) h) : ∀ (n s m : Nat), s ≤ begins u.length l c → begins u.length l c - s < n → m = sm (kdF u l) s → w_X7_kinds_L56 Q n (l : Int) (b2i c) a (m : Int) (s : Int) h
  | 0, _, _, _, h9, _ => absurd h9 (Nat.not_lt_zero _)
  | n + 1, s, m, h1, h9, hm => by
    have hb : begins u.length l c ≤ 65 := by unfold begins; split <;> omega
    unfold w_X7_kinds_L56
    refine xr_parts r rfl rfl hul hl ⟨by omega, by omega, ?_⟩
    by_cases q : begins u.length l c ≤ s
    · obtain rfl : s = begins u.length l c := by omega
      subst hm
      exact if_yes (by omega) k
    · have h0 : u.length = 0 → s ≤ 0 := fun z => by
        have := begins_le hl (show s < begins u.length l c by omega)
        omega
      refine if_no (by omega) ⟨67, xr_kinds_L74 r hul hl (by omega) h0 ?_ 67 0 (Nat.zero_le _) (by omega)⟩
      rw [show (s : Int) + 1 = ((s + 1 : Nat) : Int) by omega, b2n_add]
      refine xr_kinds_L56 r hul hl k n (s + 1) _ (by omega) (by omega) ?_
      rw [hm]; rfl
theorem xr_spread_L77 {K59 : Int → Int → Nat → Int → Int → Int → gaH → Prop} {l : Nat} {c : Int} (r : mR h a u) (hul : u.length ≤ 64) (hl : l ≤ u.length) {s m f : Nat} (hs : s ≤ 65) (hm : m ≤ 64) (hf : f ≤ 64) (k : K59 (l : Int) c a ((max m (upF u l s) : Nat) : Int) ((min f (upF u l s) : Nat) : Int) ((s : Int) + 1) h) : ∀ (n i t : Nat), i ≤ l → l - i < n → t = sm (fun t => b2n (rg u (s + t))) i → w_X7_spread_L77 Q K59 n (l : Int) c a (m : Int) (f : Int) (s : Int) (t : Int) (i : Int) h
  | 0, _, _, _, h9, _ => absurd h9 (Nat.not_lt_zero _)
  | n + 1, i, t, h1, h9, ht => by
    have hb : t ≤ i := by rw [ht]; exact smb_le (fun t => rg u (s + t)) i
    unfold w_X7_spread_L77
    refine ⟨by omega, by omega, ?_⟩
    by_cases q : l ≤ i
    · obtain rfl : i = l := by omega
      refine if_yes (by omega) ⟨by omega, by omega, by omega, by omega, ?_⟩
      rw [show max (m : Int) (t : Int) = ((max m t : Nat) : Int) by omega, show min (f : Int) (t : Int) = ((min f t : Nat) : Int) by omega]
      subst ht
      exact k
    · refine if_no (by omega) (r.len ⟨by omega, by omega, ?_⟩)
      rw [rgM (by omega) (by omega) hul]
      refine r.at rfl (Nat.mod_lt _ (by omega)) (by omega) ?_
      rw [show (i : Int) + 1 = ((i + 1 : Nat) : Int) by omega, b2n_add]
      refine xr_spread_L77 r hul hl hs hm hf k n (i + 1) _ (by omega) (by omega) ?_
      rw [ht]; rfl
theorem xr_spread_L59 {l : Nat} {c : Bool} (r : mR h a u) (hul : u.length ≤ 64) (hl : l ≤ u.length) (k : Q (sprV u l (begins u.length l c)) h) : ∀ (n s : Nat), s ≤ begins u.length l c → begins u.length l c - s < n → w_X7_spread_L59 Q n (l : Int) (b2i c) a (mxf (upF u l) s : Int) (mnf (upF u l) l s : Int) (s : Int) h
  | 0, _, _, h9 => absurd h9 (Nat.not_lt_zero _)
  | n + 1, s, h1, h9 => by
    have hb : begins u.length l c ≤ 65 := by unfold begins; split <;> omega
    have b1 := mxf_le (upF_le u l) s
    have b2 := mnf_le (f := upF u l) (l := l) s
    unfold w_X7_spread_L59
    refine xr_parts r rfl rfl hul hl ⟨by omega, by omega, ?_⟩
    by_cases q : begins u.length l c ≤ s
    · obtain rfl : s = begins u.length l c := by omega
      exact if_yes (by omega) k
    · refine if_no (by omega) ⟨66, xr_spread_L77 r hul hl (by omega) (by omega) (by omega) ?_ 66 0 0 (Nat.zero_le _) (by omega) rfl⟩
      rw [show (s : Int) + 1 = ((s + 1 : Nat) : Int) by omega]
      exact xr_spread_L59 r hul hl k n (s + 1) (by omega) (by omega)
theorem xr_mirrors_L69 {K26 : Nat → Int → Int → gaH → Prop} {K36 : Nat → Int → Int → Int → gaH → Prop} (r : mR h a u) (hul : u.length ≤ 64) {s l : Nat} {m : Int} (hs : s ≤ 65) (hl : l ≤ 65) (h0 : 0 < u.length) (k : K36 a (m + b2i (!er u s l s)) (l : Int) ((s : Int) + 1) h) : ∀ (n i : Nat), i ≤ s → s - i < n → w_X7_mirrors_L69 Q K26 K36 n a m (l : Int) (s : Int) (b2i (!er u s l i)) (i : Int) h
  | 0, _, _, h9 => absurd h9 (Nat.not_lt_zero _)
  | n + 1, i, h1, h9 => by
    have j : er u s l i = er u s l s → w_X7_mirrors_J107 Q K26 K36 a m (l : Int) (s : Int) (b2i (!er u s l i)) h := fun e => by
      unfold w_X7_mirrors_J107
      rw [e]
      exact r_one rfl k
    unfold w_X7_mirrors_L69
    refine ⟨by omega, by omega, ?_⟩
    by_cases q : s ≤ i
    · obtain rfl : i = s := by omega
      exact if_yes (by omega) (j rfl)
    · refine if_no (by omega) ⟨b2i_R _, ?_⟩
      by_cases z : er u s l i = true
      · exact if_yes (by rw [z]; rfl) (j (by rw [z, er_up z s h1]))
      · have z2 : er u s l i = false := Bool.eq_false_iff.mpr z
        refine if_no (by rw [z2]; decide) (xr_areLike r hul rfl rfl rfl (by omega) (by omega) (by omega) (by omega) ⟨b2i_R _, ?_⟩)
        have ih := xr_mirrors_L69 (K26 := K26) r hul hs hl h0 k n (i + 1) (by omega) (by omega)
        have e2 : er u s l (i + 1) = (er u s l i || lk u i s l) := rfl
        rw [e2, z2, Bool.false_or] at ih
        rw [show (i : Int) + 1 = ((i + 1 : Nat) : Int) by omega]
        generalize lk u i s l = t at ih
        cases t
        · exact if_yes rfl ih
        · exact if_no (by decide) ih
theorem xr_mirrors_L36 {K26 : Nat → Int → Int → gaH → Prop} (r : mR h a u) (hul : u.length ≤ 64) {l B : Nat} (hl1 : 1 ≤ l) (hl : l ≤ 64) (k : K26 a ((B + sm (fun a => mrF u a l) 66 : Nat) : Int) ((l : Int) + 1) h) : ∀ (n s m : Nat), s ≤ 65 → 66 - s < n → m = B + sm (fun a => mrF u a l) s → w_X7_mirrors_L36 Q K26 n a (m : Int) (l : Int) (s : Int) h
  | 0, _, _, _, h9, _ => absurd h9 (Nat.not_lt_zero _)
  | n + 1, s, m, h1, h9, hm => by
    unfold w_X7_mirrors_L36
    refine r.len ⟨by omega, by omega, ?_⟩
    by_cases q : u.length < s + l
    · refine if_yes (by omega) ?_
      rw [sm_tail s 66 (by omega) (fun j hj => mrF_0 (by omega)), ← hm] at k
      exact k
    · have e : (s : Int) + 1 = ((s + 1 : Nat) : Int) := by omega
      have di : decide (1 ≤ l ∧ s + l ≤ u.length) = true := decide_eq_true (by omega)
      have go : ∀ t : Bool, t = (mir u s l && !er u s l s) → w_X7_mirrors_L36 Q K26 n a ((m + b2n t : Nat) : Int) (l : Int) ((s + 1 : Nat) : Int) h := fun t ht => by
        refine xr_mirrors_L36 r hul hl1 hl k n (s + 1) _ (by omega) (by omega) ?_
        show m + b2n t = B + (sm (fun a => mrF u a l) s + b2n (decide (1 ≤ l ∧ s + l ≤ u.length) && (mir u s l && !er u s l s)))
        rw [di, Bool.true_and, ← ht, hm]; omega
      refine if_no (by omega) (xr_isMir (f := s) (t := s + l) r hul rfl (by omega) (by omega) (by omega) ⟨b2i_R _, ?_⟩)
      rw [show s + l - s = l by omega]
      generalize mir u s l = y at go
      cases y
      · refine if_yes rfl ?_
        rw [e]
        exact go false rfl
      · refine if_no (by decide) ⟨67, xr_mirrors_L69 r hul h1 (by omega) (by omega) ?_ 67 0 (Nat.zero_le _) (by omega)⟩
        rw [e, b2n_add]
        exact go _ rfl
theorem xr_mirrors_L26 (r : mR h a u) (hul : u.length ≤ 64) (k : Q (sm (fun l => sm (fun a => mrF u a l) 66) 66 : Int) h) : ∀ (n l m : Nat), 1 ≤ l → l ≤ 65 → 66 - l < n → m = sm (fun l => sm (fun a => mrF u a l) 66) l → w_X7_mirrors_L26 Q n a (m : Int) (l : Int) h
  | 0, _, _, _, _, h9, _ => absurd h9 (Nat.not_lt_zero _)
  | n + 1, l, m, h0, h1, h9, hm => by
    unfold w_X7_mirrors_L26
    refine r.len ⟨by omega, by omega, ?_⟩
    by_cases q : u.length < l
    · refine if_yes (by omega) ?_
      rw [sm_tail l 66 (by omega) (fun j hj => by rw [sm_congr (g := fun _ => 0) 66 (fun p _ => mrF_0 (by omega)), sm_nil]), ← hm] at k
      exact k
    · refine if_no (by omega) ⟨67, xr_mirrors_L36 (B := m) r hul h0 (by omega) ?_ 67 0 m (Nat.zero_le _) (by decide) rfl⟩
      rw [show (l : Int) + 1 = ((l + 1 : Nat) : Int) by omega]
      refine xr_mirrors_L26 r hul k n (l + 1) _ (by omega) (by omega) (by omega) ?_
      rw [hm]; rfl
theorem mrS {u : List Bool} (hul : u.length ≤ 64) : sm (fun l => sm (fun a => mrF u a l) 66) 66 = sm (fun a => sm (mrF u a) 66) u.length := by
  rw [sm_swap (fun l a => mrF u a l) 66 66]
  exact sm_tail u.length 66 (by omega) (fun a ha => by rw [sm_congr (g := fun _ => 0) 66 (fun p _ => mrF_0 (by omega)), sm_nil])
theorem xr_mirrorsOf (r : mR h a u) (hul : u.length ≤ 64) (k : Q (sm (fun a => sm (mrF u a) 66) u.length : Int) h) : ∃ z, w_X7_mirrors_L26 Q z a 0 1 h := by
  rw [← mrS hul] at k
  refine ⟨67, xr_mirrors_L26 r hul k 67 1 0 (by decide) (by decide) (by decide) ?_⟩
  show 0 = 0 + sm (fun a => mrF u a 0) 66
  rw [sm_congr (g := fun _ => 0) 66 (fun p _ => mrF_0 (by omega)), sm_nil]
theorem xr_times_L23 {K4 : Nat → Int → Int → gaH → Prop} {K12 : Nat → Int → Int → Int → gaH → Prop} (r : mR h a u) (hl : u.length ≤ 64) {s p m : Nat} (hp : 1 ≤ p ∧ p ≤ 64) (hs : s ≤ 64) (hm : m ≤ 65) (k : ∀ c : Nat, c ≤ 64 → rpt u s p c → (∀ c', rpt u s p c' → c' ≤ c) → K12 a ((max m c : Nat) : Int) (s : Int) ((p : Int) + 1) h) : ∀ (n c : Nat), c ≤ 64 → 65 - c < n → rpt u s p c → w_X7_timesOf_L23 Q K4 K12 n a (m : Int) (s : Int) (p : Int) (c : Int) h
  | 0, _, _, h9, _ => absurd h9 (Nat.not_lt_zero _)
  | n + 1, c, h2, h9, hr => by
    have hc := hr.2.2.1
    have em : ((c : Int) + 1) * (p : Int) = (((c + 1) * p : Nat) : Int) := by push_cast; rfl
    have em2 : (c : Int) * (p : Int) = ((c * p : Nat) : Int) := by push_cast; rfl
    have b1 : (c + 1) * p ≤ 65 * 64 := Nat.mul_le_mul (by omega) hp.2
    have e1 : (c + 1) * p = c * p + p := Nat.succ_mul _ _
    have j : (∀ c', rpt u s p c' → c' ≤ c) → w_X7_timesOf_J57 Q K4 K12 a (m : Int) (s : Int) (p : Int) (c : Int) h := fun up => by
      unfold w_X7_timesOf_J57
      refine ⟨by omega, by omega, ?_⟩
      rw [show max (m : Int) (c : Int) = ((max m c : Nat) : Int) by omega]
      exact k c h2 hr up
    unfold w_X7_timesOf_L23
    rw [em, em2]
    refine r.len ⟨by omega, by omega, ?_⟩
    by_cases q : u.length < s + (c + 1) * p
    · refine if_yes (by omega) (j (fun c' hr' => ?_))
      have := hr'.2.2.1
      by_cases y : c' ≤ c
      · exact y
      · have := Nat.mul_le_mul_right p (show c + 1 ≤ c' by omega)
        omega
    · refine if_no (by omega) (xr_areLike r hl rfl (show (s : Int) + ((c * p : Nat) : Int) = ((s + c * p : Nat) : Int) by omega) rfl (by omega) (by omega) (by omega) (by omega) ⟨b2i_R _, ?_⟩)
      have c1 := hr.2.1
      have e3 : c * p = (c - 1) * p + p := by
        rw [← Nat.succ_mul]
        congr 1
        omega
      by_cases z : lk u s (s + c * p) p = true
      · rw [z]
        refine if_no (by decide) ?_
        rw [show (c : Int) + 1 = ((c + 1 : Nat) : Int) by omega]
        have hr2 : rpt u s p (c + 1) := by
          refine ⟨hp.1, by omega, by omega, fun i i1 i2 => ?_⟩
          by_cases y : i + p < s + c * p
          · exact hr.2.2.2 i i1 y
          · obtain ⟨t, ht⟩ : ∃ t, i = s + (c - 1) * p + t := ⟨i - (s + (c - 1) * p), by omega⟩
            have tl : t < p := by omega
            have z1 := of_decide_eq_true z t tl
            rw [rg_lt (by omega), rg_lt (by omega)] at z1
            have z2 := rpt_per hr tl (c - 1) (by omega)
            rw [show i = s + t + (c - 1) * p by omega, z2, z1]
            congr 1
            omega
        refine xr_times_L23 r hl hp hs hm k n (c + 1) ?_ (by omega) hr2
        have := (rpt_len hr2).2.2
        omega
      · refine if_yes (by rw [Bool.eq_false_iff.mpr z]; rfl) (j (fun c' hr' => ?_))
        by_cases y : c' ≤ c
        · exact y
        · refine absurd (decide_eq_true (fun t ht => ?_)) z
          have l1 := hr'.2.2.1
          have l2 := Nat.mul_le_mul_right p (show c + 1 ≤ c' by omega)
          have z2 := rpt_per hr' ht c (by omega)
          rw [rg_lt (by omega), rg_lt (by omega), ← z2]
          congr 1
          omega
theorem xr_times_L12 {K4 : Nat → Int → Int → gaH → Prop} (r : mR h a u) (hl : u.length ≤ 64) {s : Nat} (hs : s ≤ 64) (k : ∀ m : Nat, m ≤ 65 → (m = 0 ∨ ∃ s' p', rpt u s' p' m) → (∀ s' p' c, s' ≤ s → rpt u s' p' c → c ≤ m) → K4 a (m : Int) ((s : Int) + 1) h) : ∀ (n p m : Nat), 1 ≤ p → p ≤ 65 → 66 - p < n → m ≤ 65 → (m = 0 ∨ ∃ s' p', rpt u s' p' m) → (∀ s' p' c, (s' < s ∨ s' = s ∧ p' < p) → rpt u s' p' c → c ≤ m) → w_X7_timesOf_L12 Q K4 n a (m : Int) (s : Int) (p : Int) h
  | 0, _, _, _, _, h9, _, _, _ => absurd h9 (Nat.not_lt_zero _)
  | n + 1, p, m, h1, h2, h9, hm, att, up => by
    unfold w_X7_timesOf_L12
    refine r.len ⟨by omega, by omega, ?_⟩
    by_cases q : u.length < s + p
    · refine if_yes (by omega) (k m hm att (fun s' p' c hs' hr => ?_))
      by_cases y : s' < s ∨ s' = s ∧ p' < p
      · exact up s' p' c y hr
      · have l1 := hr.2.2.1
        have l2 := Nat.le_mul_of_pos_left p' hr.2.1
        omega
    · refine if_no (by omega) ⟨66, xr_times_L23 (p := p) r hl ⟨h1, by omega⟩ hs hm (fun c hc hr hu => ?_) 66 1 (by decide) (by decide) ⟨h1, Nat.le_refl _, by omega, fun i i1 i2 => by omega⟩⟩
      rw [show (p : Int) + 1 = ((p + 1 : Nat) : Int) by omega]
      refine xr_times_L12 r hl hs k n (p + 1) (max m c) (by omega) (by omega) (by omega) (by omega) (Or.inr ?_) (fun s' p' c' hs' hr' => ?_)
      · by_cases y : c ≤ m
        · rw [Nat.max_eq_left y]
          rcases att with a1 | a1
          · have := hr.2.1; omega
          · exact a1
        · rw [Nat.max_eq_right (by omega)]
          exact ⟨s, p, hr⟩
      · by_cases y : s' < s ∨ s' = s ∧ p' < p
        · have := up s' p' c' y hr'
          omega
        · obtain ⟨rfl, rfl⟩ : s' = s ∧ p' = p := by omega
          have := hu c' hr'
          omega
theorem xr_times_L4 (r : mR h a u) (hl : u.length ≤ 64) (k : ∀ r : Int, isT u r → Q r h) : ∀ (n s m : Nat), s ≤ u.length → u.length - s < n → m ≤ 65 → (m = 0 ∨ ∃ s' p', rpt u s' p' m) → (∀ s' p' c, s' < s → rpt u s' p' c → c ≤ m) → w_X7_timesOf_L4 Q n a (m : Int) (s : Int) h
  | 0, _, _, _, h9, _, _, _ => absurd h9 (Nat.not_lt_zero _)
  | n + 1, s, m, h1, h9, hm, att, up => by
    unfold w_X7_timesOf_L4
    refine r.len ⟨by omega, by omega, ?_⟩
    by_cases q : u.length ≤ s
    · refine if_yes (by omega) (k m ⟨fun s' p' c hr => ?_, ?_⟩)
      · have := up s' p' c (by have := (rpt_len hr).1; omega) hr
        omega
      · rcases att with a1 | ⟨s', p', a1⟩
        · by_cases y : u.length = 0
          · exact Or.inl ⟨by omega, y⟩
          · have := up 0 1 1 (by omega) ⟨Nat.le_refl _, Nat.le_refl _, by omega, fun i i1 i2 => by omega⟩
            omega
        · exact Or.inr ⟨s', p', m, rfl, a1⟩
    · refine if_no (by omega) ⟨67, xr_times_L12 r hl (by omega) (fun m' hm' att' up' => ?_) 67 1 m (by decide) (by decide) (by decide) hm att (fun s' p' c hs' hr => ?_)⟩
      · rw [show (s : Int) + 1 = ((s + 1 : Nat) : Int) by omega]
        exact xr_times_L4 r hl k n (s + 1) m' (by omega) (by omega) hm' att' (fun s' p' c hs' hr => up' s' p' c (by omega) hr)
      · rcases hs' with h3 | ⟨h3, h4⟩
        · exact up s' p' c h3 hr
        · have := hr.1; omega
theorem xr_timesOf (r : mR h a u) (hl : u.length ≤ 64) (k : ∀ r : Int, isT u r → Q r h) : w_X7_timesOf a h Q :=
  ⟨65, xr_times_L4 r hl k 65 0 0 (Nat.zero_le _) (by omega) (Nat.zero_le _) (Or.inl rfl) (fun s' p' c hs' _ => absurd hs' (Nat.not_lt_zero _))⟩
end RX
/-! The readings to the last: the garden, the reference, the law's wrappers. -/
section EX
variable {A B : Nat → Nat} {G : gaG} {h : gaH} {U : Nat → List Bool} {st : GSt} {no : Int} {X : String → gaH → Prop} {Q : Int → gaH → Prop} {w v g : Nat} {x y z : Int} {O : Nat} {z0 : Int64} {sv : Value}
def m_times_x (st : GSt) (x : Int) : Nat × (Int → Prop) × GSt := if okS x then says st (isT (st.S x.toNat)) else bad 1 st
theorem c_times_x (d : gD A G h U st) (hx : gR x) (k : gRes A G h [eI] X Q (m_times_x st x)) : w_X5_times X (A 22) x h Q := by
  unfold w_X5_times
  (first | refine And.intro (show gR _ from by first | assumption | omega | decide | exact b2i_R _ | exact gR_of (by omega) (by omega)) ?_ | refine And.intro (show gHas _ _ _ from by first | exact gW.has (gD.w (by assumption)) (by omega) | exact gD.has (by assumption) | exact gRu.has (gD.ru (by assumption)) | exact gGr.has (gD.gr (by assumption) _ (by omega))) ?_ | refine gCall_mk (by decide) (by decide) ?_ | refine if_yes (by first | assumption | omega | decide | exact b2i_R _ | exact gR_of (by omega) (by omega)) ?_ | refine if_no (by first | assumption | omega | decide | exact b2i_R _ | exact gR_of (by omega) (by omega)) ?_); (first | refine And.intro (show gR _ from by first | assumption | omega | decide | exact b2i_R _ | exact gR_of (by omega) (by omega)) ?_ | refine And.intro (show gHas _ _ _ from by first | exact gW.has (gD.w (by assumption)) (by omega) | exact gD.has (by assumption) | exact gRu.has (gD.ru (by assumption)) | exact gGr.has (gD.gr (by assumption) _ (by omega))) ?_ | refine gCall_mk (by decide) (by decide) ?_ | refine if_yes (by first | assumption | omega | decide | exact b2i_R _ | exact gR_of (by omega) (by omega)) ?_ | refine if_no (by first | assumption | omega | decide | exact b2i_R _ | exact gR_of (by omega) (by omega)) ?_)
  refine c_wordOf d hx (fun q => by rw [m_times_x, if_neg q] at k; exact k.ex d gFr.rf) (fun w hw e => ?_)
  subst e
  rw [m_times_x, if_pos (show okS (w : Int) by omega), Int.toNat_natCast, ← d.s w hw] at k
  exact x_timesOf d.w (by omega) (fun r hr => k.ok d gFr.rf hr)
theorem r_times_x (d : gM B h st no) (hx : gR x) (k : mRes B h Q (m_times_x st x)) : w_X7_times (B 0) x h Q := by
  unfold w_X7_times
  refine r_isNoSheet hx ⟨d.has, r_start d rfl (by decide) (fun q h1 d1 f1 => ?_) (fun q h1 d1 f1 => ?_)⟩
  · have q1 := nd q
    rw [m_times_x, if_pos q1] at k
    obtain ⟨w, rfl⟩ : ∃ w : Nat, x = w := ⟨x.toNat, by omega⟩
    rw [Int.toNat_natCast] at k
    have hw : w < 3 := by omega
    exact ⟨by decide, if_yes rfl (d1.f0 (d1.sh rfl hw (fun a ra na => xr_timesOf ra (d1.sl hw) (fun r hr => k.ok d1 f1 hr))))⟩
  · rw [m_times_x, if_neg (nn q)] at k
    exact ⟨by decide, if_no (by decide) (k.ex d1 f1)⟩
theorem m_times_x_u {x : Int} : ∀ p q, (m_times_x st x).2.1 p → (m_times_x st x).2.1 q → p = q := by
  unfold m_times_x
  repeat' split
  all_goals (intro p q h1 h2; first | exact Eq.trans h1 (Eq.symm h2) | exact isT_u _ _ h1 h2 | exact h1.elim)
theorem l_times_x_le {x : Int} : (m_times_x st x).1 ≤ 1 := by
  unfold m_times_x
  repeat' split
  all_goals simp
theorem m_times_x_st {x : Int} : (m_times_x st x).2.2 = st := by
  unfold m_times_x
  repeat' split
  all_goals rfl
theorem l_times_x {x : Int} (d : gD A G h U st) (hO : h O = some (6, [.long z0, sv])) (hA : ∀ i, i < 31 → O ≠ A i) (hx : gR x) (k : ∀ h' U' z' s', gD A G h' U' (m_times_x st x).2.2 → lF A O h h' → h' O = some (6, [.long z', s']) → ((m_times_x st x).1 = 0 → ∃ r, (m_times_x st x).2.1 r ∧ z' = gI2l r) → Q ((m_times_x st x).1 : Int) h') : w_L_times (A 22) x O h Q := by
  unfold w_L_times
  refine ⟨d.has, gCall_mk (by decide) (by decide) (c_times_x d hx (l_ret hO hA k (fun h' e q => ?_)))⟩
  have hle := l_times_x_le (st := st) (x := x)
  generalize (m_times_x st x).1 = cd at e q hle ⊢
  obtain rfl : cd = 1 := by omega
  exact ⟨rfl, q⟩
def m_overlaps_x (st : GSt) (x : Int) : Nat × (Int → Prop) × GSt := if okS x then says st (fun r => r = ((sm (fun p => sm (ovF (st.S x.toNat) p) 66) 66 : Nat) : Int)) else bad 1 st
theorem c_overlaps_x (d : gD A G h U st) (hx : gR x) (k : gRes A G h [eI] X Q (m_overlaps_x st x)) : w_X5_overlaps X (A 22) x h Q := by
  unfold w_X5_overlaps
  (first | refine And.intro (show gR _ from by first | assumption | omega | decide | exact b2i_R _ | exact gR_of (by omega) (by omega)) ?_ | refine And.intro (show gHas _ _ _ from by first | exact gW.has (gD.w (by assumption)) (by omega) | exact gD.has (by assumption) | exact gRu.has (gD.ru (by assumption)) | exact gGr.has (gD.gr (by assumption) _ (by omega))) ?_ | refine gCall_mk (by decide) (by decide) ?_ | refine if_yes (by first | assumption | omega | decide | exact b2i_R _ | exact gR_of (by omega) (by omega)) ?_ | refine if_no (by first | assumption | omega | decide | exact b2i_R _ | exact gR_of (by omega) (by omega)) ?_); (first | refine And.intro (show gR _ from by first | assumption | omega | decide | exact b2i_R _ | exact gR_of (by omega) (by omega)) ?_ | refine And.intro (show gHas _ _ _ from by first | exact gW.has (gD.w (by assumption)) (by omega) | exact gD.has (by assumption) | exact gRu.has (gD.ru (by assumption)) | exact gGr.has (gD.gr (by assumption) _ (by omega))) ?_ | refine gCall_mk (by decide) (by decide) ?_ | refine if_yes (by first | assumption | omega | decide | exact b2i_R _ | exact gR_of (by omega) (by omega)) ?_ | refine if_no (by first | assumption | omega | decide | exact b2i_R _ | exact gR_of (by omega) (by omega)) ?_)
  refine c_wordOf d hx (fun q => by rw [m_overlaps_x, if_neg q] at k; exact k.ex d gFr.rf) (fun w hw e => ?_)
  subst e
  rw [m_overlaps_x, if_pos (show okS (w : Int) by omega), Int.toNat_natCast, ← d.s w hw] at k
  exact x_overlapsOf d.w (by omega) (k.ok d gFr.rf rfl)
theorem r_overlaps_x (d : gM B h st no) (hx : gR x) (k : mRes B h Q (m_overlaps_x st x)) : w_X7_overlaps (B 0) x h Q := by
  unfold w_X7_overlaps
  refine r_isNoSheet hx ⟨d.has, r_start d rfl (by decide) (fun q h1 d1 f1 => ?_) (fun q h1 d1 f1 => ?_)⟩
  · have q1 := nd q
    rw [m_overlaps_x, if_pos q1] at k
    obtain ⟨w, rfl⟩ : ∃ w : Nat, x = w := ⟨x.toNat, by omega⟩
    rw [Int.toNat_natCast] at k
    have hw : w < 3 := by omega
    exact ⟨by decide, if_yes rfl (d1.f0 (d1.sh rfl hw (fun a ra na => xr_overlapsOf ra (d1.sl hw) (k.ok d1 f1 rfl))))⟩
  · rw [m_overlaps_x, if_neg (nn q)] at k
    exact ⟨by decide, if_no (by decide) (k.ex d1 f1)⟩
theorem m_overlaps_x_u {x : Int} : ∀ p q, (m_overlaps_x st x).2.1 p → (m_overlaps_x st x).2.1 q → p = q := by
  unfold m_overlaps_x
  repeat' split
  all_goals (intro p q h1 h2; first | exact Eq.trans h1 (Eq.symm h2) | exact isT_u _ _ h1 h2 | exact h1.elim)
theorem l_overlaps_x_le {x : Int} : (m_overlaps_x st x).1 ≤ 1 := by
  unfold m_overlaps_x
  repeat' split
  all_goals simp
theorem m_overlaps_x_st {x : Int} : (m_overlaps_x st x).2.2 = st := by
  unfold m_overlaps_x
  repeat' split
  all_goals rfl
theorem l_overlaps_x {x : Int} (d : gD A G h U st) (hO : h O = some (6, [.long z0, sv])) (hA : ∀ i, i < 31 → O ≠ A i) (hx : gR x) (k : ∀ h' U' z' s', gD A G h' U' (m_overlaps_x st x).2.2 → lF A O h h' → h' O = some (6, [.long z', s']) → ((m_overlaps_x st x).1 = 0 → ∃ r, (m_overlaps_x st x).2.1 r ∧ z' = gI2l r) → Q ((m_overlaps_x st x).1 : Int) h') : w_L_overlaps (A 22) x O h Q := by
  unfold w_L_overlaps
  refine ⟨d.has, gCall_mk (by decide) (by decide) (c_overlaps_x d hx (l_ret hO hA k (fun h' e q => ?_)))⟩
  have hle := l_overlaps_x_le (st := st) (x := x)
  generalize (m_overlaps_x st x).1 = cd at e q hle ⊢
  obtain rfl : cd = 1 := by omega
  exact ⟨rfl, q⟩
def m_mirrors_x (st : GSt) (x : Int) : Nat × (Int → Prop) × GSt := if okS x then says st (fun r => r = ((sm (fun a => sm (mrF (st.S x.toNat) a) 66) (st.S x.toNat).length : Nat) : Int)) else bad 1 st
theorem c_mirrors_x (d : gD A G h U st) (hx : gR x) (k : gRes A G h [eI] X Q (m_mirrors_x st x)) : w_X5_mirrors X (A 22) x h Q := by
  unfold w_X5_mirrors
  (first | refine And.intro (show gR _ from by first | assumption | omega | decide | exact b2i_R _ | exact gR_of (by omega) (by omega)) ?_ | refine And.intro (show gHas _ _ _ from by first | exact gW.has (gD.w (by assumption)) (by omega) | exact gD.has (by assumption) | exact gRu.has (gD.ru (by assumption)) | exact gGr.has (gD.gr (by assumption) _ (by omega))) ?_ | refine gCall_mk (by decide) (by decide) ?_ | refine if_yes (by first | assumption | omega | decide | exact b2i_R _ | exact gR_of (by omega) (by omega)) ?_ | refine if_no (by first | assumption | omega | decide | exact b2i_R _ | exact gR_of (by omega) (by omega)) ?_); (first | refine And.intro (show gR _ from by first | assumption | omega | decide | exact b2i_R _ | exact gR_of (by omega) (by omega)) ?_ | refine And.intro (show gHas _ _ _ from by first | exact gW.has (gD.w (by assumption)) (by omega) | exact gD.has (by assumption) | exact gRu.has (gD.ru (by assumption)) | exact gGr.has (gD.gr (by assumption) _ (by omega))) ?_ | refine gCall_mk (by decide) (by decide) ?_ | refine if_yes (by first | assumption | omega | decide | exact b2i_R _ | exact gR_of (by omega) (by omega)) ?_ | refine if_no (by first | assumption | omega | decide | exact b2i_R _ | exact gR_of (by omega) (by omega)) ?_)
  refine c_wordOf d hx (fun q => by rw [m_mirrors_x, if_neg q] at k; exact k.ex d gFr.rf) (fun w hw e => ?_)
  subst e
  rw [m_mirrors_x, if_pos (show okS (w : Int) by omega), Int.toNat_natCast, ← d.s w hw] at k
  exact x_mirrorsOf d.w (by omega) (k.ok d gFr.rf rfl)
theorem r_mirrors_x (d : gM B h st no) (hx : gR x) (k : mRes B h Q (m_mirrors_x st x)) : w_X7_mirrors (B 0) x h Q := by
  unfold w_X7_mirrors
  refine r_isNoSheet hx ⟨d.has, r_start d rfl (by decide) (fun q h1 d1 f1 => ?_) (fun q h1 d1 f1 => ?_)⟩
  · have q1 := nd q
    rw [m_mirrors_x, if_pos q1] at k
    obtain ⟨w, rfl⟩ : ∃ w : Nat, x = w := ⟨x.toNat, by omega⟩
    rw [Int.toNat_natCast] at k
    have hw : w < 3 := by omega
    exact ⟨by decide, if_yes rfl (d1.f0 (d1.sh rfl hw (fun a ra na => xr_mirrorsOf ra (d1.sl hw) (k.ok d1 f1 rfl))))⟩
  · rw [m_mirrors_x, if_neg (nn q)] at k
    exact ⟨by decide, if_no (by decide) (k.ex d1 f1)⟩
theorem m_mirrors_x_u {x : Int} : ∀ p q, (m_mirrors_x st x).2.1 p → (m_mirrors_x st x).2.1 q → p = q := by
  unfold m_mirrors_x
  repeat' split
  all_goals (intro p q h1 h2; first | exact Eq.trans h1 (Eq.symm h2) | exact isT_u _ _ h1 h2 | exact h1.elim)
theorem l_mirrors_x_le {x : Int} : (m_mirrors_x st x).1 ≤ 1 := by
  unfold m_mirrors_x
  repeat' split
  all_goals simp
theorem m_mirrors_x_st {x : Int} : (m_mirrors_x st x).2.2 = st := by
  unfold m_mirrors_x
  repeat' split
  all_goals rfl
theorem l_mirrors_x {x : Int} (d : gD A G h U st) (hO : h O = some (6, [.long z0, sv])) (hA : ∀ i, i < 31 → O ≠ A i) (hx : gR x) (k : ∀ h' U' z' s', gD A G h' U' (m_mirrors_x st x).2.2 → lF A O h h' → h' O = some (6, [.long z', s']) → ((m_mirrors_x st x).1 = 0 → ∃ r, (m_mirrors_x st x).2.1 r ∧ z' = gI2l r) → Q ((m_mirrors_x st x).1 : Int) h') : w_L_mirrors (A 22) x O h Q := by
  unfold w_L_mirrors
  refine ⟨d.has, gCall_mk (by decide) (by decide) (c_mirrors_x d hx (l_ret hO hA k (fun h' e q => ?_)))⟩
  have hle := l_mirrors_x_le (st := st) (x := x)
  generalize (m_mirrors_x st x).1 = cd at e q hle ⊢
  obtain rfl : cd = 1 := by omega
  exact ⟨rfl, q⟩
def m_folds_x (st : GSt) (x : Int) : Nat × (Int → Prop) × GSt := if okS x then says st (fun r => r = ((sm (flF (st.S x.toNat)) (st.S x.toNat).length : Nat) : Int)) else bad 1 st
theorem c_folds_x (d : gD A G h U st) (hx : gR x) (k : gRes A G h [eI] X Q (m_folds_x st x)) : w_X5_folds X (A 22) x h Q := by
  unfold w_X5_folds
  (first | refine And.intro (show gR _ from by first | assumption | omega | decide | exact b2i_R _ | exact gR_of (by omega) (by omega)) ?_ | refine And.intro (show gHas _ _ _ from by first | exact gW.has (gD.w (by assumption)) (by omega) | exact gD.has (by assumption) | exact gRu.has (gD.ru (by assumption)) | exact gGr.has (gD.gr (by assumption) _ (by omega))) ?_ | refine gCall_mk (by decide) (by decide) ?_ | refine if_yes (by first | assumption | omega | decide | exact b2i_R _ | exact gR_of (by omega) (by omega)) ?_ | refine if_no (by first | assumption | omega | decide | exact b2i_R _ | exact gR_of (by omega) (by omega)) ?_); (first | refine And.intro (show gR _ from by first | assumption | omega | decide | exact b2i_R _ | exact gR_of (by omega) (by omega)) ?_ | refine And.intro (show gHas _ _ _ from by first | exact gW.has (gD.w (by assumption)) (by omega) | exact gD.has (by assumption) | exact gRu.has (gD.ru (by assumption)) | exact gGr.has (gD.gr (by assumption) _ (by omega))) ?_ | refine gCall_mk (by decide) (by decide) ?_ | refine if_yes (by first | assumption | omega | decide | exact b2i_R _ | exact gR_of (by omega) (by omega)) ?_ | refine if_no (by first | assumption | omega | decide | exact b2i_R _ | exact gR_of (by omega) (by omega)) ?_)
  refine c_wordOf d hx (fun q => by rw [m_folds_x, if_neg q] at k; exact k.ex d gFr.rf) (fun w hw e => ?_)
  subst e
  rw [m_folds_x, if_pos (show okS (w : Int) by omega), Int.toNat_natCast, ← d.s w hw] at k
  exact x_foldsOf d.w (by omega) (k.ok d gFr.rf rfl)
theorem r_folds_x (d : gM B h st no) (hx : gR x) (k : mRes B h Q (m_folds_x st x)) : w_X7_folds (B 0) x h Q := by
  unfold w_X7_folds
  refine r_isNoSheet hx ⟨d.has, r_start d rfl (by decide) (fun q h1 d1 f1 => ?_) (fun q h1 d1 f1 => ?_)⟩
  · have q1 := nd q
    rw [m_folds_x, if_pos q1] at k
    obtain ⟨w, rfl⟩ : ∃ w : Nat, x = w := ⟨x.toNat, by omega⟩
    rw [Int.toNat_natCast] at k
    have hw : w < 3 := by omega
    exact ⟨by decide, if_yes rfl (d1.f0 (d1.sh rfl hw (fun a ra na => xr_foldsOf ra (d1.sl hw) (k.ok d1 f1 rfl))))⟩
  · rw [m_folds_x, if_neg (nn q)] at k
    exact ⟨by decide, if_no (by decide) (k.ex d1 f1)⟩
theorem m_folds_x_u {x : Int} : ∀ p q, (m_folds_x st x).2.1 p → (m_folds_x st x).2.1 q → p = q := by
  unfold m_folds_x
  repeat' split
  all_goals (intro p q h1 h2; first | exact Eq.trans h1 (Eq.symm h2) | exact isT_u _ _ h1 h2 | exact h1.elim)
theorem l_folds_x_le {x : Int} : (m_folds_x st x).1 ≤ 1 := by
  unfold m_folds_x
  repeat' split
  all_goals simp
theorem m_folds_x_st {x : Int} : (m_folds_x st x).2.2 = st := by
  unfold m_folds_x
  repeat' split
  all_goals rfl
theorem l_folds_x {x : Int} (d : gD A G h U st) (hO : h O = some (6, [.long z0, sv])) (hA : ∀ i, i < 31 → O ≠ A i) (hx : gR x) (k : ∀ h' U' z' s', gD A G h' U' (m_folds_x st x).2.2 → lF A O h h' → h' O = some (6, [.long z', s']) → ((m_folds_x st x).1 = 0 → ∃ r, (m_folds_x st x).2.1 r ∧ z' = gI2l r) → Q ((m_folds_x st x).1 : Int) h') : w_L_folds (A 22) x O h Q := by
  unfold w_L_folds
  refine ⟨d.has, gCall_mk (by decide) (by decide) (c_folds_x d hx (l_ret hO hA k (fun h' e q => ?_)))⟩
  have hle := l_folds_x_le (st := st) (x := x)
  generalize (m_folds_x st x).1 = cd at e q hle ⊢
  obtain rfl : cd = 1 := by omega
  exact ⟨rfl, q⟩
def m_least_x (st : GSt) (x : Int) : Nat × (Int → Prop) × GSt := if okS x then says st (fun r => r = ((lst (st.S x.toNat) (st.S x.toNat).length : Nat) : Int)) else bad 1 st
theorem c_least_x (d : gD A G h U st) (hx : gR x) (k : gRes A G h [eI] X Q (m_least_x st x)) : w_X5_least X (A 22) x h Q := by
  unfold w_X5_least
  (first | refine And.intro (show gR _ from by first | assumption | omega | decide | exact b2i_R _ | exact gR_of (by omega) (by omega)) ?_ | refine And.intro (show gHas _ _ _ from by first | exact gW.has (gD.w (by assumption)) (by omega) | exact gD.has (by assumption) | exact gRu.has (gD.ru (by assumption)) | exact gGr.has (gD.gr (by assumption) _ (by omega))) ?_ | refine gCall_mk (by decide) (by decide) ?_ | refine if_yes (by first | assumption | omega | decide | exact b2i_R _ | exact gR_of (by omega) (by omega)) ?_ | refine if_no (by first | assumption | omega | decide | exact b2i_R _ | exact gR_of (by omega) (by omega)) ?_); (first | refine And.intro (show gR _ from by first | assumption | omega | decide | exact b2i_R _ | exact gR_of (by omega) (by omega)) ?_ | refine And.intro (show gHas _ _ _ from by first | exact gW.has (gD.w (by assumption)) (by omega) | exact gD.has (by assumption) | exact gRu.has (gD.ru (by assumption)) | exact gGr.has (gD.gr (by assumption) _ (by omega))) ?_ | refine gCall_mk (by decide) (by decide) ?_ | refine if_yes (by first | assumption | omega | decide | exact b2i_R _ | exact gR_of (by omega) (by omega)) ?_ | refine if_no (by first | assumption | omega | decide | exact b2i_R _ | exact gR_of (by omega) (by omega)) ?_)
  refine c_wordOf d hx (fun q => by rw [m_least_x, if_neg q] at k; exact k.ex d gFr.rf) (fun w hw e => ?_)
  subst e
  rw [m_least_x, if_pos (show okS (w : Int) by omega), Int.toNat_natCast, ← d.s w hw] at k
  exact x_leastOf d.w (by omega) (k.ok d gFr.rf rfl)
theorem r_least_x (d : gM B h st no) (hx : gR x) (k : mRes B h Q (m_least_x st x)) : w_X7_least (B 0) x h Q := by
  unfold w_X7_least
  refine r_isNoSheet hx ⟨d.has, r_start d rfl (by decide) (fun q h1 d1 f1 => ?_) (fun q h1 d1 f1 => ?_)⟩
  · have q1 := nd q
    rw [m_least_x, if_pos q1] at k
    obtain ⟨w, rfl⟩ : ∃ w : Nat, x = w := ⟨x.toNat, by omega⟩
    rw [Int.toNat_natCast] at k
    have hw : w < 3 := by omega
    exact ⟨by decide, if_yes rfl (d1.f0 (d1.sh rfl hw (fun a ra na => xr_leastOf ra (d1.sl hw) (k.ok d1 f1 rfl))))⟩
  · rw [m_least_x, if_neg (nn q)] at k
    exact ⟨by decide, if_no (by decide) (k.ex d1 f1)⟩
theorem m_least_x_u {x : Int} : ∀ p q, (m_least_x st x).2.1 p → (m_least_x st x).2.1 q → p = q := by
  unfold m_least_x
  repeat' split
  all_goals (intro p q h1 h2; first | exact Eq.trans h1 (Eq.symm h2) | exact isT_u _ _ h1 h2 | exact h1.elim)
theorem l_least_x_le {x : Int} : (m_least_x st x).1 ≤ 1 := by
  unfold m_least_x
  repeat' split
  all_goals simp
theorem m_least_x_st {x : Int} : (m_least_x st x).2.2 = st := by
  unfold m_least_x
  repeat' split
  all_goals rfl
theorem l_least_x {x : Int} (d : gD A G h U st) (hO : h O = some (6, [.long z0, sv])) (hA : ∀ i, i < 31 → O ≠ A i) (hx : gR x) (k : ∀ h' U' z' s', gD A G h' U' (m_least_x st x).2.2 → lF A O h h' → h' O = some (6, [.long z', s']) → ((m_least_x st x).1 = 0 → ∃ r, (m_least_x st x).2.1 r ∧ z' = gI2l r) → Q ((m_least_x st x).1 : Int) h') : w_L_least (A 22) x O h Q := by
  unfold w_L_least
  refine ⟨d.has, gCall_mk (by decide) (by decide) (c_least_x d hx (l_ret hO hA k (fun h' e q => ?_)))⟩
  have hle := l_least_x_le (st := st) (x := x)
  generalize (m_least_x st x).1 = cd at e q hle ⊢
  obtain rfl : cd = 1 := by omega
  exact ⟨rfl, q⟩
def m_isMirrored_x (st : GSt) (x : Int) : Nat × (Int → Prop) × GSt := if okS x then says st (fun r => r = b2i (mir (st.S x.toNat) 0 (st.S x.toNat).length)) else bad 1 st
theorem c_isMirrored_x (d : gD A G h U st) (hx : gR x) (k : gRes A G h [eI] X Q (m_isMirrored_x st x)) : w_X5_isMirrored X (A 22) x h Q := by
  unfold w_X5_isMirrored
  (first | refine And.intro (show gR _ from by first | assumption | omega | decide | exact b2i_R _ | exact gR_of (by omega) (by omega)) ?_ | refine And.intro (show gHas _ _ _ from by first | exact gW.has (gD.w (by assumption)) (by omega) | exact gD.has (by assumption) | exact gRu.has (gD.ru (by assumption)) | exact gGr.has (gD.gr (by assumption) _ (by omega))) ?_ | refine gCall_mk (by decide) (by decide) ?_ | refine if_yes (by first | assumption | omega | decide | exact b2i_R _ | exact gR_of (by omega) (by omega)) ?_ | refine if_no (by first | assumption | omega | decide | exact b2i_R _ | exact gR_of (by omega) (by omega)) ?_); (first | refine And.intro (show gR _ from by first | assumption | omega | decide | exact b2i_R _ | exact gR_of (by omega) (by omega)) ?_ | refine And.intro (show gHas _ _ _ from by first | exact gW.has (gD.w (by assumption)) (by omega) | exact gD.has (by assumption) | exact gRu.has (gD.ru (by assumption)) | exact gGr.has (gD.gr (by assumption) _ (by omega))) ?_ | refine gCall_mk (by decide) (by decide) ?_ | refine if_yes (by first | assumption | omega | decide | exact b2i_R _ | exact gR_of (by omega) (by omega)) ?_ | refine if_no (by first | assumption | omega | decide | exact b2i_R _ | exact gR_of (by omega) (by omega)) ?_)
  refine c_wordOf d hx (fun q => by rw [m_isMirrored_x, if_neg q] at k; exact k.ex d gFr.rf) (fun w hw e => ?_)
  subst e
  rw [m_isMirrored_x, if_pos (show okS (w : Int) by omega), Int.toNat_natCast, ← d.s w hw] at k
  exact d.w.many (by omega) (x_isMir (a := 0) (l := (U w).length) d.w (by omega) rfl rfl (by omega) ⟨b2i_nar _, k.ok d gFr.rf rfl⟩)
theorem r_isMirrored_x (d : gM B h st no) (hx : gR x) (k : mRes B h Q (m_isMirrored_x st x)) : w_X7_isMirrored_ (B 0) x h Q := by
  unfold w_X7_isMirrored_
  refine r_isNoSheet hx ⟨d.has, r_start d rfl (by decide) (fun q h1 d1 f1 => ?_) (fun q h1 d1 f1 => ?_)⟩
  · have q1 := nd q
    rw [m_isMirrored_x, if_pos q1] at k
    obtain ⟨w, rfl⟩ : ∃ w : Nat, x = w := ⟨x.toNat, by omega⟩
    rw [Int.toNat_natCast] at k
    have hw : w < 3 := by omega
    have hl := d1.sl hw
    refine ⟨by decide, if_yes rfl (d1.f0 (d1.sh rfl hw (fun a ra na => d1.f0 (d1.sh rfl hw (fun c rc nc => rc.len (xr_isMir (f := 0) (t := (st.S w).length) ra hl rfl rfl (Nat.zero_le _) (Nat.le_refl _) ⟨b2i_R _, ?_⟩))))))⟩
    have kk := k.ok d1 f1 rfl
    rw [Nat.sub_zero]
    generalize mir (st.S w) 0 (st.S w).length = t at kk
    cases t
    · exact if_yes rfl kk
    · exact if_no (by decide) kk
  · rw [m_isMirrored_x, if_neg (nn q)] at k
    exact ⟨by decide, if_no (by decide) (k.ex d1 f1)⟩
theorem m_isMirrored_x_u {x : Int} : ∀ p q, (m_isMirrored_x st x).2.1 p → (m_isMirrored_x st x).2.1 q → p = q := by
  unfold m_isMirrored_x
  repeat' split
  all_goals (intro p q h1 h2; first | exact Eq.trans h1 (Eq.symm h2) | exact isT_u _ _ h1 h2 | exact h1.elim)
theorem l_isMirrored_x_le {x : Int} : (m_isMirrored_x st x).1 ≤ 1 := by
  unfold m_isMirrored_x
  repeat' split
  all_goals simp
theorem m_isMirrored_x_st {x : Int} : (m_isMirrored_x st x).2.2 = st := by
  unfold m_isMirrored_x
  repeat' split
  all_goals rfl
theorem l_isMirrored_x {x : Int} (d : gD A G h U st) (hO : h O = some (6, [.long z0, sv])) (hA : ∀ i, i < 31 → O ≠ A i) (hx : gR x) (k : ∀ h' U' z' s', gD A G h' U' (m_isMirrored_x st x).2.2 → lF A O h h' → h' O = some (6, [.long z', s']) → ((m_isMirrored_x st x).1 = 0 → ∃ r, (m_isMirrored_x st x).2.1 r ∧ z' = gI2l r) → Q ((m_isMirrored_x st x).1 : Int) h') : w_L_isMirrored (A 22) x O h Q := by
  unfold w_L_isMirrored
  have hb : ∀ r, (m_isMirrored_x st x).2.1 r → r = 0 ∨ r = 1 := by
    unfold m_isMirrored_x
    repeat' split
    · intro r hr; obtain rfl := hr; exact b2i_01 _
    · intro r hr; exact hr.elim
  unfold w_L_isMirrored_J14
  refine ⟨d.has, gCall_mk (by decide) (by decide) (c_isMirrored_x d hx (l_retB hO hA k hb (fun h' e q => ?_)))⟩
  have hle := l_isMirrored_x_le (st := st) (x := x)
  generalize (m_isMirrored_x st x).1 = cd at e q hle ⊢
  obtain rfl : cd = 1 := by omega
  exact ⟨rfl, q⟩
def m_spread_x (st : GSt) (x y : Int) (b : Bool) : Nat × (Int → Prop) × GSt := if okS x then if 0 ≤ y ∧ y ≤ ((st.S x.toNat).length : Int) then says st (fun r => r = sprV (st.S x.toNat) y.toNat (begins (st.S x.toNat).length y.toNat b)) else bad 2 st else bad 1 st
theorem c_spread_x (d : gD A G h U st) {b : Bool} (hx : gR x) (hy : gR y) (hz : z = b2i b) (k : gRes A G h [eI, eA] X Q (m_spread_x st x y b)) : w_X5_spread X (A 22) x y z h Q := by
  unfold w_X5_spread
  (first | refine And.intro (show gR _ from by first | assumption | omega | decide | exact b2i_R _ | exact gR_of (by omega) (by omega)) ?_ | refine And.intro (show gHas _ _ _ from by first | exact gW.has (gD.w (by assumption)) (by omega) | exact gD.has (by assumption) | exact gRu.has (gD.ru (by assumption)) | exact gGr.has (gD.gr (by assumption) _ (by omega))) ?_ | refine gCall_mk (by decide) (by decide) ?_ | refine if_yes (by first | assumption | omega | decide | exact b2i_R _ | exact gR_of (by omega) (by omega)) ?_ | refine if_no (by first | assumption | omega | decide | exact b2i_R _ | exact gR_of (by omega) (by omega)) ?_); (first | refine And.intro (show gR _ from by first | assumption | omega | decide | exact b2i_R _ | exact gR_of (by omega) (by omega)) ?_ | refine And.intro (show gHas _ _ _ from by first | exact gW.has (gD.w (by assumption)) (by omega) | exact gD.has (by assumption) | exact gRu.has (gD.ru (by assumption)) | exact gGr.has (gD.gr (by assumption) _ (by omega))) ?_ | refine gCall_mk (by decide) (by decide) ?_ | refine if_yes (by first | assumption | omega | decide | exact b2i_R _ | exact gR_of (by omega) (by omega)) ?_ | refine if_no (by first | assumption | omega | decide | exact b2i_R _ | exact gR_of (by omega) (by omega)) ?_)
  refine c_wordOf d hx (fun q => by rw [m_spread_x, if_neg q] at k; exact k.ex d gFr.rf) (fun w hw e => ?_)
  subst e
  rw [m_spread_x, if_pos (show okS (w : Int) by omega), Int.toNat_natCast, ← d.s w hw] at k
  have l1 := d.w.le (show w < 11 by omega)
  have bd : ¬ (0 ≤ y ∧ y ≤ ((U w).length : Int)) → w_X5_spread_J24 X Q y z (A w) h 1 6 := fun q => by
    rw [if_neg q] at k
    unfold w_X5_spread_J24 w_X5_spread_J25
    (first | refine And.intro (show gR _ from by first | assumption | omega | decide | exact b2i_R _ | exact gR_of (by omega) (by omega)) ?_ | refine And.intro (show gHas _ _ _ from by first | exact gW.has (gD.w (by assumption)) (by omega) | exact gD.has (by assumption) | exact gRu.has (gD.ru (by assumption)) | exact gGr.has (gD.gr (by assumption) _ (by omega))) ?_ | refine gCall_mk (by decide) (by decide) ?_ | refine if_yes (by first | assumption | omega | decide | exact b2i_R _ | exact gR_of (by omega) (by omega)) ?_ | refine if_no (by first | assumption | omega | decide | exact b2i_R _ | exact gR_of (by omega) (by omega)) ?_)
    exact c_nA0 (k.ex d gFr.rf)
  (first | refine And.intro (show gR _ from by first | assumption | omega | decide | exact b2i_R _ | exact gR_of (by omega) (by omega)) ?_ | refine And.intro (show gHas _ _ _ from by first | exact gW.has (gD.w (by assumption)) (by omega) | exact gD.has (by assumption) | exact gRu.has (gD.ru (by assumption)) | exact gGr.has (gD.gr (by assumption) _ (by omega))) ?_ | refine gCall_mk (by decide) (by decide) ?_ | refine if_yes (by first | assumption | omega | decide | exact b2i_R _ | exact gR_of (by omega) (by omega)) ?_ | refine if_no (by first | assumption | omega | decide | exact b2i_R _ | exact gR_of (by omega) (by omega)) ?_)
  by_cases q1 : y < 0
  · exact if_yes q1 (bd (by omega))
  (first | refine And.intro (show gR _ from by first | assumption | omega | decide | exact b2i_R _ | exact gR_of (by omega) (by omega)) ?_ | refine And.intro (show gHas _ _ _ from by first | exact gW.has (gD.w (by assumption)) (by omega) | exact gD.has (by assumption) | exact gRu.has (gD.ru (by assumption)) | exact gGr.has (gD.gr (by assumption) _ (by omega))) ?_ | refine gCall_mk (by decide) (by decide) ?_ | refine if_yes (by first | assumption | omega | decide | exact b2i_R _ | exact gR_of (by omega) (by omega)) ?_ | refine if_no (by first | assumption | omega | decide | exact b2i_R _ | exact gR_of (by omega) (by omega)) ?_)
  refine d.w.many (by omega) ?_
  (first | refine And.intro (show gR _ from by first | assumption | omega | decide | exact b2i_R _ | exact gR_of (by omega) (by omega)) ?_ | refine And.intro (show gHas _ _ _ from by first | exact gW.has (gD.w (by assumption)) (by omega) | exact gD.has (by assumption) | exact gRu.has (gD.ru (by assumption)) | exact gGr.has (gD.gr (by assumption) _ (by omega))) ?_ | refine gCall_mk (by decide) (by decide) ?_ | refine if_yes (by first | assumption | omega | decide | exact b2i_R _ | exact gR_of (by omega) (by omega)) ?_ | refine if_no (by first | assumption | omega | decide | exact b2i_R _ | exact gR_of (by omega) (by omega)) ?_); (first | refine And.intro (show gR _ from by first | assumption | omega | decide | exact b2i_R _ | exact gR_of (by omega) (by omega)) ?_ | refine And.intro (show gHas _ _ _ from by first | exact gW.has (gD.w (by assumption)) (by omega) | exact gD.has (by assumption) | exact gRu.has (gD.ru (by assumption)) | exact gGr.has (gD.gr (by assumption) _ (by omega))) ?_ | refine gCall_mk (by decide) (by decide) ?_ | refine if_yes (by first | assumption | omega | decide | exact b2i_R _ | exact gR_of (by omega) (by omega)) ?_ | refine if_no (by first | assumption | omega | decide | exact b2i_R _ | exact gR_of (by omega) (by omega)) ?_)
  by_cases q2 : ((U w).length : Int) < y
  · exact if_yes q2 (bd (by omega))
  (first | refine And.intro (show gR _ from by first | assumption | omega | decide | exact b2i_R _ | exact gR_of (by omega) (by omega)) ?_ | refine And.intro (show gHas _ _ _ from by first | exact gW.has (gD.w (by assumption)) (by omega) | exact gD.has (by assumption) | exact gRu.has (gD.ru (by assumption)) | exact gGr.has (gD.gr (by assumption) _ (by omega))) ?_ | refine gCall_mk (by decide) (by decide) ?_ | refine if_yes (by first | assumption | omega | decide | exact b2i_R _ | exact gR_of (by omega) (by omega)) ?_ | refine if_no (by first | assumption | omega | decide | exact b2i_R _ | exact gR_of (by omega) (by omega)) ?_)
  rw [if_pos ⟨by omega, by omega⟩] at k
  unfold w_X5_spread_J25
  (first | refine And.intro (show gR _ from by first | assumption | omega | decide | exact b2i_R _ | exact gR_of (by omega) (by omega)) ?_ | refine And.intro (show gHas _ _ _ from by first | exact gW.has (gD.w (by assumption)) (by omega) | exact gD.has (by assumption) | exact gRu.has (gD.ru (by assumption)) | exact gGr.has (gD.gr (by assumption) _ (by omega))) ?_ | refine gCall_mk (by decide) (by decide) ?_ | refine if_yes (by first | assumption | omega | decide | exact b2i_R _ | exact gR_of (by omega) (by omega)) ?_ | refine if_no (by first | assumption | omega | decide | exact b2i_R _ | exact gR_of (by omega) (by omega)) ?_)
  refine c_nA1 ?_
  exact x_spreadOf d.w (by omega) (show y = (y.toNat : Int) by omega) hz (by omega) (k.ok d gFr.rf rfl)
theorem r_spread_x {b : Bool} (d : gM B h st no) (hx : gR x) (hy : gR y) (hz : z = b2i b) (k : mRes B h Q (m_spread_x st x y b)) : w_X7_spread (B 0) x y z h Q := by
  subst hz
  unfold w_X7_spread
  refine r_isNoSheet hx ⟨d.has, r_start d rfl (by decide) (fun q h1 d1 f1 => ?_) (fun q h1 d1 f1 => ?_)⟩
  · have q1 := nd q
    rw [m_spread_x, if_pos q1] at k
    obtain ⟨w, rfl⟩ : ∃ w : Nat, x = w := ⟨x.toNat, by omega⟩
    rw [Int.toNat_natCast] at k
    have hw : w < 3 := by omega
    have hl := d1.sl hw
    refine ⟨by decide, if_yes rfl (d1.f0 (d1.sh rfl hw (fun a ra na => ra.len (r_isIn hy (by decide) (by omega) (sel (fun t => w_X7_spread_J33 Q (B 0) (w : Int) y (b2i b) (B 0) t h1) ?_)))))⟩
    unfold w_X7_spread_J33
    refine ⟨d1.has, r_refuse d1 rfl (by decide) (fun q => ?_) (fun q h2 d2 f2 => ?_)⟩
    · have q2 := nd q
      rw [if_pos q2] at k
      obtain ⟨l, rfl⟩ : ∃ w : Nat, y = w := ⟨y.toNat, by omega⟩
      rw [Int.toNat_natCast] at k
      have hb : begins (st.S w).length l b ≤ 65 := by unfold begins; split <;> omega
      exact ⟨by decide, if_yes rfl (d1.f0 (d1.sh rfl hw (fun a ra na => ⟨67, xr_spread_L59 ra hl (by omega) (k.ok d1 f1 rfl) 67 0 (Nat.zero_le _) (by omega)⟩)))⟩
    · rw [if_neg (nn q)] at k
      exact ⟨by decide, if_no (by decide) (k.ex d2 (f1.tr f2))⟩
  · rw [m_spread_x, if_neg (nn q)] at k
    exact ⟨by decide, if_no (by decide) (k.ex d1 f1)⟩
theorem m_spread_x_u {x y : Int} {b : Bool} : ∀ p q, (m_spread_x st x y b).2.1 p → (m_spread_x st x y b).2.1 q → p = q := by
  unfold m_spread_x
  repeat' split
  all_goals (intro p q h1 h2; first | exact Eq.trans h1 (Eq.symm h2) | exact isT_u _ _ h1 h2 | exact h1.elim)
theorem l_spread_x_le {x y : Int} {b : Bool} : (m_spread_x st x y b).1 ≤ 2 := by
  unfold m_spread_x
  repeat' split
  all_goals simp
theorem m_spread_x_st {x y : Int} {b : Bool} : (m_spread_x st x y b).2.2 = st := by
  unfold m_spread_x
  repeat' split
  all_goals rfl
theorem l_spread_x {x y : Int} {z : Int} {b : Bool} (d : gD A G h U st) (hO : h O = some (6, [.long z0, sv])) (hA : ∀ i, i < 31 → O ≠ A i) (hx : gR x) (hy : gR y) (hz : z = b2i b) (k : ∀ h' U' z' s', gD A G h' U' (m_spread_x st x y b).2.2 → lF A O h h' → h' O = some (6, [.long z', s']) → ((m_spread_x st x y b).1 = 0 → ∃ r, (m_spread_x st x y b).2.1 r ∧ z' = gI2l r) → Q ((m_spread_x st x y b).1 : Int) h') : w_L_spread (A 22) x y z O h Q := by
  unfold w_L_spread
  refine ⟨d.has, gCall_mk (by decide) (by decide) (c_spread_x d hx hy hz (l_ret hO hA k (fun h' e q => ?_)))⟩
  have hle := l_spread_x_le (st := st) (x := x) (y := y) (b := b)
  generalize (m_spread_x st x y b).1 = cd at e q hle ⊢
  rcases (show cd = 1 ∨ cd = 2 by omega) with rfl | rfl
  · exact Or.inl ⟨rfl, q⟩
  · exact Or.inr ⟨rfl, q⟩
def m_kinds_x (st : GSt) (x y : Int) (b : Bool) : Nat × (Int → Prop) × GSt := if okS x then if 0 ≤ y ∧ y ≤ ((st.S x.toNat).length : Int) then says st (fun r => r = ((sm (kdF (st.S x.toNat) y.toNat) (begins (st.S x.toNat).length y.toNat b) : Nat) : Int)) else bad 2 st else bad 1 st
theorem c_kinds_x (d : gD A G h U st) {b : Bool} (hx : gR x) (hy : gR y) (hz : z = b2i b) (k : gRes A G h [eI, eA] X Q (m_kinds_x st x y b)) : w_X5_kinds X (A 22) x y z h Q := by
  unfold w_X5_kinds
  (first | refine And.intro (show gR _ from by first | assumption | omega | decide | exact b2i_R _ | exact gR_of (by omega) (by omega)) ?_ | refine And.intro (show gHas _ _ _ from by first | exact gW.has (gD.w (by assumption)) (by omega) | exact gD.has (by assumption) | exact gRu.has (gD.ru (by assumption)) | exact gGr.has (gD.gr (by assumption) _ (by omega))) ?_ | refine gCall_mk (by decide) (by decide) ?_ | refine if_yes (by first | assumption | omega | decide | exact b2i_R _ | exact gR_of (by omega) (by omega)) ?_ | refine if_no (by first | assumption | omega | decide | exact b2i_R _ | exact gR_of (by omega) (by omega)) ?_); (first | refine And.intro (show gR _ from by first | assumption | omega | decide | exact b2i_R _ | exact gR_of (by omega) (by omega)) ?_ | refine And.intro (show gHas _ _ _ from by first | exact gW.has (gD.w (by assumption)) (by omega) | exact gD.has (by assumption) | exact gRu.has (gD.ru (by assumption)) | exact gGr.has (gD.gr (by assumption) _ (by omega))) ?_ | refine gCall_mk (by decide) (by decide) ?_ | refine if_yes (by first | assumption | omega | decide | exact b2i_R _ | exact gR_of (by omega) (by omega)) ?_ | refine if_no (by first | assumption | omega | decide | exact b2i_R _ | exact gR_of (by omega) (by omega)) ?_)
  refine c_wordOf d hx (fun q => by rw [m_kinds_x, if_neg q] at k; exact k.ex d gFr.rf) (fun w hw e => ?_)
  subst e
  rw [m_kinds_x, if_pos (show okS (w : Int) by omega), Int.toNat_natCast, ← d.s w hw] at k
  have l1 := d.w.le (show w < 11 by omega)
  have bd : ¬ (0 ≤ y ∧ y ≤ ((U w).length : Int)) → w_X5_kinds_J24 X Q y z (A w) h 1 6 := fun q => by
    rw [if_neg q] at k
    unfold w_X5_kinds_J24 w_X5_kinds_J25
    (first | refine And.intro (show gR _ from by first | assumption | omega | decide | exact b2i_R _ | exact gR_of (by omega) (by omega)) ?_ | refine And.intro (show gHas _ _ _ from by first | exact gW.has (gD.w (by assumption)) (by omega) | exact gD.has (by assumption) | exact gRu.has (gD.ru (by assumption)) | exact gGr.has (gD.gr (by assumption) _ (by omega))) ?_ | refine gCall_mk (by decide) (by decide) ?_ | refine if_yes (by first | assumption | omega | decide | exact b2i_R _ | exact gR_of (by omega) (by omega)) ?_ | refine if_no (by first | assumption | omega | decide | exact b2i_R _ | exact gR_of (by omega) (by omega)) ?_)
    exact c_nA0 (k.ex d gFr.rf)
  (first | refine And.intro (show gR _ from by first | assumption | omega | decide | exact b2i_R _ | exact gR_of (by omega) (by omega)) ?_ | refine And.intro (show gHas _ _ _ from by first | exact gW.has (gD.w (by assumption)) (by omega) | exact gD.has (by assumption) | exact gRu.has (gD.ru (by assumption)) | exact gGr.has (gD.gr (by assumption) _ (by omega))) ?_ | refine gCall_mk (by decide) (by decide) ?_ | refine if_yes (by first | assumption | omega | decide | exact b2i_R _ | exact gR_of (by omega) (by omega)) ?_ | refine if_no (by first | assumption | omega | decide | exact b2i_R _ | exact gR_of (by omega) (by omega)) ?_)
  by_cases q1 : y < 0
  · exact if_yes q1 (bd (by omega))
  (first | refine And.intro (show gR _ from by first | assumption | omega | decide | exact b2i_R _ | exact gR_of (by omega) (by omega)) ?_ | refine And.intro (show gHas _ _ _ from by first | exact gW.has (gD.w (by assumption)) (by omega) | exact gD.has (by assumption) | exact gRu.has (gD.ru (by assumption)) | exact gGr.has (gD.gr (by assumption) _ (by omega))) ?_ | refine gCall_mk (by decide) (by decide) ?_ | refine if_yes (by first | assumption | omega | decide | exact b2i_R _ | exact gR_of (by omega) (by omega)) ?_ | refine if_no (by first | assumption | omega | decide | exact b2i_R _ | exact gR_of (by omega) (by omega)) ?_)
  refine d.w.many (by omega) ?_
  (first | refine And.intro (show gR _ from by first | assumption | omega | decide | exact b2i_R _ | exact gR_of (by omega) (by omega)) ?_ | refine And.intro (show gHas _ _ _ from by first | exact gW.has (gD.w (by assumption)) (by omega) | exact gD.has (by assumption) | exact gRu.has (gD.ru (by assumption)) | exact gGr.has (gD.gr (by assumption) _ (by omega))) ?_ | refine gCall_mk (by decide) (by decide) ?_ | refine if_yes (by first | assumption | omega | decide | exact b2i_R _ | exact gR_of (by omega) (by omega)) ?_ | refine if_no (by first | assumption | omega | decide | exact b2i_R _ | exact gR_of (by omega) (by omega)) ?_); (first | refine And.intro (show gR _ from by first | assumption | omega | decide | exact b2i_R _ | exact gR_of (by omega) (by omega)) ?_ | refine And.intro (show gHas _ _ _ from by first | exact gW.has (gD.w (by assumption)) (by omega) | exact gD.has (by assumption) | exact gRu.has (gD.ru (by assumption)) | exact gGr.has (gD.gr (by assumption) _ (by omega))) ?_ | refine gCall_mk (by decide) (by decide) ?_ | refine if_yes (by first | assumption | omega | decide | exact b2i_R _ | exact gR_of (by omega) (by omega)) ?_ | refine if_no (by first | assumption | omega | decide | exact b2i_R _ | exact gR_of (by omega) (by omega)) ?_)
  by_cases q2 : ((U w).length : Int) < y
  · exact if_yes q2 (bd (by omega))
  (first | refine And.intro (show gR _ from by first | assumption | omega | decide | exact b2i_R _ | exact gR_of (by omega) (by omega)) ?_ | refine And.intro (show gHas _ _ _ from by first | exact gW.has (gD.w (by assumption)) (by omega) | exact gD.has (by assumption) | exact gRu.has (gD.ru (by assumption)) | exact gGr.has (gD.gr (by assumption) _ (by omega))) ?_ | refine gCall_mk (by decide) (by decide) ?_ | refine if_yes (by first | assumption | omega | decide | exact b2i_R _ | exact gR_of (by omega) (by omega)) ?_ | refine if_no (by first | assumption | omega | decide | exact b2i_R _ | exact gR_of (by omega) (by omega)) ?_)
  rw [if_pos ⟨by omega, by omega⟩] at k
  unfold w_X5_kinds_J25
  (first | refine And.intro (show gR _ from by first | assumption | omega | decide | exact b2i_R _ | exact gR_of (by omega) (by omega)) ?_ | refine And.intro (show gHas _ _ _ from by first | exact gW.has (gD.w (by assumption)) (by omega) | exact gD.has (by assumption) | exact gRu.has (gD.ru (by assumption)) | exact gGr.has (gD.gr (by assumption) _ (by omega))) ?_ | refine gCall_mk (by decide) (by decide) ?_ | refine if_yes (by first | assumption | omega | decide | exact b2i_R _ | exact gR_of (by omega) (by omega)) ?_ | refine if_no (by first | assumption | omega | decide | exact b2i_R _ | exact gR_of (by omega) (by omega)) ?_)
  refine c_nA1 ?_
  exact x_kindsOf d.w (by omega) (show y = (y.toNat : Int) by omega) hz (by omega) (k.ok d gFr.rf rfl)
theorem r_kinds_x {b : Bool} (d : gM B h st no) (hx : gR x) (hy : gR y) (hz : z = b2i b) (k : mRes B h Q (m_kinds_x st x y b)) : w_X7_kinds (B 0) x y z h Q := by
  subst hz
  unfold w_X7_kinds
  refine r_isNoSheet hx ⟨d.has, r_start d rfl (by decide) (fun q h1 d1 f1 => ?_) (fun q h1 d1 f1 => ?_)⟩
  · have q1 := nd q
    rw [m_kinds_x, if_pos q1] at k
    obtain ⟨w, rfl⟩ : ∃ w : Nat, x = w := ⟨x.toNat, by omega⟩
    rw [Int.toNat_natCast] at k
    have hw : w < 3 := by omega
    have hl := d1.sl hw
    refine ⟨by decide, if_yes rfl (d1.f0 (d1.sh rfl hw (fun a ra na => ra.len (r_isIn hy (by decide) (by omega) (sel (fun t => w_X7_kinds_J33 Q (B 0) (w : Int) y (b2i b) (B 0) t h1) ?_)))))⟩
    unfold w_X7_kinds_J33
    refine ⟨d1.has, r_refuse d1 rfl (by decide) (fun q => ?_) (fun q h2 d2 f2 => ?_)⟩
    · have q2 := nd q
      rw [if_pos q2] at k
      obtain ⟨l, rfl⟩ : ∃ w : Nat, y = w := ⟨y.toNat, by omega⟩
      rw [Int.toNat_natCast] at k
      have hb : begins (st.S w).length l b ≤ 65 := by unfold begins; split <;> omega
      exact ⟨by decide, if_yes rfl (d1.f0 (d1.sh rfl hw (fun a ra na => ⟨67, xr_kinds_L56 ra hl (by omega) (k.ok d1 f1 rfl) 67 0 0 (Nat.zero_le _) (by omega) rfl⟩)))⟩
    · rw [if_neg (nn q)] at k
      exact ⟨by decide, if_no (by decide) (k.ex d2 (f1.tr f2))⟩
  · rw [m_kinds_x, if_neg (nn q)] at k
    exact ⟨by decide, if_no (by decide) (k.ex d1 f1)⟩
theorem m_kinds_x_u {x y : Int} {b : Bool} : ∀ p q, (m_kinds_x st x y b).2.1 p → (m_kinds_x st x y b).2.1 q → p = q := by
  unfold m_kinds_x
  repeat' split
  all_goals (intro p q h1 h2; first | exact Eq.trans h1 (Eq.symm h2) | exact isT_u _ _ h1 h2 | exact h1.elim)
theorem l_kinds_x_le {x y : Int} {b : Bool} : (m_kinds_x st x y b).1 ≤ 2 := by
  unfold m_kinds_x
  repeat' split
  all_goals simp
theorem m_kinds_x_st {x y : Int} {b : Bool} : (m_kinds_x st x y b).2.2 = st := by
  unfold m_kinds_x
  repeat' split
  all_goals rfl
theorem l_kinds_x {x y : Int} {z : Int} {b : Bool} (d : gD A G h U st) (hO : h O = some (6, [.long z0, sv])) (hA : ∀ i, i < 31 → O ≠ A i) (hx : gR x) (hy : gR y) (hz : z = b2i b) (k : ∀ h' U' z' s', gD A G h' U' (m_kinds_x st x y b).2.2 → lF A O h h' → h' O = some (6, [.long z', s']) → ((m_kinds_x st x y b).1 = 0 → ∃ r, (m_kinds_x st x y b).2.1 r ∧ z' = gI2l r) → Q ((m_kinds_x st x y b).1 : Int) h') : w_L_kinds (A 22) x y z O h Q := by
  unfold w_L_kinds
  refine ⟨d.has, gCall_mk (by decide) (by decide) (c_kinds_x d hx hy hz (l_ret hO hA k (fun h' e q => ?_)))⟩
  have hle := l_kinds_x_le (st := st) (x := x) (y := y) (b := b)
  generalize (m_kinds_x st x y b).1 = cd at e q hle ⊢
  rcases (show cd = 1 ∨ cd = 2 by omega) with rfl | rfl
  · exact Or.inl ⟨rfl, q⟩
  · exact Or.inr ⟨rfl, q⟩
theorem x_find_L (d : gD A G h U st) (hw : w < 3) (hv : v < 3) {kc ks : Nat} : ∀ (z i e : Nat), i + e = (U w).length + 1 → e < z → Q (fndU (U w) (U v) e i) h → w_X5_find_L38 X Q z (A w) (A v) (i : Int) h kc ks
  | 0, _, _, _, h1, _ => absurd h1 (Nat.not_lt_zero _)
  | z + 1, i, e, hi, h1, k => by
    have l1 := d.w.le (show w < 11 by omega)
    unfold w_X5_find_L38
    refine d.w.many (by omega) ?_
    (first | refine And.intro (show gR _ from by first | assumption | omega | decide | exact b2i_R _ | exact gR_of (by omega) (by omega)) ?_ | refine And.intro (show gHas _ _ _ from by first | exact gW.has (gD.w (by assumption)) (by omega) | exact gD.has (by assumption) | exact gRu.has (gD.ru (by assumption)) | exact gGr.has (gD.gr (by assumption) _ (by omega))) ?_ | refine gCall_mk (by decide) (by decide) ?_ | refine if_yes (by first | assumption | omega | decide | exact b2i_R _ | exact gR_of (by omega) (by omega)) ?_ | refine if_no (by first | assumption | omega | decide | exact b2i_R _ | exact gR_of (by omega) (by omega)) ?_); (first | refine And.intro (show gR _ from by first | assumption | omega | decide | exact b2i_R _ | exact gR_of (by omega) (by omega)) ?_ | refine And.intro (show gHas _ _ _ from by first | exact gW.has (gD.w (by assumption)) (by omega) | exact gD.has (by assumption) | exact gRu.has (gD.ru (by assumption)) | exact gGr.has (gD.gr (by assumption) _ (by omega))) ?_ | refine gCall_mk (by decide) (by decide) ?_ | refine if_yes (by first | assumption | omega | decide | exact b2i_R _ | exact gR_of (by omega) (by omega)) ?_ | refine if_no (by first | assumption | omega | decide | exact b2i_R _ | exact gR_of (by omega) (by omega)) ?_)
    cases e with
    | zero => exact if_yes (by omega) k
    | succ e =>
      refine if_no (by omega) (s_standsAt d.w (by omega) (by omega) rfl (show i ≤ 1000 by omega) ?_)
      (first | refine And.intro (show gR _ from by first | assumption | omega | decide | exact b2i_R _ | exact gR_of (by omega) (by omega)) ?_ | refine And.intro (show gHas _ _ _ from by first | exact gW.has (gD.w (by assumption)) (by omega) | exact gD.has (by assumption) | exact gRu.has (gD.ru (by assumption)) | exact gGr.has (gD.gr (by assumption) _ (by omega))) ?_ | refine gCall_mk (by decide) (by decide) ?_ | refine if_yes (by first | assumption | omega | decide | exact b2i_R _ | exact gR_of (by omega) (by omega)) ?_ | refine if_no (by first | assumption | omega | decide | exact b2i_R _ | exact gR_of (by omega) (by omega)) ?_)
      unfold fndU at k
      generalize stands (U w) (U v) i = b at k
      cases b
      · refine if_yes rfl ?_
        rw [show (i : Int) + 1 = ((i + 1 : Nat) : Int) by omega]
        exact x_find_L d hw hv z (i + 1) e (by omega) (by omega) k
      · exact if_no (by decide) k
theorem x_findLast_L (d : gD A G h U st) (hw : w < 3) (hv : v < 3) {kc ks : Nat} : ∀ (z i : Nat), i ≤ 65 → i < z → Q (fndD (U w) (U v) i) h → w_X5_findLast_L38 X Q z (A w) (A v) ((i : Int) - 1) h kc ks
  | 0, _, _, h1, _ => absurd h1 (Nat.not_lt_zero _)
  | z + 1, i, hi, h1, k => by
    have l1 := d.w.le (show w < 11 by omega)
    unfold w_X5_findLast_L38
    (first | refine And.intro (show gR _ from by first | assumption | omega | decide | exact b2i_R _ | exact gR_of (by omega) (by omega)) ?_ | refine And.intro (show gHas _ _ _ from by first | exact gW.has (gD.w (by assumption)) (by omega) | exact gD.has (by assumption) | exact gRu.has (gD.ru (by assumption)) | exact gGr.has (gD.gr (by assumption) _ (by omega))) ?_ | refine gCall_mk (by decide) (by decide) ?_ | refine if_yes (by first | assumption | omega | decide | exact b2i_R _ | exact gR_of (by omega) (by omega)) ?_ | refine if_no (by first | assumption | omega | decide | exact b2i_R _ | exact gR_of (by omega) (by omega)) ?_)
    cases i with
    | zero => exact if_yes (by omega) k
    | succ i =>
      refine if_no (by omega) (s_standsAt d.w (by omega) (by omega) (show ((i + 1 : Nat) : Int) - 1 = (i : Int) by omega) (show i ≤ 1000 by omega) ?_)
      (first | refine And.intro (show gR _ from by first | assumption | omega | decide | exact b2i_R _ | exact gR_of (by omega) (by omega)) ?_ | refine And.intro (show gHas _ _ _ from by first | exact gW.has (gD.w (by assumption)) (by omega) | exact gD.has (by assumption) | exact gRu.has (gD.ru (by assumption)) | exact gGr.has (gD.gr (by assumption) _ (by omega))) ?_ | refine gCall_mk (by decide) (by decide) ?_ | refine if_yes (by first | assumption | omega | decide | exact b2i_R _ | exact gR_of (by omega) (by omega)) ?_ | refine if_no (by first | assumption | omega | decide | exact b2i_R _ | exact gR_of (by omega) (by omega)) ?_)
      unfold fndD at k
      generalize stands (U w) (U v) i = b at k
      cases b
      · refine if_yes rfl ?_
        rw [show ((i + 1 : Nat) : Int) - 1 + -1 = (i : Int) - 1 by omega]
        exact x_findLast_L d hw hv z i (by omega) (by omega) k
      · refine if_no (by decide) ?_
        rw [show ((i + 1 : Nat) : Int) - 1 = (i : Int) by omega]
        exact k
theorem xr_find_L34 (d : gM B h st 0) (hw : w < 3) {v : Nat} (hv : v < 3) : ∀ (n i e : Nat), i + e = (st.S w).length + 1 → e < n → Q (fndU (st.S w) (st.S v) e i) h → w_X7_find_L34 Q n (B 0) (w : Int) (v : Int) (i : Int) h
  | 0, _, _, _, h9, _ => absurd h9 (Nat.not_lt_zero _)
  | n + 1, i, e, h1, h9, k => by
    have l1 := d.sl hw
    have l2 := d.sl hv
    unfold w_X7_find_L34
    refine d.f0 (d.sh rfl hw (fun a ra _ => ra.len ⟨by omega, by omega, ?_⟩))
    cases e with
    | zero => exact if_yes (by omega) k
    | succ e =>
      refine if_no (by omega) (d.f0 (d.sh rfl hw (fun a ra _ => d.f0 (d.sh rfl hv (fun c rc _ => r_standsAt ra rc rfl (by omega) (by omega) (by omega) ⟨b2i_R _, ?_⟩)))))
      unfold fndU at k
      generalize stands (st.S w) (st.S v) i = b at k
      cases b
      · refine if_yes rfl ?_
        rw [show (i : Int) + 1 = ((i + 1 : Nat) : Int) by omega]
        exact xr_find_L34 d hw hv n (i + 1) e (by omega) (by omega) k
      · exact if_no (by decide) k
theorem xr_findLast_L34 (d : gM B h st 0) (hw : w < 3) {v : Nat} (hv : v < 3) : ∀ (n i : Nat), i ≤ 65 → i < n → Q (fndD (st.S w) (st.S v) i) h → w_X7_findLast_L34 Q n (B 0) (w : Int) (v : Int) ((i : Int) - 1) h
  | 0, _, _, h9, _ => absurd h9 (Nat.not_lt_zero _)
  | n + 1, i, h1, h9, k => by
    have l1 := d.sl hw
    have l2 := d.sl hv
    unfold w_X7_findLast_L34
    refine ⟨by omega, ?_⟩
    cases i with
    | zero => exact if_yes (by omega) k
    | succ i =>
      refine if_no (by omega) (d.f0 (d.sh rfl hw (fun a ra _ => d.f0 (d.sh rfl hv (fun c rc _ => r_standsAt (p := i) ra rc (by omega) (by omega) (by omega) (by omega) ⟨b2i_R _, ?_⟩)))))
      unfold fndD at k
      generalize stands (st.S w) (st.S v) i = b at k
      cases b
      · refine if_yes rfl ?_
        rw [show ((i + 1 : Nat) : Int) - 1 + -1 = (i : Int) - 1 by omega]
        exact xr_findLast_L34 d hw hv n i (by omega) (by omega) k
      · refine if_no (by decide) ?_
        rw [show ((i + 1 : Nat) : Int) - 1 = (i : Int) by omega]
        exact k
def m_find_x (st : GSt) (x o y : Int) : Nat × (Int → Prop) × GSt := if okS x then if okS o then if 0 ≤ y ∧ y ≤ ((st.S x.toNat).length : Int) then done st (fndU (st.S x.toNat) (st.S o.toNat) ((st.S x.toNat).length + 1 - y.toNat) y.toNat) else bad 1 st else bad 1 st else bad 1 st
theorem c_find_x (d : gD A G h U st) {o : Int} (hx : gR x) (ho : gR o) (hy : gR y) (k : gRes A G h [eI] X Q (m_find_x st x o y)) : w_X5_find X (A 22) x o y h Q := by
  unfold w_X5_find
  (first | refine And.intro (show gR _ from by first | assumption | omega | decide | exact b2i_R _ | exact gR_of (by omega) (by omega)) ?_ | refine And.intro (show gHas _ _ _ from by first | exact gW.has (gD.w (by assumption)) (by omega) | exact gD.has (by assumption) | exact gRu.has (gD.ru (by assumption)) | exact gGr.has (gD.gr (by assumption) _ (by omega))) ?_ | refine gCall_mk (by decide) (by decide) ?_ | refine if_yes (by first | assumption | omega | decide | exact b2i_R _ | exact gR_of (by omega) (by omega)) ?_ | refine if_no (by first | assumption | omega | decide | exact b2i_R _ | exact gR_of (by omega) (by omega)) ?_); (first | refine And.intro (show gR _ from by first | assumption | omega | decide | exact b2i_R _ | exact gR_of (by omega) (by omega)) ?_ | refine And.intro (show gHas _ _ _ from by first | exact gW.has (gD.w (by assumption)) (by omega) | exact gD.has (by assumption) | exact gRu.has (gD.ru (by assumption)) | exact gGr.has (gD.gr (by assumption) _ (by omega))) ?_ | refine gCall_mk (by decide) (by decide) ?_ | refine if_yes (by first | assumption | omega | decide | exact b2i_R _ | exact gR_of (by omega) (by omega)) ?_ | refine if_no (by first | assumption | omega | decide | exact b2i_R _ | exact gR_of (by omega) (by omega)) ?_)
  refine c_wordOf d hx (fun q => by rw [m_find_x, if_neg q] at k; exact k.ex d gFr.rf) (fun w hw e => ?_)
  subst e
  rw [m_find_x, if_pos (show okS (w : Int) by omega), Int.toNat_natCast, ← d.s w hw] at k
  have l1 := d.w.le (show w < 11 by omega)
  (first | refine And.intro (show gR _ from by first | assumption | omega | decide | exact b2i_R _ | exact gR_of (by omega) (by omega)) ?_ | refine And.intro (show gHas _ _ _ from by first | exact gW.has (gD.w (by assumption)) (by omega) | exact gD.has (by assumption) | exact gRu.has (gD.ru (by assumption)) | exact gGr.has (gD.gr (by assumption) _ (by omega))) ?_ | refine gCall_mk (by decide) (by decide) ?_ | refine if_yes (by first | assumption | omega | decide | exact b2i_R _ | exact gR_of (by omega) (by omega)) ?_ | refine if_no (by first | assumption | omega | decide | exact b2i_R _ | exact gR_of (by omega) (by omega)) ?_); (first | refine And.intro (show gR _ from by first | assumption | omega | decide | exact b2i_R _ | exact gR_of (by omega) (by omega)) ?_ | refine And.intro (show gHas _ _ _ from by first | exact gW.has (gD.w (by assumption)) (by omega) | exact gD.has (by assumption) | exact gRu.has (gD.ru (by assumption)) | exact gGr.has (gD.gr (by assumption) _ (by omega))) ?_ | refine gCall_mk (by decide) (by decide) ?_ | refine if_yes (by first | assumption | omega | decide | exact b2i_R _ | exact gR_of (by omega) (by omega)) ?_ | refine if_no (by first | assumption | omega | decide | exact b2i_R _ | exact gR_of (by omega) (by omega)) ?_)
  refine c_wordOf d ho (fun q => by rw [if_neg q] at k; exact k.ex d gFr.rf) (fun v hv e => ?_)
  subst e
  rw [if_pos (show okS (v : Int) by omega), Int.toNat_natCast, ← d.s v hv] at k
  have bd : ¬ (0 ≤ y ∧ y ≤ ((U w).length : Int)) → w_X5_find_J31 X Q y (A w) (A v) h 1 6 := fun q => by
    rw [if_neg q] at k
    unfold w_X5_find_J31 w_X5_find_J32
    (first | refine And.intro (show gR _ from by first | assumption | omega | decide | exact b2i_R _ | exact gR_of (by omega) (by omega)) ?_ | refine And.intro (show gHas _ _ _ from by first | exact gW.has (gD.w (by assumption)) (by omega) | exact gD.has (by assumption) | exact gRu.has (gD.ru (by assumption)) | exact gGr.has (gD.gr (by assumption) _ (by omega))) ?_ | refine gCall_mk (by decide) (by decide) ?_ | refine if_yes (by first | assumption | omega | decide | exact b2i_R _ | exact gR_of (by omega) (by omega)) ?_ | refine if_no (by first | assumption | omega | decide | exact b2i_R _ | exact gR_of (by omega) (by omega)) ?_)
    exact c_nI0 (k.ex d gFr.rf)
  (first | refine And.intro (show gR _ from by first | assumption | omega | decide | exact b2i_R _ | exact gR_of (by omega) (by omega)) ?_ | refine And.intro (show gHas _ _ _ from by first | exact gW.has (gD.w (by assumption)) (by omega) | exact gD.has (by assumption) | exact gRu.has (gD.ru (by assumption)) | exact gGr.has (gD.gr (by assumption) _ (by omega))) ?_ | refine gCall_mk (by decide) (by decide) ?_ | refine if_yes (by first | assumption | omega | decide | exact b2i_R _ | exact gR_of (by omega) (by omega)) ?_ | refine if_no (by first | assumption | omega | decide | exact b2i_R _ | exact gR_of (by omega) (by omega)) ?_)
  by_cases q1 : y < 0
  · exact if_yes q1 (bd (by omega))
  (first | refine And.intro (show gR _ from by first | assumption | omega | decide | exact b2i_R _ | exact gR_of (by omega) (by omega)) ?_ | refine And.intro (show gHas _ _ _ from by first | exact gW.has (gD.w (by assumption)) (by omega) | exact gD.has (by assumption) | exact gRu.has (gD.ru (by assumption)) | exact gGr.has (gD.gr (by assumption) _ (by omega))) ?_ | refine gCall_mk (by decide) (by decide) ?_ | refine if_yes (by first | assumption | omega | decide | exact b2i_R _ | exact gR_of (by omega) (by omega)) ?_ | refine if_no (by first | assumption | omega | decide | exact b2i_R _ | exact gR_of (by omega) (by omega)) ?_)
  refine d.w.many (by omega) ?_
  (first | refine And.intro (show gR _ from by first | assumption | omega | decide | exact b2i_R _ | exact gR_of (by omega) (by omega)) ?_ | refine And.intro (show gHas _ _ _ from by first | exact gW.has (gD.w (by assumption)) (by omega) | exact gD.has (by assumption) | exact gRu.has (gD.ru (by assumption)) | exact gGr.has (gD.gr (by assumption) _ (by omega))) ?_ | refine gCall_mk (by decide) (by decide) ?_ | refine if_yes (by first | assumption | omega | decide | exact b2i_R _ | exact gR_of (by omega) (by omega)) ?_ | refine if_no (by first | assumption | omega | decide | exact b2i_R _ | exact gR_of (by omega) (by omega)) ?_); (first | refine And.intro (show gR _ from by first | assumption | omega | decide | exact b2i_R _ | exact gR_of (by omega) (by omega)) ?_ | refine And.intro (show gHas _ _ _ from by first | exact gW.has (gD.w (by assumption)) (by omega) | exact gD.has (by assumption) | exact gRu.has (gD.ru (by assumption)) | exact gGr.has (gD.gr (by assumption) _ (by omega))) ?_ | refine gCall_mk (by decide) (by decide) ?_ | refine if_yes (by first | assumption | omega | decide | exact b2i_R _ | exact gR_of (by omega) (by omega)) ?_ | refine if_no (by first | assumption | omega | decide | exact b2i_R _ | exact gR_of (by omega) (by omega)) ?_)
  by_cases q2 : ((U w).length : Int) < y
  · exact if_yes q2 (bd (by omega))
  (first | refine And.intro (show gR _ from by first | assumption | omega | decide | exact b2i_R _ | exact gR_of (by omega) (by omega)) ?_ | refine And.intro (show gHas _ _ _ from by first | exact gW.has (gD.w (by assumption)) (by omega) | exact gD.has (by assumption) | exact gRu.has (gD.ru (by assumption)) | exact gGr.has (gD.gr (by assumption) _ (by omega))) ?_ | refine gCall_mk (by decide) (by decide) ?_ | refine if_yes (by first | assumption | omega | decide | exact b2i_R _ | exact gR_of (by omega) (by omega)) ?_ | refine if_no (by first | assumption | omega | decide | exact b2i_R _ | exact gR_of (by omega) (by omega)) ?_)
  rw [if_pos ⟨by omega, by omega⟩] at k
  obtain ⟨y, rfl⟩ : ∃ m : Nat, y = m := ⟨y.toNat, by omega⟩
  unfold w_X5_find_J32
  (first | refine And.intro (show gR _ from by first | assumption | omega | decide | exact b2i_R _ | exact gR_of (by omega) (by omega)) ?_ | refine And.intro (show gHas _ _ _ from by first | exact gW.has (gD.w (by assumption)) (by omega) | exact gD.has (by assumption) | exact gRu.has (gD.ru (by assumption)) | exact gGr.has (gD.gr (by assumption) _ (by omega))) ?_ | refine gCall_mk (by decide) (by decide) ?_ | refine if_yes (by first | assumption | omega | decide | exact b2i_R _ | exact gR_of (by omega) (by omega)) ?_ | refine if_no (by first | assumption | omega | decide | exact b2i_R _ | exact gR_of (by omega) (by omega)) ?_)
  refine c_nI1 ?_
  rw [Int.toNat_natCast] at k
  exact ⟨67, x_find_L d hw hv 67 y ((U w).length + 1 - y) (by omega) (by omega) (k.ok d gFr.rf rfl)⟩
theorem r_find_x (d : gM B h st no) (hx : gR x) (hy : gR y) (hz : gR z) (k : mRes B h Q (m_find_x st x y z)) : w_X7_find (B 0) x y z h Q := by
  have bd : (m_find_x st x y z) = bad 1 st → w_X7_find_J22 Q (B 0) x y z (B 0) 1 h := fun e => by
    rw [e] at k
    unfold w_X7_find_J22
    exact ⟨d.has, r_start d (bd := true) rfl (by decide) (fun q => by cases q) (fun q h1 d1 f1 => ⟨by decide, if_no (by decide) (k.ex d1 f1)⟩)⟩
  unfold w_X7_find
  refine ⟨d.has, r_isNoGap d hx hz ⟨b2i_R _, ?_⟩⟩
  by_cases q1 : okS x ∧ 0 ≤ z ∧ z ≤ ((st.S x.toNat).length : Int)
  · rw [decide_eq_true q1]
    refine if_yes rfl (r_isNoSheet hy ⟨b2i_R _, ?_⟩)
    by_cases q2 : okS y
    · rw [decide_eq_true q2]
      refine if_yes rfl ?_
      unfold w_X7_find_J22
      refine ⟨d.has, r_start d (bd := false) rfl (by decide) (fun q h1 d1 f1 => ⟨by decide, if_yes rfl ?_⟩) (fun q => by cases q)⟩
      rw [m_find_x, if_pos q1.1, if_pos q2, if_pos q1.2] at k
      obtain ⟨w, rfl⟩ : ∃ w : Nat, x = w := ⟨x.toNat, by omega⟩
      obtain ⟨v, rfl⟩ : ∃ v : Nat, y = v := ⟨y.toNat, by omega⟩
      obtain ⟨p, rfl⟩ : ∃ v : Nat, z = v := ⟨z.toNat, by omega⟩
      simp only [Int.toNat_natCast] at q1 k
      have hl := d1.sl (show w < 3 by omega)
      exact ⟨67, xr_find_L34 d1 (by omega) (by omega) 67 p ((st.S w).length + 1 - p) (by omega) (by omega) (k.ok d1 f1 rfl)⟩
    · rw [decide_eq_false q2]
      refine if_no (by decide) (bd ?_)
      rw [m_find_x, if_pos q1.1, if_neg q2]
  · rw [decide_eq_false q1]
    refine if_no (by decide) (bd ?_)
    unfold m_find_x
    by_cases q2 : okS x
    · rw [if_pos q2]
      by_cases q3 : okS y
      · rw [if_pos q3, if_neg (fun q4 => q1 ⟨q2, q4⟩)]
      · rw [if_neg q3]
    · rw [if_neg q2]
theorem m_find_x_u {x y z : Int} : ∀ p q, (m_find_x st x y z).2.1 p → (m_find_x st x y z).2.1 q → p = q := by
  unfold m_find_x
  repeat' split
  all_goals (intro p q h1 h2; first | exact Eq.trans h1 (Eq.symm h2) | exact isT_u _ _ h1 h2 | exact h1.elim)
theorem l_find_x_le {x y z : Int} : (m_find_x st x y z).1 ≤ 1 := by
  unfold m_find_x
  repeat' split
  all_goals simp
theorem m_find_x_st {x y z : Int} : (m_find_x st x y z).2.2 = st := by
  unfold m_find_x
  repeat' split
  all_goals rfl
theorem l_find_x {x y z : Int} (d : gD A G h U st) (hO : h O = some (6, [.long z0, sv])) (hA : ∀ i, i < 31 → O ≠ A i) (hx : gR x) (hy : gR y) (hz : gR z) (k : ∀ h' U' z' s', gD A G h' U' (m_find_x st x y z).2.2 → lF A O h h' → h' O = some (6, [.long z', s']) → ((m_find_x st x y z).1 = 0 → ∃ r, (m_find_x st x y z).2.1 r ∧ z' = gI2l r) → Q ((m_find_x st x y z).1 : Int) h') : w_L_find (A 22) x y z O h Q := by
  unfold w_L_find
  refine ⟨d.has, gCall_mk (by decide) (by decide) (c_find_x d hx hy hz (l_ret hO hA k (fun h' e q => ?_)))⟩
  have hle := l_find_x_le (st := st) (x := x) (y := y) (z := z)
  generalize (m_find_x st x y z).1 = cd at e q hle ⊢
  obtain rfl : cd = 1 := by omega
  exact ⟨rfl, q⟩
def m_findLast_x (st : GSt) (x o y : Int) : Nat × (Int → Prop) × GSt := if okS x then if okS o then if 0 ≤ y ∧ y ≤ ((st.S x.toNat).length : Int) then done st (fndD (st.S x.toNat) (st.S o.toNat) (y.toNat + 1)) else bad 1 st else bad 1 st else bad 1 st
theorem c_findLast_x (d : gD A G h U st) {o : Int} (hx : gR x) (ho : gR o) (hy : gR y) (k : gRes A G h [eI] X Q (m_findLast_x st x o y)) : w_X5_findLast X (A 22) x o y h Q := by
  unfold w_X5_findLast
  (first | refine And.intro (show gR _ from by first | assumption | omega | decide | exact b2i_R _ | exact gR_of (by omega) (by omega)) ?_ | refine And.intro (show gHas _ _ _ from by first | exact gW.has (gD.w (by assumption)) (by omega) | exact gD.has (by assumption) | exact gRu.has (gD.ru (by assumption)) | exact gGr.has (gD.gr (by assumption) _ (by omega))) ?_ | refine gCall_mk (by decide) (by decide) ?_ | refine if_yes (by first | assumption | omega | decide | exact b2i_R _ | exact gR_of (by omega) (by omega)) ?_ | refine if_no (by first | assumption | omega | decide | exact b2i_R _ | exact gR_of (by omega) (by omega)) ?_); (first | refine And.intro (show gR _ from by first | assumption | omega | decide | exact b2i_R _ | exact gR_of (by omega) (by omega)) ?_ | refine And.intro (show gHas _ _ _ from by first | exact gW.has (gD.w (by assumption)) (by omega) | exact gD.has (by assumption) | exact gRu.has (gD.ru (by assumption)) | exact gGr.has (gD.gr (by assumption) _ (by omega))) ?_ | refine gCall_mk (by decide) (by decide) ?_ | refine if_yes (by first | assumption | omega | decide | exact b2i_R _ | exact gR_of (by omega) (by omega)) ?_ | refine if_no (by first | assumption | omega | decide | exact b2i_R _ | exact gR_of (by omega) (by omega)) ?_)
  refine c_wordOf d hx (fun q => by rw [m_findLast_x, if_neg q] at k; exact k.ex d gFr.rf) (fun w hw e => ?_)
  subst e
  rw [m_findLast_x, if_pos (show okS (w : Int) by omega), Int.toNat_natCast, ← d.s w hw] at k
  have l1 := d.w.le (show w < 11 by omega)
  (first | refine And.intro (show gR _ from by first | assumption | omega | decide | exact b2i_R _ | exact gR_of (by omega) (by omega)) ?_ | refine And.intro (show gHas _ _ _ from by first | exact gW.has (gD.w (by assumption)) (by omega) | exact gD.has (by assumption) | exact gRu.has (gD.ru (by assumption)) | exact gGr.has (gD.gr (by assumption) _ (by omega))) ?_ | refine gCall_mk (by decide) (by decide) ?_ | refine if_yes (by first | assumption | omega | decide | exact b2i_R _ | exact gR_of (by omega) (by omega)) ?_ | refine if_no (by first | assumption | omega | decide | exact b2i_R _ | exact gR_of (by omega) (by omega)) ?_); (first | refine And.intro (show gR _ from by first | assumption | omega | decide | exact b2i_R _ | exact gR_of (by omega) (by omega)) ?_ | refine And.intro (show gHas _ _ _ from by first | exact gW.has (gD.w (by assumption)) (by omega) | exact gD.has (by assumption) | exact gRu.has (gD.ru (by assumption)) | exact gGr.has (gD.gr (by assumption) _ (by omega))) ?_ | refine gCall_mk (by decide) (by decide) ?_ | refine if_yes (by first | assumption | omega | decide | exact b2i_R _ | exact gR_of (by omega) (by omega)) ?_ | refine if_no (by first | assumption | omega | decide | exact b2i_R _ | exact gR_of (by omega) (by omega)) ?_)
  refine c_wordOf d ho (fun q => by rw [if_neg q] at k; exact k.ex d gFr.rf) (fun v hv e => ?_)
  subst e
  rw [if_pos (show okS (v : Int) by omega), Int.toNat_natCast, ← d.s v hv] at k
  have bd : ¬ (0 ≤ y ∧ y ≤ ((U w).length : Int)) → w_X5_findLast_J31 X Q y (A w) (A v) h 1 6 := fun q => by
    rw [if_neg q] at k
    unfold w_X5_findLast_J31 w_X5_findLast_J32
    (first | refine And.intro (show gR _ from by first | assumption | omega | decide | exact b2i_R _ | exact gR_of (by omega) (by omega)) ?_ | refine And.intro (show gHas _ _ _ from by first | exact gW.has (gD.w (by assumption)) (by omega) | exact gD.has (by assumption) | exact gRu.has (gD.ru (by assumption)) | exact gGr.has (gD.gr (by assumption) _ (by omega))) ?_ | refine gCall_mk (by decide) (by decide) ?_ | refine if_yes (by first | assumption | omega | decide | exact b2i_R _ | exact gR_of (by omega) (by omega)) ?_ | refine if_no (by first | assumption | omega | decide | exact b2i_R _ | exact gR_of (by omega) (by omega)) ?_)
    exact c_nI0 (k.ex d gFr.rf)
  (first | refine And.intro (show gR _ from by first | assumption | omega | decide | exact b2i_R _ | exact gR_of (by omega) (by omega)) ?_ | refine And.intro (show gHas _ _ _ from by first | exact gW.has (gD.w (by assumption)) (by omega) | exact gD.has (by assumption) | exact gRu.has (gD.ru (by assumption)) | exact gGr.has (gD.gr (by assumption) _ (by omega))) ?_ | refine gCall_mk (by decide) (by decide) ?_ | refine if_yes (by first | assumption | omega | decide | exact b2i_R _ | exact gR_of (by omega) (by omega)) ?_ | refine if_no (by first | assumption | omega | decide | exact b2i_R _ | exact gR_of (by omega) (by omega)) ?_)
  by_cases q1 : y < 0
  · exact if_yes q1 (bd (by omega))
  (first | refine And.intro (show gR _ from by first | assumption | omega | decide | exact b2i_R _ | exact gR_of (by omega) (by omega)) ?_ | refine And.intro (show gHas _ _ _ from by first | exact gW.has (gD.w (by assumption)) (by omega) | exact gD.has (by assumption) | exact gRu.has (gD.ru (by assumption)) | exact gGr.has (gD.gr (by assumption) _ (by omega))) ?_ | refine gCall_mk (by decide) (by decide) ?_ | refine if_yes (by first | assumption | omega | decide | exact b2i_R _ | exact gR_of (by omega) (by omega)) ?_ | refine if_no (by first | assumption | omega | decide | exact b2i_R _ | exact gR_of (by omega) (by omega)) ?_)
  refine d.w.many (by omega) ?_
  (first | refine And.intro (show gR _ from by first | assumption | omega | decide | exact b2i_R _ | exact gR_of (by omega) (by omega)) ?_ | refine And.intro (show gHas _ _ _ from by first | exact gW.has (gD.w (by assumption)) (by omega) | exact gD.has (by assumption) | exact gRu.has (gD.ru (by assumption)) | exact gGr.has (gD.gr (by assumption) _ (by omega))) ?_ | refine gCall_mk (by decide) (by decide) ?_ | refine if_yes (by first | assumption | omega | decide | exact b2i_R _ | exact gR_of (by omega) (by omega)) ?_ | refine if_no (by first | assumption | omega | decide | exact b2i_R _ | exact gR_of (by omega) (by omega)) ?_); (first | refine And.intro (show gR _ from by first | assumption | omega | decide | exact b2i_R _ | exact gR_of (by omega) (by omega)) ?_ | refine And.intro (show gHas _ _ _ from by first | exact gW.has (gD.w (by assumption)) (by omega) | exact gD.has (by assumption) | exact gRu.has (gD.ru (by assumption)) | exact gGr.has (gD.gr (by assumption) _ (by omega))) ?_ | refine gCall_mk (by decide) (by decide) ?_ | refine if_yes (by first | assumption | omega | decide | exact b2i_R _ | exact gR_of (by omega) (by omega)) ?_ | refine if_no (by first | assumption | omega | decide | exact b2i_R _ | exact gR_of (by omega) (by omega)) ?_)
  by_cases q2 : ((U w).length : Int) < y
  · exact if_yes q2 (bd (by omega))
  (first | refine And.intro (show gR _ from by first | assumption | omega | decide | exact b2i_R _ | exact gR_of (by omega) (by omega)) ?_ | refine And.intro (show gHas _ _ _ from by first | exact gW.has (gD.w (by assumption)) (by omega) | exact gD.has (by assumption) | exact gRu.has (gD.ru (by assumption)) | exact gGr.has (gD.gr (by assumption) _ (by omega))) ?_ | refine gCall_mk (by decide) (by decide) ?_ | refine if_yes (by first | assumption | omega | decide | exact b2i_R _ | exact gR_of (by omega) (by omega)) ?_ | refine if_no (by first | assumption | omega | decide | exact b2i_R _ | exact gR_of (by omega) (by omega)) ?_)
  rw [if_pos ⟨by omega, by omega⟩] at k
  obtain ⟨y, rfl⟩ : ∃ m : Nat, y = m := ⟨y.toNat, by omega⟩
  unfold w_X5_findLast_J32
  (first | refine And.intro (show gR _ from by first | assumption | omega | decide | exact b2i_R _ | exact gR_of (by omega) (by omega)) ?_ | refine And.intro (show gHas _ _ _ from by first | exact gW.has (gD.w (by assumption)) (by omega) | exact gD.has (by assumption) | exact gRu.has (gD.ru (by assumption)) | exact gGr.has (gD.gr (by assumption) _ (by omega))) ?_ | refine gCall_mk (by decide) (by decide) ?_ | refine if_yes (by first | assumption | omega | decide | exact b2i_R _ | exact gR_of (by omega) (by omega)) ?_ | refine if_no (by first | assumption | omega | decide | exact b2i_R _ | exact gR_of (by omega) (by omega)) ?_)
  refine c_nI1 ?_
  rw [Int.toNat_natCast] at k
  refine ⟨67, ?_⟩
  rw [show ((y : Nat) : Int) = ((y + 1 : Nat) : Int) - 1 by omega]
  exact x_findLast_L d hw hv 67 (y + 1) (by omega) (by omega) (k.ok d gFr.rf rfl)
theorem r_findLast_x (d : gM B h st no) (hx : gR x) (hy : gR y) (hz : gR z) (k : mRes B h Q (m_findLast_x st x y z)) : w_X7_findLast (B 0) x y z h Q := by
  have bd : (m_findLast_x st x y z) = bad 1 st → w_X7_findLast_J22 Q (B 0) x y z (B 0) 1 h := fun e => by
    rw [e] at k
    unfold w_X7_findLast_J22
    exact ⟨d.has, r_start d (bd := true) rfl (by decide) (fun q => by cases q) (fun q h1 d1 f1 => ⟨by decide, if_no (by decide) (k.ex d1 f1)⟩)⟩
  unfold w_X7_findLast
  refine ⟨d.has, r_isNoGap d hx hz ⟨b2i_R _, ?_⟩⟩
  by_cases q1 : okS x ∧ 0 ≤ z ∧ z ≤ ((st.S x.toNat).length : Int)
  · rw [decide_eq_true q1]
    refine if_yes rfl (r_isNoSheet hy ⟨b2i_R _, ?_⟩)
    by_cases q2 : okS y
    · rw [decide_eq_true q2]
      refine if_yes rfl ?_
      unfold w_X7_findLast_J22
      refine ⟨d.has, r_start d (bd := false) rfl (by decide) (fun q h1 d1 f1 => ⟨by decide, if_yes rfl ?_⟩) (fun q => by cases q)⟩
      rw [m_findLast_x, if_pos q1.1, if_pos q2, if_pos q1.2] at k
      obtain ⟨w, rfl⟩ : ∃ w : Nat, x = w := ⟨x.toNat, by omega⟩
      obtain ⟨v, rfl⟩ : ∃ v : Nat, y = v := ⟨y.toNat, by omega⟩
      obtain ⟨p, rfl⟩ : ∃ v : Nat, z = v := ⟨z.toNat, by omega⟩
      simp only [Int.toNat_natCast] at q1 k
      have hl := d1.sl (show w < 3 by omega)
      exact ⟨67, by rw [show ((p : Nat) : Int) = ((p + 1 : Nat) : Int) - 1 by omega]; exact xr_findLast_L34 d1 (by omega) (by omega) 67 (p + 1) (by omega) (by omega) (k.ok d1 f1 rfl)⟩
    · rw [decide_eq_false q2]
      refine if_no (by decide) (bd ?_)
      rw [m_findLast_x, if_pos q1.1, if_neg q2]
  · rw [decide_eq_false q1]
    refine if_no (by decide) (bd ?_)
    unfold m_findLast_x
    by_cases q2 : okS x
    · rw [if_pos q2]
      by_cases q3 : okS y
      · rw [if_pos q3, if_neg (fun q4 => q1 ⟨q2, q4⟩)]
      · rw [if_neg q3]
    · rw [if_neg q2]
theorem m_findLast_x_u {x y z : Int} : ∀ p q, (m_findLast_x st x y z).2.1 p → (m_findLast_x st x y z).2.1 q → p = q := by
  unfold m_findLast_x
  repeat' split
  all_goals (intro p q h1 h2; first | exact Eq.trans h1 (Eq.symm h2) | exact isT_u _ _ h1 h2 | exact h1.elim)
theorem l_findLast_x_le {x y z : Int} : (m_findLast_x st x y z).1 ≤ 1 := by
  unfold m_findLast_x
  repeat' split
  all_goals simp
theorem m_findLast_x_st {x y z : Int} : (m_findLast_x st x y z).2.2 = st := by
  unfold m_findLast_x
  repeat' split
  all_goals rfl
theorem l_findLast_x {x y z : Int} (d : gD A G h U st) (hO : h O = some (6, [.long z0, sv])) (hA : ∀ i, i < 31 → O ≠ A i) (hx : gR x) (hy : gR y) (hz : gR z) (k : ∀ h' U' z' s', gD A G h' U' (m_findLast_x st x y z).2.2 → lF A O h h' → h' O = some (6, [.long z', s']) → ((m_findLast_x st x y z).1 = 0 → ∃ r, (m_findLast_x st x y z).2.1 r ∧ z' = gI2l r) → Q ((m_findLast_x st x y z).1 : Int) h') : w_L_findLast (A 22) x y z O h Q := by
  unfold w_L_findLast
  refine ⟨d.has, gCall_mk (by decide) (by decide) (c_findLast_x d hx hy hz (l_ret hO hA k (fun h' e q => ?_)))⟩
  have hle := l_findLast_x_le (st := st) (x := x) (y := y) (z := z)
  generalize (m_findLast_x st x y z).1 = cd at e q hle ⊢
  obtain rfl : cd = 1 := by omega
  exact ⟨rfl, q⟩
end EX
/-! The digest to the last: class and reference fold the same numbers. -/
def dA (d : Int64) (x : Int) : Int64 := d * 31 + gI2l x
def dSg (u : List Bool) : Nat → Nat → Int64 → Int64
  | 0, _, t => t
  | k + 1, i, t => dSg u k (i + 1) (dA t (b2i (u.getD i false) + 1))
noncomputable def tmV (u : List Bool) : Int := Classical.epsilon (isT u)
theorem tm_eq {u : List Bool} {r : Int} (h : isT u r) : r = tmV u := isT_u _ _ h (Classical.epsilon_spec ⟨r, h⟩)
noncomputable def dEn (u : List Bool) (t : Int64) : Int64 := dA (dA (dA (dA (dA (dA t (ones u : Int)) (b2i (mir u 0 u.length))) (tmV u)) ((sm (fun p => sm (ovF u p) 66) 66 : Nat) : Int)) ((sm (flF u) u.length : Nat) : Int)) ((lst u u.length : Nat) : Int)
noncomputable def dSh (u : List Bool) (t : Int64) : Int64 := dEn u (dSg u u.length 0 (dA t (u.length : Int)))
def dTn (ts : List Nat) : Nat → Nat → Int64 → Int64
  | 0, _, t => t
  | k + 1, i, t => dTn ts k (i + 1) (dA t ((ts.getD i 0 : Nat) : Int))
def dGe (ts : List Nat) (t : Int64) : Int64 := dA (dA (dA (dA (dA (dA t ((grw ts).2.length : Int)) ((grw ts).1.length : Int)) (ones (grw ts).2 : Int)) (ones (grw ts).1 : Int)) (crossG ts)) (unlike (grw ts).2 (grw ts).1)
def dGr (ts : List Nat) (t : Int64) : Int64 := dGe ts (dTn ts ts.length 0 (dA t (ts.length : Int)))
def dHs (C : Nat → Int) : Nat → Nat → Int64 → Int64
  | 0, _, t => t
  | k + 1, i, t => dHs C k (i + 1) (dA t (C i))
noncomputable def dGa (st : GSt) : Int64 := dA (dHs st.C 4 0 (dGr (st.T 1) (dGr (st.T 0) (dSh (st.S 2) (dSh (st.S 1) (dSh (st.S 0) 7979)))))) (b2i (soundB (st.T 0) && soundB (st.T 1)))
theorem gI2l_1 : gI2l (b2i false + 1) = 1 := rfl
theorem gI2l_2 : gI2l (b2i true + 1) = 2 := rfl
section XD
variable {A : Nat → Nat} {G : gaG} {h : gaH} {U : Nat → List Bool} {st : GSt} {X : String → gaH → Prop} {w v g : Nat} {x y z : Int}
theorem x_oneIf {b : Bool} {K : Int → gaH → Prop} (k : K (b2i b) h) : w_X5_oneIf (b2i b) h K := by
  unfold w_X5_oneIf
  refine ⟨b2i_R _, ?_⟩
  cases b
  · exact if_yes rfl k
  · exact if_no (by decide) k
theorem x_digestSheet_L {Q : Int64 → gaH → Prop} (hw : w < 3) : ∀ (n i e : Nat) (h : gaH) (U : Nat → List Bool) (kc ks : Nat) (t : Int64), gD A G h U st → i + e = (st.S w).length → e < n → 6 ≤ kc → 36 ≤ ks → (∀ h' U', gD A G h' U' st → gFr A h h' → Q (dEn (st.S w) (dSg (st.S w) e i t)) h') → w_X5_digestSheet_L22 X Q n (A 22) (w : Int) (A w) t (i : Int) h kc ks
  | 0, _, _, _, _, _, _, _, _, _, h1, _, _, _ => absurd h1 (Nat.not_lt_zero _)
  | n + 1, i, e, h, U, kc, ks, t, d, hi, h1, hc, hs, k => by
    have l1 := d.w.le (show w < 11 by omega)
    have hS : okS (w : Int) := by omega
    have eU := d.s w hw
    have hk : (w : Int).toNat = w := Int.toNat_natCast w
    unfold w_X5_digestSheet_L22
    refine d.w.many (by omega) ?_
    rw [eU] at l1 ⊢
    (first | refine And.intro (show gR _ from by first | assumption | omega | decide | exact b2i_R _ | exact gR_of (by omega) (by omega)) ?_ | refine And.intro (show gHas _ _ _ from by first | exact gW.has (gD.w (by assumption)) (by omega) | exact gD.has (by assumption) | exact gRu.has (gD.ru (by assumption)) | exact gGr.has (gD.gr (by assumption) _ (by omega))) ?_ | refine gCall_mk (by decide) (by decide) ?_ | refine if_yes (by first | assumption | omega | decide | exact b2i_R _ | exact gR_of (by omega) (by omega)) ?_ | refine if_no (by first | assumption | omega | decide | exact b2i_R _ | exact gR_of (by omega) (by omega)) ?_); (first | refine And.intro (show gR _ from by first | assumption | omega | decide | exact b2i_R _ | exact gR_of (by omega) (by omega)) ?_ | refine And.intro (show gHas _ _ _ from by first | exact gW.has (gD.w (by assumption)) (by omega) | exact gD.has (by assumption) | exact gRu.has (gD.ru (by assumption)) | exact gGr.has (gD.gr (by assumption) _ (by omega))) ?_ | refine gCall_mk (by decide) (by decide) ?_ | refine if_yes (by first | assumption | omega | decide | exact b2i_R _ | exact gR_of (by omega) (by omega)) ?_ | refine if_no (by first | assumption | omega | decide | exact b2i_R _ | exact gR_of (by omega) (by omega)) ?_)
    cases e with
    | zero =>
      refine if_yes (by omega) ?_
      (first | refine And.intro (show gR _ from by first | assumption | omega | decide | exact b2i_R _ | exact gR_of (by omega) (by omega)) ?_ | refine And.intro (show gHas _ _ _ from by first | exact gW.has (gD.w (by assumption)) (by omega) | exact gD.has (by assumption) | exact gRu.has (gD.ru (by assumption)) | exact gGr.has (gD.gr (by assumption) _ (by omega))) ?_ | refine gCall_mk (by decide) (by decide) ?_ | refine if_yes (by first | assumption | omega | decide | exact b2i_R _ | exact gR_of (by omega) (by omega)) ?_ | refine if_no (by first | assumption | omega | decide | exact b2i_R _ | exact gR_of (by omega) (by omega)) ?_)
      refine gCall_mk (by omega) (by omega) (c_count d (b := true) (by omega) rfl (gRes.to (if_pos hS) (fun h1 U1 r1 d1 f1 p1 => ?_)))
      show gHas _ _ _ ∧ _
      (first | refine And.intro (show gR _ from by first | assumption | omega | decide | exact b2i_R _ | exact gR_of (by omega) (by omega)) ?_ | refine And.intro (show gHas _ _ _ from by first | exact gW.has (gD.w (by assumption)) (by omega) | exact gD.has (by assumption) | exact gRu.has (gD.ru (by assumption)) | exact gGr.has (gD.gr (by assumption) _ (by omega))) ?_ | refine gCall_mk (by decide) (by decide) ?_ | refine if_yes (by first | assumption | omega | decide | exact b2i_R _ | exact gR_of (by omega) (by omega)) ?_ | refine if_no (by first | assumption | omega | decide | exact b2i_R _ | exact gR_of (by omega) (by omega)) ?_)
      refine gCall_mk (by omega) (by omega) (c_isMirrored_x d1 (by omega) (gRes.to (if_pos hS) (fun h2 U2 r2 d2 f2 p2 => ?_)))
      have p2' : r2 = b2i (mir (st.S w) 0 (st.S w).length) := by rw [hk] at p2; exact p2
      have p1' : r1 = (ones (st.S w) : Int) := by rw [hk] at p1; exact p1
      rw [p2']
      refine x_oneIf ?_
      show gHas _ _ _ ∧ _
      (first | refine And.intro (show gR _ from by first | assumption | omega | decide | exact b2i_R _ | exact gR_of (by omega) (by omega)) ?_ | refine And.intro (show gHas _ _ _ from by first | exact gW.has (gD.w (by assumption)) (by omega) | exact gD.has (by assumption) | exact gRu.has (gD.ru (by assumption)) | exact gGr.has (gD.gr (by assumption) _ (by omega))) ?_ | refine gCall_mk (by decide) (by decide) ?_ | refine if_yes (by first | assumption | omega | decide | exact b2i_R _ | exact gR_of (by omega) (by omega)) ?_ | refine if_no (by first | assumption | omega | decide | exact b2i_R _ | exact gR_of (by omega) (by omega)) ?_)
      refine gCall_mk (by omega) (by omega) (c_times_x d2 (by omega) (gRes.to (if_pos hS) (fun h3 U3 r4 d3 f3 p3 => ?_)))
      have p3' : r4 = tmV (st.S w) := by rw [hk] at p3; exact tm_eq p3
      show gHas _ _ _ ∧ _
      (first | refine And.intro (show gR _ from by first | assumption | omega | decide | exact b2i_R _ | exact gR_of (by omega) (by omega)) ?_ | refine And.intro (show gHas _ _ _ from by first | exact gW.has (gD.w (by assumption)) (by omega) | exact gD.has (by assumption) | exact gRu.has (gD.ru (by assumption)) | exact gGr.has (gD.gr (by assumption) _ (by omega))) ?_ | refine gCall_mk (by decide) (by decide) ?_ | refine if_yes (by first | assumption | omega | decide | exact b2i_R _ | exact gR_of (by omega) (by omega)) ?_ | refine if_no (by first | assumption | omega | decide | exact b2i_R _ | exact gR_of (by omega) (by omega)) ?_)
      refine gCall_mk (by omega) (by omega) (c_overlaps_x d3 (by omega) (gRes.to (if_pos hS) (fun h4 U4 r5 d4 f4 p4 => ?_)))
      have p4' : r5 = ((sm (fun p => sm (ovF (st.S w) p) 66) 66 : Nat) : Int) := by rw [hk] at p4; exact p4
      show gHas _ _ _ ∧ _
      (first | refine And.intro (show gR _ from by first | assumption | omega | decide | exact b2i_R _ | exact gR_of (by omega) (by omega)) ?_ | refine And.intro (show gHas _ _ _ from by first | exact gW.has (gD.w (by assumption)) (by omega) | exact gD.has (by assumption) | exact gRu.has (gD.ru (by assumption)) | exact gGr.has (gD.gr (by assumption) _ (by omega))) ?_ | refine gCall_mk (by decide) (by decide) ?_ | refine if_yes (by first | assumption | omega | decide | exact b2i_R _ | exact gR_of (by omega) (by omega)) ?_ | refine if_no (by first | assumption | omega | decide | exact b2i_R _ | exact gR_of (by omega) (by omega)) ?_)
      refine gCall_mk (by omega) (by omega) (c_folds_x d4 (by omega) (gRes.to (if_pos hS) (fun h5 U5 r6 d5 f5 p5 => ?_)))
      have p5' : r6 = ((sm (flF (st.S w)) (st.S w).length : Nat) : Int) := by rw [hk] at p5; exact p5
      show gHas _ _ _ ∧ _
      (first | refine And.intro (show gR _ from by first | assumption | omega | decide | exact b2i_R _ | exact gR_of (by omega) (by omega)) ?_ | refine And.intro (show gHas _ _ _ from by first | exact gW.has (gD.w (by assumption)) (by omega) | exact gD.has (by assumption) | exact gRu.has (gD.ru (by assumption)) | exact gGr.has (gD.gr (by assumption) _ (by omega))) ?_ | refine gCall_mk (by decide) (by decide) ?_ | refine if_yes (by first | assumption | omega | decide | exact b2i_R _ | exact gR_of (by omega) (by omega)) ?_ | refine if_no (by first | assumption | omega | decide | exact b2i_R _ | exact gR_of (by omega) (by omega)) ?_)
      refine gCall_mk (by omega) (by omega) (c_least_x d5 (by omega) (gRes.to (if_pos hS) (fun h6 U6 r7 d6 f6 p6 => ?_)))
      have p6' : r7 = ((lst (st.S w) (st.S w).length : Nat) : Int) := by rw [hk] at p6; exact p6
      have kk := k h6 U6 d6 (f1.tr (f2.tr (f3.tr (f4.tr (f5.tr f6)))))
      rw [p1', p3', p4', p5', p6']
      exact kk
    | succ e =>
      refine if_no (by omega) ?_
      (first | refine And.intro (show gR _ from by first | assumption | omega | decide | exact b2i_R _ | exact gR_of (by omega) (by omega)) ?_ | refine And.intro (show gHas _ _ _ from by first | exact gW.has (gD.w (by assumption)) (by omega) | exact gD.has (by assumption) | exact gRu.has (gD.ru (by assumption)) | exact gGr.has (gD.gr (by assumption) _ (by omega))) ?_ | refine gCall_mk (by decide) (by decide) ?_ | refine if_yes (by first | assumption | omega | decide | exact b2i_R _ | exact gR_of (by omega) (by omega)) ?_ | refine if_no (by first | assumption | omega | decide | exact b2i_R _ | exact gR_of (by omega) (by omega)) ?_)
      refine s_isUp d.w (show w < 11 by omega) rfl (by rw [eU]; omega) ?_
      rw [eU]
      (first | refine And.intro (show gR _ from by first | assumption | omega | decide | exact b2i_R _ | exact gR_of (by omega) (by omega)) ?_ | refine And.intro (show gHas _ _ _ from by first | exact gW.has (gD.w (by assumption)) (by omega) | exact gD.has (by assumption) | exact gRu.has (gD.ru (by assumption)) | exact gGr.has (gD.gr (by assumption) _ (by omega))) ?_ | refine gCall_mk (by decide) (by decide) ?_ | refine if_yes (by first | assumption | omega | decide | exact b2i_R _ | exact gR_of (by omega) (by omega)) ?_ | refine if_no (by first | assumption | omega | decide | exact b2i_R _ | exact gR_of (by omega) (by omega)) ?_)
      have ih := fun t2 (kk : ∀ h' U', gD A G h' U' st → gFr A h h' → Q (dEn (st.S w) (dSg (st.S w) e (i + 1) t2)) h') => x_digestSheet_L (Q := Q) hw n (i + 1) e h U kc ks t2 d (by omega) (by omega) hc hs kk
      unfold w_X5_digestSheet_J51 w_X5_digestWith
      rw [show (i : Int) + 1 = ((i + 1 : Nat) : Int) by omega]
      unfold dSg dA at k
      generalize (st.S w).getD i false = b at k
      cases b
      · refine if_yes rfl (ih _ ?_)
        rw [gI2l_1] at k
        exact k
      · refine if_no (by decide) (ih _ ?_)
        rw [gI2l_2] at k
        exact k
theorem x_digestSheet {Q : Int64 → gaH → Prop} {t : Int64} (d : gD A G h U st) (hw : w < 3) (k : ∀ h' U', gD A G h' U' st → gFr A h h' → Q (dSh (st.S w) t) h') : w_X5_digestSheet X (A 22) t (w : Int) h Q := by
  have l1 := d.w.le (show w < 11 by omega)
  have eU := d.s w hw
  unfold w_X5_digestSheet
  (first | refine And.intro (show gR _ from by first | assumption | omega | decide | exact b2i_R _ | exact gR_of (by omega) (by omega)) ?_ | refine And.intro (show gHas _ _ _ from by first | exact gW.has (gD.w (by assumption)) (by omega) | exact gD.has (by assumption) | exact gRu.has (gD.ru (by assumption)) | exact gGr.has (gD.gr (by assumption) _ (by omega))) ?_ | refine gCall_mk (by decide) (by decide) ?_ | refine if_yes (by first | assumption | omega | decide | exact b2i_R _ | exact gR_of (by omega) (by omega)) ?_ | refine if_no (by first | assumption | omega | decide | exact b2i_R _ | exact gR_of (by omega) (by omega)) ?_); (first | refine And.intro (show gR _ from by first | assumption | omega | decide | exact b2i_R _ | exact gR_of (by omega) (by omega)) ?_ | refine And.intro (show gHas _ _ _ from by first | exact gW.has (gD.w (by assumption)) (by omega) | exact gD.has (by assumption) | exact gRu.has (gD.ru (by assumption)) | exact gGr.has (gD.gr (by assumption) _ (by omega))) ?_ | refine gCall_mk (by decide) (by decide) ?_ | refine if_yes (by first | assumption | omega | decide | exact b2i_R _ | exact gR_of (by omega) (by omega)) ?_ | refine if_no (by first | assumption | omega | decide | exact b2i_R _ | exact gR_of (by omega) (by omega)) ?_)
  refine c_wordOf d (by omega) (fun q => absurd (show okS (w : Int) by omega) q) (fun v hv e => ?_)
  obtain rfl : w = v := by omega
  rw [eU] at l1
  refine d.w.many (by omega) ?_
  rw [eU]
  exact ⟨66, x_digestSheet_L hw 66 0 (st.S w).length h U _ _ _ d (by omega) (by omega) (by decide) (by decide) k⟩
theorem x_digestGrowth_L {Q : Int64 → gaH → Prop} (hg : g < 2) : ∀ (n i e : Nat) (h : gaH) (U : Nat → List Bool) (kc ks : Nat) (t : Int64), gD A G h U st → i + e = (st.T g).length → e < n → 6 ≤ kc → 36 ≤ ks → (∀ h' U', gD A G h' U' st → gFr A h h' → Q (dGe (st.T g) (dTn (st.T g) e i t)) h') → w_X5_digestGrowth_L22 X Q n (A 22) (g : Int) (A (26 + g)) t (i : Int) h kc ks
  | 0, _, _, _, _, _, _, _, _, _, h1, _, _, _ => absurd h1 (Nat.not_lt_zero _)
  | n + 1, i, e, h, U, kc, ks, t, d, hi, h1, hc, hs, k => by
    have l1 := (d.ok g hg).len
    have hS : okG (g : Int) := by omega
    have hk : (g : Int).toNat = g := Int.toNat_natCast g
    unfold w_X5_digestGrowth_L22
    refine (d.gr g hg).ct ?_
    (first | refine And.intro (show gR _ from by first | assumption | omega | decide | exact b2i_R _ | exact gR_of (by omega) (by omega)) ?_ | refine And.intro (show gHas _ _ _ from by first | exact gW.has (gD.w (by assumption)) (by omega) | exact gD.has (by assumption) | exact gRu.has (gD.ru (by assumption)) | exact gGr.has (gD.gr (by assumption) _ (by omega))) ?_ | refine gCall_mk (by decide) (by decide) ?_ | refine if_yes (by first | assumption | omega | decide | exact b2i_R _ | exact gR_of (by omega) (by omega)) ?_ | refine if_no (by first | assumption | omega | decide | exact b2i_R _ | exact gR_of (by omega) (by omega)) ?_); (first | refine And.intro (show gR _ from by first | assumption | omega | decide | exact b2i_R _ | exact gR_of (by omega) (by omega)) ?_ | refine And.intro (show gHas _ _ _ from by first | exact gW.has (gD.w (by assumption)) (by omega) | exact gD.has (by assumption) | exact gRu.has (gD.ru (by assumption)) | exact gGr.has (gD.gr (by assumption) _ (by omega))) ?_ | refine gCall_mk (by decide) (by decide) ?_ | refine if_yes (by first | assumption | omega | decide | exact b2i_R _ | exact gR_of (by omega) (by omega)) ?_ | refine if_no (by first | assumption | omega | decide | exact b2i_R _ | exact gR_of (by omega) (by omega)) ?_)
    cases e with
    | zero =>
      refine if_yes (by omega) ?_
      (first | refine And.intro (show gR _ from by first | assumption | omega | decide | exact b2i_R _ | exact gR_of (by omega) (by omega)) ?_ | refine And.intro (show gHas _ _ _ from by first | exact gW.has (gD.w (by assumption)) (by omega) | exact gD.has (by assumption) | exact gRu.has (gD.ru (by assumption)) | exact gGr.has (gD.gr (by assumption) _ (by omega))) ?_ | refine gCall_mk (by decide) (by decide) ?_ | refine if_yes (by first | assumption | omega | decide | exact b2i_R _ | exact gR_of (by omega) (by omega)) ?_ | refine if_no (by first | assumption | omega | decide | exact b2i_R _ | exact gR_of (by omega) (by omega)) ?_)
      refine gCall_mk (by omega) (by omega) (c_size d (b := false) (by omega) rfl (gRes.to (if_pos hS) (fun h1 U1 r1 d1 f1 p1 => ?_)))
      show gHas _ _ _ ∧ _
      (first | refine And.intro (show gR _ from by first | assumption | omega | decide | exact b2i_R _ | exact gR_of (by omega) (by omega)) ?_ | refine And.intro (show gHas _ _ _ from by first | exact gW.has (gD.w (by assumption)) (by omega) | exact gD.has (by assumption) | exact gRu.has (gD.ru (by assumption)) | exact gGr.has (gD.gr (by assumption) _ (by omega))) ?_ | refine gCall_mk (by decide) (by decide) ?_ | refine if_yes (by first | assumption | omega | decide | exact b2i_R _ | exact gR_of (by omega) (by omega)) ?_ | refine if_no (by first | assumption | omega | decide | exact b2i_R _ | exact gR_of (by omega) (by omega)) ?_)
      refine gCall_mk (by omega) (by omega) (c_size d1 (b := true) (by omega) rfl (gRes.to (if_pos hS) (fun h2 U2 r2 d2 f2 p2 => ?_)))
      show gHas _ _ _ ∧ _
      (first | refine And.intro (show gR _ from by first | assumption | omega | decide | exact b2i_R _ | exact gR_of (by omega) (by omega)) ?_ | refine And.intro (show gHas _ _ _ from by first | exact gW.has (gD.w (by assumption)) (by omega) | exact gD.has (by assumption) | exact gRu.has (gD.ru (by assumption)) | exact gGr.has (gD.gr (by assumption) _ (by omega))) ?_ | refine gCall_mk (by decide) (by decide) ?_ | refine if_yes (by first | assumption | omega | decide | exact b2i_R _ | exact gR_of (by omega) (by omega)) ?_ | refine if_no (by first | assumption | omega | decide | exact b2i_R _ | exact gR_of (by omega) (by omega)) ?_)
      refine gCall_mk (by omega) (by omega) (c_ups d2 (b := false) (by omega) rfl (gRes.to (if_pos hS) (fun h3 U3 r4 d3 f3 p3 => ?_)))
      show gHas _ _ _ ∧ _
      (first | refine And.intro (show gR _ from by first | assumption | omega | decide | exact b2i_R _ | exact gR_of (by omega) (by omega)) ?_ | refine And.intro (show gHas _ _ _ from by first | exact gW.has (gD.w (by assumption)) (by omega) | exact gD.has (by assumption) | exact gRu.has (gD.ru (by assumption)) | exact gGr.has (gD.gr (by assumption) _ (by omega))) ?_ | refine gCall_mk (by decide) (by decide) ?_ | refine if_yes (by first | assumption | omega | decide | exact b2i_R _ | exact gR_of (by omega) (by omega)) ?_ | refine if_no (by first | assumption | omega | decide | exact b2i_R _ | exact gR_of (by omega) (by omega)) ?_)
      refine gCall_mk (by omega) (by omega) (c_ups d3 (b := true) (by omega) rfl (gRes.to (if_pos hS) (fun h4 U4 r5 d4 f4 p4 => ?_)))
      show gHas _ _ _ ∧ _
      (first | refine And.intro (show gR _ from by first | assumption | omega | decide | exact b2i_R _ | exact gR_of (by omega) (by omega)) ?_ | refine And.intro (show gHas _ _ _ from by first | exact gW.has (gD.w (by assumption)) (by omega) | exact gD.has (by assumption) | exact gRu.has (gD.ru (by assumption)) | exact gGr.has (gD.gr (by assumption) _ (by omega))) ?_ | refine gCall_mk (by decide) (by decide) ?_ | refine if_yes (by first | assumption | omega | decide | exact b2i_R _ | exact gR_of (by omega) (by omega)) ?_ | refine if_no (by first | assumption | omega | decide | exact b2i_R _ | exact gR_of (by omega) (by omega)) ?_)
      refine gCall_mk (by omega) (by omega) (c_cross d4 (by omega) (gRes.to (if_pos hS) (fun h5 U5 r6 d5 f5 p5 => ?_)))
      show gHas _ _ _ ∧ _
      (first | refine And.intro (show gR _ from by first | assumption | omega | decide | exact b2i_R _ | exact gR_of (by omega) (by omega)) ?_ | refine And.intro (show gHas _ _ _ from by first | exact gW.has (gD.w (by assumption)) (by omega) | exact gD.has (by assumption) | exact gRu.has (gD.ru (by assumption)) | exact gGr.has (gD.gr (by assumption) _ (by omega))) ?_ | refine gCall_mk (by decide) (by decide) ?_ | refine if_yes (by first | assumption | omega | decide | exact b2i_R _ | exact gR_of (by omega) (by omega)) ?_ | refine if_no (by first | assumption | omega | decide | exact b2i_R _ | exact gR_of (by omega) (by omega)) ?_)
      refine gCall_mk (by omega) (by omega) (c_alike d5 (by omega) (gRes.to (if_pos hS) (fun h6 U6 r7 d6 f6 p6 => ?_)))
      have kk := k h6 U6 d6 (f1.tr (f2.tr (f3.tr (f4.tr (f5.tr f6)))))
      rw [hk] at p1 p2 p3 p4 p5 p6
      have p1' : r1 = ((grw (st.T g)).2.length : Int) := p1
      have p2' : r2 = ((grw (st.T g)).1.length : Int) := p2
      have p3' : r4 = (ones (grw (st.T g)).2 : Int) := p3
      have p4' : r5 = (ones (grw (st.T g)).1 : Int) := p4
      have p5' : r6 = crossG (st.T g) := p5
      have p6' : r7 = unlike (grw (st.T g)).2 (grw (st.T g)).1 := p6
      rw [p1', p2', p3', p4', p5', p6']
      exact kk
    | succ e =>
      refine if_no (by omega) ?_
      (first | refine And.intro (show gR _ from by first | assumption | omega | decide | exact b2i_R _ | exact gR_of (by omega) (by omega)) ?_ | refine And.intro (show gHas _ _ _ from by first | exact gW.has (gD.w (by assumption)) (by omega) | exact gD.has (by assumption) | exact gRu.has (gD.ru (by assumption)) | exact gGr.has (gD.gr (by assumption) _ (by omega))) ?_ | refine gCall_mk (by decide) (by decide) ?_ | refine if_yes (by first | assumption | omega | decide | exact b2i_R _ | exact gR_of (by omega) (by omega)) ?_ | refine if_no (by first | assumption | omega | decide | exact b2i_R _ | exact gR_of (by omega) (by omega)) ?_)
      refine s_turnAt (d.gr g hg) rfl (by omega) ?_
      show w_X5_digestGrowth_L22 X Q n (A 22) (g : Int) (A (26 + g)) _ ((i : Int) + 1) h kc ks
      rw [show (i : Int) + 1 = ((i + 1 : Nat) : Int) by omega]
      exact x_digestGrowth_L hg n (i + 1) e h U kc ks _ d (by omega) (by omega) hc hs k
theorem x_digestGrowth {Q : Int64 → gaH → Prop} {t : Int64} (d : gD A G h U st) (hg : g < 2) (k : ∀ h' U', gD A G h' U' st → gFr A h h' → Q (dGr (st.T g) t) h') : w_X5_digestGrowth X (A 22) t (g : Int) h Q := by
  have l1 := (d.ok g hg).len
  unfold w_X5_digestGrowth
  (first | refine And.intro (show gR _ from by first | assumption | omega | decide | exact b2i_R _ | exact gR_of (by omega) (by omega)) ?_ | refine And.intro (show gHas _ _ _ from by first | exact gW.has (gD.w (by assumption)) (by omega) | exact gD.has (by assumption) | exact gRu.has (gD.ru (by assumption)) | exact gGr.has (gD.gr (by assumption) _ (by omega))) ?_ | refine gCall_mk (by decide) (by decide) ?_ | refine if_yes (by first | assumption | omega | decide | exact b2i_R _ | exact gR_of (by omega) (by omega)) ?_ | refine if_no (by first | assumption | omega | decide | exact b2i_R _ | exact gR_of (by omega) (by omega)) ?_); (first | refine And.intro (show gR _ from by first | assumption | omega | decide | exact b2i_R _ | exact gR_of (by omega) (by omega)) ?_ | refine And.intro (show gHas _ _ _ from by first | exact gW.has (gD.w (by assumption)) (by omega) | exact gD.has (by assumption) | exact gRu.has (gD.ru (by assumption)) | exact gGr.has (gD.gr (by assumption) _ (by omega))) ?_ | refine gCall_mk (by decide) (by decide) ?_ | refine if_yes (by first | assumption | omega | decide | exact b2i_R _ | exact gR_of (by omega) (by omega)) ?_ | refine if_no (by first | assumption | omega | decide | exact b2i_R _ | exact gR_of (by omega) (by omega)) ?_)
  refine c_growthOf d (by omega) (fun q => absurd (show okG (g : Int) by omega) q) (fun v hv e => ?_)
  obtain rfl : g = v := by omega
  exact (d.gr g hg).ct ⟨66, x_digestGrowth_L hg 66 0 (st.T g).length h U _ _ _ d (by omega) (by omega) (by decide) (by decide) k⟩
theorem x_digest_L46 {Q : Int64 → gaH → Prop} : ∀ (n i e : Nat) (h : gaH) (U : Nat → List Bool) (kc ks : Nat) (t : Int64), gD A G h U st → i + e = 4 → e < n → e + 18 ≤ kc → 6 * e + 108 ≤ ks → (∀ h' U', gD A G h' U' st → gFr A h h' → Q (dA (dHs st.C e i t) (b2i (soundB (st.T 0) && soundB (st.T 1)))) h') → w_X5_digest_L46 G X Q n (A 22) t (i : Int) h kc ks
  | 0, _, _, _, _, _, _, _, _, _, h1, _, _, _ => absurd h1 (Nat.not_lt_zero _)
  | n + 1, i, e, h, U, kc, ks, t, d, hi, h1, hc, hs, k => by
    unfold w_X5_digest_L46
    (first | refine And.intro (show gR _ from by first | assumption | omega | decide | exact b2i_R _ | exact gR_of (by omega) (by omega)) ?_ | refine And.intro (show gHas _ _ _ from by first | exact gW.has (gD.w (by assumption)) (by omega) | exact gD.has (by assumption) | exact gRu.has (gD.ru (by assumption)) | exact gGr.has (gD.gr (by assumption) _ (by omega))) ?_ | refine gCall_mk (by decide) (by decide) ?_ | refine if_yes (by first | assumption | omega | decide | exact b2i_R _ | exact gR_of (by omega) (by omega)) ?_ | refine if_no (by first | assumption | omega | decide | exact b2i_R _ | exact gR_of (by omega) (by omega)) ?_)
    cases e with
    | zero =>
      refine if_yes (by omega) ?_
      (first | refine And.intro (show gR _ from by first | assumption | omega | decide | exact b2i_R _ | exact gR_of (by omega) (by omega)) ?_ | refine And.intro (show gHas _ _ _ from by first | exact gW.has (gD.w (by assumption)) (by omega) | exact gD.has (by assumption) | exact gRu.has (gD.ru (by assumption)) | exact gGr.has (gD.gr (by assumption) _ (by omega))) ?_ | refine gCall_mk (by decide) (by decide) ?_ | refine if_yes (by first | assumption | omega | decide | exact b2i_R _ | exact gR_of (by omega) (by omega)) ?_ | refine if_no (by first | assumption | omega | decide | exact b2i_R _ | exact gR_of (by omega) (by omega)) ?_)
      refine gCall_mk (by omega) (by omega) (c_isSound (E := []) d (gRes.to rfl (fun h1 U1 r1 d1 f1 p1 => ?_)))
      rw [p1]
      refine x_oneIf ?_
      exact k h1 U1 d1 f1
    | succ e =>
      refine if_no (by omega) ?_
      (first | refine And.intro (show gR _ from by first | assumption | omega | decide | exact b2i_R _ | exact gR_of (by omega) (by omega)) ?_ | refine And.intro (show gHas _ _ _ from by first | exact gW.has (gD.w (by assumption)) (by omega) | exact gD.has (by assumption) | exact gRu.has (gD.ru (by assumption)) | exact gGr.has (gD.gr (by assumption) _ (by omega))) ?_ | refine gCall_mk (by decide) (by decide) ?_ | refine if_yes (by first | assumption | omega | decide | exact b2i_R _ | exact gR_of (by omega) (by omega)) ?_ | refine if_no (by first | assumption | omega | decide | exact b2i_R _ | exact gR_of (by omega) (by omega)) ?_)
      refine gCall_mk (by omega) (by omega) (c_house d (by omega) (gRes.to (if_pos ⟨by omega, by omega⟩) (fun h1 U1 r1 d1 f1 p1 => ?_)))
      show w_X5_digest_L46 G X Q n (A 22) _ ((i : Int) + 1) h1 _ _
      rw [show (i : Int) + 1 = ((i + 1 : Nat) : Int) by omega]
      rw [Int.toNat_natCast] at p1
      have p1' : r1 = st.C i := p1
      rw [p1']
      exact x_digest_L46 n (i + 1) e h1 U1 _ _ _ d1 (by omega) (by omega) (by omega) (by omega) (fun h' U' d' f' => k h' U' d' (f1.tr f'))
theorem x_digest {Q : Int64 → gaH → Prop} (d : gD A G h U st) (k : ∀ h' U', gD A G h' U' st → gFr A h h' → Q (dGa st) h') : w_X5_digest G X (A 22) h Q := by
  unfold w_X5_digest
  refine ⟨4, ?_⟩
  unfold w_X5_digest_L6
  refine ⟨by decide, if_no (by decide) ?_⟩
  (first | refine And.intro (show gR _ from by first | assumption | omega | decide | exact b2i_R _ | exact gR_of (by omega) (by omega)) ?_ | refine And.intro (show gHas _ _ _ from by first | exact gW.has (gD.w (by assumption)) (by omega) | exact gD.has (by assumption) | exact gRu.has (gD.ru (by assumption)) | exact gGr.has (gD.gr (by assumption) _ (by omega))) ?_ | refine gCall_mk (by decide) (by decide) ?_ | refine if_yes (by first | assumption | omega | decide | exact b2i_R _ | exact gR_of (by omega) (by omega)) ?_ | refine if_no (by first | assumption | omega | decide | exact b2i_R _ | exact gR_of (by omega) (by omega)) ?_)
  refine gCall_mk (by omega) (by omega) (x_digestSheet (w := 0) d (by decide) (fun h1 U1 d1 f1 => ?_))
  unfold w_X5_digest_L6
  refine ⟨by decide, if_no (by decide) ?_⟩
  (first | refine And.intro (show gR _ from by first | assumption | omega | decide | exact b2i_R _ | exact gR_of (by omega) (by omega)) ?_ | refine And.intro (show gHas _ _ _ from by first | exact gW.has (gD.w (by assumption)) (by omega) | exact gD.has (by assumption) | exact gRu.has (gD.ru (by assumption)) | exact gGr.has (gD.gr (by assumption) _ (by omega))) ?_ | refine gCall_mk (by decide) (by decide) ?_ | refine if_yes (by first | assumption | omega | decide | exact b2i_R _ | exact gR_of (by omega) (by omega)) ?_ | refine if_no (by first | assumption | omega | decide | exact b2i_R _ | exact gR_of (by omega) (by omega)) ?_)
  refine gCall_mk (by omega) (by omega) (x_digestSheet (w := 1) d1 (by decide) (fun h2 U2 d2 f2 => ?_))
  unfold w_X5_digest_L6
  refine ⟨by decide, if_no (by decide) ?_⟩
  (first | refine And.intro (show gR _ from by first | assumption | omega | decide | exact b2i_R _ | exact gR_of (by omega) (by omega)) ?_ | refine And.intro (show gHas _ _ _ from by first | exact gW.has (gD.w (by assumption)) (by omega) | exact gD.has (by assumption) | exact gRu.has (gD.ru (by assumption)) | exact gGr.has (gD.gr (by assumption) _ (by omega))) ?_ | refine gCall_mk (by decide) (by decide) ?_ | refine if_yes (by first | assumption | omega | decide | exact b2i_R _ | exact gR_of (by omega) (by omega)) ?_ | refine if_no (by first | assumption | omega | decide | exact b2i_R _ | exact gR_of (by omega) (by omega)) ?_)
  refine gCall_mk (by omega) (by omega) (x_digestSheet (w := 2) d2 (by decide) (fun h3 U3 d3 f3 => ?_))
  unfold w_X5_digest_L6
  refine ⟨by decide, if_yes (by decide) ⟨3, ?_⟩⟩
  unfold w_X5_digest_L26
  refine ⟨by decide, if_no (by decide) ?_⟩
  (first | refine And.intro (show gR _ from by first | assumption | omega | decide | exact b2i_R _ | exact gR_of (by omega) (by omega)) ?_ | refine And.intro (show gHas _ _ _ from by first | exact gW.has (gD.w (by assumption)) (by omega) | exact gD.has (by assumption) | exact gRu.has (gD.ru (by assumption)) | exact gGr.has (gD.gr (by assumption) _ (by omega))) ?_ | refine gCall_mk (by decide) (by decide) ?_ | refine if_yes (by first | assumption | omega | decide | exact b2i_R _ | exact gR_of (by omega) (by omega)) ?_ | refine if_no (by first | assumption | omega | decide | exact b2i_R _ | exact gR_of (by omega) (by omega)) ?_)
  refine gCall_mk (by omega) (by omega) (x_digestGrowth (g := 0) d3 (by decide) (fun h4 U4 d4 f4 => ?_))
  unfold w_X5_digest_L26
  refine ⟨by decide, if_no (by decide) ?_⟩
  (first | refine And.intro (show gR _ from by first | assumption | omega | decide | exact b2i_R _ | exact gR_of (by omega) (by omega)) ?_ | refine And.intro (show gHas _ _ _ from by first | exact gW.has (gD.w (by assumption)) (by omega) | exact gD.has (by assumption) | exact gRu.has (gD.ru (by assumption)) | exact gGr.has (gD.gr (by assumption) _ (by omega))) ?_ | refine gCall_mk (by decide) (by decide) ?_ | refine if_yes (by first | assumption | omega | decide | exact b2i_R _ | exact gR_of (by omega) (by omega)) ?_ | refine if_no (by first | assumption | omega | decide | exact b2i_R _ | exact gR_of (by omega) (by omega)) ?_)
  refine gCall_mk (by omega) (by omega) (x_digestGrowth (g := 1) d4 (by decide) (fun h5 U5 d5 f5 => ?_))
  unfold w_X5_digest_L26
  refine ⟨by decide, if_yes (by decide) ⟨5, ?_⟩⟩
  exact x_digest_L46 5 0 4 h5 U5 _ _ _ d5 rfl (by decide) (by omega) (by omega) (fun h' U' d' f' => k h' U' d' (f1.tr (f2.tr (f3.tr (f4.tr (f5.tr f'))))))
end XD
section XR
variable {B : Nat → Nat} {h h0 : gaH} {st : GSt} {no : Int} {a b o : Nat} {u v : List Bool} {w g : Nat} {x y z : Int} {G : gaG}
theorem r_add {Q : Int64 → gaH → Prop} {t : Int64} {x : Int} (k : Q (dA t x) h) : w_X7_add t (gI2l x) h Q := k
theorem xr_added_L {Q : Int64 → gaH → Prop} {p q : Nat} (hg : g < 2) (d : gM B h st no) (ry : mR h p (grw (st.T g)).2) (re : mR h q (grw (st.T g)).1) : ∀ (n i e : Nat) (t : Int64), i + e = (st.T g).length → e < n → (∀ h', mK h h' → Q (dGe (st.T g) (dTn (st.T g) e i t)) h') → w_X7_added_L32 Q n (B 0) (g : Int) p q t (i : Int) h 2 256 := by
  have ho := d.ok hg
  have hl := ho.len
  have l1 := ho.2
  have l2 := ho.elder
  intro n
  induction n with
  | zero => intro i e t _ h9 _; exact absurd h9 (Nat.not_lt_zero _)
  | succ n ih =>
    intro i e t hi h9 k
    unfold w_X7_added_L32
    refine d.f2 (d.ct rfl hg ⟨by omega, by omega, ?_⟩)
    cases e with
    | zero =>
      refine if_yes (by omega) (ry.len (r_add ?_))
      refine re.len (r_add ?_)
      refine r_bs ry (by omega) (r_add ?_)
      refine r_bs re (by omega) (r_add ?_)
      refine r_crossOf ry re (by omega) (by omega) (r_add ?_)
      exact gCall_mk (by decide) (by decide) (r_alikeOf ry re l1 l2 (grw_alike _) (fun h2 k2 => r_add (k h2 k2)))
    | succ e =>
      refine if_no (by omega) (d.f1 (d.tr rfl hg (d.tn hg rfl (by omega) (r_add ?_))))
      rw [show (i : Int) + 1 = ((i + 1 : Nat) : Int) by omega]
      exact ih (i + 1) e _ (by omega) (by omega) k
theorem xr_added {Q : Int64 → gaH → Prop} {t : Int64} (hg : g < 2) (hx : x = (g : Int)) (d : gM B h st no) (k : ∀ h', mK h h' → Q (dGr (st.T g) t) h') : w_X7_added (B 0) t x h Q := by
  subst hx
  have hl := (d.ok hg).len
  unfold w_X7_added
  refine ⟨d.has, gCall_mk (by decide) (by decide) (r_word (b := false) d hg rfl rfl (fun h2 oy k2 n2 ry => ⟨(d.kp k2).has, gCall_mk (by decide) (by decide) (r_word (b := true) (d.kp k2) hg rfl rfl (fun h3 oe k3 n3 re => ?_))⟩))⟩
  have d3 := d.kp (k2.tr k3)
  refine d3.f2 (d3.ct rfl hg (r_add ⟨66, ?_⟩))
  exact xr_added_L hg d3 (ry.on k3) re 66 0 (st.T g).length _ (by omega) (by omega) (fun h' k' => k h' (k2.tr (k3.tr k')))
theorem xr_digest_L172 {Q : Int64 → gaH → Prop} : ∀ (n i e : Nat) (h : gaH) (t : Int64) (kc ks : Nat), gM B h st no → i + e = 4 → e < n → 928 ≤ kc → 55564 ≤ ks → (∀ h', mK h h' → Q (dA (dHs st.C e i t) (b2i (soundB (st.T 0) && soundB (st.T 1)))) h') → w_X7_digest_L172 Q n (B 0) t (i : Int) h kc ks
  | 0, _, _, _, _, _, _, _, _, h9, _, _, _ => absurd h9 (Nat.not_lt_zero _)
  | n + 1, i, e, h, t, kc, ks, d, hi, h9, hc, hs, k => by
    unfold w_X7_digest_L172
    refine ⟨by omega, ?_⟩
    cases e with
    | zero => exact if_yes (by omega) ⟨d.has, gCall_mk hc hs (r_isWhole d (fun h2 k2 => r_one rfl (r_add (k h2 k2))))⟩
    | succ e =>
      refine if_no (by omega) ⟨d.has, r_told d (by omega) (r_add ?_)⟩
      rw [show (i : Int) + 1 = ((i + 1 : Nat) : Int) by omega, Int.toNat_natCast]
      exact xr_digest_L172 n (i + 1) e h _ kc ks d (by omega) (by omega) hc hs k
theorem xr_digest_L55 {Q : Int64 → gaH → Prop} {K21 : Nat → Int64 → Nat → Int → Int → gaH → Nat → Nat → Prop} {c v3 : Nat} {v4 v5 : Int} {kc ks : Nat} (r : mR h a u) (hl : u.length ≤ 64) : ∀ (n i e : Nat) (t : Int64), i + e = u.length → e < n → K21 c (dEn u (dSg u e i t)) v3 v4 (v5 + 1) h kc ks → w_X7_digest_L55 Q K21 n c t v3 v4 v5 a a (u.length : Int) (i : Int) h kc ks := by
  intro n
  induction n with
  | zero => intro i e t _ h9 _; exact absurd h9 (Nat.not_lt_zero _)
  | succ n ih =>
    intro i e t hi h9 k
    unfold w_X7_digest_L55
    refine ⟨by omega, by omega, ?_⟩
    cases e with
    | zero =>
      refine if_yes (by omega) (r_bs r (by omega) (r_add ?_))
      refine r.len (xr_isMir (f := 0) (t := u.length) r hl rfl rfl (Nat.zero_le _) (Nat.le_refl _) (r_one rfl (r_add ?_)))
      refine xr_timesOf r hl (fun r1 ht => r_add ?_)
      refine xr_overlapsOf r hl (r_add ?_)
      refine xr_foldsOf r hl (r_add ?_)
      refine xr_leastOf r hl (r_add ?_)
      rw [tm_eq ht, Nat.sub_zero]
      exact k
    | succ e =>
      refine if_no (by omega) (r.at rfl (by omega) (by omega) (r_add ?_))
      rw [show (i : Int) + 1 = ((i + 1 : Nat) : Int) by omega]
      exact ih (i + 1) e _ (by omega) (by omega) k
theorem xr_digest_L21 {Q : Int64 → gaH → Prop} (d : gM B h st no) {n i : Nat} {t : Int64} (hi : i < 3) (k : w_X7_digest_L21 Q n (B 0) (dSh (st.S i) t) (B 1) 3 ((i + 1 : Nat) : Int) h 1200 73228) : w_X7_digest_L21 Q (n + 1) (B 0) t (B 1) 3 (i : Int) h 1200 73228 := by
  have hl := d.sl hi
  unfold w_X7_digest_L21
  refine ⟨by omega, by decide, ?_⟩
  refine if_no (by omega) (d.sh rfl hi (fun a ra na => ra.len (r_add (ra.len ⟨66, ?_⟩))))
  refine xr_digest_L55 ra hl 66 0 (st.S i).length _ (by omega) (by omega) ?_
  rw [show (i : Int) + 1 = ((i + 1 : Nat) : Int) by omega]
  exact k
theorem xr_digest {Q : Int64 → gaH → Prop} (d : gM B h st no) (k : ∀ h', gM B h' st 0 → mF B h h' → Q (dGa st) h') : w_X7_digest (B 0) h Q := by
  unfold w_X7_digest
  refine d.setNo (fun h1 d1 f1 => d1.f0 ?_)
  obtain ⟨s, a1, a2, -⟩ := id d1
  refine gAL_mk a2 (x := 3) rfl ⟨4, xr_digest_L21 (i := 0) d1 (by decide) (xr_digest_L21 (i := 1) d1 (by decide) (xr_digest_L21 (i := 2) d1 (by decide) ?_))⟩
  unfold w_X7_digest_L21
  refine ⟨by decide, by decide, if_yes (by decide) ⟨d1.has, gCall_mk (by decide) (by decide) (xr_added (g := 0) (by decide) rfl d1 (fun h2 k2 => ⟨(d1.kp k2).has, gCall_mk (by decide) (by decide) (xr_added (g := 1) (by decide) rfl (d1.kp k2) (fun h3 k3 => ⟨5, ?_⟩))⟩))⟩⟩
  exact xr_digest_L172 5 0 4 h3 _ _ _ (d1.kp (k2.tr k3)) rfl (by decide) (by decide) (by decide) (fun h' k' => k h' (d1.kp (k2.tr (k3.tr k'))) (f1.tr (mF.kp (k2.tr (k3.tr k')))))
end XR
/-! Answers that are true or false, held against each other through the out object. -/
theorem cmpB {c O : Nat} {P : Int → Prop} {r : Int} {F : Prop} {J : Int64 → Int64 → Prop} {h : gaH} {z : Int64} {s : Value} (hc : c ≤ 3) (hu : ∀ a b, P a → P b → a = b) (hb : ∀ a, P a → a = 0 ∨ a = 1) (p1 : c = 0 → ∃ r, P r ∧ z = gI2l r) (p2 : c = 0 → P r) (hO : h O = some (6, [.long z, s])) (hJ : ∀ t, J t t) (k : F) : gR (c : Int) ∧ gR (c : Int) ∧ (if (c : Int) = (c : Int) then gR (c : Int) ∧ (if (c : Int) = 0 then gL h O 6 0 (fun r15 => gR r ∧ (if r = 0 then J r15 0 else J r15 1)) else F) else False) := by
  have hr : gR (c : Int) := ⟨by omega, by omega⟩
  refine ⟨hr, hr, if_yes rfl ⟨hr, ?_⟩⟩
  by_cases q : c = 0
  · obtain ⟨a, h1, h2⟩ := p1 q
    have e := hu a r h1 (p2 q)
    subst e
    subst h2
    refine if_yes (by omega) ⟨_, _, hO, rfl, ?_⟩
    rcases hb a h1 with rfl | rfl
    · exact ⟨by decide, if_yes rfl (hJ _)⟩
    · exact ⟨by decide, if_no (by decide) (hJ _)⟩
  · exact if_no (by omega) k
