/-! What is read from words, to the last: what the readings are. -/
def sm (f : Nat → Nat) : Nat → Nat
  | 0 => 0
  | n + 1 => sm f n + f n
theorem sm_le {f : Nat → Nat} {b : Nat} (h : ∀ i, f i ≤ b) : ∀ n, sm f n ≤ n * b
  | 0 => by simp [sm]
  | n + 1 => by
    have := sm_le h n
    have := h n
    rw [Nat.succ_mul]
    show sm f n + f n ≤ _
    omega
theorem sm_congr {f g : Nat → Nat} : ∀ n, (∀ i, i < n → f i = g i) → sm f n = sm g n
  | 0, _ => rfl
  | n + 1, h => by
    show sm f n + f n = sm g n + g n
    rw [sm_congr n (fun i hi => h i (by omega)), h n (by omega)]
theorem sm_add (f g : Nat → Nat) : ∀ n, sm (fun i => f i + g i) n = sm f n + sm g n
  | 0 => rfl
  | n + 1 => by
    show sm (fun i => f i + g i) n + (f n + g n) = (sm f n + f n) + (sm g n + g n)
    rw [sm_add f g n]; omega
theorem sm_tail {f : Nat → Nat} (a : Nat) : ∀ n, a ≤ n → (∀ i, a ≤ i → f i = 0) → sm f n = sm f a
  | 0, h, _ => by rw [show a = 0 by omega]
  | n + 1, h, z => by
    by_cases q : a = n + 1
    · rw [q]
    · show sm f n + f n = _
      rw [sm_tail a n (by omega) z, z n (by omega)]; rfl
theorem sm_nil : ∀ n, sm (fun _ => 0) n = 0
  | 0 => rfl
  | n + 1 => by
    show sm (fun _ => 0) n + 0 = 0
    rw [sm_nil n]
theorem sm_swap (f : Nat → Nat → Nat) (n : Nat) : ∀ m, sm (fun i => sm (f i) n) m = sm (fun j => sm (fun i => f i j) m) n
  | 0 => (sm_nil n).symm
  | m + 1 => by
    show sm (fun i => sm (f i) n) m + sm (f m) n = sm (fun j => sm (fun i => f i j) m + f m j) n
    rw [sm_add, sm_swap f n m]
def b2n (b : Bool) : Nat := if b = true then 1 else 0
theorem b2n_le (b : Bool) : b2n b ≤ 1 := by cases b <;> decide
theorem b2n_b2i (b : Bool) : ((b2n b : Nat) : Int) = b2i b := by cases b <;> rfl
theorem smb_le (P : Nat → Bool) (n : Nat) : sm (fun i => b2n (P i)) n ≤ n := by
  have := sm_le (f := fun i => b2n (P i)) (b := 1) (fun i => b2n_le _) n
  omega
theorem smb_yes {P : Nat → Bool} {n : Nat} (h : P n = true) : sm (fun i => b2n (P i)) (n + 1) = sm (fun i => b2n (P i)) n + 1 := by
  show _ + b2n (P n) = _
  rw [h]; rfl
theorem smb_no {P : Nat → Bool} {n : Nat} (h : P n = false) : sm (fun i => b2n (P i)) (n + 1) = sm (fun i => b2n (P i)) n := by
  show _ + b2n (P n) = _
  rw [h]; rfl
def mxf (f : Nat → Nat) : Nat → Nat
  | 0 => 0
  | n + 1 => max (mxf f n) (f n)
def mnf (f : Nat → Nat) (l : Nat) : Nat → Nat
  | 0 => l
  | n + 1 => min (mnf f l n) (f n)
theorem mxf_le {f : Nat → Nat} {b : Nat} (h : ∀ i, f i ≤ b) : ∀ n, mxf f n ≤ b
  | 0 => Nat.zero_le _
  | n + 1 => by
    have := mxf_le h n
    have := h n
    show max _ _ ≤ b
    omega
theorem mnf_le {f : Nat → Nat} {l : Nat} : ∀ n, mnf f l n ≤ l
  | 0 => Nat.le_refl _
  | n + 1 => by
    have := mnf_le (f := f) (l := l) n
    show min _ _ ≤ l
    omega
/-- the sign at a place of the ring -/
def rg (u : List Bool) (p : Nat) : Bool := u.getD (p % u.length) false
theorem rg_lt {u : List Bool} {p : Nat} (h : p < u.length) : rg u p = u.getD p false := by unfold rg; rw [Nat.mod_eq_of_lt h]
abbrev lk (u : List Bool) (a b l : Nat) : Bool := decide (∀ t, t < l → rg u (a + t) = rg u (b + t))
abbrev mir (u : List Bool) (a l : Nat) : Bool := decide (∀ t, t < l → u.getD (a + t) false = u.getD (a + l - 1 - t) false)
abbrev ovl (u : List Bool) (a p : Nat) : Bool := decide (∀ t, t < p + 1 → u.getD (a + t) false = u.getD (a + p + t) false)
/-- whether a part is read earlier, ahead of a place -/
def er (u : List Bool) (a l : Nat) : Nat → Bool
  | 0 => false
  | e + 1 => er u a l e || lk u e a l
theorem er_up {u : List Bool} {a l : Nat} {i : Nat} (h : er u a l i = true) : ∀ m, i ≤ m → er u a l m = true
  | 0, hm => by rw [← h, show i = 0 by omega]
  | m + 1, hm => by
    by_cases q : i = m + 1
    · rw [← q]; exact h
    · show (er u a l m || lk u m a l) = true
      rw [er_up h m (by omega)]; rfl
theorem er_yes {u : List Bool} {a l i : Nat} (h : lk u i a l = true) : er u a l (i + 1) = true := by
  show (er u a l i || lk u i a l) = true
  rw [h, Bool.or_true]
theorem er_no {u : List Bool} {a l i : Nat} (h0 : er u a l i = false) (h : lk u i a l = false) : er u a l (i + 1) = false := by
  show (er u a l i || lk u i a l) = false
  rw [h0, h]; rfl
/-- two ring parts in order: the first place at which they differ says it -/
def rO (u : List Bool) (a b : Nat) : Nat → Nat → Int
  | 0, _ => 0
  | k + 1, i => if rg u (a + i) = rg u (b + i) then rO u a b k (i + 1) else if rg u (a + i) = true then 1 else -1
theorem rO_R (u : List Bool) (a b : Nat) : ∀ k i, gR (rO u a b k i)
  | 0, _ => (by decide : gR 0)
  | k + 1, i => by
    unfold rO
    split
    · exact rO_R u a b k (i + 1)
    · split <;> decide
theorem rO_zero (u : List Bool) (a b : Nat) : ∀ k i, rO u a b k i = 0 ↔ ∀ t, t < k → rg u (a + (i + t)) = rg u (b + (i + t))
  | 0, i => ⟨fun _ t h => absurd h (Nat.not_lt_zero _), fun _ => rfl⟩
  | k + 1, i => by
    unfold rO
    by_cases q : rg u (a + i) = rg u (b + i)
    · rw [if_pos q, rO_zero u a b k (i + 1)]
      constructor
      · intro h t ht
        cases t with
        | zero => exact q
        | succ t =>
          have := h t (by omega)
          rw [show i + 1 + t = i + (t + 1) by omega] at this
          exact this
      · intro h t ht
        have := h (t + 1) (by omega)
        rw [show i + (t + 1) = i + 1 + t by omega] at this
        exact this
    · rw [if_neg q]
      constructor
      · intro h
        split at h <;> cases h
      · intro h
        exact absurd (h 0 (by omega)) q
theorem rO_lk (u : List Bool) (a b l : Nat) : (rO u a b l 0 = 0) = (lk u a b l = true) := by
  rw [rO_zero, decide_eq_true_eq]
  simp only [Nat.zero_add]
/-- where the least turn of the ring begins, of those looked at -/
def lst (u : List Bool) : Nat → Nat
  | 0 => 0
  | 1 => 0
  | k + 2 => if rO u (k + 1) (lst u (k + 1)) u.length 0 < 0 then k + 1 else lst u (k + 1)
theorem lst_lt (u : List Bool) : ∀ k, 1 ≤ k → lst u k < k
  | 0, h => by omega
  | 1, _ => Nat.zero_lt_one
  | k + 2, _ => by
    have := lst_lt u (k + 1) (by omega)
    unfold lst
    split <;> omega
theorem lst_step {u : List Bool} {i : Nat} (h : 1 ≤ i) : lst u (i + 1) = if rO u i (lst u i) u.length 0 < 0 then i else lst u i := by
  obtain ⟨k, rfl⟩ : ∃ k, i = k + 1 := ⟨i - 1, by omega⟩
  rfl
/-- the first place, up from one, at which a part stands -/
def fndU (u v : List Bool) : Nat → Nat → Int
  | 0, _ => -1
  | k + 1, i => if stands u v i = true then (i : Int) else fndU u v k (i + 1)
def fndD (u v : List Bool) : Nat → Int
  | 0 => -1
  | i + 1 => if stands u v i = true then (i : Int) else fndD u v i
section PX
variable {A : Nat → Nat} {h : gaH} {U : Nat → List Bool} {w v g : Nat}
theorem x_isMir_L (gw : gW A h U) (hw : w < 11) {a l : Nat} (hal : a + l ≤ (U w).length) {Q : Int → gaH → Prop} (k : Q (b2i (mir (U w) a l)) h) : ∀ (n i : Nat), i ≤ l / 2 → l / 2 - i < n → (∀ t, t < i → (U w).getD (a + t) false = (U w).getD (a + l - 1 - t) false) → w_X1_isMirroredPart_L2 Q n (A w) (a : Int) (l : Int) (i : Int) h
  | 0, i, _, h1, _ => absurd h1 (Nat.not_lt_zero _)
  | n + 1, i, hi, h1, inv => by
    have l1 := gw.le hw
    unfold w_X1_isMirroredPart_L2
    rw [half_nat l (by omega)]
    refine ⟨gR_of (by omega) (by omega), gR_of (by omega) (by omega), ?_⟩
    by_cases q : l / 2 ≤ i
    · refine if_yes (by omega) ?_
      have e : mir (U w) a l = true := decide_eq_true (fun t ht => by
        by_cases z : t < l / 2
        · exact inv t (by omega)
        · by_cases y : l - 1 - t < l / 2
          · have := inv (l - 1 - t) (by omega)
            rw [show a + l - 1 - (l - 1 - t) = a + t by omega, show a + (l - 1 - t) = a + l - 1 - t by omega] at this
            exact this.symm
          · rw [show a + l - 1 - t = a + t by omega])
      rw [e] at k; exact k
    · refine if_no (by omega) ⟨gw.has hw, s_isUp (i := a + i) gw hw (by omega) (by omega) ⟨gw.has hw, s_isUp (i := a + l - 1 - i) gw hw (by omega) (by omega) ⟨b2i_R _, b2i_R _, ?_⟩⟩⟩
      by_cases z : (U w).getD (a + i) false = (U w).getD (a + l - 1 - i) false
      · refine if_yes (congrArg b2i z) ?_
        rw [show (i : Int) + 1 = ((i + 1 : Nat) : Int) by omega]
        refine x_isMir_L gw hw hal k n (i + 1) (by omega) (by omega) (fun t ht => ?_)
        by_cases y : t = i
        · rw [y]; exact z
        · exact inv t (by omega)
      · have e : mir (U w) a l = false := decide_eq_false (fun y => z (y i (by omega)))
        rw [e] at k
        exact if_no (fun y => z ((b2i_eq _ _).mp y)) k
theorem x_isMir (gw : gW A h U) (hw : w < 11) {x y : Int} {a l : Nat} (hx : x = (a : Int)) (hy : y = (l : Int)) (hal : a + l ≤ (U w).length) {Q : Int → gaH → Prop} (k : Q (b2i (mir (U w) a l)) h) : w_X1_isMirroredPart (A w) x y h Q := by
  subst hx; subst hy
  exact ⟨l / 2 + 1, x_isMir_L gw hw hal k _ 0 (Nat.zero_le _) (by omega) (fun t ht => absurd ht (Nat.not_lt_zero _))⟩
theorem x_onRing (gw : gW A h U) (hw : w < 11) {x : Int} {p : Nat} (hx : x = (p : Int)) (hp : p < 2 * (U w).length) {Q : Int → gaH → Prop} (k : Q (b2i (rg (U w) p)) h) : w_X1_isUpOnRing (A w) x h Q := by
  refine s_onRing gw hw hx hp ?_
  have e : (if p < (U w).length then p else p - (U w).length) = p % (U w).length := by
    by_cases q : p < (U w).length
    · rw [if_pos q, Nat.mod_eq_of_lt q]
    · rw [if_neg q, Nat.mod_eq_sub_mod (by omega), Nat.mod_eq_of_lt (by omega)]
  rw [e]; exact k
theorem x_ringOrder_L (gw : gW A h U) (hw : w < 11) {a b l : Nat} (hab : l = 0 ∨ (a < (U w).length ∧ b < (U w).length ∧ l ≤ (U w).length)) (hl : l ≤ 64) {Q : Int → gaH → Prop} : ∀ (n i m : Nat), i + m = l → m < n → Q (rO (U w) a b m i) h → w_X1_ringOrder_L3 Q n (A w) (a : Int) (b : Int) (l : Int) (i : Int) h
  | 0, i, _, _, h1, _ => absurd h1 (Nat.not_lt_zero _)
  | n + 1, i, 0, hi, h1, k => by
    have l1 := gw.le hw
    unfold w_X1_ringOrder_L3
    exact ⟨gR_of (by omega) (by omega), gR_of (by omega) (by omega), if_yes (by omega) k⟩
  | n + 1, i, m + 1, hi, h1, k => by
    have l1 := gw.le hw
    unfold w_X1_ringOrder_L3
    refine ⟨gR_of (by omega) (by omega), gR_of (by omega) (by omega), ?_⟩
    refine if_no (by omega) (x_onRing (p := a + i) gw hw (by omega) (by omega) (x_onRing (p := b + i) gw hw (by omega) (by omega) ⟨b2i_R _, b2i_R _, ?_⟩))
    unfold rO at k
    by_cases e : rg (U w) (a + i) = rg (U w) (b + i)
    · rw [if_pos e] at k
      refine if_yes (congrArg b2i e) ?_
      rw [show (i : Int) + 1 = ((i + 1 : Nat) : Int) by omega]
      exact x_ringOrder_L gw hw hab hl n (i + 1) m (by omega) (by omega) k
    · rw [if_neg e] at k
      refine if_no (fun y => e ((b2i_eq _ _).mp y)) ⟨b2i_R _, ?_⟩
      generalize rg (U w) (a + i) = y at k
      cases y
      · exact if_yes rfl k
      · exact if_no (by decide) k
theorem x_ringOrder (gw : gW A h U) (hw : w < 11) {x y z : Int} {a b l : Nat} (hx : x = (a : Int)) (hy : y = (b : Int)) (hz : z = (l : Int)) (hab : l = 0 ∨ (a < (U w).length ∧ b < (U w).length ∧ l ≤ (U w).length)) (hl : l ≤ 64) {Q : Int → gaH → Prop} (k : Q (rO (U w) a b l 0) h) : w_X1_ringOrder (A w) x y z h Q := by
  subst hx; subst hy; subst hz
  exact ⟨l + 1, x_ringOrder_L gw hw hab hl _ 0 l (by omega) (by omega) k⟩
theorem x_readEarlier_L (gw : gW A h U) (hw : w < 11) {a l : Nat} (hal : l = 0 ∨ (a < (U w).length ∧ l ≤ (U w).length)) (ha : a ≤ 64) (hl : l ≤ 64) {Q : Int → gaH → Prop} (k : Q (b2i (er (U w) a l a)) h) : ∀ (n i : Nat), i ≤ a → a - i < n → er (U w) a l i = false → w_X1_isReadEarlier_L2 Q n (A w) (a : Int) (l : Int) (i : Int) h
  | 0, i, _, h1, _ => absurd h1 (Nat.not_lt_zero _)
  | n + 1, i, hi, h1, inv => by
    unfold w_X1_isReadEarlier_L2
    refine ⟨gR_of (by omega) (by omega), gR_of (by omega) (by omega), ?_⟩
    by_cases q : a ≤ i
    · obtain rfl : i = a := by omega
      rw [inv] at k
      exact if_yes (by omega) k
    · refine if_no (by omega) (x_ringOrder (a := i) (b := a) (l := l) gw hw rfl rfl rfl (by omega) hl ⟨rO_R _ _ _ _ _, ?_⟩)
      by_cases z : rO (U w) i a l 0 = 0
      · have e := er_up (er_yes ((rO_lk _ _ _ _).mp z)) a (by omega)
        rw [e] at k
        exact if_yes z k
      · refine if_no z ?_
        rw [show (i : Int) + 1 = ((i + 1 : Nat) : Int) by omega]
        refine x_readEarlier_L gw hw hal ha hl k n (i + 1) (by omega) (by omega) (er_no inv ?_)
        rw [rO_lk] at z
        exact Bool.eq_false_iff.mpr z
theorem x_readEarlier (gw : gW A h U) (hw : w < 11) {x y : Int} {a l : Nat} (hx : x = (a : Int)) (hy : y = (l : Int)) (hal : l = 0 ∨ (a < (U w).length ∧ l ≤ (U w).length)) (ha : a ≤ 64) (hl : l ≤ 64) {Q : Int → gaH → Prop} (k : Q (b2i (er (U w) a l a)) h) : w_X1_isReadEarlier (A w) x y h Q := by
  subst hx; subst hy
  exact ⟨a + 1, x_readEarlier_L gw hw hal ha hl k _ 0 (Nat.zero_le _) (by omega) rfl⟩
abbrev kdF (u : List Bool) (l : Nat) : Nat → Nat := fun i => b2n (!er u i l i)
theorem x_kinds_L (gw : gW A h U) (hw : w < 11) {l : Nat} {b : Bool} (hl : l ≤ (U w).length) {Q : Int → gaH → Prop} (k : Q (sm (kdF (U w) l) (begins (U w).length l b) : Int) h) : ∀ (n i c : Nat), i ≤ begins (U w).length l b → begins (U w).length l b - i < n → c = sm (kdF (U w) l) i → w_X1_kindsOf_L13 Q n (A w) (l : Int) (c : Int) (begins (U w).length l b : Int) (i : Int) h
  | 0, i, _, _, h1, _ => absurd h1 (Nat.not_lt_zero _)
  | n + 1, i, c, hi, h1, hc => by
    have l1 := gw.le hw
    have hb : begins (U w).length l b ≤ 65 := by unfold begins; split <;> omega
    unfold w_X1_kindsOf_L13
    refine ⟨gR_of (by omega) (by omega), gR_of (by omega) (by omega), ?_⟩
    by_cases q : begins (U w).length l b ≤ i
    · obtain rfl : i = begins (U w).length l b := by omega
      subst hc
      exact if_yes (by omega) k
    · have e := begins_le hl (show i < begins (U w).length l b by omega)
      have e1 : (i : Int) + 1 = ((i + 1 : Nat) : Int) := by omega
      refine if_no (by omega) (x_readEarlier (a := i) (l := l) gw hw rfl rfl e.2 (by omega) (by omega) ⟨b2i_R _, ?_⟩)
      cases z : er (U w) i l i
      · refine if_yes rfl ?_
        rw [e1, show (c : Int) + 1 = ((c + 1 : Nat) : Int) by omega]
        refine x_kinds_L gw hw hl k n (i + 1) (c + 1) (by omega) (by omega) ?_
        rw [hc]; exact (smb_yes (P := fun i => !er (U w) i l i) (by show (!er (U w) i l i) = true; rw [z]; rfl)).symm
      · refine if_no (by decide) ?_
        rw [e1]
        refine x_kinds_L gw hw hl k n (i + 1) c (by omega) (by omega) ?_
        rw [hc]; exact (smb_no (P := fun i => !er (U w) i l i) (by show (!er (U w) i l i) = false; rw [z]; rfl)).symm
theorem x_kindsOf (gw : gW A h U) (hw : w < 11) {x y : Int} {l : Nat} {b : Bool} (hx : x = (l : Int)) (hy : y = b2i b) (hl : l ≤ (U w).length) {Q : Int → gaH → Prop} (k : Q (sm (kdF (U w) l) (begins (U w).length l b) : Int) h) : w_X1_kindsOf (A w) x y h Q := by
  subst hx
  unfold w_X1_kindsOf
  exact s_beginnings (b := b) gw hw rfl hy hl ⟨begins (U w).length l b + 1, x_kinds_L gw hw hl k _ 0 0 (Nat.zero_le _) (by omega) rfl⟩
abbrev flF (u : List Bool) : Nat → Nat := fun p => b2n (mir u 0 p && mir u p (u.length - p))
theorem x_folds_L (gw : gW A h U) (hw : w < 11) {Q : Int → gaH → Prop} (k : Q (sm (flF (U w)) (U w).length : Int) h) : ∀ (n i c : Nat), i ≤ (U w).length → (U w).length - i < n → c = sm (flF (U w)) i → w_X1_foldsOf_L4 Q n (A w) (c : Int) (i : Int) h
  | 0, i, _, _, h1, _ => absurd h1 (Nat.not_lt_zero _)
  | n + 1, i, c, hi, h1, hc => by
    have l1 := gw.le hw
    unfold w_X1_foldsOf_L4
    refine gw.many hw ⟨gR_of (by omega) (by omega), gR_of (by omega) (by omega), ?_⟩
    have e1 : (i : Int) + 1 = ((i + 1 : Nat) : Int) := by omega
    by_cases q : (U w).length ≤ i
    · obtain rfl : i = (U w).length := by omega
      subst hc
      exact if_yes (by omega) k
    · have no : (mir (U w) 0 i && mir (U w) i ((U w).length - i)) = false → w_X1_foldsOf_L4 Q n (A w) (c : Int) ((i : Int) + 1) h := fun z => by
        rw [e1]
        refine x_folds_L gw hw k n (i + 1) c (by omega) (by omega) ?_
        rw [hc]; exact (smb_no (P := fun p => mir (U w) 0 p && mir (U w) p ((U w).length - p)) z).symm
      refine if_no (by omega) (x_isMir (a := 0) (l := i) gw hw rfl rfl (by omega) ⟨b2i_R _, ?_⟩)
      generalize hy : mir (U w) 0 i = y at no
      cases y
      · exact if_yes rfl (no rfl)
      · refine if_no (by decide) (gw.many hw (x_isMir (a := i) (l := (U w).length - i) gw hw rfl (by omega) (by omega) ⟨b2i_R _, ?_⟩))
        generalize hz : mir (U w) i ((U w).length - i) = z at no
        cases z
        · exact if_yes rfl (no rfl)
        · refine if_no (by decide) ?_
          rw [e1, show (c : Int) + 1 = ((c + 1 : Nat) : Int) by omega]
          refine x_folds_L gw hw k n (i + 1) (c + 1) (by omega) (by omega) ?_
          rw [hc]; exact (smb_yes (P := fun p => mir (U w) 0 p && mir (U w) p ((U w).length - p)) (by show (mir (U w) 0 i && mir (U w) i ((U w).length - i)) = true; rw [hy, hz]; rfl)).symm
theorem x_foldsOf (gw : gW A h U) (hw : w < 11) {Q : Int → gaH → Prop} (k : Q (sm (flF (U w)) (U w).length : Int) h) : w_X1_foldsOf (A w) h Q :=
  ⟨(U w).length + 1, x_folds_L gw hw k _ 0 0 (Nat.zero_le _) (by omega) rfl⟩
theorem x_least_L (gw : gW A h U) (hw : w < 11) {Q : Int → gaH → Prop} (k : Q (lst (U w) (U w).length : Int) h) : ∀ (n i : Nat), 1 ≤ i → i ≤ (U w).length → (U w).length - i < n → w_X1_leastOf_L4 Q n (A w) (lst (U w) i : Int) (i : Int) h
  | 0, i, _, _, h1 => absurd h1 (Nat.not_lt_zero _)
  | n + 1, i, h0, hi, h1 => by
    have l1 := gw.le hw
    have l2 := lst_lt (U w) i h0
    unfold w_X1_leastOf_L4
    refine gw.many hw ⟨gR_of (by omega) (by omega), gR_of (by omega) (by omega), ?_⟩
    have e1 : (i : Int) + 1 = ((i + 1 : Nat) : Int) := by omega
    by_cases q : (U w).length ≤ i
    · obtain rfl : i = (U w).length := by omega
      exact if_yes (by omega) k
    · refine if_no (by omega) (gw.many hw (x_ringOrder (a := i) (b := lst (U w) i) (l := (U w).length) gw hw rfl rfl rfl (by omega) (by omega) ⟨rO_R _ _ _ _ _, ?_⟩))
      have ih := x_least_L gw hw k n (i + 1) (by omega) (by omega) (by omega)
      rw [lst_step h0] at ih
      rw [e1]
      by_cases z : rO (U w) i (lst (U w) i) (U w).length 0 < 0
      · rw [if_pos z] at ih
        exact if_no (by omega) ih
      · rw [if_neg z] at ih
        exact if_yes (by omega) ih
theorem x_leastOf (gw : gW A h U) (hw : w < 11) {Q : Int → gaH → Prop} (k : Q (lst (U w) (U w).length : Int) h) : w_X1_leastOf (A w) h Q := by
  have l1 := gw.le hw
  by_cases q : (U w).length = 0
  · refine ⟨1, ?_⟩
    rw [q] at k
    unfold w_X1_leastOf_L4
    exact gw.many hw ⟨gR_of (by decide) (by decide), gR_of (by omega) (by omega), if_yes (by omega) k⟩
  · exact ⟨(U w).length + 1, x_least_L gw hw k _ 1 (Nat.le_refl _) (by omega) (by omega)⟩
abbrev mrF (u : List Bool) (a l : Nat) : Nat := b2n (decide (1 ≤ l ∧ a + l ≤ u.length) && (mir u a l && !er u a l a))
theorem mrF_0 {u : List Bool} {a l : Nat} (h : ¬ (1 ≤ l ∧ a + l ≤ u.length)) : mrF u a l = 0 := by
  show b2n (decide _ && _) = 0
  rw [decide_eq_false h]; rfl
theorem x_mirrors_L2 (gw : gW A h U) (hw : w < 11) {a : Nat} (ha : a < (U w).length) {Q : Int → gaH → Prop} {K : Nat → Int → Int → gaH → Prop} {B : Nat} (hB : B ≤ 100000) (k : K (A w) ((B + sm (mrF (U w) a) 66 : Nat) : Int) ((a : Int) + 1) h) : ∀ (n i c : Nat), 1 ≤ i → i ≤ (U w).length - a + 1 → (U w).length - a + 1 - i < n → c = B + sm (mrF (U w) a) i → w_X1_mirrorsOf_L14 Q K n (A w) (c : Int) (a : Int) (i : Int) h
  | 0, i, _, _, _, h1, _ => absurd h1 (Nat.not_lt_zero _)
  | n + 1, i, c, h0, hi, h1, hc => by
    have l1 := gw.le hw
    unfold w_X1_mirrorsOf_L14
    refine gw.many hw ⟨gR_of (by omega) (by omega), gR_of (by omega) (by omega), ?_⟩
    have e1 : (i : Int) + 1 = ((i + 1 : Nat) : Int) := by omega
    by_cases q : (U w).length - a < i
    · refine if_yes (by omega) ?_
      rw [sm_tail i 66 (by omega) (fun j hj => mrF_0 (by omega)), ← hc] at k
      exact k
    · have di : decide (1 ≤ i ∧ a + i ≤ (U w).length) = true := decide_eq_true (by omega)
      have no : (mir (U w) a i && !er (U w) a i a) = false → w_X1_mirrorsOf_L14 Q K n (A w) (c : Int) (a : Int) ((i : Int) + 1) h := fun z => by
        rw [e1]
        refine x_mirrors_L2 gw hw ha hB k n (i + 1) c (by omega) (by omega) (by omega) ?_
        show c = B + (sm (mrF (U w) a) i + b2n (decide (1 ≤ i ∧ a + i ≤ (U w).length) && (mir (U w) a i && !er (U w) a i a)))
        rw [z, di, hc]; rfl
      refine if_no (by omega) (x_isMir (a := a) (l := i) gw hw rfl rfl (by omega) ⟨b2i_R _, ?_⟩)
      generalize hy : mir (U w) a i = y at no
      cases y
      · exact if_yes rfl (no rfl)
      · refine if_no (by decide) (x_readEarlier (a := a) (l := i) gw hw rfl rfl (by omega) (by omega) (by omega) ⟨b2i_R _, ?_⟩)
        generalize hz : er (U w) a i a = z at no
        cases z
        · refine if_yes rfl ?_
          rw [e1, show (c : Int) + 1 = ((c + 1 : Nat) : Int) by omega]
          refine x_mirrors_L2 gw hw ha hB k n (i + 1) (c + 1) (by omega) (by omega) (by omega) ?_
          show c + 1 = B + (sm (mrF (U w) a) i + b2n (decide (1 ≤ i ∧ a + i ≤ (U w).length) && (mir (U w) a i && !er (U w) a i a)))
          rw [hy, hz, di, hc]; rfl
        · exact if_no (by decide) (no rfl)
theorem x_mirrors_L1 (gw : gW A h U) (hw : w < 11) {Q : Int → gaH → Prop} (k : Q (sm (fun a => sm (mrF (U w) a) 66) (U w).length : Int) h) : ∀ (n i c : Nat), i ≤ (U w).length → (U w).length - i < n → c = sm (fun a => sm (mrF (U w) a) 66) i → w_X1_mirrorsOf_L4 Q n (A w) (c : Int) (i : Int) h
  | 0, i, _, _, h1, _ => absurd h1 (Nat.not_lt_zero _)
  | n + 1, i, c, hi, h1, hc => by
    have l1 := gw.le hw
    have b1 := sm_le (f := fun a => sm (mrF (U w) a) 66) (b := 66) (fun a => by
      have := sm_le (f := mrF (U w) a) (b := 1) (fun l => b2n_le _) 66
      omega) i
    unfold w_X1_mirrorsOf_L4
    refine gw.many hw ⟨gR_of (by omega) (by omega), gR_of (by omega) (by omega), ?_⟩
    by_cases q : (U w).length ≤ i
    · obtain rfl : i = (U w).length := by omega
      subst hc
      exact if_yes (by omega) k
    · refine if_no (by omega) ⟨66, x_mirrors_L2 (a := i) (B := c) gw hw (by omega) (by omega) ?_ _ 1 c (Nat.le_refl _) (by omega) (by omega) ?_⟩
      · rw [show (i : Int) + 1 = ((i + 1 : Nat) : Int) by omega]
        refine x_mirrors_L1 gw hw k n (i + 1) _ (by omega) (by omega) ?_
        rw [hc]; rfl
      · show c = c + (0 + mrF (U w) i 0)
        rw [mrF_0 (by omega)]; rfl
theorem x_mirrorsOf (gw : gW A h U) (hw : w < 11) {Q : Int → gaH → Prop} (k : Q (sm (fun a => sm (mrF (U w) a) 66) (U w).length : Int) h) : w_X1_mirrorsOf (A w) h Q := by
  have l1 := gw.le hw
  exact ⟨66, x_mirrors_L1 gw hw k _ 0 0 (Nat.zero_le _) (by omega) rfl⟩
abbrev ovF (u : List Bool) (p a : Nat) : Nat := b2n (decide (1 ≤ p ∧ a + 2 * p < u.length) && ovl u a p)
theorem ovF_0 {u : List Bool} {p a : Nat} (h : ¬ (1 ≤ p ∧ a + 2 * p < u.length)) : ovF u p a = 0 := by
  show b2n (decide _ && _) = 0
  rw [decide_eq_false h]; rfl
theorem ovS_0 {u : List Bool} {p : Nat} (h : ¬ (1 ≤ p ∧ 2 * p < u.length)) (n : Nat) : sm (ovF u p) n = 0 := by
  rw [sm_congr (g := fun _ => 0) n (fun a _ => ovF_0 (by omega)), sm_nil]
theorem x_isOverlap_L (gw : gW A h U) (hw : w < 11) {a p : Nat} (hap : a + 2 * p < (U w).length) {Q : Int → gaH → Prop} (k : Q (b2i (ovl (U w) a p)) h) : ∀ (n i : Nat), i ≤ p + 1 → p + 1 - i < n → (∀ t, t < i → (U w).getD (a + t) false = (U w).getD (a + p + t) false) → w_X1_isOverlap_L2 Q n (A w) (a : Int) (p : Int) ((a + i : Nat) : Int) h
  | 0, i, _, h1, _ => absurd h1 (Nat.not_lt_zero _)
  | n + 1, i, hi, h1, inv => by
    have l1 := gw.le hw
    unfold w_X1_isOverlap_L2
    refine ⟨gR_of (by omega) (by omega), gR_of (by omega) (by omega), ?_⟩
    by_cases q : p < i
    · have e : ovl (U w) a p = true := decide_eq_true (fun t ht => inv t (by omega))
      rw [e] at k
      exact if_yes (by omega) k
    · refine if_no (by omega) ⟨gw.has hw, s_isUp gw hw rfl (by omega) ⟨gw.has hw, s_isUp (i := a + p + i) gw hw (by omega) (by omega) ⟨b2i_R _, b2i_R _, ?_⟩⟩⟩
      by_cases z : (U w).getD (a + i) false = (U w).getD (a + p + i) false
      · refine if_yes (congrArg b2i z) ?_
        rw [show ((a + i : Nat) : Int) + 1 = ((a + (i + 1) : Nat) : Int) by omega]
        refine x_isOverlap_L gw hw hap k n (i + 1) (by omega) (by omega) (fun t ht => ?_)
        by_cases y : t = i
        · rw [y]; exact z
        · exact inv t (by omega)
      · have e : ovl (U w) a p = false := decide_eq_false (fun y => z (y i (by omega)))
        rw [e] at k
        exact if_no (fun y => z ((b2i_eq _ _).mp y)) k
theorem x_overlaps_L2 (gw : gW A h U) (hw : w < 11) {p : Nat} {Q : Int → gaH → Prop} {K : Nat → Int → Int → gaH → Prop} {B : Nat} (hB : B ≤ 100000) (hp0 : 1 ≤ p) (hp : p ≤ 64) (k : K (A w) ((B + sm (ovF (U w) p) 66 : Nat) : Int) ((p : Int) + 1) h) : ∀ (n i c : Nat), i ≤ (U w).length → (U w).length - i < n → c = B + sm (ovF (U w) p) i → w_X1_overlapsOf_L14 Q K n (A w) (c : Int) (p : Int) (i : Int) h
  | 0, i, _, _, h1, _ => absurd h1 (Nat.not_lt_zero _)
  | n + 1, i, c, hi, h1, hc => by
    have l1 := gw.le hw
    unfold w_X1_overlapsOf_L14
    refine gw.many hw ⟨gR_of (by omega) (by omega), gR_of (by omega) (by omega), ?_⟩
    by_cases q : (U w).length ≤ i + 2 * p
    · refine if_yes (by omega) ?_
      rw [sm_tail i 66 (by omega) (fun j hj => ovF_0 (by omega)), ← hc] at k
      exact k
    · have e1 : (i : Int) + 1 = ((i + 1 : Nat) : Int) := by omega
      have di : decide (1 ≤ p ∧ i + 2 * p < (U w).length) = true := decide_eq_true (by omega)
      refine if_no (by omega) ⟨p + 2, x_isOverlap_L (a := i) (p := p) gw hw (by omega) ⟨b2i_R _, ?_⟩ _ 0 (Nat.zero_le _) (by omega) (fun t ht => absurd ht (Nat.not_lt_zero _))⟩
      cases z : ovl (U w) i p
      · refine if_yes rfl ?_
        rw [e1]
        refine x_overlaps_L2 gw hw hB hp0 hp k n (i + 1) c (by omega) (by omega) ?_
        show c = B + (sm (ovF (U w) p) i + b2n (decide (1 ≤ p ∧ i + 2 * p < (U w).length) && ovl (U w) i p))
        rw [z, di, hc]; rfl
      · refine if_no (by decide) ?_
        rw [e1, show (c : Int) + 1 = ((c + 1 : Nat) : Int) by omega]
        refine x_overlaps_L2 gw hw hB hp0 hp k n (i + 1) (c + 1) (by omega) (by omega) ?_
        show c + 1 = B + (sm (ovF (U w) p) i + b2n (decide (1 ≤ p ∧ i + 2 * p < (U w).length) && ovl (U w) i p))
        rw [z, di, hc]; rfl
theorem x_overlaps_L1 (gw : gW A h U) (hw : w < 11) {Q : Int → gaH → Prop} (k : Q (sm (fun p => sm (ovF (U w) p) 66) 66 : Int) h) : ∀ (n i c : Nat), 1 ≤ i → i ≤ 65 → 65 - i < n → c = sm (fun p => sm (ovF (U w) p) 66) i → w_X1_overlapsOf_L4 Q n (A w) (c : Int) (i : Int) h
  | 0, i, _, _, _, h1, _ => absurd h1 (Nat.not_lt_zero _)
  | n + 1, i, c, h0, hi, h1, hc => by
    have l1 := gw.le hw
    have b1 := sm_le (f := fun p => sm (ovF (U w) p) 66) (b := 66) (fun a => by
      have := sm_le (f := ovF (U w) a) (b := 1) (fun l => b2n_le _) 66
      omega) i
    unfold w_X1_overlapsOf_L4
    refine gw.many hw ⟨gR_of (by omega) (by omega), gR_of (by omega) (by omega), ?_⟩
    by_cases q : (U w).length ≤ i
    · refine if_yes (by omega) ?_
      rw [sm_tail i 66 (by omega) (fun j hj => ovS_0 (by omega) 66), ← hc] at k
      exact k
    · refine if_no (by omega) ⟨(U w).length + 1, x_overlaps_L2 (p := i) (B := c) gw hw (by omega) h0 (by omega) ?_ _ 0 c (Nat.zero_le _) (by omega) rfl⟩
      rw [show (i : Int) + 1 = ((i + 1 : Nat) : Int) by omega]
      refine x_overlaps_L1 gw hw k n (i + 1) _ (by omega) (by omega) (by omega) ?_
      rw [hc]; rfl
theorem x_overlapsOf (gw : gW A h U) (hw : w < 11) {Q : Int → gaH → Prop} (k : Q (sm (fun p => sm (ovF (U w) p) 66) 66 : Int) h) : w_X1_overlapsOf (A w) h Q :=
  ⟨66, x_overlaps_L1 gw hw k _ 1 0 (by decide) (by decide) (by decide) (by show 0 = 0 + sm (ovF (U w) 0) 66; rw [ovS_0 (by omega)])⟩
abbrev upF (u : List Bool) (l a : Nat) : Nat := sm (fun t => b2n (rg u (a + t))) l
theorem upF_le (u : List Bool) (l a : Nat) : upF u l a ≤ l := smb_le (fun t => rg u (a + t)) l
theorem x_upsInPart_L (gw : gW A h U) (hw : w < 11) {a l : Nat} (hal : l = 0 ∨ (a < (U w).length ∧ l ≤ (U w).length)) (ha : a ≤ 64) (hl : l ≤ 64) {Q : Int → gaH → Prop} (k : Q (upF (U w) l a : Int) h) : ∀ (n i c : Nat), i ≤ l → l - i < n → c = sm (fun t => b2n (rg (U w) (a + t))) i → w_X1_upsInPart_L5 Q n (A w) (a : Int) (l : Int) (c : Int) ((a : Int) + (i : Int)) h
  | 0, i, _, _, h1, _ => absurd h1 (Nat.not_lt_zero _)
  | n + 1, i, c, hi, h1, hc => by
    have l1 := gw.le hw
    unfold w_X1_upsInPart_L5
    refine ⟨gR_of (by omega) (by omega), gR_of (by omega) (by omega), ?_⟩
    by_cases q : l ≤ i
    · obtain rfl : i = l := by omega
      subst hc
      exact if_yes (by omega) k
    · have e1 : (a : Int) + (i : Int) + 1 = (a : Int) + ((i + 1 : Nat) : Int) := by omega
      refine if_no (by omega) (x_onRing (p := a + i) gw hw (by omega) (by omega) ⟨b2i_R _, ?_⟩)
      cases z : rg (U w) (a + i)
      · refine if_yes rfl ?_
        rw [e1]
        refine x_upsInPart_L gw hw hal ha hl k n (i + 1) c (by omega) (by omega) ?_
        rw [hc]; exact (smb_no (P := fun t => rg (U w) (a + t)) z).symm
      · refine if_no (by decide) ?_
        rw [e1, show (c : Int) + 1 = ((c + 1 : Nat) : Int) by omega]
        refine x_upsInPart_L gw hw hal ha hl k n (i + 1) (c + 1) (by omega) (by omega) ?_
        rw [hc]; exact (smb_yes (P := fun t => rg (U w) (a + t)) z).symm
theorem x_upsInPart (gw : gW A h U) (hw : w < 11) {x y : Int} {a l : Nat} (hx : x = (a : Int)) (hy : y = (l : Int)) (hal : l = 0 ∨ (a < (U w).length ∧ l ≤ (U w).length)) (ha : a ≤ 64) (hl : l ≤ 64) {Q : Int → gaH → Prop} (k : Q (upF (U w) l a : Int) h) : w_X1_upsInPart (A w) x y h Q := by
  subst hx; subst hy
  refine ⟨l + 1, ?_⟩
  have := x_upsInPart_L gw hw hal ha hl k (l + 1) 0 0 (Nat.zero_le _) (by omega) rfl
  rw [show (a : Int) + ((0 : Nat) : Int) = (a : Int) by omega] at this
  exact this
abbrev sprV (u : List Bool) (l n : Nat) : Int := (mxf (upF u l) n : Int) - (mnf (upF u l) l n : Int)
theorem x_spread_L (gw : gW A h U) (hw : w < 11) {l : Nat} {b : Bool} (hl : l ≤ (U w).length) {Q : Int → gaH → Prop} (k : Q (sprV (U w) l (begins (U w).length l b)) h) : ∀ (n i : Nat), i ≤ begins (U w).length l b → begins (U w).length l b - i < n → w_X1_spreadOf_L16 Q n (A w) (l : Int) (mxf (upF (U w) l) i : Int) (mnf (upF (U w) l) l i : Int) (begins (U w).length l b : Int) (i : Int) h
  | 0, i, _, h1 => absurd h1 (Nat.not_lt_zero _)
  | n + 1, i, hi, h1 => by
    have l1 := gw.le hw
    have hb : begins (U w).length l b ≤ 65 := by unfold begins; split <;> omega
    have b1 := mxf_le (upF_le (U w) l) i
    have b2 := mnf_le (f := upF (U w) l) (l := l) i
    have b3 := upF_le (U w) l i
    unfold w_X1_spreadOf_L16
    refine ⟨gR_of (by omega) (by omega), gR_of (by omega) (by omega), ?_⟩
    by_cases q : begins (U w).length l b ≤ i
    · obtain rfl : i = begins (U w).length l b := by omega
      exact if_yes (by omega) k
    · have e := begins_le hl (show i < begins (U w).length l b by omega)
      refine if_no (by omega) (x_upsInPart (a := i) (l := l) gw hw rfl rfl e.2 (by omega) (by omega) ⟨gR_of (by omega) (by omega), gR_of (by omega) (by omega), gR_of (by omega) (by omega), gR_of (by omega) (by omega), ?_⟩)
      rw [show (i : Int) + 1 = ((i + 1 : Nat) : Int) by omega, show max (mxf (upF (U w) l) i : Int) (upF (U w) l i : Int) = ((mxf (upF (U w) l) (i + 1) : Nat) : Int) from (by show _ = ((max (mxf (upF (U w) l) i) (upF (U w) l i) : Nat) : Int); omega), show min (mnf (upF (U w) l) l i : Int) (upF (U w) l i : Int) = ((mnf (upF (U w) l) l (i + 1) : Nat) : Int) from (by show _ = ((min (mnf (upF (U w) l) l i) (upF (U w) l i) : Nat) : Int); omega)]
      exact x_spread_L gw hw hl k n (i + 1) (by omega) (by omega)
theorem x_spreadOf (gw : gW A h U) (hw : w < 11) {x y : Int} {l : Nat} {b : Bool} (hx : x = (l : Int)) (hy : y = b2i b) (hl : l ≤ (U w).length) {Q : Int → gaH → Prop} (k : Q (sprV (U w) l (begins (U w).length l b)) h) : w_X1_spreadOf (A w) x y h Q := by
  subst hx
  have l1 := gw.le hw
  unfold w_X1_spreadOf
  exact s_beginnings (b := b) gw hw rfl hy hl ⟨begins (U w).length l b + 1, x_spread_L gw hw hl k _ 0 (Nat.zero_le _) (by omega)⟩
end PX
