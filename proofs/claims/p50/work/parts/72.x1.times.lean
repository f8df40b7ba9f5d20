/-! How often a word stands behind itself: both ways of counting. -/
def rpt (u : List Bool) (k p c : Nat) : Prop := 1 ≤ p ∧ 1 ≤ c ∧ k + c * p ≤ u.length ∧ ∀ j, k ≤ j → j + p < k + c * p → u.getD j false = u.getD (j + p) false
def isT (u : List Bool) (r : Int) : Prop := (∀ k p c : Nat, rpt u k p c → (c : Int) ≤ r) ∧ (r = 0 ∧ u.length = 0 ∨ ∃ k p c : Nat, r = (c : Int) ∧ rpt u k p c)
theorem rpt_len {u : List Bool} {k p c : Nat} (h : rpt u k p c) : k < u.length ∧ p ≤ u.length ∧ c ≤ u.length := by
  obtain ⟨h1, h2, h3, -⟩ := h
  have a1 := Nat.le_mul_of_pos_left p h2
  have a2 := Nat.le_mul_of_pos_right c h1
  omega
theorem isT_u {u : List Bool} : ∀ a b : Int, isT u a → isT u b → a = b := by
  intro a b ha hb
  rcases ha.2 with ⟨x, y⟩ | ⟨k, p, c, x, y⟩
  · rcases hb.2 with ⟨z, _⟩ | ⟨k', p', c', _, y'⟩
    · rw [x, z]
    · have := (rpt_len y').1; omega
  · rcases hb.2 with ⟨_, z⟩ | ⟨k', p', c', x', y'⟩
    · have := (rpt_len y).1; omega
    · have h1 := hb.1 k p c y
      have h2 := ha.1 k' p' c' y'
      omega
theorem rpt_per {u : List Bool} {k p c : Nat} (h : rpt u k p c) {t : Nat} (ht : t < p) : ∀ b, b < c → u.getD (k + t + b * p) false = u.getD (k + t) false
  | 0, _ => by rw [Nat.zero_mul]; rfl
  | b + 1, hb => by
    have ih := rpt_per h ht b (by omega)
    have e : (b + 1) * p = b * p + p := Nat.succ_mul b p
    have m : (b + 2) * p ≤ c * p := Nat.mul_le_mul_right p hb
    have e2 : (b + 2) * p = b * p + p + p := by rw [Nat.succ_mul (b + 1) p, e]
    have := h.2.2.2 (k + t + b * p) (by omega) (by omega)
    rw [e, ← Nat.add_assoc, ← this, ih]
section PT2
variable {A : Nat → Nat} {h : gaH} {U : Nat → List Bool} {w v g : Nat}
theorem x_timesWith_L (gw : gW A h U) (hw : w < 11) {p : Nat} (hp : 1 ≤ p ∧ p ≤ 64) {Q : Int → gaH → Prop} (k : ∀ r : Nat, r ≤ 65 → (∃ s, rpt (U w) s p r) → (∀ s c, rpt (U w) s p c → c ≤ r) → Q (r : Int) h) : ∀ (n i c m : Nat), i + p ≤ (U w).length → (U w).length - i < n → c ≤ i → m ≤ i → (∀ j, i - c ≤ j → j < i → (U w).getD j false = (U w).getD (j + p) false) → (∀ s, s ≤ i → (∀ j, s ≤ j → j < i → (U w).getD j false = (U w).getD (j + p) false) → i - s ≤ c) → (∃ s, s + m ≤ i ∧ ∀ j, s ≤ j → j < s + m → (U w).getD j false = (U w).getD (j + p) false) → (∀ s e, s + e ≤ i → (∀ j, s ≤ j → j < s + e → (U w).getD j false = (U w).getD (j + p) false) → e ≤ m) → w_X1_timesWith_L7 Q n (A w) (p : Int) (c : Int) (m : Int) (i : Int) h
  | 0, i, _, _, _, h1, _, _, _, _, _, _ => absurd h1 (Nat.not_lt_zero _)
  | n + 1, i, c, m, hi, h1, hc, hm, run, mx, att, up => by
    have l1 := gw.le hw
    unfold w_X1_timesWith_L7
    refine gw.many hw ⟨gR_of (by omega) (by omega), gR_of (by omega) (by omega), ?_⟩
    by_cases q : (U w).length ≤ i + p
    · refine if_yes (by omega) ⟨gR_of (by omega) (by omega), if_no (by omega) ⟨gR_of (by omega) (by omega), by omega, ?_⟩⟩
      rw [gDiv_nat (a := m) (b := p) (by omega) (by omega)]
      have d1 := Nat.div_le_self m p
      have d2 := Nat.div_mul_le_self m p
      have e1 : (m / p + 1) * p = m / p * p + p := Nat.succ_mul _ _
      have hle : ∀ x, x * p ≤ m → x ≤ m / p := fun x hx => (Nat.le_div_iff_mul_le (show 0 < p by omega)).mpr hx
      generalize m / p = d at d1 d2 e1 hle ⊢
      refine k (d + 1) (by omega) ?_ (fun s c' hr => ?_)
      · obtain ⟨s, s1, s2⟩ := att
        exact ⟨s, hp.1, by omega, by omega, fun j j1 j2 => s2 j j1 (by omega)⟩
      · obtain ⟨r1, r2, r3, r4⟩ := hr
        have e2 : c' * p = (c' - 1) * p + p := by
          rw [← Nat.succ_mul]
          congr 1
          omega
        have := up s ((c' - 1) * p) (by omega) (fun j j1 j2 => r4 j j1 (by omega))
        have := hle _ this
        omega
    · refine if_no (by omega) ⟨gw.has hw, s_isUp gw hw rfl (by omega) ⟨gw.has hw, s_isUp (i := i + p) gw hw (by omega) (by omega) ⟨b2i_R _, b2i_R _, ?_⟩⟩⟩
      by_cases z : (U w).getD i false = (U w).getD (i + p) false
      · refine if_yes (congrArg b2i z) ?_
        unfold w_X1_timesWith_J42
        refine ⟨gR_of (by omega) (by omega), gR_of (by omega) (by omega), ?_⟩
        rw [show (i : Int) + 1 = ((i + 1 : Nat) : Int) by omega, show max (m : Int) ((c : Int) + 1) = ((max m (c + 1) : Nat) : Int) by omega, show (c : Int) + 1 = ((c + 1 : Nat) : Int) by omega]
        refine x_timesWith_L gw hw hp k n (i + 1) (c + 1) (max m (c + 1)) (by omega) (by omega) (by omega) (by omega) (fun j j1 j2 => ?_) (fun s s1 s2 => ?_) ?_ (fun s e s1 s2 => ?_)
        · by_cases y : j = i
          · rw [y]; exact z
          · exact run j (by omega) (by omega)
        · by_cases y : s = i + 1
          · omega
          · have := mx s (by omega) (fun j j1 j2 => s2 j j1 (by omega))
            omega
        · by_cases y : c + 1 ≤ m
          · obtain ⟨s, s1, s2⟩ := att
            rw [Nat.max_eq_left y]
            exact ⟨s, by omega, s2⟩
          · rw [Nat.max_eq_right (by omega)]
            refine ⟨i - c, by omega, fun j j1 j2 => ?_⟩
            by_cases y2 : j = i
            · rw [y2]; exact z
            · exact run j j1 (by omega)
        · by_cases y : s + e ≤ i
          · have := up s e y s2
            omega
          · by_cases y2 : e = 0
            · omega
            · have := mx s (by omega) (fun j j1 j2 => s2 j j1 (by omega))
              omega
      · refine if_no (fun y => z ((b2i_eq _ _).mp y)) ?_
        unfold w_X1_timesWith_J42
        refine ⟨gR_of (by omega) (by omega), gR_of (by omega) (by omega), ?_⟩
        rw [show (i : Int) + 1 = ((i + 1 : Nat) : Int) by omega, show max (m : Int) 0 = (m : Int) by omega]
        refine x_timesWith_L gw hw hp k n (i + 1) 0 m (by omega) (by omega) (by omega) (by omega) (fun j j1 j2 => by omega) (fun s s1 s2 => ?_) ?_ (fun s e s1 s2 => ?_)
        · by_cases y : s = i + 1
          · omega
          · exact absurd (s2 i (by omega) (by omega)) z
        · obtain ⟨s, s1, s2⟩ := att
          exact ⟨s, by omega, s2⟩
        · by_cases y : s + e ≤ i
          · exact up s e y s2
          · by_cases y2 : e = 0
            · omega
            · exact absurd (s2 i (by omega) (by omega)) z
theorem x_timesOf_L (gw : gW A h U) (hw : w < 11) {Q : Int → gaH → Prop} (k : ∀ r : Int, isT (U w) r → Q r h) : ∀ (n i m : Nat), 1 ≤ i → i ≤ (U w).length + 1 → (U w).length + 1 - i < n → m ≤ 65 → (m = 0 ∧ i = 1 ∨ ∃ s p, rpt (U w) s p m) → (∀ p, p < i → ∀ s c, rpt (U w) s p c → c ≤ m) → w_X1_timesOf_L4 Q n (A w) (m : Int) (i : Int) h
  | 0, i, _, _, _, h1, _, _, _ => absurd h1 (Nat.not_lt_zero _)
  | n + 1, i, m, h0, hi, h1, hm, att, up => by
    have l1 := gw.le hw
    unfold w_X1_timesOf_L4
    refine gw.many hw ⟨gR_of (by omega) (by omega), gR_of (by omega) (by omega), ?_⟩
    by_cases q : (U w).length < i
    · refine if_yes (by omega) (k m ⟨fun s p c hr => ?_, ?_⟩)
      · have := (rpt_len hr).2.1
        have := up p (by omega) s c hr
        omega
      · rcases att with ⟨a1, a2⟩ | ⟨s, p, a1⟩
        · exact Or.inl ⟨by omega, by omega⟩
        · exact Or.inr ⟨s, p, m, rfl, a1⟩
    · refine if_no (by omega) ⟨(U w).length + 1, x_timesWith_L (p := i) gw hw (by omega) (fun r hr ra ru => ⟨gR_of (by omega) (by omega), gR_of (by omega) (by omega), ?_⟩) _ 0 0 0 (by omega) (by omega) (Nat.le_refl _) (Nat.le_refl _) (fun j j1 j2 => by omega) (fun s s1 _ => by omega) ⟨0, by omega, fun j j1 j2 => by omega⟩ (fun s e s1 _ => by omega)⟩
      rw [show (i : Int) + 1 = ((i + 1 : Nat) : Int) by omega, show max (m : Int) (r : Int) = ((max m r : Nat) : Int) by omega]
      refine x_timesOf_L gw hw k n (i + 1) (max m r) (by omega) (by omega) (by omega) (by omega) (Or.inr ?_) (fun p hp s c hrep => ?_)
      · by_cases y : r ≤ m
        · rw [Nat.max_eq_left y]
          rcases att with ⟨a1, a2⟩ | a1
          · obtain ⟨s, sr⟩ := ra
            have := sr.2.1
            omega
          · exact a1
        · rw [Nat.max_eq_right (by omega)]
          obtain ⟨s, sr⟩ := ra
          exact ⟨s, i, sr⟩
      · by_cases y : p = i
        · subst y
          have := ru s c hrep
          omega
        · have := up p (by omega) s c hrep
          omega
theorem x_timesOf (gw : gW A h U) (hw : w < 11) {Q : Int → gaH → Prop} (k : ∀ r : Int, isT (U w) r → Q r h) : w_X1_timesOf (A w) h Q :=
  ⟨(U w).length + 1, x_timesOf_L gw hw k _ 1 0 (Nat.le_refl _) (by omega) (by omega) (by decide) (Or.inl ⟨rfl, rfl⟩) (fun p hp s c hr => by
    have := hr.1
    omega)⟩
end PT2
