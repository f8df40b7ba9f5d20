/-! What is asked of the reference: as far as it goes through. -/
section RW2
variable {B : Nat → Nat} {h h0 : gaH} {st : GSt} {no : Int} {a b o : Nat} {u v : List Bool} {w g : Nat} {x y z : Int} {Q : Int → gaH → Prop}
theorem r_areLike_L (r : mR h a u) (hl : u.length ≤ 64) {p q l : Nat} (hp : p ≤ 500) (hq : q ≤ 500) (hll : l ≤ 500) (h0 : l = 0 ∨ 0 < u.length) (k : ∀ b : Bool, Q (b2i b) h) : ∀ (n i : Nat), i ≤ l → l - i < n → w_X7_areLike_L3 Q n a (p : Int) (q : Int) (l : Int) (i : Int) h
  | 0, _, _, h9 => absurd h9 (Nat.not_lt_zero _)
  | n + 1, i, hi, h9 => by
    unfold w_X7_areLike_L3
    refine ⟨by omega, by omega, ?_⟩
    by_cases q1 : l ≤ i
    · exact if_yes (by omega) (k true)
    · have e1 : gRem ((p : Int) + (i : Int)) (u.length : Int) = (((p + i) % u.length : Nat) : Int) := by
        have := gRem_nat (a := p + i) (b := u.length) (by omega) (by omega)
        rw [← this]; congr 1
      have e2 : gRem ((q : Int) + (i : Int)) (u.length : Int) = (((q + i) % u.length : Nat) : Int) := by
        have := gRem_nat (a := q + i) (b := u.length) (by omega) (by omega)
        rw [← this]; congr 1
      refine if_no (by omega) (r.len ⟨by omega, by omega, ?_⟩)
      rw [e1]
      refine r.at rfl (Nat.mod_lt _ (by omega)) (by omega) (r.len ⟨by omega, by omega, ?_⟩)
      rw [e2]
      refine r.at rfl (Nat.mod_lt _ (by omega)) (by omega) ⟨b2i_R _, b2i_R _, ite_both (fun _ => ?_) (fun _ => k false)⟩
      rw [show (i : Int) + 1 = ((i + 1 : Nat) : Int) by omega]
      exact r_areLike_L r hl hp hq hll h0 k n (i + 1) (by omega) (by omega)
theorem r_areLike (r : mR h a u) (hl : u.length ≤ 64) {p q l : Nat} (hx : x = (p : Int)) (hy : y = (q : Int)) (hz : z = (l : Int)) (hp : p ≤ 500) (hq : q ≤ 500) (hll : l ≤ 500) (h0 : l = 0 ∨ 0 < u.length) (k : ∀ b : Bool, Q (b2i b) h) : w_X7_areLike a x y z h Q := by
  subst hx; subst hy; subst hz
  exact ⟨l + 1, r_areLike_L r hl hp hq hll h0 k _ 0 (Nat.zero_le _) (by omega)⟩
theorem r_isMir_L (r : mR h a u) (hl : u.length ≤ 64) {f t : Nat} (hf : f ≤ t) (ht : t ≤ u.length) (k : ∀ b : Bool, Q (b2i b) h) : ∀ (n i : Nat), i ≤ t - f → t - f - i < n → w_X7_isMirrored_L2 Q n a (f : Int) (t : Int) (i : Int) h
  | 0, _, _, h9 => absurd h9 (Nat.not_lt_zero _)
  | n + 1, i, hi, h9 => by
    unfold w_X7_isMirrored_L2
    refine ⟨by omega, by omega, ?_⟩
    by_cases q1 : t - f ≤ i
    · exact if_yes (by omega) (k true)
    · refine if_no (by omega) (r.at (i := f + i) (by omega) (by omega) (by omega) (r.at (i := t - 1 - i) (by omega) (by omega) (by omega) ⟨b2i_R _, b2i_R _, ite_both (fun _ => ?_) (fun _ => k false)⟩))
      rw [show (i : Int) + 1 = ((i + 1 : Nat) : Int) by omega]
      exact r_isMir_L r hl hf ht k n (i + 1) (by omega) (by omega)
theorem r_isMir (r : mR h a u) (hl : u.length ≤ 64) {f t : Nat} (hx : x = (f : Int)) (hy : y = (t : Int)) (hf : f ≤ t) (ht : t ≤ u.length) (k : ∀ b : Bool, Q (b2i b) h) : w_X7_isMirrored a x y h Q := by
  subst hx; subst hy
  exact ⟨t + 1, r_isMir_L r hl hf ht k _ 0 (Nat.zero_le _) (by omega)⟩
theorem bb {c : Bool} {F1 F0 : Prop} (k1 : F1) (k0 : F0) : gR (b2i c) ∧ (if b2i c = 0 then F0 else F1) := ⟨b2i_R _, ite_both (fun _ => k0) (fun _ => k1)⟩
theorem r_times_L23 {K4 : Nat → Int → Int → gaH → Prop} {K12 : Nat → Int → Int → Int → gaH → Prop} (r : mR h a u) (hl : u.length ≤ 64) {s p : Nat} (hp : 1 ≤ p ∧ p ≤ 64) (hs : s ≤ 64) (k : ∀ m : Nat, m ≤ 65 → K12 a (m : Int) (s : Int) ((p : Int) + 1) h) : ∀ (n c m : Nat), 1 ≤ c → c ≤ 64 → 65 - c < n → m ≤ 65 → s + c * p ≤ u.length → w_X7_timesOf_L23 Q K4 K12 n a (m : Int) (s : Int) (p : Int) (c : Int) h
  | 0, _, _, _, _, h9, _, _ => absurd h9 (Nat.not_lt_zero _)
  | n + 1, c, m, h1, h2, h9, hm, hc => by
    have em : ((c : Int) + 1) * (p : Int) = (((c + 1) * p : Nat) : Int) := by push_cast; rfl
    have em2 : (c : Int) * (p : Int) = ((c * p : Nat) : Int) := by push_cast; rfl
    have b1 : (c + 1) * p ≤ 65 * 64 := Nat.mul_le_mul (by omega) hp.2
    have b2 : c + 1 ≤ (c + 1) * p := Nat.le_mul_of_pos_right _ hp.1
    have j : w_X7_timesOf_J57 Q K4 K12 a (m : Int) (s : Int) (p : Int) (c : Int) h := by
      unfold w_X7_timesOf_J57
      refine ⟨by omega, by omega, ?_⟩
      rw [show max (m : Int) (c : Int) = ((max m c : Nat) : Int) by omega]
      exact k _ (by omega)
    unfold w_X7_timesOf_L23
    rw [em, em2]
    refine r.len ⟨by omega, by omega, ?_⟩
    by_cases q : u.length < s + (c + 1) * p
    · exact if_yes (by omega) j
    · refine if_no (by omega) (r_areLike r hl rfl (show (s : Int) + ((c * p : Nat) : Int) = ((s + c * p : Nat) : Int) by omega) rfl (by omega) (by omega) (by omega) (by omega) (fun t => bb ?_ j))
      rw [show (c : Int) + 1 = ((c + 1 : Nat) : Int) by omega]
      exact r_times_L23 r hl hp hs k n (c + 1) m (by omega) (by omega) (by omega) hm (by omega)
theorem r_times_L12 {K4 : Nat → Int → Int → gaH → Prop} (r : mR h a u) (hl : u.length ≤ 64) {s : Nat} (hs : s ≤ 64) (k : ∀ m : Nat, m ≤ 65 → K4 a (m : Int) ((s : Int) + 1) h) : ∀ (n p m : Nat), 1 ≤ p → p ≤ 65 → 66 - p < n → m ≤ 65 → w_X7_timesOf_L12 Q K4 n a (m : Int) (s : Int) (p : Int) h
  | 0, _, _, _, _, h9, _ => absurd h9 (Nat.not_lt_zero _)
  | n + 1, p, m, h1, h2, h9, hm => by
    unfold w_X7_timesOf_L12
    refine r.len ⟨by omega, by omega, ?_⟩
    by_cases q : u.length < s + p
    · exact if_yes (by omega) (k m hm)
    · refine if_no (by omega) ⟨66, r_times_L23 (p := p) r hl ⟨h1, by omega⟩ hs (fun m' hm' => ?_) 66 1 m (by decide) (by decide) (by decide) hm (by omega)⟩
      rw [show (p : Int) + 1 = ((p + 1 : Nat) : Int) by omega]
      exact r_times_L12 r hl hs k n (p + 1) m' (by omega) (by omega) (by omega) hm'
theorem r_times_L4 (r : mR h a u) (hl : u.length ≤ 64) (k : ∀ r : Int, Q r h) : ∀ (n s m : Nat), s ≤ u.length → u.length - s < n → m ≤ 65 → w_X7_timesOf_L4 Q n a (m : Int) (s : Int) h
  | 0, _, _, _, h9, _ => absurd h9 (Nat.not_lt_zero _)
  | n + 1, s, m, h1, h9, hm => by
    unfold w_X7_timesOf_L4
    refine r.len ⟨by omega, by omega, ?_⟩
    by_cases q : u.length ≤ s
    · exact if_yes (by omega) (k _)
    · refine if_no (by omega) ⟨67, r_times_L12 r hl (by omega) (fun m' hm' => ?_) 67 1 m (by decide) (by decide) (by decide) hm⟩
      rw [show (s : Int) + 1 = ((s + 1 : Nat) : Int) by omega]
      exact r_times_L4 r hl k n (s + 1) m' (by omega) (by omega) hm'
theorem r_timesOf (r : mR h a u) (hl : u.length ≤ 64) (k : ∀ r : Int, Q r h) : w_X7_timesOf a h Q :=
  ⟨65, r_times_L4 r hl k 65 0 0 (Nat.zero_le _) (by omega) (Nat.zero_le _)⟩
theorem r_over_L12 {K4 : Nat → Int → Int → gaH → Prop} (r : mR h a u) (hl : u.length ≤ 64) {s : Nat} (hs : s ≤ 64) (k : ∀ m : Int, K4 a m ((s : Int) + 1) h) : ∀ (n p : Nat) (m : Int), p ≤ 65 → 66 - p < n → w_X7_overlapsOf_L12 Q K4 n a m (s : Int) (p : Int) h
  | 0, _, _, _, h9 => absurd h9 (Nat.not_lt_zero _)
  | n + 1, p, m, h2, h9 => by
    unfold w_X7_overlapsOf_L12
    refine r.len ⟨by omega, by omega, ?_⟩
    by_cases q : u.length ≤ s + 2 * p
    · exact if_yes (by omega) (k m)
    · refine if_no (by omega) (r_areLike r hl rfl (show (s : Int) + (p : Int) = ((s + p : Nat) : Int) by omega) (show (p : Int) + 1 = ((p + 1 : Nat) : Int) by omega) (by omega) (by omega) (by omega) (by omega) (fun t => r_one rfl ?_))
      rw [show (p : Int) + 1 = ((p + 1 : Nat) : Int) by omega]
      exact r_over_L12 r hl hs k n (p + 1) _ (by omega) (by omega)
theorem r_over_L4 (r : mR h a u) (hl : u.length ≤ 64) (k : ∀ r : Int, Q r h) : ∀ (n s : Nat) (m : Int), s ≤ u.length → u.length - s < n → w_X7_overlapsOf_L4 Q n a m (s : Int) h
  | 0, _, _, _, h9 => absurd h9 (Nat.not_lt_zero _)
  | n + 1, s, m, h1, h9 => by
    unfold w_X7_overlapsOf_L4
    refine r.len ⟨by omega, by omega, ?_⟩
    by_cases q : u.length ≤ s
    · exact if_yes (by omega) (k _)
    · refine if_no (by omega) ⟨67, r_over_L12 r hl (by omega) (fun m' => ?_) 67 1 m (by decide) (by decide)⟩
      rw [show (s : Int) + 1 = ((s + 1 : Nat) : Int) by omega]
      exact r_over_L4 r hl k n (s + 1) m' (by omega) (by omega)
theorem r_overlapsOf (r : mR h a u) (hl : u.length ≤ 64) (k : ∀ r : Int, Q r h) : w_X7_overlapsOf a h Q :=
  ⟨65, r_over_L4 r hl k 65 0 0 (Nat.zero_le _) (by omega)⟩
theorem r_folds_L4 (r : mR h a u) (hl : u.length ≤ 64) (k : ∀ r : Int, Q r h) : ∀ (n s : Nat) (m : Int), s ≤ u.length → u.length - s < n → w_X7_foldsOf_L4 Q n a m (s : Int) h
  | 0, _, _, _, h9 => absurd h9 (Nat.not_lt_zero _)
  | n + 1, s, m, h1, h9 => by
    unfold w_X7_foldsOf_L4
    refine r.len ⟨by omega, by omega, ?_⟩
    by_cases q : u.length ≤ s
    · exact if_yes (by omega) (k _)
    · have go : ∀ c : Bool, w_X7_foldsOf_J35 Q (w_X7_foldsOf_L4 Q n) a (s : Int) m (b2i c) h := fun c => by
        unfold w_X7_foldsOf_J35
        refine r_one rfl ?_
        rw [show (s : Int) + 1 = ((s + 1 : Nat) : Int) by omega]
        exact r_folds_L4 r hl k n (s + 1) _ (by omega) (by omega)
      have g0 : w_X7_foldsOf_J34 Q (w_X7_foldsOf_L4 Q n) a (s : Int) m h := go false
      refine if_no (by omega) (r_isMir (f := 0) (t := s) r hl rfl rfl (Nat.zero_le _) (by omega) (fun t => bb (r.len (r_isMir (f := s) (t := u.length) r hl rfl rfl (by omega) (Nat.le_refl _) (fun t2 => bb (go true) g0))) g0))
theorem r_foldsOf (r : mR h a u) (hl : u.length ≤ 64) (k : ∀ r : Int, Q r h) : w_X7_foldsOf a h Q :=
  ⟨65, r_folds_L4 r hl k 65 0 0 (Nat.zero_le _) (by omega)⟩
theorem r_least_L12 {K4 : Nat → Int → Int → gaH → Prop} (r : mR h a u) (hl : u.length ≤ 64) {m s : Nat} (hm : m ≤ 64) (hs : s ≤ 64) (k : ∀ m' : Nat, m' ≤ 64 → K4 a (m' : Int) ((s : Int) + 1) h) : ∀ (n i : Nat), i ≤ u.length → u.length - i < n → w_X7_leastOf_L12 Q K4 n a (m : Int) (s : Int) (i : Int) h
  | 0, _, _, h9 => absurd h9 (Nat.not_lt_zero _)
  | n + 1, i, h1, h9 => by
    have e2 : 0 < u.length → gRem ((s : Int) + (i : Int)) (u.length : Int) = (((s + i) % u.length : Nat) : Int) := fun hp => by
      have := gRem_nat (a := s + i) (b := u.length) (by omega) (by omega)
      rw [← this]; congr 1
    have e1 : 0 < u.length → gRem ((m : Int) + (i : Int)) (u.length : Int) = (((m + i) % u.length : Nat) : Int) := fun hp => by
      have := gRem_nat (a := m + i) (b := u.length) (by omega) (by omega)
      rw [← this]; congr 1
    have j : w_X7_leastOf_J43 Q K4 a (m : Int) (s : Int) (i : Int) h := by
      unfold w_X7_leastOf_J43
      refine r.len ⟨by omega, by omega, ?_⟩
      by_cases q : u.length ≤ i
      · exact if_yes (by omega) (k m hm)
      · refine if_no (by omega) (r.len ⟨by omega, by omega, ?_⟩)
        rw [e2 (by omega)]
        exact r.at rfl (Nat.mod_lt _ (by omega)) (by omega) ⟨b2i_R _, ite_both (fun _ => k s hs) (fun _ => k m hm)⟩
    unfold w_X7_leastOf_L12
    refine r.len ⟨by omega, by omega, ?_⟩
    by_cases q : u.length ≤ i
    · exact if_yes (by omega) j
    · refine if_no (by omega) (r.len ⟨by omega, by omega, ?_⟩)
      rw [e1 (by omega)]
      refine r.at rfl (Nat.mod_lt _ (by omega)) (by omega) (r.len ⟨by omega, by omega, ?_⟩)
      rw [e2 (by omega)]
      refine r.at rfl (Nat.mod_lt _ (by omega)) (by omega) ⟨b2i_R _, b2i_R _, ite_both (fun _ => ?_) (fun _ => j)⟩
      rw [show (i : Int) + 1 = ((i + 1 : Nat) : Int) by omega]
      exact r_least_L12 r hl hm hs k n (i + 1) (by omega) (by omega)
theorem r_least_L4 (r : mR h a u) (hl : u.length ≤ 64) (k : ∀ r : Int, Q r h) : ∀ (n s m : Nat), s ≤ 65 → 66 - s < n → m ≤ 64 → w_X7_leastOf_L4 Q n a (m : Int) (s : Int) h
  | 0, _, _, _, h9, _ => absurd h9 (Nat.not_lt_zero _)
  | n + 1, s, m, h1, h9, hm => by
    unfold w_X7_leastOf_L4
    refine r.len ⟨by omega, by omega, ?_⟩
    by_cases q : u.length ≤ s
    · exact if_yes (by omega) (k _)
    · refine if_no (by omega) ⟨66, r_least_L12 r hl hm (by omega) (fun m' hm' => ?_) 66 0 (Nat.zero_le _) (by omega)⟩
      rw [show (s : Int) + 1 = ((s + 1 : Nat) : Int) by omega]
      exact r_least_L4 r hl k n (s + 1) m' (by omega) (by omega) hm'
theorem r_leastOf (r : mR h a u) (hl : u.length ≤ 64) (k : ∀ r : Int, Q r h) : w_X7_leastOf a h Q :=
  ⟨67, r_least_L4 r hl k 67 1 0 (by decide) (by decide) (Nat.zero_le _)⟩
end RW2
