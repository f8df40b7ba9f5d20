/-! The reference: codes, images, growths by copies. -/
section RC
variable {h h0 : gaH} {a b o : Nat} {u v w : List Bool}
theorem code_div : ∀ (m c : Nat), c ≤ m → 1 ≤ c → c < 65536 → c / 2 ^ (codeW c).length = 1
  | 0, c, h1, h2, _ => by omega
  | m + 1, c, h1, h2, h3 => by
    rw [codeW_step h3]
    by_cases q : c ≤ 1
    · rw [if_pos q]; simp; omega
    · rw [if_neg q, List.length_append, List.length_singleton, Nat.pow_succ, Nat.mul_comm, ← Nat.div_div_eq_div_mul]
      exact code_div m (c / 2) (by omega) (by omega) (by omega)
theorem code_at : ∀ (m c i : Nat), c ≤ m → 1 ≤ c → c < 65536 → i < (codeW c).length → (codeW c).getD i false = decide (c / 2 ^ ((codeW c).length - 1 - i) % 2 = 1)
  | 0, c, _, h1, h2, _, _ => by omega
  | m + 1, c, i, h1, h2, h3, hi => by
    rw [codeW_step h3] at hi ⊢
    by_cases q : c ≤ 1
    · rw [if_pos q] at hi; exact absurd hi (Nat.not_lt_zero _)
    · rw [if_neg q] at hi ⊢
      have ih := code_at m (c / 2)
      generalize codeW (c / 2) = t at ih hi ⊢
      rw [List.length_append, List.length_singleton] at hi ⊢
      by_cases z : i < t.length
      · rw [List.getD_eq_getElem?_getD, List.getElem?_append_left z, ← List.getD_eq_getElem?_getD, ih i (by omega) (by omega) (by omega) z, show t.length + 1 - 1 - i = (t.length - 1 - i) + 1 by omega, Nat.pow_succ, Nat.mul_comm (2 ^ _), ← Nat.div_div_eq_div_mul]
      · obtain rfl : i = t.length := by omega
        rw [List.getD_eq_getElem?_getD, List.getElem?_append_right (Nat.le_refl _)]
        simp
theorem r_ofCode_L21 {Q : Nat → gaH → Prop} {c : Nat} (h2 : 1 ≤ c) (h3 : c < 65536) (k : ∀ h', fil h0 h' o (codeW c) → Q o h') {kc ks : Nat} : ∀ (z i : Nat) (h : gaH), fil h0 h o (pf (codeW c) i) → i ≤ (codeW c).length → (codeW c).length - i < z → w_X7_ofCode_L21 Q z (c : Int) ((codeW c).length : Int) o (i : Int) h kc ks
  | 0, _, _, _, _, h9 => absurd h9 (Nat.not_lt_zero _)
  | z + 1, i, h, fl, hi, h9 => by
    have hl : (codeW c).length ≤ 16 := codeL_len 16 c
    unfold w_X7_ofCode_L21
    (first | refine And.intro (show gR _ from by first | assumption | omega | decide | exact b2i_R _ | exact gR_of (by omega) (by omega)) ?_ | refine And.intro (show gHas _ _ _ from by first | exact gW.has (gD.w (by assumption)) (by omega) | exact gD.has (by assumption) | exact gRu.has (gD.ru (by assumption)) | exact gGr.has (gD.gr (by assumption) _ (by omega))) ?_ | refine gCall_mk (by decide) (by decide) ?_ | refine if_yes (by first | assumption | omega | decide | exact b2i_R _ | exact gR_of (by omega) (by omega)) ?_ | refine if_no (by first | assumption | omega | decide | exact b2i_R _ | exact gR_of (by omega) (by omega)) ?_); (first | refine And.intro (show gR _ from by first | assumption | omega | decide | exact b2i_R _ | exact gR_of (by omega) (by omega)) ?_ | refine And.intro (show gHas _ _ _ from by first | exact gW.has (gD.w (by assumption)) (by omega) | exact gD.has (by assumption) | exact gRu.has (gD.ru (by assumption)) | exact gGr.has (gD.gr (by assumption) _ (by omega))) ?_ | refine gCall_mk (by decide) (by decide) ?_ | refine if_yes (by first | assumption | omega | decide | exact b2i_R _ | exact gR_of (by omega) (by omega)) ?_ | refine if_no (by first | assumption | omega | decide | exact b2i_R _ | exact gR_of (by omega) (by omega)) ?_)
    by_cases q : (codeW c).length ≤ i
    · refine if_yes (by omega) (k h ?_)
      obtain rfl : i = (codeW c).length := by omega
      rw [pf_end] at fl; exact fl
    · refine if_no (by omega) (fl.set rfl (by rw [pf_len hi]; omega) (by rw [pf_len hi]; omega) (b := (codeW c).getD i false) ?_ (fun h3 f3 => ?_))
      · rw [show ((codeW c).length : Int) - 1 - (i : Int) = (((codeW c).length - 1 - i : Nat) : Int) by omega, gShr_nat (by omega) (by omega), gAnd1_nat (Nat.lt_of_le_of_lt (Nat.div_le_self _ _) (by omega)), code_at c c i (Nat.le_refl _) h2 (by omega) (by omega)]
        rcases Nat.mod_two_eq_zero_or_one (c / 2 ^ ((codeW c).length - 1 - i)) with e | e <;> rw [e] <;> rfl
      · rw [pf_set (by omega)] at f3
        rw [show (i : Int) + 1 = ((i + 1 : Nat) : Int) by omega]
        exact r_ofCode_L21 h2 (by omega) k z (i + 1) h3 f3 (by omega) (by omega)
theorem r_ofCode_L2 {Q : Nat → gaH → Prop} {c : Nat} (h2 : 1 ≤ c) (h3 : c < 65536) (k : ∀ o h', fil h h' o (codeW c) → Q o h') : ∀ (z i : Nat), i ≤ (codeW c).length → (codeW c).length - i < z → w_X7_ofCode_L2 Q z (c : Int) (i : Int) h 1 16
  | 0, _, _, h9 => absurd h9 (Nat.not_lt_zero _)
  | z + 1, i, hi, h9 => by
    have hl : (codeW c).length ≤ 16 := codeL_len 16 c
    have hd := code_div c c (Nat.le_refl _) h2 h3
    have hc : ((c / 2 ^ i : Nat) : Int) < 65536 := by have := Nat.lt_of_le_of_lt (Nat.div_le_self c (2 ^ i)) h3; exact Int.ofNat_lt.mpr this
    have hc0 : 0 ≤ ((c / 2 ^ i : Nat) : Int) := Int.natCast_nonneg _
    unfold w_X7_ofCode_L2
    rw [gShr_nat (by omega) (by omega)]
    refine ⟨⟨Int.le_trans (by decide) hc0, Int.le_trans (Int.le_of_lt hc) (by decide)⟩, ?_⟩
    by_cases q : (codeW c).length ≤ i
    · obtain rfl : i = (codeW c).length := by omega
      refine if_yes (by rw [hd]; decide) (fil.new (n := (codeW c).length) rfl (by omega) (by decide) hl (fun o h' f => ⟨18, ?_⟩))
      exact r_ofCode_L21 h2 h3 (fun h'' f'' => k o h'' f'') 18 0 h' (by rw [pf_0]; exact f) (Nat.zero_le _) (by omega)
    · have h5 : 2 ^ (codeW c).length ≤ c := by
        have := Nat.div_mul_le_self c (2 ^ (codeW c).length)
        rw [hd] at this; omega
      have h6 : 2 ^ (i + 1) ≤ 2 ^ (codeW c).length := Nat.pow_le_pow_right (by decide) (by omega)
      have h7 : 2 ≤ c / 2 ^ i := by
        rw [Nat.le_div_iff_mul_le (Nat.pow_pos (by decide))]
        rw [Nat.pow_succ] at h6; omega
      refine if_no (fun q => absurd (Int.ofNat_le.mp q) (by omega)) ?_
      rw [show (i : Int) + 1 = ((i + 1 : Nat) : Int) by omega]
      exact r_ofCode_L2 h2 h3 k z (i + 1) (by omega) (by omega)
theorem r_ofCode {Q : Nat → gaH → Prop} {x : Int} {c : Nat} (hx : x = (c : Int)) (h2 : 1 ≤ c) (h3 : c < 65536) (k : ∀ o h', fil h h' o (codeW c) → Q o h') : w_X7_ofCode x h Q := by
  subst hx
  have hl : (codeW c).length ≤ 16 := codeL_len 16 c
  exact ⟨18, r_ofCode_L2 h2 h3 k 18 0 (Nat.zero_le _) (by omega)⟩
theorem r_image_L72 {Q : Nat → gaH → Prop} {p q : Nat} {t : List Bool} {s : Nat} {x : List Bool} (rx : mR h0 a x) (hx : x.length ≤ 1000) (ht : t.length ≤ 1000) (hst : s + x.length ≤ t.length) (hat : ∀ j, j < x.length → t.getD (s + j) false = x.getD j false) {v6 : Nat} {v7 v8 : Int} {kc ks : Nat} {K : Nat → Nat → Nat → Int → Nat → Int → Int → gaH → Nat → Nat → Prop} (k : ∀ h', fil h0 h' o (pf t (s + x.length)) → K p q o ((s + x.length : Nat) : Int) v6 v7 (v8 + 1) h' kc ks) : ∀ (z j : Nat) (h : gaH), fil h0 h o (pf t (s + j)) → j ≤ x.length → x.length - j < z → w_X7_image_L72 Q K z p q o ((s + j : Nat) : Int) v6 v7 v8 a (x.length : Int) (j : Int) h kc ks
  | 0, _, _, _, _, h9 => absurd h9 (Nat.not_lt_zero _)
  | z + 1, j, h, fl, hj, h9 => by
    unfold w_X7_image_L72
    (first | refine And.intro (show gR _ from by first | assumption | omega | decide | exact b2i_R _ | exact gR_of (by omega) (by omega)) ?_ | refine And.intro (show gHas _ _ _ from by first | exact gW.has (gD.w (by assumption)) (by omega) | exact gD.has (by assumption) | exact gRu.has (gD.ru (by assumption)) | exact gGr.has (gD.gr (by assumption) _ (by omega))) ?_ | refine gCall_mk (by decide) (by decide) ?_ | refine if_yes (by first | assumption | omega | decide | exact b2i_R _ | exact gR_of (by omega) (by omega)) ?_ | refine if_no (by first | assumption | omega | decide | exact b2i_R _ | exact gR_of (by omega) (by omega)) ?_); (first | refine And.intro (show gR _ from by first | assumption | omega | decide | exact b2i_R _ | exact gR_of (by omega) (by omega)) ?_ | refine And.intro (show gHas _ _ _ from by first | exact gW.has (gD.w (by assumption)) (by omega) | exact gD.has (by assumption) | exact gRu.has (gD.ru (by assumption)) | exact gGr.has (gD.gr (by assumption) _ (by omega))) ?_ | refine gCall_mk (by decide) (by decide) ?_ | refine if_yes (by first | assumption | omega | decide | exact b2i_R _ | exact gR_of (by omega) (by omega)) ?_ | refine if_no (by first | assumption | omega | decide | exact b2i_R _ | exact gR_of (by omega) (by omega)) ?_)
    by_cases q1 : x.length ≤ j
    · refine if_yes (by omega) ?_
      obtain rfl : j = x.length := by omega
      exact k h fl
    · refine if_no (by omega) ((rx.on fl.2.1).at rfl (by omega) (by omega) (fl.set (i := s + j) rfl (by rw [pf_len (by omega)]; omega) (by rw [pf_len (by omega)]; omega) rfl (fun h3 f3 => ?_)))
      rw [← hat j (by omega), pf_set (by omega)] at f3
      rw [show ((s + j : Nat) : Int) + 1 = ((s + (j + 1) : Nat) : Int) by omega, show (j : Int) + 1 = ((j + 1 : Nat) : Int) by omega]
      exact r_image_L72 rx hx ht hst hat k z (j + 1) h3 f3 (by omega) (by omega)
theorem r_image_L38 {Q : Nat → gaH → Prop} {p q : Nat} {x y : List Bool} (ru : mR h0 a u) (rx : mR h0 p x) (ry : mR h0 q y) (hu : u.length ≤ 1000) (hx : x.length ≤ 1000) (hy : y.length ≤ 1000) (ht : (img x y u).length ≤ 1000) (k : ∀ h', fil h0 h' o (img x y u) → Q o h') {kc ks : Nat} : ∀ (z i : Nat) (h : gaH), fil h0 h o (pf (img x y u) (img x y (u.take i)).length) → i ≤ u.length → u.length - i < z → w_X7_image_L38 Q z p q o ((img x y (u.take i)).length : Int) a (u.length : Int) (i : Int) h kc ks
  | 0, _, _, _, _, h9 => absurd h9 (Nat.not_lt_zero _)
  | z + 1, i, h, fl, hi, h9 => by
    unfold w_X7_image_L38
    (first | refine And.intro (show gR _ from by first | assumption | omega | decide | exact b2i_R _ | exact gR_of (by omega) (by omega)) ?_ | refine And.intro (show gHas _ _ _ from by first | exact gW.has (gD.w (by assumption)) (by omega) | exact gD.has (by assumption) | exact gRu.has (gD.ru (by assumption)) | exact gGr.has (gD.gr (by assumption) _ (by omega))) ?_ | refine gCall_mk (by decide) (by decide) ?_ | refine if_yes (by first | assumption | omega | decide | exact b2i_R _ | exact gR_of (by omega) (by omega)) ?_ | refine if_no (by first | assumption | omega | decide | exact b2i_R _ | exact gR_of (by omega) (by omega)) ?_); (first | refine And.intro (show gR _ from by first | assumption | omega | decide | exact b2i_R _ | exact gR_of (by omega) (by omega)) ?_ | refine And.intro (show gHas _ _ _ from by first | exact gW.has (gD.w (by assumption)) (by omega) | exact gD.has (by assumption) | exact gRu.has (gD.ru (by assumption)) | exact gGr.has (gD.gr (by assumption) _ (by omega))) ?_ | refine gCall_mk (by decide) (by decide) ?_ | refine if_yes (by first | assumption | omega | decide | exact b2i_R _ | exact gR_of (by omega) (by omega)) ?_ | refine if_no (by first | assumption | omega | decide | exact b2i_R _ | exact gR_of (by omega) (by omega)) ?_)
    by_cases q1 : u.length ≤ i
    · refine if_yes (by omega) (k h ?_)
      rw [List.take_of_length_le q1, pf_end] at fl; exact fl
    · refine if_no (by omega) ((ru.on fl.2.1).at rfl (by omega) (by omega) ⟨b2i_R _, ?_⟩)
      have e1 : u = u.take i ++ (u.getD i false :: u.drop (i + 1)) := by rw [← take_one (by omega)]; exact (List.take_append_drop i u).symm
      have e2 : u.take (i + 1) = u.take i ++ [u.getD i false] := by rw [List.take_add_one, getD_lt (by omega)]; rfl
      have go : ∀ (c : Nat) (m : List Bool), mR h0 c m → m.length ≤ 1000 → img x y [u.getD i false] = m → w_X7_image_J62 Q (w_X7_image_L38 Q z) p q o ((img x y (u.take i)).length : Int) a (u.length : Int) (i : Int) c h kc ks := by
        intro c m rm hm em
        have e3 : img x y u = img x y (u.take i) ++ (m ++ img x y (u.drop (i + 1))) := by
          conv => lhs; rw [e1]
          rw [img_app, show u.getD i false :: u.drop (i + 1) = [u.getD i false] ++ u.drop (i + 1) from rfl, img_app, em]
        have e4 : (img x y (u.take (i + 1))).length = (img x y (u.take i)).length + m.length := by rw [e2, img_app, em, List.length_append]
        have e5 : (img x y u).length = (img x y (u.take i)).length + (m.length + (img x y (u.drop (i + 1))).length) := by rw [e3]; simp
        unfold w_X7_image_J62
        refine (rm.on fl.2.1).len ⟨1002, ?_⟩
        refine r_image_L72 (s := (img x y (u.take i)).length) rm hm ht (by omega) (fun j hj => ?_) (fun h3 f3 => ?_) 1002 0 h fl (Nat.zero_le _) (by omega)
        · rw [e3, List.getD_eq_getElem?_getD, List.getElem?_append_right (by omega), Nat.add_sub_cancel_left, List.getElem?_append_left hj, ← List.getD_eq_getElem?_getD]
        · rw [← e4] at f3 ⊢
          rw [show (i : Int) + 1 = ((i + 1 : Nat) : Int) by omega]
          exact r_image_L38 ru rx ry hu hx hy ht k z (i + 1) h3 f3 (by omega) (by omega)
      generalize u.getD i false = y1 at go
      cases y1
      · exact if_yes rfl (go p x rx hx (by simp [img]))
      · exact if_no (by decide) (go q y ry hy (by simp [img]))
theorem r_image {Q : Nat → gaH → Prop} {p q : Nat} {x y : List Bool} (ru : mR h a u) (rx : mR h p x) (ry : mR h q y) (hu : u.length ≤ 1000) (hx : x.length ≤ 1000) (hy : y.length ≤ 1000) (ht : (img x y u).length ≤ 256) (k : ∀ o h', fil h h' o (img x y u) → Q o h') : w_X7_image a p q h Q := by
  have e := img_len x y u
  have l1 := ones_le u
  unfold w_X7_image
  refine ru.len (r_bs ru hu (rx.len (r_bs ru hu (ry.len (fil.new (n := (img x y u).length) ?_ (by omega) (by decide) ht (fun o h' f => (ru.on f.2.1).len ⟨1002, ?_⟩))))))
  · rw [e]; push_cast; rw [Int.ofNat_sub l1]
  · exact r_image_L38 ru rx ry hu hx hy (by omega) (fun h'' f'' => k o h'' f'') 1002 0 h' (by rw [List.take_zero]; show fil h h' o (pf _ 0); rw [pf_0]; exact f) (Nat.zero_le _) (by omega)
theorem r_standsAt_L {Q : Int → gaH → Prop} (ru : mR h a u) (rv : mR h b v) {p : Nat} (hp : p + v.length ≤ u.length) (hu : u.length ≤ 1000) : ∀ (n i : Nat), i ≤ v.length → v.length - i < n → Q (b2i (decide ((u.drop (p + i)).take (v.length - i) = v.drop i))) h → w_X7_standsAt_L13 Q n a b (p : Int) (i : Int) h
  | 0, _, _, h9, _ => absurd h9 (Nat.not_lt_zero _)
  | n + 1, i, hi, h9, k => by
    unfold w_X7_standsAt_L13
    refine rv.len ?_
    (first | refine And.intro (show gR _ from by first | assumption | omega | decide | exact b2i_R _ | exact gR_of (by omega) (by omega)) ?_ | refine And.intro (show gHas _ _ _ from by first | exact gW.has (gD.w (by assumption)) (by omega) | exact gD.has (by assumption) | exact gRu.has (gD.ru (by assumption)) | exact gGr.has (gD.gr (by assumption) _ (by omega))) ?_ | refine gCall_mk (by decide) (by decide) ?_ | refine if_yes (by first | assumption | omega | decide | exact b2i_R _ | exact gR_of (by omega) (by omega)) ?_ | refine if_no (by first | assumption | omega | decide | exact b2i_R _ | exact gR_of (by omega) (by omega)) ?_); (first | refine And.intro (show gR _ from by first | assumption | omega | decide | exact b2i_R _ | exact gR_of (by omega) (by omega)) ?_ | refine And.intro (show gHas _ _ _ from by first | exact gW.has (gD.w (by assumption)) (by omega) | exact gD.has (by assumption) | exact gRu.has (gD.ru (by assumption)) | exact gGr.has (gD.gr (by assumption) _ (by omega))) ?_ | refine gCall_mk (by decide) (by decide) ?_ | refine if_yes (by first | assumption | omega | decide | exact b2i_R _ | exact gR_of (by omega) (by omega)) ?_ | refine if_no (by first | assumption | omega | decide | exact b2i_R _ | exact gR_of (by omega) (by omega)) ?_)
    by_cases q : v.length ≤ i
    · refine if_yes (by omega) ?_
      rw [List.drop_of_length_le q, show v.length - i = 0 by omega, List.take_zero, decide_eq_true rfl] at k
      exact k
    · refine if_no (by omega) (ru.at (i := p + i) (by omega) (by omega) (by omega) (rv.at rfl (by omega) (by omega) ⟨b2i_R _, b2i_R _, ?_⟩))
      rw [show v.length - i = (v.length - (i + 1)) + 1 by omega, take_one (u := u) (i := p + i) (by omega), take_one (u := v) (i := i) (by omega), List.take_succ_cons] at k
      by_cases z : u.getD (p + i) false = v.getD i false
      · refine if_yes (congrArg b2i z) ?_
        rw [show (i : Int) + 1 = ((i + 1 : Nat) : Int) by omega]
        refine r_standsAt_L ru rv hp hu n (i + 1) (by omega) (by omega) ?_
        rw [z, show p + i + 1 = p + (i + 1) by omega] at k
        simpa using k
      · refine if_no (fun q9 => z ((b2i_eq _ _).mp q9)) ?_
        rw [decide_eq_false (fun q9 => z (List.cons.inj q9).1)] at k
        exact k
theorem r_standsAt {Q : Int → gaH → Prop} (ru : mR h a u) (rv : mR h b v) {x : Int} {p : Nat} (hx : x = (p : Int)) (hp : p ≤ 1000) (hu : u.length ≤ 1000) (hv : v.length ≤ 1000) (k : Q (b2i (stands u v p)) h) : w_X7_standsAt a b x h Q := by
  subst hx
  unfold w_X7_standsAt
  refine rv.len (ru.len ?_)
  (first | refine And.intro (show gR _ from by first | assumption | omega | decide | exact b2i_R _ | exact gR_of (by omega) (by omega)) ?_ | refine And.intro (show gHas _ _ _ from by first | exact gW.has (gD.w (by assumption)) (by omega) | exact gD.has (by assumption) | exact gRu.has (gD.ru (by assumption)) | exact gGr.has (gD.gr (by assumption) _ (by omega))) ?_ | refine gCall_mk (by decide) (by decide) ?_ | refine if_yes (by first | assumption | omega | decide | exact b2i_R _ | exact gR_of (by omega) (by omega)) ?_ | refine if_no (by first | assumption | omega | decide | exact b2i_R _ | exact gR_of (by omega) (by omega)) ?_); (first | refine And.intro (show gR _ from by first | assumption | omega | decide | exact b2i_R _ | exact gR_of (by omega) (by omega)) ?_ | refine And.intro (show gHas _ _ _ from by first | exact gW.has (gD.w (by assumption)) (by omega) | exact gD.has (by assumption) | exact gRu.has (gD.ru (by assumption)) | exact gGr.has (gD.gr (by assumption) _ (by omega))) ?_ | refine gCall_mk (by decide) (by decide) ?_ | refine if_yes (by first | assumption | omega | decide | exact b2i_R _ | exact gR_of (by omega) (by omega)) ?_ | refine if_no (by first | assumption | omega | decide | exact b2i_R _ | exact gR_of (by omega) (by omega)) ?_)
  unfold stands at k
  by_cases q : p + v.length ≤ u.length
  · refine if_yes (by omega) ⟨v.length + 1, r_standsAt_L ru rv q hu _ 0 (Nat.zero_le _) (by omega) ?_⟩
    rw [decide_eq_true q, Bool.true_and] at k
    exact k
  · refine if_no (by omega) ?_
    rw [decide_eq_false q, Bool.false_and] at k
    exact k
theorem r_areSame {Q : Int → gaH → Prop} (ru : mR h a u) (rv : mR h b v) (hu : u.length ≤ 1000) (hv : v.length ≤ 1000) (k : Q (b2i (decide (u = v))) h) : w_X7_areSame a b h Q := by
  unfold w_X7_areSame
  refine ru.len (rv.len ?_)
  (first | refine And.intro (show gR _ from by first | assumption | omega | decide | exact b2i_R _ | exact gR_of (by omega) (by omega)) ?_ | refine And.intro (show gHas _ _ _ from by first | exact gW.has (gD.w (by assumption)) (by omega) | exact gD.has (by assumption) | exact gRu.has (gD.ru (by assumption)) | exact gGr.has (gD.gr (by assumption) _ (by omega))) ?_ | refine gCall_mk (by decide) (by decide) ?_ | refine if_yes (by first | assumption | omega | decide | exact b2i_R _ | exact gR_of (by omega) (by omega)) ?_ | refine if_no (by first | assumption | omega | decide | exact b2i_R _ | exact gR_of (by omega) (by omega)) ?_); (first | refine And.intro (show gR _ from by first | assumption | omega | decide | exact b2i_R _ | exact gR_of (by omega) (by omega)) ?_ | refine And.intro (show gHas _ _ _ from by first | exact gW.has (gD.w (by assumption)) (by omega) | exact gD.has (by assumption) | exact gRu.has (gD.ru (by assumption)) | exact gGr.has (gD.gr (by assumption) _ (by omega))) ?_ | refine gCall_mk (by decide) (by decide) ?_ | refine if_yes (by first | assumption | omega | decide | exact b2i_R _ | exact gR_of (by omega) (by omega)) ?_ | refine if_no (by first | assumption | omega | decide | exact b2i_R _ | exact gR_of (by omega) (by omega)) ?_)
  by_cases q : u.length = v.length
  · refine if_yes (by omega) (r_standsAt ru rv (p := 0) rfl (by decide) hu hv ?_)
    have e : stands u v 0 = decide (u = v) := by
      unfold stands
      rw [decide_eq_true (by omega), Bool.true_and, List.drop_zero, List.take_of_length_le (by omega)]
    rw [e]
    (first | refine And.intro (show gR _ from by first | assumption | omega | decide | exact b2i_R _ | exact gR_of (by omega) (by omega)) ?_ | refine And.intro (show gHas _ _ _ from by first | exact gW.has (gD.w (by assumption)) (by omega) | exact gD.has (by assumption) | exact gRu.has (gD.ru (by assumption)) | exact gGr.has (gD.gr (by assumption) _ (by omega))) ?_ | refine gCall_mk (by decide) (by decide) ?_ | refine if_yes (by first | assumption | omega | decide | exact b2i_R _ | exact gR_of (by omega) (by omega)) ?_ | refine if_no (by first | assumption | omega | decide | exact b2i_R _ | exact gR_of (by omega) (by omega)) ?_)
    by_cases z : u = v
    · rw [decide_eq_true z] at k ⊢; exact if_no (by decide) k
    · rw [decide_eq_false z] at k ⊢; exact if_yes rfl k
  · refine if_no (by omega) ?_
    rw [decide_eq_false (fun z => q (by rw [z]))] at k
    exact k
theorem r_turned_L {Q : Nat → gaH → Prop} (ru : mR h0 a u) (hu : u.length ≤ 64) (k : ∀ h', fil h0 h' o u.reverse → Q o h') {kc ks : Nat} : ∀ (z i : Nat) (h : gaH), fil h0 h o (pf u.reverse i) → i ≤ u.length → u.length - i < z → w_X7_turned_L7 Q z a o (i : Int) h kc ks
  | 0, _, _, _, _, h9 => absurd h9 (Nat.not_lt_zero _)
  | z + 1, i, h, fl, hi, h9 => by
    have hr : u.reverse.length = u.length := List.length_reverse
    unfold w_X7_turned_L7
    have ru2 := ru.on fl.2.1
    refine ru2.len ?_
    (first | refine And.intro (show gR _ from by first | assumption | omega | decide | exact b2i_R _ | exact gR_of (by omega) (by omega)) ?_ | refine And.intro (show gHas _ _ _ from by first | exact gW.has (gD.w (by assumption)) (by omega) | exact gD.has (by assumption) | exact gRu.has (gD.ru (by assumption)) | exact gGr.has (gD.gr (by assumption) _ (by omega))) ?_ | refine gCall_mk (by decide) (by decide) ?_ | refine if_yes (by first | assumption | omega | decide | exact b2i_R _ | exact gR_of (by omega) (by omega)) ?_ | refine if_no (by first | assumption | omega | decide | exact b2i_R _ | exact gR_of (by omega) (by omega)) ?_); (first | refine And.intro (show gR _ from by first | assumption | omega | decide | exact b2i_R _ | exact gR_of (by omega) (by omega)) ?_ | refine And.intro (show gHas _ _ _ from by first | exact gW.has (gD.w (by assumption)) (by omega) | exact gD.has (by assumption) | exact gRu.has (gD.ru (by assumption)) | exact gGr.has (gD.gr (by assumption) _ (by omega))) ?_ | refine gCall_mk (by decide) (by decide) ?_ | refine if_yes (by first | assumption | omega | decide | exact b2i_R _ | exact gR_of (by omega) (by omega)) ?_ | refine if_no (by first | assumption | omega | decide | exact b2i_R _ | exact gR_of (by omega) (by omega)) ?_)
    by_cases q : u.length ≤ i
    · refine if_yes (by omega) (k h ?_)
      obtain rfl : i = u.reverse.length := by omega
      rw [pf_end] at fl; exact fl
    · refine if_no (by omega) (ru2.len (ru2.at (i := u.length - 1 - i) (by omega) (by omega) (by omega) (fl.set rfl (by rw [pf_len (by omega)]; omega) (by rw [pf_len (by omega)]; omega) rfl (fun h3 f3 => ?_))))
      have e : u.getD (u.length - 1 - i) false = u.reverse.getD i false := by
        rw [List.getD_eq_getElem?_getD, List.getD_eq_getElem?_getD, List.getElem?_reverse (by omega)]
      rw [e, pf_set (by omega)] at f3
      rw [show (i : Int) + 1 = ((i + 1 : Nat) : Int) by omega]
      exact r_turned_L ru hu k z (i + 1) h3 f3 (by omega) (by omega)
theorem r_turned {Q : Nat → gaH → Prop} (ru : mR h a u) (hu : u.length ≤ 64) (k : ∀ o h', fil h h' o u.reverse → Q o h') : w_X7_turned a h Q := by
  unfold w_X7_turned
  refine ru.len (fil.new (n := u.length) rfl (by omega) (by decide) hu (fun o h' f => ⟨66, ?_⟩))
  exact r_turned_L ru hu (fun h'' f'' => k o h'' f'') 66 0 h' (by rw [pf_0, List.length_reverse]; exact f) (Nat.zero_le _) (by omega)
end RC
