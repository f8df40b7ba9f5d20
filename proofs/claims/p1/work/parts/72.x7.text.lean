/-! The texts of garden and reference, sign by sign; the law's wrappers of them. -/
def tTx (h : gaH) (o : Nat) (cs : List Int) : Prop := ∃ v, h o = some (0, [.ref v, gi 0, gi 0, gi 0]) ∧ h v = some (101, cs.map gi)
theorem sTx.t {h0 h : gaH} {o : Nat} {cs : List Int} (s : sTx h0 h o cs) : tTx h o cs := by
  obtain ⟨-, v, -, a, b⟩ := s
  exact ⟨v, a, b⟩
theorem sTx.on {B : Nat → Nat} {h0 h1 h : gaH} {st : GSt} {no : Int} {o : Nat} {cs : List Int} (s : sTx h0 h1 o cs) (m : gM B h0 st no) (f : mF B h1 h) : tTx h o cs := by
  obtain ⟨s1, v, s2, s3, s4⟩ := s
  have ne : ∀ x, h0 x = none → ∀ i, i < 6 → x ≠ B i := fun x hx i hi q => by
    obtain ⟨_, -, -, -, -, -, -, -, m2⟩ := m
    obtain ⟨e, z⟩ := m2 i (by omega)
    rw [q, z] at hx
    cases hx
  exact ⟨v, f _ _ (ne o s1) s3, f _ _ (ne v s2) s4⟩
section CTX
variable {A : Nat → Nat} {G : gaG} {h h0 : gaH} {U : Nat → List Bool} {st : GSt} {X : String → gaH → Prop} {Q : Nat → gaH → Prop} {w v g b : Nat} {x y z : Int}
theorem s_textOf_xL (hw : w < 11) (d0 : gD A G h0 U st) (k : ∀ h' o, (∀ a e, h0 a = some e → h' a = some e) → sTx h0 h' o (txt (U w)) → Q o h') : ∀ (n i : Nat) (h : gaH) (kc ks : Nat), sby h0 h b i (txt ((U w).take i)) → i ≤ (U w).length → (U w).length - i < n → 2 * ((U w).length - i) + 5 ≤ kc → 134 * ((U w).length - i) + 272 ≤ ks → w_X1_textOf_L10 G Q n (A w) b (i : Int) h kc ks
  | 0, _, _, _, _, _, _, h1, _, _ => absurd h1 (Nat.not_lt_zero _)
  | n + 1, i, h, kc, ks, sb, hi, h1, hc, hs => by
    have kp : ∀ a e, h0 a = some e → h a = some e := by obtain ⟨⟨_, _, _, _, _, _, _, _, _, _, q⟩, -⟩ := sb; exact q
    have d := d0.kp kp
    have l1 := d.w.le hw
    have hcl : (txt ((U w).take i)).length = i := by rw [txt_len, List.length_take]; omega
    unfold w_X1_textOf_L10
    refine d.w.many hw ?_
    refine ⟨by omega, by omega, ?_⟩
    by_cases q : (U w).length ≤ i
    · rw [List.take_of_length_le q] at sb
      exact if_yes (by omega) ⟨sb.1.has, gCall_mk (by omega) (by omega) (sby_toString sb (by rw [txt_len]; omega) (by omega) k)⟩
    · refine if_no (by omega) ⟨d.w.has hw, s_isUp d.w hw rfl (by omega) ⟨b2i_R _, ?_⟩⟩
      have go : ∀ c : Int, 0 ≤ c → c ≤ 127 → (c = if (U w).getD i false = true then 98 else 97) → w_X1_textOf_J34 G Q (w_X1_textOf_L10 G Q n) (A w) b (i : Int) b c h kc ks := fun c c1 c2 c3 => by
        unfold w_X1_textOf_J34
        refine ⟨sb.1.has, gCall_mk (by omega) (by omega) (sby_char sb hcl (by omega) c1 c2 (fun h' s' => ?_))⟩
        rw [← txt_next (by omega) c3] at s'
        rw [show (i : Int) + 1 = ((i + 1 : Nat) : Int) by omega]
        exact s_textOf_xL hw d0 k n (i + 1) h' _ _ s' (by omega) (by omega) (by omega) (by omega)
      by_cases q3 : (U w).getD i false = true
      · exact if_no (by rw [q3]; decide) (go 98 (by decide) (by decide) (by rw [if_pos q3]))
      · exact if_yes (by rw [Bool.eq_false_iff.mpr q3]; rfl) (go 97 (by decide) (by decide) (by rw [if_neg q3]))
theorem s_textOf_x (hw : w < 11) (d0 : gD A G h0 U st) (k : ∀ h' o, (∀ a e, h0 a = some e → h' a = some e) → sTx h0 h' o (txt (U w)) → Q o h') : w_X1_textOf G (A w) h0 Q := by
  have l1 := d0.w.le hw
  unfold w_X1_textOf
  refine gNO_mk (by decide) (by decide) (fun o ho => gCall_mk (by decide) (by decide) (sby_init ho (fun h' sb => ⟨66, ?_⟩)))
  exact s_textOf_xL hw d0 k 66 0 h' _ _ (by rw [List.take_zero]; exact sb) (Nat.zero_le _) (by omega) (by omega) (by omega)
theorem c_text_x (d : gD A G h U st) (hx : gR x) (e : ¬ okS x → X eI h) (k : okS x → ∀ h' o, (∀ a e, h a = some e → h' a = some e) → sTx h h' o (txt (st.S x.toNat)) → Q o h') : w_X5_text G X (A 22) x h Q := by
  unfold w_X5_text
  (first | refine And.intro (show gR _ from by first | assumption | omega | decide | exact b2i_R _ | exact gR_of (by omega) (by omega)) ?_ | refine And.intro (show gHas _ _ _ from by first | exact gW.has (gD.w (by assumption)) (by omega) | exact gD.has (by assumption) | exact gRu.has (gD.ru (by assumption)) | exact gGr.has (gD.gr (by assumption) _ (by omega))) ?_ | refine gCall_mk (by decide) (by decide) ?_ | refine if_yes (by first | assumption | omega | decide | exact b2i_R _ | exact gR_of (by omega) (by omega)) ?_ | refine if_no (by first | assumption | omega | decide | exact b2i_R _ | exact gR_of (by omega) (by omega)) ?_)
  refine gCall_mk (by decide) (by decide) (c_wordOf d hx e (fun w hw e => gCall_mk (by decide) (by decide) (s_textOf_x (by omega) d (fun h' o f s => k (by omega) h' o f (by rw [e, Int.toNat_natCast, ← d.s w hw]; exact s)))))
theorem c_grown_x {c : Bool} (d : gD A G h U st) (hx : gR x) (hy : y = b2i c) (e : ¬ okG x → X eI h) (k : okG x → ∀ h' o, (∀ a e, h a = some e → h' a = some e) → sTx h h' o (txt (gWd (st.T x.toNat) c)) → Q o h') : w_X5_grown G X (A 22) x y h Q := by
  unfold w_X5_grown
  (first | refine And.intro (show gR _ from by first | assumption | omega | decide | exact b2i_R _ | exact gR_of (by omega) (by omega)) ?_ | refine And.intro (show gHas _ _ _ from by first | exact gW.has (gD.w (by assumption)) (by omega) | exact gD.has (by assumption) | exact gRu.has (gD.ru (by assumption)) | exact gGr.has (gD.gr (by assumption) _ (by omega))) ?_ | refine gCall_mk (by decide) (by decide) ?_ | refine if_yes (by first | assumption | omega | decide | exact b2i_R _ | exact gR_of (by omega) (by omega)) ?_ | refine if_no (by first | assumption | omega | decide | exact b2i_R _ | exact gR_of (by omega) (by omega)) ?_)
  refine gCall_mk (by decide) (by decide) (c_growthOf d hx e (fun g hg e => ?_))
  (first | refine And.intro (show gR _ from by first | assumption | omega | decide | exact b2i_R _ | exact gR_of (by omega) (by omega)) ?_ | refine And.intro (show gHas _ _ _ from by first | exact gW.has (gD.w (by assumption)) (by omega) | exact gD.has (by assumption) | exact gRu.has (gD.ru (by assumption)) | exact gGr.has (gD.gr (by assumption) _ (by omega))) ?_ | refine gCall_mk (by decide) (by decide) ?_ | refine if_yes (by first | assumption | omega | decide | exact b2i_R _ | exact gR_of (by omega) (by omega)) ?_ | refine if_no (by first | assumption | omega | decide | exact b2i_R _ | exact gR_of (by omega) (by omega)) ?_)
  obtain ⟨u1, u2⟩ := d.gw g hg
  have hn : x.toNat = g := by omega
  rw [hn] at k
  cases c with
  | true => exact s_wordBy (d.gr g hg) (Or.inr hy) (fun q => absurd (hy.symm.trans q) (by decide)) (fun _ => gCall_mk (by decide) (by decide) (s_textOf_x (by omega) d (fun h' o f s => k (by omega) h' o f (by rw [u1] at s; exact s))))
  | false => exact s_wordBy (d.gr g hg) (Or.inl hy) (fun _ => gCall_mk (by decide) (by decide) (s_textOf_x (by omega) d (fun h' o f s => k (by omega) h' o f (by rw [u2] at s; exact s)))) (fun q => absurd (hy.symm.trans q) (by decide))
theorem s_turns_xL (hg : g < 2) (d0 : gD A G h0 U st) (m3 : h0 (G.2.2.2 1) = some (1101, gaOnes)) (k : ∀ h' o, (∀ a e, h0 a = some e → h' a = some e) → sTx h0 h' o (ttx (st.T g)) → Q o h') : ∀ (n i : Nat) (h : gaH) (kc ks : Nat), sby h0 h b i (ttx ((st.T g).take i)) → i ≤ (st.T g).length → (st.T g).length - i < n → 2 * ((st.T g).length - i) + 5 ≤ kc → 134 * ((st.T g).length - i) + 272 ≤ ks → w_X5_turns_L17 G X Q n (A (26 + g)) b (i : Int) h kc ks
  | 0, _, _, _, _, _, _, h1, _, _ => absurd h1 (Nat.not_lt_zero _)
  | n + 1, i, h, kc, ks, sb, hi, h1, hc, hs => by
    have kp : ∀ a e, h0 a = some e → h a = some e := by obtain ⟨⟨_, _, _, _, _, _, _, _, _, _, q⟩, -⟩ := sb; exact q
    have d := d0.kp kp
    have l1 := (d.ok g hg).len
    have hcl : (ttx ((st.T g).take i)).length = i := by rw [ttx_len, List.length_take]; omega
    unfold w_X5_turns_L17
    refine (d.gr g hg).ct ⟨by omega, by omega, ?_⟩
    by_cases q : (st.T g).length ≤ i
    · rw [List.take_of_length_le q] at sb
      exact if_yes (by omega) ⟨sb.1.has, gCall_mk (by omega) (by omega) (sby_toString sb (by rw [ttx_len]; omega) (by omega) k)⟩
    · refine if_no (by omega) ⟨(d.gr g hg).has, s_turnAt (d.gr g hg) rfl (by omega) ⟨sb.1.has, gCall_mk (by omega) (by omega) (sby_turn sb hcl (by omega) m3 ?_ (fun h' s' => ?_))⟩⟩
      · have hm : (st.T g).getD i 0 ∈ st.T g := by
          rw [List.getD_eq_getElem?_getD, List.getElem?_eq_getElem (by omega)]
          exact List.getElem_mem _
        exact (d.ok g hg).1 _ hm
      · rw [← ttx_next (by omega) rfl] at s'
        rw [show (i : Int) + 1 = ((i + 1 : Nat) : Int) by omega]
        exact s_turns_xL hg d0 m3 k n (i + 1) h' _ _ s' (by omega) (by omega) (by omega) (by omega)
theorem c_turns_x (d : gD A G h U st) (hx : gR x) (m3 : h (G.2.2.2 1) = some (1101, gaOnes)) (e : ¬ okG x → X eI h) (k : okG x → ∀ h' o, (∀ a e, h a = some e → h' a = some e) → sTx h h' o (ttx (st.T x.toNat)) → Q o h') : w_X5_turns G X (A 22) x h Q := by
  unfold w_X5_turns
  (first | refine And.intro (show gR _ from by first | assumption | omega | decide | exact b2i_R _ | exact gR_of (by omega) (by omega)) ?_ | refine And.intro (show gHas _ _ _ from by first | exact gW.has (gD.w (by assumption)) (by omega) | exact gD.has (by assumption) | exact gRu.has (gD.ru (by assumption)) | exact gGr.has (gD.gr (by assumption) _ (by omega))) ?_ | refine gCall_mk (by decide) (by decide) ?_ | refine if_yes (by first | assumption | omega | decide | exact b2i_R _ | exact gR_of (by omega) (by omega)) ?_ | refine if_no (by first | assumption | omega | decide | exact b2i_R _ | exact gR_of (by omega) (by omega)) ?_)
  refine gCall_mk (by decide) (by decide) (c_growthOf d hx e (fun g hg e => gNO_mk (by decide) (by decide) (fun o ho => gCall_mk (by decide) (by decide) (sby_init ho (fun h' sb => ⟨66, ?_⟩)))))
  have l1 := (d.ok g hg).len
  have hn : x.toNat = g := by omega
  rw [hn] at k
  exact s_turns_xL hg d m3 (k (by omega)) 66 0 h' _ _ (by rw [List.take_zero]; exact sb) (Nat.zero_le _) (by omega) (by omega) (by omega)
end CTX
section RTX
variable {B : Nat → Nat} {h h0 : gaH} {st : GSt} {no : Int} {a b o : Nat} {u v : List Bool} {w g : Nat} {x y z : Int} {G : gaG} {Q : Nat → gaH → Prop}
theorem r_textOf_xL (r : mR h0 a u) (hl : u.length ≤ 64) (k : ∀ h' o, mK h0 h' → sTx h0 h' o (txt u) → Q o h') : ∀ (n i : Nat) (h : gaH) (kc ks : Nat), sby h0 h b i (txt (u.take i)) → i ≤ u.length → u.length - i < n → 2 * (u.length - i) + 5 ≤ kc → 134 * (u.length - i) + 272 ≤ ks → w_X7_textOf_L16 G Q n b a (u.length : Int) (i : Int) h kc ks
  | 0, _, _, _, _, _, _, h1, _, _ => absurd h1 (Nat.not_lt_zero _)
  | n + 1, i, h, kc, ks, sb, hi, h1, hc, hs => by
    have kp : mK h0 h := by obtain ⟨⟨_, _, _, _, _, _, _, _, _, _, q⟩, -⟩ := sb; exact q
    have hcl : (txt (u.take i)).length = i := by rw [txt_len, List.length_take]; omega
    unfold w_X7_textOf_L16
    refine ⟨by omega, by omega, ?_⟩
    by_cases q : u.length ≤ i
    · rw [List.take_of_length_le q] at sb
      exact if_yes (by omega) ⟨sb.1.has, gCall_mk (by omega) (by omega) (sby_toString sb (by rw [txt_len]; omega) (by omega) k)⟩
    · have go : ∀ c : Int, 0 ≤ c → c ≤ 127 → (c = if u.getD i false = true then 98 else 97) → w_X7_textOf_J42 G Q (w_X7_textOf_L16 G Q n) b a (u.length : Int) (i : Int) b c h kc ks := fun c c1 c2 c3 => by
        unfold w_X7_textOf_J42
        refine ⟨sb.1.has, gCall_mk (by omega) (by omega) (sby_char sb hcl (by omega) c1 c2 (fun h' s' => ?_))⟩
        rw [← txt_next (by omega) c3] at s'
        rw [show (i : Int) + 1 = ((i + 1 : Nat) : Int) by omega]
        exact r_textOf_xL r hl k n (i + 1) h' _ _ s' (by omega) (by omega) (by omega) (by omega)
      refine if_no (by omega) ((r.on kp).at rfl (by omega) (by omega) ⟨b2i_R _, ?_⟩)
      by_cases q3 : u.getD i false = true
      · exact if_yes (by rw [q3]; rfl) (go 98 (by decide) (by decide) (by rw [if_pos q3]))
      · exact if_no (by rw [Bool.eq_false_iff.mpr q3]; decide) (go 97 (by decide) (by decide) (by rw [if_neg q3]))
theorem r_textOf_x (r : mR h a u) (hl : u.length ≤ 64) (k : ∀ h' o, mK h h' → sTx h h' o (txt u) → Q o h') : w_X7_textOf G a h Q := by
  unfold w_X7_textOf
  refine gNO_mk (by decide) (by decide) (fun o ho => gCall_mk (by decide) (by decide) (sby_init ho (fun h' sb => ?_)))
  have kp : mK h h' := by obtain ⟨⟨_, _, _, _, _, _, _, _, _, _, q⟩, -⟩ := sb; exact q
  exact (r.on kp).len ⟨66, r_textOf_xL r hl k 66 0 h' _ _ (by rw [List.take_zero]; exact sb) (Nat.zero_le _) (by omega) (by omega) (by omega)⟩
theorem r_text_x (d : gM B h st no) (hx : gR x) (k : ∀ (c : Nat) h' r, gM B h' st (c : Int) → mF B h h' → (c = if okS x then 0 else 1) → (c = 0 → tTx h' r (txt (st.S x.toNat))) → Q r h') : w_X7_text G (B 0) x h Q := by
  unfold w_X7_text
  refine r_isNoSheet hx ⟨d.has, r_start d rfl (by decide) (fun q h1 d1 f1 => ?_) (fun q h1 d1 f1 => ?_)⟩
  · have q1 := nd q
    obtain ⟨w, hw⟩ : ∃ w : Nat, x = w := ⟨x.toNat, by omega⟩
    have hw3 : w < 3 := by omega
    have hn : x.toNat = w := by omega
    rw [hn] at k
    exact ⟨by decide, if_yes rfl (d1.f0 (d1.sh hw hw3 (fun a ra na => gCall_mk (by decide) (by decide) (r_textOf_x ra (d1.sl hw3) (fun h2 o k2 s2 => k 0 h2 o (d1.kp k2) (f1.tr (mF.kp k2)) (by rw [if_pos q1]) (fun _ => s2.t))))))⟩
  · exact ⟨by decide, if_no (by decide) (k 1 h1 _ d1 f1 (by rw [if_neg (nn q)]) (fun z => absurd z (by decide)))⟩
theorem r_grown_x {c : Bool} (d : gM B h st no) (hx : gR x) (hy : y = b2i c) (k : ∀ (n : Nat) h' r, gM B h' st (n : Int) → mF B h h' → (n = if okG x then 0 else 1) → (n = 0 → tTx h' r (txt (gWd (st.T x.toNat) c))) → Q r h') : w_X7_grown G (B 0) x y h Q := by
  unfold w_X7_grown
  refine r_isNoGrowth hx ⟨d.has, r_start d rfl (by decide) (fun q h1 d1 f1 => ?_) (fun q h1 d1 f1 => ?_)⟩
  · have q1 := nd q
    obtain ⟨g, hg⟩ : ∃ w : Nat, x = w := ⟨x.toNat, by omega⟩
    have hg2 : g < 2 := by omega
    have hn : x.toNat = g := by omega
    rw [hn] at k
    have hl := gWd_le (d1.ok hg2) c
    exact ⟨by decide, if_yes rfl ⟨d1.has, gCall_mk (by decide) (by decide) (r_word d1 hg2 hg hy (fun h2 o k2 n2 r2 => gCall_mk (by decide) (by decide) (r_textOf_x r2 hl (fun h3 o3 k3 s3 => k 0 h3 o3 (d1.kp (k2.tr k3)) (f1.tr (mF.kp (k2.tr k3))) (by rw [if_pos q1]) (fun _ => s3.t)))))⟩⟩
  · exact ⟨by decide, if_no (by decide) (k 1 h1 _ d1 f1 (by rw [if_neg (nn q)]) (fun z => absurd z (by decide)))⟩
theorem r_turns_xL (hg : g < 2) (hxg : x = (g : Int)) (d0 : gM B h0 st no) (m3 : h0 (G.2.2.2 1) = some (1101, gaOnes)) (k : ∀ h' o, mK h0 h' → sTx h0 h' o (ttx (st.T g)) → Q o h') : ∀ (n i : Nat) (h : gaH) (kc ks : Nat), sby h0 h b i (ttx ((st.T g).take i)) → i ≤ (st.T g).length → (st.T g).length - i < n → 2 * ((st.T g).length - i) + 5 ≤ kc → 134 * ((st.T g).length - i) + 272 ≤ ks → w_X7_turns_L25 G Q n (B 0) x b (i : Int) h kc ks
  | 0, _, _, _, _, _, _, h1, _, _ => absurd h1 (Nat.not_lt_zero _)
  | n + 1, i, h, kc, ks, sb, hi, h1, hc, hs => by
    have kp : mK h0 h := by obtain ⟨⟨_, _, _, _, _, _, _, _, _, _, q⟩, -⟩ := sb; exact q
    have d := d0.kp kp
    have l1 := (d.ok hg).len
    have hcl : (ttx ((st.T g).take i)).length = i := by rw [ttx_len, List.length_take]; omega
    unfold w_X7_turns_L25
    refine d.f2 (d.ct hxg hg ⟨by omega, by omega, ?_⟩)
    by_cases q : (st.T g).length ≤ i
    · rw [List.take_of_length_le q] at sb
      exact if_yes (by omega) ⟨sb.1.has, gCall_mk (by omega) (by omega) (sby_toString sb (by rw [ttx_len]; omega) (by omega) k)⟩
    · refine if_no (by omega) (d.f1 (d.tr hxg hg (d.tn hg rfl (by omega) ⟨sb.1.has, gCall_mk (by omega) (by omega) (sby_turn sb hcl (by omega) m3 ((d.ok hg).tn (by omega)) (fun h' s' => ?_))⟩)))
      rw [← ttx_next (by omega) rfl] at s'
      rw [show (i : Int) + 1 = ((i + 1 : Nat) : Int) by omega]
      exact r_turns_xL hg hxg d0 m3 k n (i + 1) h' _ _ s' (by omega) (by omega) (by omega) (by omega)
theorem r_turns_x (d : gM B h st no) (hx : gR x) (m3 : h (G.2.2.2 1) = some (1101, gaOnes)) (hm : ∀ i, i < 6 → G.2.2.2 1 ≠ B i) (k : ∀ (c : Nat) h' r, gM B h' st (c : Int) → mF B h h' → (c = if okG x then 0 else 1) → (c = 0 → tTx h' r (ttx (st.T x.toNat))) → Q r h') : w_X7_turns G (B 0) x h Q := by
  unfold w_X7_turns
  refine r_isNoGrowth hx ⟨d.has, r_start d rfl (by decide) (fun q h1 d1 f1 => ?_) (fun q h1 d1 f1 => ?_)⟩
  · have q1 := nd q
    obtain ⟨g, hg⟩ : ∃ w : Nat, x = w := ⟨x.toNat, by omega⟩
    have hg2 : g < 2 := by omega
    have hn : x.toNat = g := by omega
    rw [hn] at k
    have l1 := (d1.ok hg2).len
    refine ⟨by decide, if_yes rfl (gNO_mk (by decide) (by decide) (fun o ho => gCall_mk (by decide) (by decide) (sby_init ho (fun h' sb => ⟨66, ?_⟩))))⟩
    exact r_turns_xL hg2 hg d1 (f1 _ _ hm m3) (fun h2 o k2 s2 => k 0 h2 o (d1.kp k2) (f1.tr (mF.kp k2)) (by rw [if_pos q1]) (fun _ => s2.t)) 66 0 h' _ _ (by rw [List.take_zero]; exact sb) (Nat.zero_le _) (by omega) (by omega) (by omega)
  · exact ⟨by decide, if_no (by decide) (k 1 h1 _ d1 f1 (by rw [if_neg (nn q)]) (fun z => absurd z (by decide)))⟩
end RTX
section WTX
variable {A : Nat → Nat} {G : gaG} {h : gaH} {U : Nat → List Bool} {st : GSt} {Q : Int → gaH → Prop} {O : Nat} {z0 : Int64} {sv : Value}
theorem l_retS_x {o : Nat} {cs : List Int} (hO : h O = some (6, [.long z0, sv])) (d : gD A G h U st) (hA : ∀ i, i < 31 → O ≠ A i) (k : ∀ h' U' z' s', gD A G h' U' st → lF A O h h' → h' O = some (6, [.long z', s']) → (∃ o, s' = .ref o ∧ sTx h h' o cs) → Q 0 h') {h' : gaH} (f : ∀ a e, h a = some e → h' a = some e) (s : sTx h h' o cs) : gPF h' O 6 1 (.ref o) (fun hp5 => Q 0 hp5) := by
  have hO2 := f _ _ hO
  obtain ⟨s1, v, s2, s3, s4⟩ := s
  have n1 : o ≠ O := fun q => by rw [q, hO] at s1; cases s1
  have n2 : v ≠ O := fun q => by rw [q, hO] at s2; cases s2
  exact gPF_mk hO2 (by simp) (k _ U z0 (.ref o) ((d.kp f).up hA hO2) (fun a e h1 h2 h3 => by rw [gaUp_ne _ _ h2]; exact f a e h3) (gaUp_self _ _ _) ⟨o, rfl, s1, v, s2, by rw [gaUp_ne _ _ n1]; exact s3, by rw [gaUp_ne _ _ n2]; exact s4⟩)
theorem l_text_x {x : Int} (d : gD A G h U st) (hO : h O = some (6, [.long z0, sv])) (hA : ∀ i, i < 31 → O ≠ A i) (hx : gR x) (k : ∀ (c : Nat) h' U' z' s', gD A G h' U' st → lF A O h h' → h' O = some (6, [.long z', s']) → (c = if okS x then 0 else 1) → (c = 0 → ∃ o, s' = .ref o ∧ sTx h h' o (txt (st.S x.toNat))) → Q (c : Int) h') : w_L_text G (A 22) x O h Q := by
  unfold w_L_text
  exact ⟨d.has, gCall_mk (by decide) (by decide) (c_text_x d hx (fun q => ⟨rfl, k 1 h U z0 sv d (fun _ _ _ _ q => q) hO (by rw [if_neg q]) (fun z => absurd z (by decide))⟩) (fun q h' o f s => l_retS_x hO d hA (fun h2 U2 z2 s2 d2 f2 o2 p2 => k 0 h2 U2 z2 s2 d2 f2 o2 (by rw [if_pos q]) (fun _ => p2)) f s))⟩
theorem l_turns_x {x : Int} (d : gD A G h U st) (hO : h O = some (6, [.long z0, sv])) (hA : ∀ i, i < 31 → O ≠ A i) (hx : gR x) (m3 : h (G.2.2.2 1) = some (1101, gaOnes)) (k : ∀ (c : Nat) h' U' z' s', gD A G h' U' st → lF A O h h' → h' O = some (6, [.long z', s']) → (c = if okG x then 0 else 1) → (c = 0 → ∃ o, s' = .ref o ∧ sTx h h' o (ttx (st.T x.toNat))) → Q (c : Int) h') : w_L_turns G (A 22) x O h Q := by
  unfold w_L_turns
  exact ⟨d.has, gCall_mk (by decide) (by decide) (c_turns_x d hx m3 (fun q => ⟨rfl, k 1 h U z0 sv d (fun _ _ _ _ q => q) hO (by rw [if_neg q]) (fun z => absurd z (by decide))⟩) (fun q h' o f s => l_retS_x hO d hA (fun h2 U2 z2 s2 d2 f2 o2 p2 => k 0 h2 U2 z2 s2 d2 f2 o2 (by rw [if_pos q]) (fun _ => p2)) f s))⟩
theorem l_grown_x {x z : Int} {b : Bool} (d : gD A G h U st) (hO : h O = some (6, [.long z0, sv])) (hA : ∀ i, i < 31 → O ≠ A i) (hx : gR x) (hz : z = b2i b) (k : ∀ (c : Nat) h' U' z' s', gD A G h' U' st → lF A O h h' → h' O = some (6, [.long z', s']) → (c = if okG x then 0 else 1) → (c = 0 → ∃ o, s' = .ref o ∧ sTx h h' o (txt (gWd (st.T x.toNat) b))) → Q (c : Int) h') : w_L_grown G (A 22) x z O h Q := by
  unfold w_L_grown
  exact ⟨d.has, gCall_mk (by decide) (by decide) (c_grown_x d hx hz (fun q => ⟨rfl, k 1 h U z0 sv d (fun _ _ _ _ q => q) hO (by rw [if_neg q]) (fun z => absurd z (by decide))⟩) (fun q h' o f s => l_retS_x hO d hA (fun h2 U2 z2 s2 d2 f2 o2 p2 => k 0 h2 U2 z2 s2 d2 f2 o2 (by rw [if_pos q]) (fun _ => p2)) f s))⟩
end WTX
/-- texts that are answers, held against each other -/
theorem cmpT {G : gaG} {P : Prop} [Decidable P] {c1 c2 O r : Nat} {h : gaH} {z : Int64} {s : Value} {cs : List Int} (J : gaH → Prop) (z1 : ∀ c ∈ cs, gR c) (hl : P → cs.length ≤ 100000) (q1 : c1 = if P then 0 else 1) (q2 : c2 = if P then 0 else 1) (p1 : c1 = 0 → ∃ o, s = .ref o ∧ tTx h o cs) (p2 : c2 = 0 → tTx h r cs) (hO : h O = some (6, [.long z, s])) (k : J h) : gR (c2 : Int) ∧ gR (c1 : Int) ∧ (if (c2 : Int) = (c1 : Int) then gR (c1 : Int) ∧ (if (c1 : Int) = 0 then gA h O 6 1 (fun r13 => gHas h r13 0 ∧ w_J0_equals_9ea2d G r13 r h (fun r15 hp14 => gR r15 ∧ (if r15 = 0 then False else J hp14))) else J h) else False) := by
  have e : c2 = c1 := q2.trans q1.symm
  subst e
  have h1 : c2 ≤ 1 := by
    rw [q1]
    by_cases q : P
    · rw [if_pos q]; decide
    · rw [if_neg q]; decide
  have hr : gR (c2 : Int) := ⟨by omega, by omega⟩
  refine ⟨hr, hr, if_yes rfl ⟨hr, ?_⟩⟩
  by_cases q : c2 = 0
  · obtain ⟨o, rfl, v, a1, a2⟩ := p1 q
    obtain ⟨w, b1, b2⟩ := p2 q
    have hP : P := Decidable.byContradiction (fun n => by rw [if_neg n] at q1; omega)
    exact if_yes (by omega) (gA_mk hO rfl ⟨⟨_, a1⟩, tx_equals z1 (hl hP) a1 a2 b1 b2 ⟨by decide, if_no (by decide) k⟩⟩)
  · exact if_no (by omega) k
theorem tx_lS {B : Nat → Nat} {h : gaH} {st : GSt} {no : Int} {x : Int} (m : gM B h st no) (q : okS x) : (txt (st.S x.toNat)).length ≤ 100000 := by
  rw [txt_len]
  exact Nat.le_trans (m.sl (by omega)) (by decide)
theorem tx_lG {B : Nat → Nat} {h : gaH} {st : GSt} {no : Int} {x : Int} {b : Bool} (m : gM B h st no) (q : okG x) : (txt (gWd (st.T x.toNat) b)).length ≤ 100000 := by
  rw [txt_len]
  exact Nat.le_trans (gWd_le (m.ok (by omega)) b) (by decide)
theorem tx_lT {B : Nat → Nat} {h : gaH} {st : GSt} {no : Int} {x : Int} (m : gM B h st no) (q : okG x) : (ttx (st.T x.toNat)).length ≤ 100000 := by
  rw [ttx_len]
  have := (m.ok (g := x.toNat) (by omega)).len
  omega
