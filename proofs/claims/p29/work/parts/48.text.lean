/-! The garden's texts, as far as they go through. -/
section CT
variable {A : Nat → Nat} {G : gaG} {h h0 : gaH} {U : Nat → List Bool} {st : GSt} {X : String → gaH → Prop} {Q : Nat → gaH → Prop} {w v g b : Nat} {x y z : Int}
/-- all that was there is there -/
theorem gD.kp (d : gD A G h U st) {h' : gaH} (k : ∀ a e, h a = some e → h' a = some e) : gD A G h' U st := by
  obtain ⟨⟨R, N, ⟨i1, i2, m, m1, m2⟩, e⟩, ru, ⟨x1, x2, x3⟩, gr, ok, gw, s, mc, ne⟩ := d
  exact ⟨⟨R, N, ⟨i1, fun w hw => ⟨(i2 w hw).1, (i2 w hw).2.1, k _ _ (i2 w hw).2.2.1, k _ _ (i2 w hw).2.2.2⟩, m, m1, k _ _ m2⟩, e⟩, k _ _ ru, ⟨k _ _ x1, k _ _ x2, k _ _ x3⟩, fun g hg => by
    obtain ⟨a0, row, a1, a2, a3, a4⟩ := gr g hg
    exact ⟨k _ _ a0, row, a1, a2, k _ _ a3, a4⟩, ok, gw, s, k _ _ mc, ne⟩
theorem gFr.kp {h h' : gaH} (k : ∀ a e, h a = some e → h' a = some e) : gFr A h h' := fun a e _ q => k a e q
theorem s_textOf_L (hw : w < 11) (d0 : gD A G h0 U st) (k : ∀ h' o, (∀ a e, h0 a = some e → h' a = some e) → h0 o = none → Q o h') : ∀ (n i : Nat) (h : gaH) (kc ks : Nat), sbd h0 h b i → i ≤ (U w).length → (U w).length - i < n → 2 * ((U w).length - i) + 5 ≤ kc → 134 * ((U w).length - i) + 272 ≤ ks → w_X1_textOf_L10 G Q n (A w) b (i : Int) h kc ks
  | 0, _, _, _, _, _, _, h1, _, _ => absurd h1 (Nat.not_lt_zero _)
  | n + 1, i, h, kc, ks, sb, hi, h1, hc, hs => by
    have kp : ∀ a e, h0 a = some e → h a = some e := by obtain ⟨_, _, _, _, _, _, _, _, _, _, q⟩ := sb; exact q
    have d := d0.kp kp
    have l1 := d.w.le hw
    unfold w_X1_textOf_L10
    refine d.w.many hw ?_
    refine ⟨by omega, by omega, ?_⟩
    by_cases q : (U w).length ≤ i
    · refine if_yes (by omega) ⟨sb.has, gCall_mk (by omega) (by omega) (sb_toString sb (by omega) k)⟩
    · refine if_no (by omega) ⟨d.w.has hw, s_isUp d.w hw rfl (by omega) ⟨b2i_R _, ?_⟩⟩
      have go : ∀ c : Int, 0 ≤ c → c ≤ 127 → w_X1_textOf_J34 G Q (w_X1_textOf_L10 G Q n) (A w) b (i : Int) b c h kc ks := fun c c1 c2 => by
        unfold w_X1_textOf_J34
        refine ⟨sb.has, gCall_mk (by omega) (by omega) (sb_char sb (by omega) c1 c2 (fun h' s' => ?_))⟩
        rw [show (i : Int) + 1 = ((i + 1 : Nat) : Int) by omega]
        exact s_textOf_L hw d0 k n (i + 1) h' _ _ s' (by omega) (by omega) (by omega) (by omega)
      exact ite_both (fun _ => go 97 (by decide) (by decide)) (fun _ => go 98 (by decide) (by decide))
theorem s_textOf (hw : w < 11) (d0 : gD A G h0 U st) (k : ∀ h' o, (∀ a e, h0 a = some e → h' a = some e) → h0 o = none → Q o h') : w_X1_textOf G (A w) h0 Q := by
  have l1 := d0.w.le hw
  unfold w_X1_textOf
  refine gNO_mk (by decide) (by decide) (fun o ho => gCall_mk (by decide) (by decide) (sb_init ho (fun h' sb => ⟨66, ?_⟩)))
  exact s_textOf_L hw d0 k 66 0 h' _ _ sb (Nat.zero_le _) (by omega) (by omega) (by omega)
theorem c_text (d : gD A G h U st) (hx : gR x) (e : ¬ okS x → X eI h) (k : okS x → ∀ h' o, (∀ a e, h a = some e → h' a = some e) → h o = none → Q o h') : w_X5_text G X (A 22) x h Q := by
  unfold w_X5_text
  (first | refine And.intro (show gR _ from by first | assumption | omega | decide | exact b2i_R _ | exact gR_of (by omega) (by omega)) ?_ | refine And.intro (show gHas _ _ _ from by first | exact gW.has (gD.w (by assumption)) (by omega) | exact gD.has (by assumption) | exact gRu.has (gD.ru (by assumption)) | exact gGr.has (gD.gr (by assumption) _ (by omega))) ?_ | refine gCall_mk (by decide) (by decide) ?_ | refine if_yes (by first | assumption | omega | decide | exact b2i_R _ | exact gR_of (by omega) (by omega)) ?_ | refine if_no (by first | assumption | omega | decide | exact b2i_R _ | exact gR_of (by omega) (by omega)) ?_)
  refine gCall_mk (by decide) (by decide) (c_wordOf d hx e (fun w hw e => gCall_mk (by decide) (by decide) (s_textOf (by omega) d (k (by omega)))))
theorem c_grown (d : gD A G h U st) (hx : gR x) (hy : y = 0 ∨ y = 1) (e : ¬ okG x → X eI h) (k : okG x → ∀ h' o, (∀ a e, h a = some e → h' a = some e) → h o = none → Q o h') : w_X5_grown G X (A 22) x y h Q := by
  unfold w_X5_grown
  (first | refine And.intro (show gR _ from by first | assumption | omega | decide | exact b2i_R _ | exact gR_of (by omega) (by omega)) ?_ | refine And.intro (show gHas _ _ _ from by first | exact gW.has (gD.w (by assumption)) (by omega) | exact gD.has (by assumption) | exact gRu.has (gD.ru (by assumption)) | exact gGr.has (gD.gr (by assumption) _ (by omega))) ?_ | refine gCall_mk (by decide) (by decide) ?_ | refine if_yes (by first | assumption | omega | decide | exact b2i_R _ | exact gR_of (by omega) (by omega)) ?_ | refine if_no (by first | assumption | omega | decide | exact b2i_R _ | exact gR_of (by omega) (by omega)) ?_)
  refine gCall_mk (by decide) (by decide) (c_growthOf d hx e (fun g hg e => ?_))
  (first | refine And.intro (show gR _ from by first | assumption | omega | decide | exact b2i_R _ | exact gR_of (by omega) (by omega)) ?_ | refine And.intro (show gHas _ _ _ from by first | exact gW.has (gD.w (by assumption)) (by omega) | exact gD.has (by assumption) | exact gRu.has (gD.ru (by assumption)) | exact gGr.has (gD.gr (by assumption) _ (by omega))) ?_ | refine gCall_mk (by decide) (by decide) ?_ | refine if_yes (by first | assumption | omega | decide | exact b2i_R _ | exact gR_of (by omega) (by omega)) ?_ | refine if_no (by first | assumption | omega | decide | exact b2i_R _ | exact gR_of (by omega) (by omega)) ?_)
  exact s_wordBy (d.gr g hg) hy (fun _ => gCall_mk (by decide) (by decide) (s_textOf (by omega) d (k (by omega)))) (fun _ => gCall_mk (by decide) (by decide) (s_textOf (by omega) d (k (by omega))))
theorem s_turns_L (hg : g < 2) (d0 : gD A G h0 U st) (m3 : h0 (G.2.2.2 1) = some (1101, gaOnes)) (k : ∀ h' o, (∀ a e, h0 a = some e → h' a = some e) → h0 o = none → Q o h') : ∀ (n i : Nat) (h : gaH) (kc ks : Nat), sbd h0 h b i → i ≤ (st.T g).length → (st.T g).length - i < n → 2 * ((st.T g).length - i) + 5 ≤ kc → 134 * ((st.T g).length - i) + 272 ≤ ks → w_X5_turns_L17 G X Q n (A (26 + g)) b (i : Int) h kc ks
  | 0, _, _, _, _, _, _, h1, _, _ => absurd h1 (Nat.not_lt_zero _)
  | n + 1, i, h, kc, ks, sb, hi, h1, hc, hs => by
    have kp : ∀ a e, h0 a = some e → h a = some e := by obtain ⟨_, _, _, _, _, _, _, _, _, _, q⟩ := sb; exact q
    have d := d0.kp kp
    have l1 := (d.ok g hg).len
    unfold w_X5_turns_L17
    refine (d.gr g hg).ct ⟨by omega, by omega, ?_⟩
    by_cases q : (st.T g).length ≤ i
    · refine if_yes (by omega) ⟨sb.has, gCall_mk (by omega) (by omega) (sb_toString sb (by omega) k)⟩
    · refine if_no (by omega) ⟨(d.gr g hg).has, s_turnAt (d.gr g hg) rfl (by omega) ⟨sb.has, gCall_mk (by omega) (by omega) (sb_turn sb (by omega) m3 ?_ (fun h' s' => ?_))⟩⟩
      · have hm : (st.T g).getD i 0 ∈ st.T g := by
          rw [List.getD_eq_getElem?_getD, List.getElem?_eq_getElem (by omega)]
          exact List.getElem_mem _
        exact (d.ok g hg).1 _ hm
      · rw [show (i : Int) + 1 = ((i + 1 : Nat) : Int) by omega]
        exact s_turns_L hg d0 m3 k n (i + 1) h' _ _ s' (by omega) (by omega) (by omega) (by omega)
theorem c_turns (d : gD A G h U st) (hx : gR x) (m3 : h (G.2.2.2 1) = some (1101, gaOnes)) (e : ¬ okG x → X eI h) (k : okG x → ∀ h' o, (∀ a e, h a = some e → h' a = some e) → h o = none → Q o h') : w_X5_turns G X (A 22) x h Q := by
  unfold w_X5_turns
  (first | refine And.intro (show gR _ from by first | assumption | omega | decide | exact b2i_R _ | exact gR_of (by omega) (by omega)) ?_ | refine And.intro (show gHas _ _ _ from by first | exact gW.has (gD.w (by assumption)) (by omega) | exact gD.has (by assumption) | exact gRu.has (gD.ru (by assumption)) | exact gGr.has (gD.gr (by assumption) _ (by omega))) ?_ | refine gCall_mk (by decide) (by decide) ?_ | refine if_yes (by first | assumption | omega | decide | exact b2i_R _ | exact gR_of (by omega) (by omega)) ?_ | refine if_no (by first | assumption | omega | decide | exact b2i_R _ | exact gR_of (by omega) (by omega)) ?_)
  refine gCall_mk (by decide) (by decide) (c_growthOf d hx e (fun g hg e => gNO_mk (by decide) (by decide) (fun o ho => gCall_mk (by decide) (by decide) (sb_init ho (fun h' sb => ⟨66, ?_⟩)))))
  have l1 := (d.ok g hg).len
  exact s_turns_L hg d m3 (k (by omega)) 66 0 h' _ _ sb (Nat.zero_le _) (by omega) (by omega) (by omega)
end CT
