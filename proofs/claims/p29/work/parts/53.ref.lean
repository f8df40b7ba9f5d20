/-! The reference: growths by rules and by their line; twos. -/
theorem phi_take_drop (ts : List Nat) (hok : gOk ts) (i : Nat) : (phi (ts.drop i) [false]).length ≤ 64 := by
  have h1 : (grw ts).2 = phi ts [false] := by rw [grw_phi _ ts rfl hok.1]
  have h2 := hok.2
  have h3 : phi ts [false] = phi (ts.take i) (phi (ts.drop i) [false]) := by rw [← phi_split, List.take_append_drop]
  have h4 := phi_ge (ts.take i) (fun x hx => hok.1 x (List.mem_of_mem_take hx)) (phi (ts.drop i) [false])
  rw [h1, h3] at h2
  omega
theorem phi_drop {ts : List Nat} {i : Nat} (hi : i < ts.length) (w : List Bool) : phi (ts.drop i) w = img (codeW (cf (ts.getD i 0))) (codeW 2) (phi (ts.drop (i + 1)) w) := by
  rw [List.drop_eq_getElem_cons hi, List.getD_eq_getElem?_getD, List.getElem?_eq_getElem hi]; rfl
section RL
variable {B : Nat → Nat} {h h0 : gaH} {st : GSt} {no : Int} {a b o : Nat} {u v : List Bool} {w g : Nat}
theorem r_byRules_L {Q : Nat → gaH → Prop} (hg : g < 2) (k : ∀ h' o, mK h0 h' → h0 o = none → mR h' o (grw (st.T g)).2 → Q o h') : ∀ (n i p : Nat) (h : gaH) (kc ks : Nat), gM B h st no → mK h0 h → h0 p = none → mR h p (phi ((st.T g).drop i) [false]) → i ≤ (st.T g).length → i < n → 3 * i ≤ kc → 288 * i ≤ ks → w_X7_byRules_L17 Q n (B 0) (g : Int) p ((i : Int) - 1) h kc ks
  | 0, _, _, _, _, _, _, _, _, _, _, h9, _, _ => absurd h9 (Nat.not_lt_zero _)
  | n + 1, i, p, h, kc, ks, d, kp, np, rp, hi, h9, hc, hs => by
    have hok := d.ok hg
    have hl := hok.len
    unfold w_X7_byRules_L17
    (first | refine And.intro (show gR _ from by first | assumption | omega | decide | exact b2i_R _ | exact gR_of (by omega) (by omega)) ?_ | refine And.intro (show gHas _ _ _ from by first | exact gW.has (gD.w (by assumption)) (by omega) | exact gD.has (by assumption) | exact gRu.has (gD.ru (by assumption)) | exact gGr.has (gD.gr (by assumption) _ (by omega))) ?_ | refine gCall_mk (by decide) (by decide) ?_ | refine if_yes (by first | assumption | omega | decide | exact b2i_R _ | exact gR_of (by omega) (by omega)) ?_ | refine if_no (by first | assumption | omega | decide | exact b2i_R _ | exact gR_of (by omega) (by omega)) ?_)
    by_cases q : i = 0
    · subst q
      refine if_yes (by decide) (k h p kp np ?_)
      rw [List.drop_zero] at rp
      rw [grw_phi _ (st.T g) rfl hok.1]; exact rp
    · have ht := hok.tn (i := i - 1) (by omega)
      have hw := phi_take_drop (st.T g) hok i
      have hw2 := phi_take_drop (st.T g) hok (i - 1)
      have e := phi_drop (ts := st.T g) (i := i - 1) (by omega) [false]
      rw [show i - 1 + 1 = i by omega] at e
      rw [e] at hw2
      refine if_no (by omega) (d.f1 (d.tr rfl hg (d.tn hg (i := i - 1) (by omega) (by omega) (gCall_mk (by omega) (by omega) ?_))))
      have ec : gShl 2 (((st.T g).getD (i - 1) 0 : Nat) : Int) + 1 = ((cf ((st.T g).getD (i - 1) 0) : Nat) : Int) := by
        rcases (show (st.T g).getD (i - 1) 0 = 1 ∨ (st.T g).getD (i - 1) 0 = 2 ∨ (st.T g).getD (i - 1) 0 = 3 by omega) with e | e | e <;> rw [e] <;> decide +kernel
      obtain ⟨c1, c2, -, -⟩ := cf_len ht
      have c3 : 1 ≤ cf ((st.T g).getD (i - 1) 0) := by unfold cf; split; decide; split; decide; split; decide; omega
      have c4 : (codeW (cf ((st.T g).getD (i - 1) 0))).length ≤ 16 := codeL_len 16 _
      rw [ec]
      refine r_ofCode rfl c3 c2 (fun x h1 f1 => gCall_mk (by omega) (by omega) (r_ofCode (c := 2) rfl (by decide) (by decide) (fun y h2 f2 => gCall_mk (by omega) (by omega) ?_)))
      refine r_image (rp.on (f1.2.1.tr f2.2.1)) (f1.2.2.on f2.2.1) f2.2.2 (by omega) (by omega) (by decide) (by omega) (fun z h3 f3 => ?_)
      rw [show (i : Int) - 1 + -1 = ((i - 1 : Nat) : Int) - 1 by omega]
      have kk := f1.2.1.tr (f2.2.1.tr f3.2.1)
      exact r_byRules_L hg k n (i - 1) z h3 _ _ (d.kp kk) (kp.tr kk) ((kp.tr (f1.2.1.tr f2.2.1)).non f3.1) (by rw [e]; exact f3.2.2) (by omega) (by omega) (by omega) (by omega)
theorem r_byRules {Q : Nat → gaH → Prop} (d : gM B h st no) (hg : g < 2) {x : Int} (hx : x = (g : Int)) (k : ∀ h' o, mK h h' → h o = none → mR h' o (grw (st.T g)).2 → Q o h') : w_X7_byRules (B 0) x h Q := by
  subst hx
  have hl := (d.ok hg).len
  unfold w_X7_byRules
  refine fil.new (n := 1) rfl (by decide) (by decide) (by decide) (fun p h1 f1 => f1.set (i := 0) rfl (by decide) (by decide) (b := false) rfl (fun h2 f2 => ?_))
  have d2 := d.kp f2.2.1
  refine d2.f2 (d2.ct rfl hg ⟨66, ?_⟩)
  refine r_byRules_L hg k 66 _ p h2 _ _ d2 f2.2.1 f2.1 ?_ (Nat.le_refl _) (by omega) (by omega) (by omega)
  rw [List.drop_length]; exact f2.2.2
theorem r_lineSign {Q : Int → gaH → Prop} {n p s i : Nat} (hn : 0 < n) (hb : n ≤ 1000) (hp : p ≤ 1000) (hs : s ≤ 1000) (hi : i ≤ 1000) {x1 x2 x3 x4 : Int} (h1 : x1 = (n : Int)) (h2 : x2 = (p : Int)) (h3 : x3 = (s : Int)) (h4 : x4 = (i : Int)) (k : Q (b2i (lineB n p s i)) h) : w_X7_lineSign x1 x2 x3 x4 h Q := by
  subst h1; subst h2; subst h3; subst h4
  have hm : i * p ≤ 1000 * 1000 := Nat.mul_le_mul hi hp
  have e1 : (i : Int) * (p : Int) + (s : Int) = ((i * p + s : Nat) : Int) := by push_cast; rfl
  have hr := Nat.mod_lt (i * p + s) hn
  unfold w_X7_lineSign
  rw [e1, gRem_nat (by omega) (by omega)]
  refine ⟨by omega, by omega, by omega, by omega, ?_⟩
  unfold lineB at k
  by_cases q : n ≤ (i * p + s) % n + p
  · rw [decide_eq_true q] at k
    refine if_no (by omega) ?_
    exact ⟨by decide, if_no (by decide) k⟩
  · rw [decide_eq_false q] at k
    refine if_yes (by omega) ?_
    exact ⟨by decide, if_yes rfl k⟩
def mI (h : gaH) (a : Nat) (x y : Int) : Prop := h a = some (102, [gi x, gi y])
theorem mI.a0 {x y : Int} (r : mI h a x y) {K : Int → Prop} (k : K x) : gLI h a 102 0 K := gLI_mk r (by decide) (by decide) rfl k
theorem mI.a1 {x y : Int} (r : mI h a x y) {K : Int → Prop} (k : K y) : gLI h a 102 1 K := gLI_mk r (by decide) (by decide) rfl k
theorem mI.on {h' : gaH} {x y : Int} (r : mI h a x y) (k : mK h h') : mI h' a x y := k _ _ r
theorem byL_len {ts : List Nat} (hne : ts ≠ []) (h2 : 2 ≤ (nums ts).2.2.1) : (byL ts).length = (nums ts).2.2.1 := by
  unfold byL
  rw [if_neg hne]; simp; omega
theorem r_byLine_L132 {Q : Nat → gaH → Prop} {ts : List Nat} (hg : g < 2) (e0 : ts = st.T g) (hne : ts ≠ []) {v3 : Nat} {x : Int} (h2 : 2 ≤ (nums ts).2.2.1) (h64 : (nums ts).2.2.1 ≤ 64) (hp : (nums ts).2.2.2 ≤ 64) (k : ∀ h' , fil h0 h' o (byL ts) → Q o h') (d0 : gM B h0 st no) (rv : mI h0 v3 x ((nums ts).2.2.2 : Int)) {kc ks : Nat} : ∀ (z i : Nat) (h : gaH), fil h0 h o (pf (byL ts) i) → i ≤ (nums ts).2.2.1 - 2 → (nums ts).2.2.1 - 2 - i < z → w_X7_byLine_L132 Q z (B 0) (g : Int) v3 ((nums ts).2.2.1 : Int) o (i : Int) h kc ks
  | 0, _, _, _, _, h9 => absurd h9 (Nat.not_lt_zero _)
  | z + 1, i, h, fl, hi, h9 => by
    have hT := byL_len hne h2
    have hl : ts.length ≤ 63 := by rw [e0]; exact (d0.ok hg).len
    have d := d0.kp fl.2.1
    have er : gRem ((ts.length : Nat) : Int) 2 = ((ts.length % 2 : Nat) : Int) := gRem_nat (b := 2) (by omega) (by decide)
    unfold w_X7_byLine_L132
    (first | refine And.intro (show gR _ from by first | assumption | omega | decide | exact b2i_R _ | exact gR_of (by omega) (by omega)) ?_ | refine And.intro (show gHas _ _ _ from by first | exact gW.has (gD.w (by assumption)) (by omega) | exact gD.has (by assumption) | exact gRu.has (gD.ru (by assumption)) | exact gGr.has (gD.gr (by assumption) _ (by omega))) ?_ | refine gCall_mk (by decide) (by decide) ?_ | refine if_yes (by first | assumption | omega | decide | exact b2i_R _ | exact gR_of (by omega) (by omega)) ?_ | refine if_no (by first | assumption | omega | decide | exact b2i_R _ | exact gR_of (by omega) (by omega)) ?_); (first | refine And.intro (show gR _ from by first | assumption | omega | decide | exact b2i_R _ | exact gR_of (by omega) (by omega)) ?_ | refine And.intro (show gHas _ _ _ from by first | exact gW.has (gD.w (by assumption)) (by omega) | exact gD.has (by assumption) | exact gRu.has (gD.ru (by assumption)) | exact gGr.has (gD.gr (by assumption) _ (by omega))) ?_ | refine gCall_mk (by decide) (by decide) ?_ | refine if_yes (by first | assumption | omega | decide | exact b2i_R _ | exact gR_of (by omega) (by omega)) ?_ | refine if_no (by first | assumption | omega | decide | exact b2i_R _ | exact gR_of (by omega) (by omega)) ?_)
    by_cases q : (nums ts).2.2.1 - 2 ≤ i
    · obtain rfl : i = (nums ts).2.2.1 - 2 := by omega
      refine if_yes (by omega) (d.f2 (d.ct rfl hg ?_))
      rw [← e0, er]
      have at1 : (byL ts).getD ((nums ts).2.2.1 - 2) false = decide (ts.length % 2 = 0) := by
        unfold byL
        rw [if_neg hne, List.getD_eq_getElem?_getD, List.getElem?_append_right (by simp)]
        simp
      have at2 : (byL ts).getD ((nums ts).2.2.1 - 2 + 1) false = decide (ts.length % 2 = 1) := by
        unfold byL
        rw [if_neg hne, List.getD_eq_getElem?_getD, List.getElem?_append_right (by simp)]
        simp
      have fin : ∀ c : Int, c = b2i (decide (ts.length % 2 = 0)) → w_X7_byLine_J187 Q (B 0) (g : Int) ((nums ts).2.2.1 : Int) o o (((nums ts).2.2.1 : Int) - 2) c h kc ks := by
        intro c hc
        unfold w_X7_byLine_J187
        have one : ∀ {K : Int → gaH → Prop} {c : Int} {b : Bool} {h : gaH}, c = b2i b → K (b2i b) h → w_X7_one c h K := fun {K c b h} hc k => by
          subst hc
          cases b
          · exact ⟨by decide, if_yes rfl k⟩
          · exact ⟨by decide, if_no (by decide) k⟩
        refine one hc (fl.set (i := (nums ts).2.2.1 - 2) (by omega) (by rw [pf_len (by omega)]; omega) (by rw [pf_len (by omega)]; omega) rfl (fun h3 f3 => ?_))
        rw [← at1, pf_set (by omega)] at f3
        have d3 := d0.kp f3.2.1
        refine d3.f2 (d3.ct rfl hg ?_)
        rw [← e0, er]
        have fin2 : ∀ c : Int, c = b2i (decide (ts.length % 2 = 1)) → w_X7_byLine_J213 Q o o (((nums ts).2.2.1 : Int) - 1) c h3 kc ks := by
          intro c hc
          unfold w_X7_byLine_J213
          refine one hc (f3.set (i := (nums ts).2.2.1 - 2 + 1) (by omega) (by rw [pf_len (by omega)]; omega) (by rw [pf_len (by omega)]; omega) rfl (fun h4 f4 => ?_))
          rw [← at2, pf_set (by omega)] at f4
          rw [show (nums ts).2.2.1 - 2 + 1 + 1 = (byL ts).length by omega, pf_end] at f4
          exact k h4 f4
        refine ⟨by omega, ?_⟩
        rcases Nat.mod_two_eq_zero_or_one ts.length with e | e
        · exact if_yes (by omega) (fin2 0 (by rw [e]; rfl))
        · exact if_no (by omega) (fin2 1 (by rw [e]; rfl))
      refine ⟨by omega, ?_⟩
      rcases Nat.mod_two_eq_zero_or_one ts.length with e | e
      · exact if_yes (by omega) (fin 1 (by rw [e]; rfl))
      · exact if_no (by omega) (fin 0 (by rw [e]; rfl))
    · refine if_no (by omega) ((rv.on fl.2.1).a1 (r_lineSign (n := (nums ts).2.2.1) (p := (nums ts).2.2.2) (s := 0) (i := i + 1) (by omega) (by omega) (by omega) (by omega) (by omega) rfl rfl rfl (by omega) ?_))
      have at0 : (byL ts).getD i false = lineB (nums ts).2.2.1 (nums ts).2.2.2 0 (i + 1) := by
        unfold byL
        rw [if_neg hne, List.getD_eq_getElem?_getD, List.getElem?_append_left (by simp; omega)]
        simp [show i < (nums ts).2.2.1 - 2 by omega]
      refine fl.set rfl (by rw [pf_len (by omega)]; omega) (by rw [pf_len (by omega)]; omega) rfl (fun h3 f3 => ?_)
      rw [← at0, pf_set (by omega)] at f3
      rw [show (i : Int) + 1 = ((i + 1 : Nat) : Int) by omega]
      exact r_byLine_L132 hg e0 hne h2 h64 hp k d0 rv z (i + 1) h3 f3 (by omega) (by omega)
theorem pair_new {c s : Nat} {K : Nat → gaH → Nat → Nat → Prop} (h2 : 1 ≤ c) (h3 : 2 ≤ s) (k : ∀ o, h o = none → K o (gaUp h o (102, [gi 0, gi 0])) (c - 1) (s - 2)) : gNA h 102 (gi 0) 2 c s K := gNA_mk (n := 2) rfl (by decide) h2 h3 k
theorem pair_set0 {K : gaH → Prop} {p q x : Int} (r : h o = some (102, [gi p, gi q])) (k : K (gaUp h o (102, [gi x, gi q]))) : gSI h o 102 0 (gi x) K := gSI_mk r (by decide) (by decide) (by simp) k
theorem pair_set1 {K : gaH → Prop} {p q x : Int} (r : h o = some (102, [gi p, gi q])) (k : K (gaUp h o (102, [gi p, gi x]))) : gSI h o 102 1 (gi x) K := gSI_mk r (by decide) (by decide) (by simp) k
theorem mK.up2 {h1 : gaH} (x : mK h h1) {o : Nat} (ho : h o = none) (e : gaE) : mK h (gaUp h1 o e) := x.up ho e
theorem nums_ok {ts : List Nat} (hok : gOk ts) : (nums ts).1 ≤ 64 ∧ (nums ts).2.1 ≤ 64 ∧ (nums ts).2.2.1 ≤ 64 ∧ (nums ts).2.2.2 ≤ 64 := by
  rw [nums_grw _ ts rfl]
  have h1 := hok.2
  have h2 := hok.elder
  have h3 := ones_le (grw ts).1
  have h4 := ones_le (grw ts).2
  exact ⟨h2, Nat.le_trans h3 h2, h1, Nat.le_trans h4 h1⟩
theorem r_byLine_L44 {Q : Nat → gaH → Prop} (hg : g < 2) (hne : st.T g ≠ []) (k : ∀ h' o, mK h0 h' → h0 o = none → mR h' o (byL (st.T g)) → Q o h') : ∀ (n i p q : Nat) (h : gaH) (kc ks : Nat), gM B h st no → mK h0 h → mI h p ((nums ((st.T g).take i)).1 : Int) ((nums ((st.T g).take i)).2.2.1 : Int) → mI h q ((nums ((st.T g).take i)).2.1 : Int) ((nums ((st.T g).take i)).2.2.2 : Int) → i ≤ (st.T g).length → (st.T g).length - i < n → 2 * ((st.T g).length - i) + 1 ≤ kc → 4 * ((st.T g).length - i) + 64 ≤ ks → w_X7_byLine_L44 Q n (B 0) (g : Int) p q (i : Int) h kc ks
  | 0, _, _, _, _, _, _, _, _, _, _, _, h9, _, _ => absurd h9 (Nat.not_lt_zero _)
  | n + 1, i, p, q, h, kc, ks, d, kp, rp, rq, hi, h9, hc, hs => by
    have hok := d.ok hg
    have hl := hok.len
    unfold w_X7_byLine_L44
    refine d.f2 (d.ct rfl hg ?_)
    (first | refine And.intro (show gR _ from by first | assumption | omega | decide | exact b2i_R _ | exact gR_of (by omega) (by omega)) ?_ | refine And.intro (show gHas _ _ _ from by first | exact gW.has (gD.w (by assumption)) (by omega) | exact gD.has (by assumption) | exact gRu.has (gD.ru (by assumption)) | exact gGr.has (gD.gr (by assumption) _ (by omega))) ?_ | refine gCall_mk (by decide) (by decide) ?_ | refine if_yes (by first | assumption | omega | decide | exact b2i_R _ | exact gR_of (by omega) (by omega)) ?_ | refine if_no (by first | assumption | omega | decide | exact b2i_R _ | exact gR_of (by omega) (by omega)) ?_); (first | refine And.intro (show gR _ from by first | assumption | omega | decide | exact b2i_R _ | exact gR_of (by omega) (by omega)) ?_ | refine And.intro (show gHas _ _ _ from by first | exact gW.has (gD.w (by assumption)) (by omega) | exact gD.has (by assumption) | exact gRu.has (gD.ru (by assumption)) | exact gGr.has (gD.gr (by assumption) _ (by omega))) ?_ | refine gCall_mk (by decide) (by decide) ?_ | refine if_yes (by first | assumption | omega | decide | exact b2i_R _ | exact gR_of (by omega) (by omega)) ?_ | refine if_no (by first | assumption | omega | decide | exact b2i_R _ | exact gR_of (by omega) (by omega)) ?_)
    by_cases q1 : (st.T g).length ≤ i
    · rw [List.take_of_length_le q1] at rp rq
      obtain ⟨n1, n2, n3, n4⟩ := nums_ok hok
      have hn2 : 2 ≤ (nums (st.T g)).2.2.1 := by
        rw [nums_grw _ (st.T g) rfl]
        have := (grw_len _ (st.T g) rfl hok.1).1
        have := List.length_pos_iff.mpr hne
        show 2 ≤ (grw (st.T g)).2.length
        omega
      refine if_yes (by omega) (rp.a1 (fil.new (n := (nums (st.T g)).2.2.1) rfl (by omega) (by omega) (by omega) (fun o h1 f1 => ⟨66, ?_⟩)))
      refine r_byLine_L132 hg rfl hne hn2 n3 n4 (fun h' f' => k h' o (kp.tr f'.2.1) (kp.non f'.1) f'.2.2) d rq 66 0 h1 ?_ (Nat.zero_le _) (by omega)
      rw [pf_0, byL_len hne hn2]; exact f1
    · have o0 := hok.take _ i (Nat.le_refl _)
      obtain ⟨n1, n2, n3, n4⟩ := nums_ok o0
      have ht := hok.tn (i := i) (by omega)
      have en : nums ((st.T g).take (i + 1)) = nstep (nums ((st.T g).take i)) ((st.T g).getD i 0) := by rw [take_snoc (by omega), nums_app]
      refine if_no (by omega) (d.f1 (d.tr rfl hg (d.tn hg rfl (by omega) (pair_new (by omega) (by omega) (fun o ho => ?_)))))
      have k1 : mK h (gaUp h o (102, [gi 0, gi 0])) := mK.rf.up ho _
      refine (rp.on k1).a1 (pair_set0 (gaUp_self _ _ _) ?_)
      have k2 := k1.up ho (102, [gi ((nums ((st.T g).take i)).2.2.1 : Int), gi 0])
      refine (rp.on k2).a1 ((rp.on k2).a0 (pair_set1 (gaUp_self _ _ _) ?_))
      have k3 := k2.up ho (102, [gi ((nums ((st.T g).take i)).2.2.1 : Int), gi ((((st.T g).getD i 0 : Nat) : Int) * ((nums ((st.T g).take i)).2.2.1 : Int) + ((nums ((st.T g).take i)).1 : Int))])
      have ro : mI (gaUp (gaUp (gaUp h o (102, [gi 0, gi 0])) o (102, [gi ((nums ((st.T g).take i)).2.2.1 : Int), gi 0])) o (102, [gi ((nums ((st.T g).take i)).2.2.1 : Int), gi ((((st.T g).getD i 0 : Nat) : Int) * ((nums ((st.T g).take i)).2.2.1 : Int) + ((nums ((st.T g).take i)).1 : Int))])) o _ _ := gaUp_self _ _ _
      generalize gaUp (gaUp (gaUp h o (102, [gi 0, gi 0])) o (102, [gi ((nums ((st.T g).take i)).2.2.1 : Int), gi 0])) o (102, [gi ((nums ((st.T g).take i)).2.2.1 : Int), gi ((((st.T g).getD i 0 : Nat) : Int) * ((nums ((st.T g).take i)).2.2.1 : Int) + ((nums ((st.T g).take i)).1 : Int))]) = h3 at k3 ro ⊢
      refine pair_new (by omega) (by omega) (fun o2 ho2 => ?_)
      have k4 : mK h3 (gaUp h3 o2 (102, [gi 0, gi 0])) := mK.rf.up ho2 _
      refine (rq.on (k3.tr k4)).a1 (pair_set0 (gaUp_self _ _ _) ?_)
      have k5 := k4.up ho2 (102, [gi ((nums ((st.T g).take i)).2.2.2 : Int), gi 0])
      refine (rq.on (k3.tr k5)).a1 ((rq.on (k3.tr k5)).a0 (pair_set1 (gaUp_self _ _ _) ?_))
      have k6 := k5.up ho2 (102, [gi ((nums ((st.T g).take i)).2.2.2 : Int), gi ((((st.T g).getD i 0 : Nat) : Int) * ((nums ((st.T g).take i)).2.2.2 : Int) + ((nums ((st.T g).take i)).2.1 : Int))])
      rw [show (i : Int) + 1 = ((i + 1 : Nat) : Int) by omega]
      refine r_byLine_L44 hg hne k n (i + 1) o o2 _ _ _ (d.kp (k3.tr k6)) (kp.tr (k3.tr k6)) ?_ ?_ (by omega) (by omega) (by omega) (by omega)
      · rw [en]
        have := ro.on k6
        simp only [nstep]
        push_cast
        exact this
      · rw [en]
        simp only [nstep]
        push_cast
        exact gaUp_self _ _ _
theorem r_byLine {Q : Nat → gaH → Prop} (d : gM B h st no) (hg : g < 2) {x : Int} (hx : x = (g : Int)) (k : ∀ h' o, mK h h' → h o = none → mR h' o (byL (st.T g)) → Q o h') : w_X7_byLine (B 0) x h Q := by
  subst hx
  have hl := (d.ok hg).len
  unfold w_X7_byLine
  refine d.f2 (d.ct rfl hg ⟨by omega, ?_⟩)
  by_cases q : st.T g = []
  · refine if_yes (by rw [q]; rfl) (fil.new (n := 1) rfl (by decide) (by decide) (by decide) (fun p h1 f1 => f1.set (i := 0) rfl (by decide) (by decide) (b := false) rfl (fun h2 f2 => k h2 p f2.2.1 f2.1 ?_)))
    have e : byL (st.T g) = [false] := by rw [q]; rfl
    rw [e]; exact f2.2.2
  · have hp : 0 < (st.T g).length := List.length_pos_iff.mpr q
    refine if_no (by omega) (pair_new (by decide) (by decide) (fun o ho => pair_set0 (gaUp_self _ _ _) (pair_set1 (gaUp_self _ _ _) ?_)))
    have k3 := ((mK.rf (h := h)).up ho (102, [gi 0, gi 0])).up ho (102, [gi 1, gi 0]) |>.up ho (102, [gi 1, gi 1])
    have ro : mI (gaUp (gaUp (gaUp h o (102, [gi 0, gi 0])) o (102, [gi 1, gi 0])) o (102, [gi 1, gi 1])) o 1 1 := gaUp_self _ _ _
    generalize gaUp (gaUp (gaUp h o (102, [gi 0, gi 0])) o (102, [gi 1, gi 0])) o (102, [gi 1, gi 1]) = h3 at k3 ro ⊢
    refine pair_new (by decide) (by decide) (fun o2 ho2 => pair_set0 (gaUp_self _ _ _) (pair_set1 (gaUp_self _ _ _) ⟨66, ?_⟩))
    have k6 := ((mK.rf (h := h3)).up ho2 (102, [gi 0, gi 0])).up ho2 (102, [gi 1, gi 0]) |>.up ho2 (102, [gi 1, gi 0])
    exact r_byLine_L44 hg q k 66 0 o o2 _ _ _ (d.kp (k3.tr k6)) (k3.tr k6) (ro.on k6) (gaUp_self _ _ _) (Nat.zero_le _) (by omega) (by omega) (by omega)
end RL
