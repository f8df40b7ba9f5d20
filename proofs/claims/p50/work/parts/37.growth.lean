/-! Growths: back, by rules, by their line. -/
section PH
variable {A : Nat → Nat} {h : gaH} {U : Nat → List Bool} {w v g : Nat} {ts : List Nat} {G : gaG}
theorem s_codeForA (m2 : h (G.2.2.2 0) = some (1102, gaCodes)) {x : Int} {t : Nat} (hx : x = (t : Int)) (ht : t ≤ 3) {Q : Int → gaH → Prop} (k : Q ((cf t : Nat) : Int) h) : w_X0_codeForA G x h Q := by
  subst hx
  unfold w_X0_codeForA
  refine ⟨gR_of (by omega) (by omega), if_no (by omega) ⟨1102, gaCodes, m2, Or.inr rfl, ⟨gR_of (by omega) (by omega), gR_of (by decide) (by decide), if_no (show ¬ ((gaCodes.length : Nat) : Int) ≤ (t : Int) by show ¬ ((4 : Nat) : Int) ≤ _; omega) ⟨1102, gaCodes, ((cf t : Nat) : Int), m2, Or.inr rfl, by omega, by omega, ?_, k⟩⟩⟩⟩
  rw [Int.toNat_natCast]
  rcases (show t = 0 ∨ t = 1 ∨ t = 2 ∨ t = 3 by omega) with rfl | rfl | rfl | rfl <;> rfl
theorem gSm.pc {h' : gaH} {a : Nat} {e : gaE} (s : gSm A h h') (hne : ∀ i, i < 31 → a ≠ A i) (ha : h a = some e) : h' a = some e := (s a (fun w hw => hne w (by omega))).trans ha
theorem s_layByRules_L (hg : g < 2) (hok : gOk ts) (hne : ∀ i, i < 31 → G.2.2.2 0 ≠ A i) (hw : w < 11) (hw3 : w ≠ 3) (hw9 : w < 9) {Q : gaH → Prop} : ∀ (n i : Nat) (h : gaH) (U : Nat → List Bool), gW A h U → gGr A h g ts → gRu A h → h (G.2.2.2 0) = some (1102, gaCodes) → i ≤ ts.length → i < n → U w = phi (ts.drop i) [false] →
    (∀ h' V, gW A h' V → (∀ x, x ≠ w → x ≠ 3 → x ≠ 9 → x ≠ 10 → V x = U x) → V w = phi ts [false] → gSm A h h' → Q h') → w_X0_layByRules_L17 G Q n (A (26 + g)) (A w) (A 3) (A 25) ((i : Int) - 1) h
  | 0, i, h, U, _, _, _, _, _, h1, _, _ => absurd h1 (Nat.not_lt_zero _)
  | n + 1, i, h, U, gw, gr, ru, mc, hi, h1, hu, k => by
    have hA := gw.inj
    have hl := hok.len
    unfold w_X0_layByRules_L17
    refine ⟨gR_of (by omega) (by omega), ?_⟩
    cases i with
    | zero => exact if_yes (by omega) (k h U gw (fun _ _ _ _ _ => rfl) (by rw [hu, List.drop_zero]) gSm.rf)
    | succ i =>
      have e1 : ((i + 1 : Nat) : Int) - 1 = (i : Int) := by omega
      rw [e1]
      have hmem : ts.getD i 0 ∈ ts := by
        rw [List.getD_eq_getElem?_getD, List.getElem?_eq_getElem (by omega)]
        exact List.getElem_mem _
      have ht := hok.1 _ hmem
      obtain ⟨c0, c1, c2, c3⟩ := cf_len ht
      have hd : ts.drop i = ts.getD i 0 :: ts.drop (i + 1) := by
        rw [List.drop_eq_getElem_cons (by omega), List.getD_eq_getElem?_getD, List.getElem?_eq_getElem (by omega)]; rfl
      have hphi : phi (ts.drop i) [false] = img (codeW (cf (ts.getD i 0))) (codeW 2) (U w) := by rw [hd, hu]; rfl
      have hle : (phi (ts.drop i) [false]).length ≤ 64 := by
        have h2 := phi_ge (ts.take i) (fun x hx => hok.1 x (List.mem_of_mem_take hx)) (phi (ts.drop i) [false])
        rw [← phi_split, List.take_append_drop] at h2
        have h3 : (grw ts).2 = phi ts [false] := by rw [grw_phi _ ts rfl hok.1]
        have h4 := hok.2
        rw [h3] at h4
        omega
      refine if_no (by omega) ⟨gr.has, s_turnAt gr rfl (by omega) (s_codeForA mc rfl ht.2 ⟨ru.has, s_ruleTake gw ru rfl (d := 2) rfl c1 (by decide) (fun h1 w1 s1 => ?_)⟩)⟩
      have ru1 := ru.on hA s1
      have n1 : ∀ x, x ≠ 9 → x ≠ 10 → pu (pu U 9 (codeW (cf (ts.getD i 0)))) 10 (codeW 2) x = U x := fun x h9 h10 => by rw [pu_ne _ _ h10, pu_ne _ _ h9]
      have n9 : pu (pu U 9 (codeW (cf (ts.getD i 0)))) 10 (codeW 2) 9 = codeW (cf (ts.getD i 0)) := by rw [pu_ne _ _ (by decide), pu_self]
      have n10 : pu (pu U 9 (codeW (cf (ts.getD i 0)))) 10 (codeW 2) 10 = codeW 2 := pu_self _ _ _
      have hi2 : img (pu (pu U 9 (codeW (cf (ts.getD i 0)))) 10 (codeW 2) 9) (pu (pu U 9 (codeW (cf (ts.getD i 0)))) 10 (codeW 2) 10) (pu (pu U 9 (codeW (cf (ts.getD i 0)))) 10 (codeW 2) w) = phi (ts.drop i) [false] := by rw [n9, n10, n1 w (by omega) (by omega), hphi]
      refine ⟨ru1.has, s_layImage w1 ru1 hw (v := 3) (by decide) (fun q => hw3 q.symm) (by rw [hi2]; exact hle) (fun h2 w2 s2 => ⟨w2.has hw, s_take w2 hw (v := 3) (by decide) (fun h3 w3 s3 => ?_)⟩)⟩
      rw [hi2] at w2 w3
      rw [show (i : Int) + -1 = (i : Int) - 1 by omega]
      have s13 := s1.tr (s2.tr s3)
      refine s_layByRules_L hg hok hne hw hw3 hw9 n i h3 _ w3 (gr.on hA hg s13) (ru.on hA s13) (s13.pc hne mc) (by omega) (by omega) (by rw [pu_self, pu_self]) (fun h' V wV hV e s' => k h' V wV (fun x x1 x2 x3 x4 => ?_) e (s13.tr s'))
      rw [hV x x1 x2 x3 x4, pu_ne _ _ x1, pu_ne _ _ x2, n1 x x3 x4]
theorem s_layByRules (hg : g < 2) (gw : gW A h U) (gr : gGr A h g ts) (ru : gRu A h) (hok : gOk ts) (hne : ∀ i, i < 31 → G.2.2.2 0 ≠ A i) (mc : h (G.2.2.2 0) = some (1102, gaCodes)) (hw3 : w ≠ 3) (hw : w < 9) (hwg : w < 5) {Q : gaH → Prop}
    (k : ∀ h' V, gW A h' V → (∀ x, x ≠ w → x ≠ 3 → x ≠ 9 → x ≠ 10 → V x = U x) → V w = (grw ts).2 → gSm A h h' → Q h') : w_X0_layByRules G (A (26 + g)) (A w) (A 3) (A 25) h Q := by
  have hA := gw.inj
  have h3 : (grw ts).2 = phi ts [false] := by rw [grw_phi _ ts rfl hok.1]
  have hl := hok.len
  unfold w_X0_layByRules
  refine ⟨gw.has (show w < 11 by omega), s_clear gw (show w < 11 by omega) (fun h1 w1 s1 => ⟨w1.has (show w < 11 by omega), s_add w1 (show w < 11 by omega) (by rw [pu_self]; decide) (b := false) rfl (fun h2 w2 s2 => ?_)⟩)⟩
  have s12 := s1.tr s2
  refine (gr.on hA hg s12).ct ⟨65, ?_⟩
  refine s_layByRules_L hg hok hne (show w < 11 by omega) hw3 hw 65 ts.length h2 _ w2 (gr.on hA hg s12) (ru.on hA s12) (s12.pc hne mc) (Nat.le_refl _) (by omega) (by rw [pu_self, pu_self, List.drop_length]; rfl) (fun h' V wV hV e s' => k h' V wV (fun x x1 x2 x3 x4 => by rw [hV x x1 x2 x3 x4, pu_ne _ _ x1, pu_ne _ _ x1]) (by rw [e, h3]) (s12.tr s'))
theorem s_addLineEnd (hg : g < 2) (gw : gW A h U) (gr : gGr A h g ts) (hw : w < 11) (hl : (U w).length + 2 ≤ 64) {Q : gaH → Prop}
    (k : ∀ h', gW A h' (pu U w (U w ++ (if ts = [] then [false] else [decide (ts.length % 2 = 0), decide (ts.length % 2 = 1)]))) → gSm A h h' → Q h') : w_X0_addLineEnd (A (26 + g)) (A w) h Q := by
  have hA := gw.inj
  have hts : ts.length ≤ 63 := by obtain ⟨-, row, -, q, -⟩ := gr; exact q
  have em : gRem (ts.length : Int) 2 = ((ts.length % 2 : Nat) : Int) := gRem_nat (b := 2) (by omega) (by decide)
  unfold w_X0_addLineEnd
  refine gr.ct ?_
  rw [em]
  refine ⟨gR_of (by omega) (by omega), ?_⟩
  have body : ∀ b : Bool, b = decide (ts.length % 2 = 1) → w_X0_addLineEnd_J15 Q (A (26 + g)) (A w) (b2i b) h := by
    intro b hb
    unfold w_X0_addLineEnd_J15
    refine gr.ct ⟨gR_of (by omega) (by omega), ?_⟩
    by_cases q : ts = []
    · rw [if_pos q] at k
      refine if_yes (by rw [q]; decide) ?_
      unfold w_X0_addLineEnd_J36
      have hb0 : b = false := by rw [hb, q]; rfl
      refine ⟨gw.has hw, s_add gw hw (by omega) rfl (fun h1 w1 s1 => k h1 ?_ s1)⟩
      rw [hb0] at w1
      exact w1
    · have hp : 0 < ts.length := List.length_pos_iff.mpr q
      rw [if_neg q] at k
      refine if_no (by omega) ⟨b2i_R _, ?_⟩
      have tail : ∀ c : Bool, c = !b → w_X0_addLineEnd_J33 Q (A w) (b2i b) (A w) (b2i c) h := by
        intro c hc
        unfold w_X0_addLineEnd_J33
        refine ⟨gw.has hw, s_add gw hw (by omega) rfl (fun h1 w1 s1 => ?_)⟩
        unfold w_X0_addLineEnd_J36
        refine ⟨w1.has hw, s_add w1 hw (by rw [pu_self, List.length_append]; simp only [List.length_cons, List.length_nil]; omega) rfl (fun h2 w2 s2 => k h2 (w2.eq (fun x _ => ?_)) (s1.tr s2))⟩
        by_cases e : x = w
        · subst e
          have hc2 : c = decide (ts.length % 2 = 0) := by
            rw [hc, hb]
            rcases (show ts.length % 2 = 0 ∨ ts.length % 2 = 1 by omega) with z | z <;> rw [z] <;> rfl
          rw [pu_self, pu_self, pu_self, List.append_assoc, hc2, hb]
          rfl
        · rw [pu_ne _ _ e, pu_ne _ _ e, pu_ne _ _ e]
      cases b
      · exact if_yes rfl (tail true rfl)
      · exact if_no (by decide) (tail false rfl)
  by_cases z : ts.length % 2 = 1
  · exact if_yes (by omega) (body true (by rw [decide_eq_true z]))
  · exact if_no (by omega) (body false (by rw [decide_eq_false z]))
theorem range_snoc {α : Type} (f : Nat → α) (n : Nat) : (List.range (n + 1)).map f = (List.range n).map f ++ [f n] := by rw [List.range_succ, List.map_append]; rfl
theorem s_layByLine_L2 (hg : g < 2) (hw : w < 11) {N P : Nat} (hN : 1 ≤ N ∧ N ≤ 64) (hP : P ≤ 64) {Q : gaH → Prop} : ∀ (n i : Nat) (h : gaH) (U : Nat → List Bool), gW A h U → gGr A h g ts → i ≤ N - 2 → (N - 2) - i < n → U w = (List.range i).map (fun j => lineB N P 0 (j + 1)) →
    (∀ h', gW A h' (pu U w ((List.range (N - 2)).map (fun j => lineB N P 0 (j + 1)) ++ (if ts = [] then [false] else [decide (ts.length % 2 = 0), decide (ts.length % 2 = 1)]))) → gSm A h h' → Q h') → w_X0_layByLine_L75 Q n (A (26 + g)) (A w) (N : Int) (P : Int) ((i : Int) + 1) h
  | 0, i, h, U, _, _, _, h1, _, _ => absurd h1 (Nat.not_lt_zero _)
  | n + 1, i, h, U, gw, gr, hi, h1, hu, k => by
    have hA := gw.inj
    have hul : (U w).length = i := by rw [hu, List.length_map, List.length_range]
    unfold w_X0_layByLine_L75
    refine ⟨gR_of (by omega) (by omega), gR_of (by omega) (by omega), ?_⟩
    by_cases q : i = N - 2
    · refine if_yes (by omega) ⟨gr.has, s_addLineEnd hg gw gr hw (by omega) (fun h' w' s' => k h' (w'.eq (fun x _ => ?_)) s')⟩
      by_cases e : x = w
      · subst e; rw [pu_self, pu_self, hu, q]
      · rw [pu_ne _ _ e, pu_ne _ _ e]
    · refine if_no (by omega) (s_lineB (n := N) (p := P) (s := 0) (i := i + 1) (by omega) (by omega) (by omega) (by decide) (by omega) rfl rfl rfl (by omega) ⟨gw.has hw, s_add gw hw (by omega) rfl (fun h1 w1 s1 => ?_)⟩)
      rw [show (i : Int) + 1 + 1 = ((i + 1 : Nat) : Int) + 1 by omega]
      refine s_layByLine_L2 hg hw hN hP n (i + 1) h1 _ w1 (gr.on hA hg s1) (by omega) (by omega) (by rw [pu_self, hu, range_snoc]) (fun h' w' s' => k h' (w'.eq (fun x _ => ?_)) (s1.tr s'))
      by_cases e : x = w
      · subst e; rw [pu_self, pu_self]
      · rw [pu_ne _ _ e, pu_ne _ _ e, pu_ne _ _ e]
theorem nums_app (ts : List Nat) (t : Nat) : nums (ts ++ [t]) = nstep (nums ts) t := by simp [nums]
theorem s_layByLine_L1 (hg : g < 2) (hw : w < 11) (hok : gOk ts) (gw : gW A h U) (gr : gGr A h g ts) {Q : gaH → Prop} : ∀ (n i : Nat), i ≤ ts.length → ts.length - i < n →
    (∀ h', gW A h' (pu U w (byL ts)) → gSm A h h' → Q h') → w_X0_layByLine_L13 Q n (A (26 + g)) (A w) ((nums (ts.take i)).1 : Int) ((nums (ts.take i)).2.1 : Int) ((nums (ts.take i)).2.2.1 : Int) ((nums (ts.take i)).2.2.2 : Int) (i : Int) h
  | 0, i, _, h1, _ => absurd h1 (Nat.not_lt_zero _)
  | n + 1, i, hi, h1, k => by
    have hA := gw.inj
    have hl := hok.len
    unfold w_X0_layByLine_L13
    refine gr.ct ⟨gR_of (by omega) (by omega), gR_of (by omega) (by omega), ?_⟩
    by_cases q : i = ts.length
    · subst q
      have hn := nums_grw _ ts rfl
      have h2 := grw_len _ ts rfl hok.1
      have h3 := hok.2
      have h4 := ones_le (grw ts).2
      rw [List.take_length]
      refine if_yes (Int.le_refl _) ⟨gw.has hw, s_clear gw hw (fun h1 w1 s1 => ⟨65, ?_⟩)⟩
      have e1 : (nums ts).2.2.1 = (grw ts).2.length := by rw [hn]
      have e2 : (nums ts).2.2.2 = ones (grw ts).2 := by rw [hn]
      refine s_layByLine_L2 (N := (nums ts).2.2.1) (P := (nums ts).2.2.2) hg hw (by omega) (by omega) 65 0 h1 _ w1 (gr.on hA hg s1) (Nat.zero_le _) (by omega) (by rw [pu_self]; rfl) (fun h' w' s' => k h' (w'.eq (fun x _ => ?_)) (s1.tr s'))
      by_cases e : x = w
      · subst e
        rw [pu_self, pu_self]
        unfold byL
        by_cases z : ts = []
        · rw [if_pos z, if_pos z, z]; rfl
        · rw [if_neg z, if_neg z]
      · rw [pu_ne _ _ e, pu_ne _ _ e, pu_ne _ _ e]
    · have htk : ts.take (i + 1) = ts.take i ++ [ts.getD i 0] := by
        rw [List.take_succ, List.getD_eq_getElem?_getD, List.getElem?_eq_getElem (by omega)]; rfl
      refine if_no (by omega) ⟨gr.has, s_turnAt gr rfl (by omega) ?_⟩
      have key := s_layByLine_L1 hg hw hok gw gr n (i + 1) (by omega) (by omega) k
      rw [htk, nums_app] at key
      simp only [nstep] at key
      rw [Int.natCast_add, Int.natCast_mul, Int.natCast_add, Int.natCast_mul, Int.natCast_add] at key
      exact key
theorem s_layByLine (hg : g < 2) (hw : w < 11) (hok : gOk ts) (gw : gW A h U) (gr : gGr A h g ts) {Q : gaH → Prop} (k : ∀ h', gW A h' (pu U w (byL ts)) → gSm A h h' → Q h') : w_X0_layByLine (A (26 + g)) (A w) h Q :=
  ⟨ts.length + 1, s_layByLine_L1 hg hw hok gw gr _ 0 (Nat.zero_le _) (by omega) k⟩
end PH
