/-! The law's second and third questions: any word, two words of a line. -/
theorem gAnd_R (x y : Int) : gR (gAnd x y) := gR_toInt _
theorem fndU_R (u v : List Bool) : ∀ e i, i + e ≤ 200 → -1 ≤ fndU u v e i ∧ fndU u v e i ≤ 200
  | 0, i, _ => by unfold fndU; omega
  | e + 1, i, h => by
    unfold fndU
    split
    · omega
    · exact fndU_R u v e (i + 1) (by omega)
theorem ovS_R (u : List Bool) : sm (fun p => sm (ovF u p) 66) 66 ≤ 66 * 66 := sm_le (fun p => by
  have := smb_le (fun a => decide (1 ≤ p ∧ a + 2 * p < u.length) && ovl u a p) 66
  exact this) 66
section AN
variable {A : Nat → Nat} {G : gaG} {h : gaH} {b : Nat} {vs : List Value} {S : Nat → List Bool} {T : Nat → List Nat} {X : String → gaH → Prop} {Q : Int → gaH → Prop} {kc ks : Nat}
theorem g_isEven_L {w : Nat} (hw : w < 3) (h1 : 1 ≤ (S w).length) (ky : evn (S w) → ∀ h', gE A G b vs h' S T → Q 1 h') (kn : ¬ evn (S w) → ∀ h', gE A G b vs h' S T → Q 0 h') : ∀ (n c i : Nat) (h : gaH) (kc ks : Nat), gE A G b vs h S T → i + c = (S w).length + 1 → c < n → (∀ l, l < i → sprV (S w) l (begins (S w).length l true) ≤ 1) → 3 * c + 1 ≤ kc → 18 * c + 6 ≤ ks → w_L_isEven_L2 X Q n (A 22) (w : Int) (i : Int) h kc ks
  | 0, _, _, _, _, _, _, _, hn, _, _, _ => absurd hn (Nat.not_lt_zero _)
  | n + 1, c, i, h, kc, ks, e, hi, hn, hl, hc, hs => by
    have le := e.le hw
    unfold w_L_isEven_L2
    refine ⟨e.has, gCall_mk (by omega) (by omega) (a_length e hw rfl (fun h2 e2 => ⟨gR_of (by omega) (by omega), gR_of (by omega) (by omega), ?_⟩))⟩
    by_cases q : ((S w).length : Int) < (i : Int)
    · exact if_yes q (ky ((evn_iff h1).mpr (fun l hl2 => hl l (by omega))) _ e2)
    · obtain ⟨c, rfl⟩ : ∃ d, c = d + 1 := ⟨c - 1, by omega⟩
      refine if_no q ⟨e2.has, gCall_mk (by omega) (by omega) (a_spread (l := i) (c := true) e2 hw (by omega) rfl rfl rfl (fun h3 e3 => ?_))⟩
      have r1 := mnf_le (f := upF (S w) i) (l := i) (n := begins (S w).length i true)
      have r2 := mxf_le (upF_le (S w) i) (begins (S w).length i true)
      refine ⟨gR_of (by show _ ≤ (mxf _ _ : Int) - (mnf _ _ _ : Int); omega) (by show (mxf _ _ : Int) - (mnf _ _ _ : Int) ≤ _; omega), ?_⟩
      by_cases z : sprV (S w) i (begins (S w).length i true) ≤ 1
      · refine if_yes z ?_
        rw [show (i : Int) + 1 = ((i + 1 : Nat) : Int) by omega]
        refine g_isEven_L hw h1 ky kn n c (i + 1) h3 _ _ e3 (by omega) (by omega) (fun l hl2 => ?_) (by omega) (by omega)
        by_cases y : l = i
        · rw [y]; exact z
        · exact hl l (by omega)
      · exact if_no z (kn (fun y => z ((evn_iff h1).mp y i (by omega))) _ e3)
theorem g_isEven (e : gE A G b vs h S T) {w : Nat} (hw : w < 3) {x : Int} (hx : x = (w : Int)) (h1 : 1 ≤ (S w).length) (ky : evn (S w) → ∀ h', gE A G b vs h' S T → Q 1 h') (kn : ¬ evn (S w) → ∀ h', gE A G b vs h' S T → Q 0 h') : w_L_isEven X (A 22) x h Q := by
  have le := e.le hw
  subst hx
  exact ⟨(S w).length + 2, g_isEven_L hw h1 ky kn _ ((S w).length + 1) 0 h _ _ e (by omega) (by omega) (fun l hl => absurd hl (Nat.not_lt_zero _)) (by omega) (by omega)⟩
theorem g_J141 (e : gE A G b vs h S T) {n l : Nat} {c : Bool} (hn : (S 0).length = n) (hl : l < n) {v3 z y : Int} (hv3 : v3 = (n : Int)) (hy : y = (l : Int)) (hz : z = b2i c) (hc : 2 ≤ kc) (hs : 12 ≤ ks) (k : ∀ h' S', gE A G b vs h' S' T → (S' 0).length = n → Q (n : Int) h') : w_L_made_J141 X Q v3 (A 22) 0 y z h kc ks := by
  unfold w_L_made_J141
  refine ⟨e.has, gCall_mk hc hs (a_setSign (w := 0) (l := l) (c := c) e (by decide) (by omega) rfl hy hz (fun h2 r2 e2 => ?_))⟩
  rw [hv3]
  exact k h2 _ e2 (by rw [pu_self, List.length_set]; exact hn)
theorem g_J102 (e : gE A G b vs h S T) {n : Nat} (h1 : 1 ≤ n) (h9 : n ≤ 16) (hn : (S 0).length = n) {v2 v3 : Int} (hv3 : v3 = (n : Int)) (hc : 4 ≤ kc) (hs : 24 ≤ ks) (k : ∀ h' S', gE A G b vs h' S' T → (S' 0).length = n → Q (n : Int) h') : w_L_made_J102 X Q (A 22) v2 v3 h kc ks := by
  unfold w_L_made_J102
  refine a_below (n := 3) (by decide) (by decide) rfl (fun r hr => ⟨gR_of (by omega) (by omega), ?_⟩)
  by_cases q : (r : Int) = 0
  · refine if_yes q (a_below (n := n) h1 (by omega) hv3 (fun l hl => ⟨e.has, gCall_mk (by omega) (by omega) (a_isB (w := 0) (l := l) e (by decide) (by omega) rfl rfl (fun h2 e2 => ⟨b2i_R _, ?_⟩))⟩))
    generalize (S 0).getD l false = y
    cases y
    · exact if_yes rfl (g_J141 (l := l) (c := true) e2 hn hl hv3 rfl rfl (by omega) (by omega) k)
    · exact if_no (by decide) (g_J141 (l := l) (c := false) e2 hn hl hv3 rfl rfl (by omega) (by omega) k)
  · refine if_no q ?_
    rw [hv3]
    exact k h S e hn
theorem g_L65 {v2 : Int} {n : Nat} (h1 : 1 ≤ n) (h9 : n ≤ 16) (k : ∀ h' S', gE A G b vs h' S' T → (S' 0).length = n → Q (n : Int) h') : ∀ (m c i : Nat) (h : gaH) (S : Nat → List Bool) (kc ks : Nat) (v3 v4 : Int), gE A G b vs h S T → (S 0).length = n → i + c = n → c < m → v3 = (n : Int) → v4 = (i : Int) → 2 * c + 4 ≤ kc → 12 * c + 24 ≤ ks → w_L_made_L65 X Q m (A 22) v2 v3 v4 h kc ks
  | 0, _, _, _, _, _, _, _, _, _, _, _, hm, _, _, _, _ => absurd hm (Nat.not_lt_zero _)
  | m + 1, c, i, h, S, kc, ks, v3, v4, e, hn, hi, hm, hv3, hv4, hc, hs => by
    unfold w_L_made_L65
    refine ⟨gR_of (by omega) (by omega), gR_of (by omega) (by omega), ?_⟩
    by_cases q : v3 ≤ v4
    · exact if_yes q (g_J102 e h1 h9 hn hv3 (by omega) (by omega) k)
    · obtain ⟨c, rfl⟩ : ∃ d, c = d + 1 := ⟨c - 1, by omega⟩
      have step : ∀ (z : Int) (y : Bool), z = b2i y → w_L_made_J92 X Q (w_L_made_L65 X Q m) (A 22) v2 v3 v4 (A 22) 0 v4 z h kc ks := fun z y hz => by
        unfold w_L_made_J92
        refine ⟨e.has, gCall_mk (by omega) (by omega) (a_setSign (w := 0) (l := i) (c := y) e (by decide) (by omega) rfl hv4 hz (fun h2 r2 e2 => ?_))⟩
        exact g_L65 h1 h9 k m c (i + 1) h2 _ _ _ _ _ e2 (by rw [pu_self, List.length_set]; exact hn) (by omega) (by omega) hv3 (by omega) (by omega) (by omega)
      refine if_no q ⟨gAnd_R _ _, ite_both (fun _ => step 1 true rfl) (fun _ => step 0 false rfl)⟩
theorem g_made (e : gE A G b vs h S T) {v1 v2 : Int} (k : ∀ h' S' n, gE A G b vs h' S' T → 1 ≤ n → n ≤ 16 → (S' 0).length = n → Q (n : Int) h') : w_L_made X (A 22) v1 v2 h Q := by
  unfold w_L_made
  refine a_below (n := 16) (by decide) (by decide) rfl (fun r hr => ⟨e.has, gCall_mk (by decide) (by decide) (a_cutTo (w := 0) (l := 0) e (by decide) (by decide) rfl rfl (fun h2 r2 e2 => ?_))⟩)
  refine ⟨e2.has, gCall_mk (by decide) (by decide) (a_cutTo (w := 0) (l := r + 1) e2 (by decide) (by omega) rfl (by omega) (fun h3 r3 e3 => ?_))⟩
  have hn : ∀ S' : Nat → List Bool, S' = pu (pu S 0 ((S 0).take 0 ++ List.replicate (0 - (S 0).length) false)) 0 (((pu S 0 ((S 0).take 0 ++ List.replicate (0 - (S 0).length) false)) 0).take (r + 1) ++ List.replicate (r + 1 - ((pu S 0 ((S 0).take 0 ++ List.replicate (0 - (S 0).length) false)) 0).length) false) → (S' 0).length = r + 1 := fun S' hS' => by
    rw [hS', pu_self, pu_self, List.take_zero, Nat.zero_sub, List.replicate_zero, List.append_nil, List.take_nil, List.nil_append, List.length_replicate]; rfl
  have hn := hn _ rfl
  generalize pu (pu S 0 ((S 0).take 0 ++ List.replicate (0 - (S 0).length) false)) 0 _ = S3 at e3 hn
  refine a_below (n := 3) (by decide) (by decide) rfl (fun q hq => ⟨gR_of (by omega) (by omega), ?_⟩)
  have kk : ∀ h' S', gE A G b vs h' S' T → (S' 0).length = r + 1 → Q ((r + 1 : Nat) : Int) h' := fun h' S' e' hl => k h' S' (r + 1) e' (by omega) (by omega) hl
  by_cases z : (q : Int) ≤ 0
  · exact if_yes z ⟨r + 2, g_L65 (n := r + 1) (by omega) (by omega) kk (r + 2) (r + 1) 0 h3 S3 _ _ _ _ e3 hn (by omega) (by omega) (by omega) rfl (by omega) (by omega)⟩
  · refine if_no z (a_below (n := r + 2) (by omega) (by omega) (by omega) (fun p hp => a_below (n := r + 1) (by omega) (by omega) (by omega) (fun s hs => ⟨e3.has, gCall_mk (by decide) (by decide) (a_line (w := 0) (n := r + 1) (p := p) (s := s) e3 (by decide) ⟨by omega, by omega⟩ (by omega) hs rfl (by omega) rfl rfl (fun h4 r4 e4 => ?_))⟩)))
    exact g_J102 (n := r + 1) e4 (by omega) (by omega) (by rw [pu_self, lineV_len]) (by omega) (by decide) (by decide) kk
section WD
variable {w : List Bool}
theorem g_J235 (e : gE A G b vs h S T) (hw : S 0 = w) (h1 : 1 ≤ w.length) (h9 : w.length ≤ 16) (hS1 : S 1 = w ++ w) {v3 t0 t1 : Int} (hv3 : v3 = (w.length : Int)) (ht : t0 = t1) (hR : gR t0) (hc : 4 ≤ kc) (hs : 24 ≤ ks) (k : ∀ h' S', gE A G b vs h' S' T → Q 1 h') : w_L_isAny_J235 X Q (A 22) v3 t0 t1 h kc ks := by
  unfold w_L_isAny_J235
  have ll : (w ++ w).length = 2 * w.length := by rw [List.length_append]; omega
  refine ⟨hR, by rw [← ht]; exact hR, if_yes ht ⟨e.has, gCall_mk (by omega) (by omega) (a_find (w := 1) (v := 0) (l := 1) e (by decide) (by decide) (by rw [hS1]; omega) rfl rfl rfl (fun h2 e2 => ?_))⟩⟩
  rw [hS1, hw]
  have fR := fndU_R (w ++ w) w ((w ++ w).length + 1 - 1) 1 (by omega)
  refine ⟨gR_of (by omega) (by omega), gR_of (by omega) (by omega), ?_⟩
  by_cases q : fndU (w ++ w) w ((w ++ w).length + 1 - 1) 1 < v3
  · exact if_yes q (k _ _ e2)
  · refine if_no q ⟨e2.has, gCall_mk (by omega) (by omega) (a_folds (w := 0) e2 (by decide) rfl (fun h3 e3 => ?_))⟩
    rw [hw]
    have fl := folds_le w
    refine ⟨gR_of (by omega) (by omega), if_no (fun z => q ?_) (k _ _ e3)⟩
    have := two_folds (u := w) (by omega)
    rw [hv3]; exact this
theorem g_J222 (e : gE A G b vs h S T) (hw : S 0 = w) (h1 : 1 ≤ w.length) (h9 : w.length ≤ 16) (hS1 : S 1 = w ++ w) {v3 t0 : Int} (hv3 : v3 = (w.length : Int)) (ht : t0 = b2i (decide (0 < sm (flF w) w.length))) (hc : 5 ≤ kc) (hs : 30 ≤ ks) (k : ∀ h' S', gE A G b vs h' S' T → Q 1 h') : w_L_isAny_J222 X Q (A 22) v3 t0 h kc ks := by
  unfold w_L_isAny_J222
  refine ⟨e.has, gCall_mk (by omega) (by omega) (a_folds (w := 0) e (by decide) rfl (fun h2 e2 => ?_))⟩
  rw [hw]
  have fl := folds_le w
  have hR : gR t0 := by rw [ht]; exact b2i_R _
  refine ⟨gR_of (by omega) (by omega), ?_⟩
  by_cases q : ((sm (flF w) w.length : Nat) : Int) ≤ 0
  · exact if_yes q (g_J235 e2 hw h1 h9 hS1 hv3 (by rw [ht, decide_eq_false (by omega)]; rfl) hR (by omega) (by omega) k)
  · exact if_no q (g_J235 e2 hw h1 h9 hS1 hv3 (by rw [ht, decide_eq_true (by omega)]; rfl) hR (by omega) (by omega) k)
theorem g_J180 (e : gE A G b vs h S T) (hw : S 0 = w) (h1 : 1 ≤ w.length) (h9 : w.length ≤ 16) {v3 : Int} (hv3 : v3 = (w.length : Int)) (hc : 15 ≤ kc) (hs : 90 ≤ ks) (k : ∀ h' S', gE A G b vs h' S' T → Q 1 h') : w_L_isAny_J180 X Q (A 22) v3 h kc ks := by
  unfold w_L_isAny_J180
  refine ⟨e.has, gCall_mk (by omega) (by omega) (a_copy (w := 0) (v := 1) e (by decide) (by decide) rfl rfl (fun h2 r2 e2 => ?_))⟩
  rw [hw] at e2
  refine ⟨e2.has, gCall_mk (by omega) (by omega) (a_append (w := 1) (v := 1) e2 (by decide) (by decide) (by rw [pu_self]; omega) rfl rfl (fun h3 r3 e3 => ?_))⟩
  rw [pu_self] at e3
  refine ⟨e3.has, gCall_mk (by omega) (by omega) (a_copy (w := 0) (v := 2) e3 (by decide) (by decide) rfl rfl (fun h4 r4 e4 => ?_))⟩
  rw [pu_ne _ _ (by decide), pu_ne _ _ (by decide), hw] at e4
  refine ⟨e4.has, gCall_mk (by omega) (by omega) (a_turn (w := 2) e4 (by decide) rfl (fun h5 r5 e5 => ?_))⟩
  rw [pu_self] at e5
  have z0 : pu (pu (pu (pu S 1 w) 1 (w ++ w)) 2 w) 2 w.reverse 0 = w := by rw [pu_ne _ _ (by decide), pu_ne _ _ (by decide), pu_ne _ _ (by decide), pu_ne _ _ (by decide), hw]
  have z1 : pu (pu (pu (pu S 1 w) 1 (w ++ w)) 2 w) 2 w.reverse 1 = w ++ w := by rw [pu_ne _ _ (by decide), pu_ne _ _ (by decide), pu_self]
  refine ⟨e5.has, gCall_mk (by omega) (by omega) (a_find (w := 1) (v := 2) (l := 0) e5 (by decide) (by decide) (Nat.zero_le _) rfl rfl rfl (fun h6 e6 => ?_))⟩
  rw [z1, pu_self, Nat.sub_zero]
  have ll : (w ++ w).length = 2 * w.length := by rw [List.length_append]; omega
  have fR := fndU_R (w ++ w) w.reverse ((w ++ w).length + 1) 0 (by omega)
  have tf := turned_fold (u := w) h1
  refine ⟨gR_of (by omega) (by omega), ?_⟩
  by_cases q : fndU (w ++ w) w.reverse ((w ++ w).length + 1) 0 < 0
  · refine if_yes q (g_J222 e6 z0 h1 h9 z1 hv3 ?_ (by omega) (by omega) k)
    rw [decide_eq_false (fun z => by have := tf.mpr z; omega)]; rfl
  · refine if_no q (g_J222 e6 z0 h1 h9 z1 hv3 ?_ (by omega) (by omega) k)
    rw [decide_eq_true (tf.mp (by omega))]; rfl
theorem g_J159 (e : gE A G b vs h S T) (hw : S 0 = w) (h1 : 1 ≤ w.length) (h9 : w.length ≤ 16) {v3 v5 t0 : Int} (hv3 : v3 = (w.length : Int)) (h5 : v5 = b2i (decide (sm (fun p => sm (ovF w p) 66) 66 = 0))) (ht : t0 = v5) (hc : 16 ≤ kc) (hs : 96 ≤ ks) (k : ∀ h' S', gE A G b vs h' S' T → Q 1 h') : w_L_isAny_J159 X Q (A 22) v3 v5 t0 h kc ks := by
  unfold w_L_isAny_J159
  have hR : gR v5 := by rw [h5]; exact b2i_R _
  refine ⟨by rw [ht]; exact hR, hR, if_yes ht ⟨hR, ?_⟩⟩
  by_cases q : sm (fun p => sm (ovF w p) 66) 66 = 0
  · rw [decide_eq_true q] at h5
    have h5 : v5 = 1 := h5
    refine if_no (by omega) ⟨e.has, gCall_mk (by omega) (by omega) (a_times (w := 0) e (by decide) rfl (fun h2 r2 e2 t2 => ?_))⟩
    rw [hw] at t2
    have t3 := free_times (by omega) q t2
    have t4 : 0 ≤ r2 := by rcases t2.2 with ⟨a, _⟩ | ⟨_, _, c, a, _⟩ <;> omega
    exact ⟨gR_of (by omega) (by omega), if_yes t3 (g_J180 e2 hw h1 h9 hv3 (by omega) (by omega) k)⟩
  · rw [decide_eq_false q] at h5
    exact if_yes h5 (g_J180 e hw h1 h9 hv3 (by omega) (by omega) k)
theorem g_J130 (e : gE A G b vs h S T) (hw : S 0 = w) (hS1 : S 1 = w) (h1 : 1 ≤ w.length) (h9 : w.length ≤ 16) {v3 t0 : Int} (hv3 : v3 = (w.length : Int)) (ht : t0 = b2i (decide (sm (fun p => sm (ovF w p) 66) 66 = 0))) (hc : 20 ≤ kc) (hs : 120 ≤ ks) (k : ∀ h' S', gE A G b vs h' S' T → Q 1 h') : w_L_isAny_J130 X Q (A 22) v3 t0 h kc ks := by
  unfold w_L_isAny_J130
  have tl := tm_len w
  refine ⟨e.has, gCall_mk (by omega) (by omega) (a_apply (w := 1) (p := 5) (q := 6) e (by decide) (by decide) (by decide) (by rw [hS1]; omega) rfl rfl rfl (fun h2 e2 => ?_))⟩
  rw [hS1] at e2 ⊢
  refine ⟨gR_of (by omega) (by omega), gR_of (by omega) (by omega), if_yes (by omega) ⟨e2.has, gCall_mk (by omega) (by omega) (a_overlaps (w := 1) e2 (by decide) rfl (fun h3 e3 => ?_))⟩⟩
  rw [pu_self]
  have oR := ovS_R (img (codeW 5) (codeW 6) w)
  have fr := free_tm (w := w) (by omega)
  have z0 : pu S 1 (img (codeW 5) (codeW 6) w) 0 = w := by rw [pu_ne _ _ (by decide), hw]
  refine ⟨gR_of (by omega) (by omega), ?_⟩
  by_cases q : ((sm (fun p => sm (ovF (img (codeW 5) (codeW 6) w) p) 66) 66 : Nat) : Int) = 0
  · refine if_yes q (g_J159 e3 z0 h1 h9 hv3 ht ?_ (by omega) (by omega) k)
    rw [ht, decide_eq_true (fr.mp (by omega))]; rfl
  · refine if_no q (g_J159 e3 z0 h1 h9 hv3 ht ?_ (by omega) (by omega) k)
    rw [ht, decide_eq_false (fun z => by have := fr.mpr z; omega)]; rfl
theorem g_J110 (e : gE A G b vs h S T) (hw : S 0 = w) (h1 : 1 ≤ w.length) (h9 : w.length ≤ 16) {v3 : Int} (hv3 : v3 = (w.length : Int)) (hc : 23 ≤ kc) (hs : 138 ≤ ks) (k : ∀ h' S', gE A G b vs h' S' T → Q 1 h') : w_L_isAny_J110 X Q (A 22) v3 h kc ks := by
  unfold w_L_isAny_J110
  refine ⟨e.has, gCall_mk (by omega) (by omega) (a_copy (w := 0) (v := 1) e (by decide) (by decide) rfl rfl (fun h2 r2 e2 => ?_))⟩
  rw [hw] at e2
  have z0 : pu S 1 w 0 = w := by rw [pu_ne _ _ (by decide), hw]
  refine ⟨e2.has, gCall_mk (by omega) (by omega) (a_overlaps (w := 0) e2 (by decide) rfl (fun h3 e3 => ?_))⟩
  rw [z0]
  have oR := ovS_R w
  refine ⟨gR_of (by omega) (by omega), ?_⟩
  by_cases q : ((sm (fun p => sm (ovF w p) 66) 66 : Nat) : Int) = 0
  · refine if_yes q (g_J130 e3 z0 (pu_self _ _ _) h1 h9 hv3 ?_ (by omega) (by omega) k)
    rw [decide_eq_true (by omega)]; rfl
  · refine if_no q (g_J130 e3 z0 (pu_self _ _ _) h1 h9 hv3 ?_ (by omega) (by omega) k)
    rw [decide_eq_false (by omega)]; rfl

theorem g_J50 (e : gE A G b vs h S T) (hw : S 0 = w) (h1 : 1 ≤ w.length) (h9 : w.length ≤ 16) {v2 v3 v4 t0 : Int} (hv3 : v3 = (w.length : Int)) (h4 : evn w → v4 = 1) (h4n : ¬ evn w → v4 = 0) (ht : t0 = v4) (hc : 227 ≤ kc) (hs : 1362 ≤ ks) (k : ∀ h' S', gE A G b vs h' S' T → Q 1 h') : w_L_isAny_J50 X Q (A 22) v2 v3 v4 t0 h kc ks := by
  have hR : gR v4 := by
    by_cases q : evn w
    · rw [h4 q]; decide
    · rw [h4n q]; decide
  unfold w_L_isAny_J50
  refine ⟨by rw [ht]; exact hR, hR, if_yes ht ⟨e.has, gCall_mk (by omega) (by omega) (a_mirrors (w := 0) e (by decide) rfl (fun h2 e2 => ?_))⟩⟩
  rw [hw]
  have ml := mirrors_le (u := w) (by omega)
  refine ⟨gR_of (by omega) (by omega), gR_of (by omega) (by omega), if_yes (by omega) ⟨e2.has, gCall_mk (by omega) (by omega) (a_copy (w := 0) (v := 1) e2 (by decide) (by decide) rfl rfl (fun h3 r3 e3 => a_below (n := 3) (by decide) (by decide) rfl (fun r hr => ?_)))⟩⟩
  rw [hw] at e3
  have hp : gShl 2 (1 + (r : Int)) + 1 = ((2 * 2 ^ (r + 1) + 1 : Nat) : Int) ∧ (2 ≤ 2 * 2 ^ (r + 1) + 1 ∧ 2 * 2 ^ (r + 1) + 1 ≤ 31) ∧ codeW (2 * 2 ^ (r + 1) + 1) = xT (r + 1) ∧ codeW 2 = [false] := by
    rcases (show r = 0 ∨ r = 1 ∨ r = 2 by omega) with rfl | rfl | rfl <;> decide +kernel
  have il : (img (xT (r + 1)) [false] w).length ≤ 64 := by
    have := img_le (xT (r + 1)) [false] (m := 4) (by simp; omega) (by simp) w
    omega
  have ig : w.length ≤ (img (xT (r + 1)) [false] w).length := img_ge (xT (r + 1)) [false] (by simp) (by simp) w
  have ap : ∀ Q' : Int → gaH → Prop, (∀ h', gE A G b vs h' (pu (pu S 1 w) 1 (img (xT (r + 1)) [false] w)) T → Q' ((img (xT (r + 1)) [false] w).length : Int) h') → w_X5_apply X (A 22) 1 (gShl 2 (1 + (r : Int)) + 1) 2 h3 Q' := fun Q' kk => by
    refine a_apply (w := 1) (p := 2 * 2 ^ (r + 1) + 1) (q := 2) e3 (by decide) hp.2.1 (by decide) (by rw [pu_self, hp.2.2.1, hp.2.2.2]; exact il) rfl hp.1 rfl (fun h4 e4 => ?_)
    rw [pu_self, hp.2.2.1, hp.2.2.2] at e4 ⊢
    exact kk h4 e4
  refine ⟨e3.has, gCall_mk (by omega) (by omega) (ap _ (fun h4' e4 => ⟨gR_of (by omega) (by omega), if_no (by omega) (gCall_mk (by omega) (by omega) (g_isEven (w := 1) e4 (by decide) rfl (by rw [pu_self]; omega) (fun y h5 e5 => ?_) (fun y h5 e5 => ?_)))⟩))⟩
  · rw [pu_self] at y
    have y2 : evn w := (evn_rgb h1).mpr ((rgb_img h1).mp ((evn_rgb (by omega)).mp y))
    exact ⟨by decide, hR, if_yes (h4 y2).symm (g_J110 e5 (by rw [pu_ne _ _ (by decide), pu_ne _ _ (by decide), hw]) h1 h9 hv3 (by omega) (by omega) k)⟩
  · rw [pu_self] at y
    have y2 : ¬ evn w := fun z => y ((evn_rgb (by omega)).mpr ((rgb_img h1).mpr ((evn_rgb h1).mp z)))
    exact ⟨by decide, hR, if_yes (h4n y2).symm (g_J110 e5 (by rw [pu_ne _ _ (by decide), pu_ne _ _ (by decide), hw]) h1 h9 hv3 (by omega) (by omega) k)⟩
end WD
theorem g_isAny (e : gE A G b vs h S T) {v1 v2 : Int} (k : ∀ h' S', gE A G b vs h' S' T → Q 1 h') : w_L_isAny X (A 22) v1 v2 h Q := by
  unfold w_L_isAny
  refine gCall_mk (by decide) (by decide) (g_made e (fun h1 S1 n e1 n1 n9 hn => gCall_mk (by decide) (by decide) ?_))
  have go : ∀ (v : Int) (h2 : gaH), (evn (S1 0) → v = 1) → (¬ evn (S1 0) → v = 0) → gE A G b vs h2 S1 T → ∀ c2 s2, 237 ≤ c2 → 1422 ≤ s2 → gHas h2 (A 22) 5 ∧ gCall 1 6 c2 s2 (fun c11 s12 => w_X5_count X (A 22) 0 1 h2 (fun r10 hp9 => gHas hp9 (A 22) 5 ∧ gCall 4 24 c11 s12 (fun c15 s16 => w_X5_line X (A 22) 1 (n : Int) r10 0 hp9 (fun r14 hp13 => gHas hp13 (A 22) 5 ∧ gCall 2 12 c15 s16 (fun c19 s20 => w_X5_append X (A 22) 1 1 hp13 (fun r18 hp17 => gHas hp17 (A 22) 5 ∧ gCall 3 18 c19 s20 (fun c23 s24 => w_X5_find X (A 22) 1 0 0 hp17 (fun r22 hp21 => gR r22 ∧ (if r22 < 0 then w_L_isAny_J50 X Q (A 22) v2 (n : Int) v 0 hp21 c23 s24 else w_L_isAny_J50 X Q (A 22) v2 (n : Int) v 1 hp21 c23 s24))))))))) := fun v h2 hy hno e2 c2 s2 hc hs => by
    generalize hw : S1 0 = w at hy hno hn
    have on := ones_le w
    refine ⟨e2.has, gCall_mk (by omega) (by omega) (a_count (w := 0) e2 (by decide) rfl rfl (fun h3 e3 => ?_))⟩
    rw [hw]
    refine ⟨e3.has, gCall_mk (by omega) (by omega) (a_line (w := 1) (n := w.length) (p := ones w) (s := 0) e3 (by decide) ⟨by omega, by omega⟩ on (by omega) rfl (by omega) rfl rfl (fun h4 r4 e4 => ?_))⟩
    have ll := lineV_len w.length (ones w) 0
    refine ⟨e4.has, gCall_mk (by omega) (by omega) (a_append (w := 1) (v := 1) e4 (by decide) (by decide) (by rw [pu_self]; omega) rfl rfl (fun h5 r5 e5 => ?_))⟩
    rw [pu_self] at e5
    refine ⟨e5.has, gCall_mk (by omega) (by omega) (a_find (w := 1) (v := 0) (l := 0) e5 (by decide) (by decide) (Nat.zero_le _) rfl rfl rfl (fun h6 e6 => ?_))⟩
    have z0 : pu (pu S1 1 (lineW w.length (ones w) 0)) 1 (lineW w.length (ones w) 0 ++ lineW w.length (ones w) 0) 0 = w := by rw [pu_ne _ _ (by decide), pu_ne _ _ (by decide), hw]
    rw [pu_self, z0, Nat.sub_zero]
    have l2 : (lineW w.length (ones w) 0 ++ lineW w.length (ones w) 0).length = 2 * w.length := by rw [List.length_append]; omega
    have fR := fndU_R (lineW w.length (ones w) 0 ++ lineW w.length (ones w) 0) w ((lineW w.length (ones w) 0 ++ lineW w.length (ones w) 0).length + 1) 0 (by omega)
    have ef := evn_find (w := w) (by omega)
    refine ⟨gR_of (by omega) (by omega), ?_⟩
    by_cases q : fndU (lineW w.length (ones w) 0 ++ lineW w.length (ones w) 0) w ((lineW w.length (ones w) 0 ++ lineW w.length (ones w) 0).length + 1) 0 < 0
    · have ne : ¬ evn w := fun z => by have := ef.mpr z; omega
      exact if_yes q (g_J50 e6 z0 (by omega) (by omega) (by omega) hy hno (hno ne).symm (by omega) (by omega) k)
    · have ye : evn w := ef.mp (by omega)
      exact if_no q (g_J50 e6 z0 (by omega) (by omega) (by omega) hy hno (hy ye).symm (by omega) (by omega) k)
  exact g_isEven (w := 0) e1 (by decide) rfl (by omega) (fun y h2 e2 => go 1 h2 (fun _ => rfl) (fun z => absurd y z) e2 _ _ (by decide) (by decide)) (fun y h2 e2 => go 0 h2 (fun z => absurd z y) (fun _ => rfl) e2 _ _ (by decide) (by decide))
theorem g_isLine (e : gE A G b vs h S T) {v1 v2 : Int} (k : ∀ h' S', gE A G b vs h' S' T → Q 1 h') : w_L_isLine X (A 22) v1 v2 h Q := by
  unfold w_L_isLine
  refine a_below (n := 32) (by decide) (by decide) rfl (fun r hr => a_below (n := r + 2) (by omega) (by omega) (by omega) (fun p hp => a_below (n := r + 1) (by omega) (by omega) (by omega) (fun s hs => ⟨e.has, gCall_mk (by decide) (by decide) (a_line (w := 1) (n := r + 1) (p := p) (s := s) e (by decide) ⟨by omega, by omega⟩ (by omega) hs rfl (by omega) rfl rfl (fun h2 r2 e2 => a_below (n := r + 1) (by omega) (by omega) (by omega) (fun t ht => ⟨e2.has, gCall_mk (by decide) (by decide) (a_line (w := 2) (n := r + 1) (p := p) (s := t) e2 (by decide) ⟨by omega, by omega⟩ (by omega) ht rfl (by omega) rfl rfl (fun h3 r3 e3 => ?_))⟩)))⟩)))
  have o1 := lineW_ones (n := r + 1) (p := p) (s := s) (by omega) hs
  have o2 := lineW_ones (n := r + 1) (p := p) (s := t) (by omega) ht
  have l1 := lineV_len (r + 1) p s
  have l2 := lineV_len (r + 1) p t
  have y1 := lineW_evn (n := r + 1) (p := p) (s := s) (by omega) (by omega) hs
  have y2 := lineW_evn (n := r + 1) (p := p) (s := t) (by omega) (by omega) ht
  generalize lineW (r + 1) p s = u at *
  generalize lineW (r + 1) p t = v at *
  have z1 : pu (pu S 1 u) 2 v 1 = u := by rw [pu_ne _ _ (by decide), pu_self]
  have z2 : pu (pu S 1 u) 2 v 2 = v := pu_self _ _ _
  refine ⟨e3.has, gCall_mk (by decide) (by decide) (a_count (w := 1) e3 (by decide) rfl rfl (fun h4 e4 => ?_))⟩
  rw [z1]
  refine ⟨gR_of (by omega) (by omega), gR_of (by omega) (by omega), if_yes (by omega) ⟨e4.has, gCall_mk (by decide) (by decide) (a_count (w := 2) e4 (by decide) rfl rfl (fun h5 e5 => ?_))⟩⟩
  rw [z2]
  refine ⟨gR_of (by omega) (by omega), gR_of (by omega) (by omega), if_yes (by omega) ⟨e5.has, gCall_mk (by decide) (by decide) (a_append (w := 1) (v := 1) e5 (by decide) (by decide) (by rw [z1]; omega) rfl rfl (fun h6 r6 e6 => ?_))⟩⟩
  rw [z1] at e6
  refine ⟨e6.has, gCall_mk (by decide) (by decide) (a_find (w := 1) (v := 2) (l := 0) e6 (by decide) (by decide) (Nat.zero_le _) rfl rfl rfl (fun h7 e7 => ?_))⟩
  rw [pu_self, pu_ne _ _ (by decide), z2, Nat.sub_zero]
  obtain ⟨q, q1, q2⟩ := evn_ring (u := u) (v := v) (by omega) (by omega) (by omega) y1 y2
  have ll : (u ++ u).length = 2 * (r + 1) := by rw [List.length_append]; omega
  have f := fndU_yes (u := u ++ u) (v := v) ((u ++ u).length + 1) 0 q (Nat.zero_le _) (by omega) ((stands_dbl (by omega) (by omega)).mpr q2)
  exact ⟨gR_of (by omega) (by omega), if_no (by omega) (k _ _ e7)⟩
end AN
