/-! The reference's object, and its growths. -/
def gM (B : Nat → Nat) (h : gaH) (st : GSt) (no : Int) : Prop := ∃ s : Nat → Nat, h (B 0) = some (7, [.ref (B 1), .ref (B 2), .ref (B 3), gi (st.C 0), gi (st.C 1), gi (st.C 2), gi (st.C 3), gi no]) ∧ h (B 1) = some (112, [.ref (s 0), .ref (s 1), .ref (s 2)]) ∧ (∀ w, w < 3 → mR h (s w) (st.S w) ∧ (st.S w).length ≤ 64 ∧ ∀ i, i < 38 → s w ≠ B i) ∧ h (B 2) = some (112, [.ref (B 4), .ref (B 5)]) ∧ h (B 3) = some (102, [gi ((st.T 0).length : Int), gi ((st.T 1).length : Int)]) ∧ (∀ g, g < 2 → gOk (st.T g) ∧ ∃ row : List Int, row.length = 64 ∧ h (B (4 + g)) = some (102, row.map gi) ∧ ∀ i, i < (st.T g).length → row[i]? = ((st.T g)[i]?).map (fun t => (t : Int))) ∧ (∀ i j, i < 6 → j < 6 → B i = B j → i = j) ∧ ∀ i, i < 38 → ∃ e, h (B i) = some e
theorem gOk.take {ts : List Nat} (h : gOk ts) : ∀ (n i : Nat), ts.length - i ≤ n → gOk (ts.take i)
  | 0, i, hi => by rw [List.take_of_length_le (by omega)]; exact h
  | n + 1, i, hi => by
    by_cases q : ts.length ≤ i
    · rw [List.take_of_length_le q]; exact h
    · have ih := gOk.take h n (i + 1) (by omega)
      rw [List.take_add_one, List.getElem?_eq_getElem (by omega)] at ih
      exact gOk.pre ih
theorem take_snoc {ts : List Nat} {i : Nat} (hi : i < ts.length) : ts.take (i + 1) = ts.take i ++ [ts.getD i 0] := by
  rw [List.take_add_one, List.getD_eq_getElem?_getD, List.getElem?_eq_getElem hi]; rfl
theorem rep_at (y : List Bool) : ∀ (t j : Nat), j < t * y.length → (rep t y).getD j false = y.getD (j % y.length) false
  | 0, j, hj => by omega
  | t + 1, j, hj => by
    rw [Nat.succ_mul] at hj
    rw [rep_succ, List.getD_eq_getElem?_getD]
    by_cases q : j < t * y.length
    · rw [List.getElem?_append_left (by rw [rep_len]; exact q), ← List.getD_eq_getElem?_getD]
      exact rep_at y t j q
    · rw [List.getElem?_append_right (by rw [rep_len]; omega), rep_len, ← List.getD_eq_getElem?_getD]
      have e : j % y.length = j - t * y.length := by
        have e1 : j = (j - t * y.length) + t * y.length := by omega
        rw [e1, Nat.add_mul_mod_self_right, Nat.mod_eq_of_lt (by omega)]
        omega
      rw [e]
theorem mK.non {h h' : gaH} (k : mK h h') {o : Nat} (ho : h' o = none) : h o = none := by
  cases q : h o with
  | none => rfl
  | some e => rw [k o e q] at ho; cases ho
theorem upE {h : gaH} {a x : Nat} {f : gaE} (q : ∃ e, h x = some e) : ∃ e, gaUp h a f x = some e := by
  by_cases z : x = a
  · rw [z]; exact ⟨f, gaUp_self _ _ _⟩
  · rw [gaUp_ne _ _ z]; exact q
section RM
variable {B : Nat → Nat} {h h0 : gaH} {st : GSt} {no : Int} {a b o : Nat} {u v : List Bool} {w g : Nat}
theorem gM.kp (d : gM B h st no) {h' : gaH} (k : mK h h') : gM B h' st no := by
  obtain ⟨s, a1, a2, a3, a4, a5, a6, a7⟩ := d
  refine ⟨s, k _ _ a1, k _ _ a2, fun w hw => ⟨(a3 w hw).1.on k, (a3 w hw).2⟩, k _ _ a4, k _ _ a5, fun g hg => ?_, a7.1, fun i hi => by obtain ⟨e, q⟩ := a7.2 i hi; exact ⟨e, k _ _ q⟩⟩
  obtain ⟨b1, row, b2, b3, b4⟩ := a6 g hg
  exact ⟨b1, row, b2, k _ _ b3, b4⟩
theorem gM.has (d : gM B h st no) : gHas h (B 0) 7 := by obtain ⟨s, a1, -⟩ := d; exact ⟨_, a1⟩
theorem gM.f0 (d : gM B h st no) {K : Nat → Prop} (k : K (B 1)) : gA h (B 0) 7 0 K := by obtain ⟨s, a1, -⟩ := d; exact gA_mk a1 rfl k
theorem gM.f1 (d : gM B h st no) {K : Nat → Prop} (k : K (B 2)) : gA h (B 0) 7 1 K := by obtain ⟨s, a1, -⟩ := d; exact gA_mk a1 rfl k
theorem gM.f2 (d : gM B h st no) {K : Nat → Prop} (k : K (B 3)) : gA h (B 0) 7 2 K := by obtain ⟨s, a1, -⟩ := d; exact gA_mk a1 rfl k
theorem gM.cn (d : gM B h st no) {i f : Nat} (hf : f = 3 + i) (hi : i < 4) {K : Int → Prop} (k : K (st.C i)) : gI h (B 0) 7 f K := by
  subst hf
  obtain ⟨s, a1, -⟩ := d
  refine gI_mk a1 (x := st.C i) ?_ k
  rcases (show i = 0 ∨ i = 1 ∨ i = 2 ∨ i = 3 by omega) with rfl | rfl | rfl | rfl <;> rfl
theorem gM.nn (d : gM B h st no) {K : Int → Prop} (k : K no) : gI h (B 0) 7 7 K := by obtain ⟨s, a1, -⟩ := d; exact gI_mk a1 rfl k
theorem gM.sh (d : gM B h st no) {x : Int} (hx : x = (w : Int)) (hw : w < 3) {K : Nat → Prop} (k : ∀ a, mR h a (st.S w) → (∀ i, i < 38 → a ≠ B i) → K a) : gLA h (B 1) 112 x K := by
  subst hx
  obtain ⟨s, a1, a2, a3, -⟩ := d
  refine ⟨_, s w, a2, by omega, by omega, ?_, k _ (a3 w hw).1 (a3 w hw).2.2⟩
  rw [Int.toNat_natCast]
  rcases (show w = 0 ∨ w = 1 ∨ w = 2 by omega) with rfl | rfl | rfl <;> rfl
theorem gM.sl (d : gM B h st no) (hw : w < 3) : (st.S w).length ≤ 64 := by obtain ⟨s, a1, a2, a3, -⟩ := d; exact (a3 w hw).2.1
theorem gM.ok (d : gM B h st no) (hg : g < 2) : gOk (st.T g) := by obtain ⟨s, a1, a2, a3, a4, a5, a6, -⟩ := d; exact (a6 g hg).1
theorem gM.tr (d : gM B h st no) {x : Int} (hx : x = (g : Int)) (hg : g < 2) {K : Nat → Prop} (k : K (B (4 + g))) : gLA h (B 2) 112 x K := by
  subst hx
  obtain ⟨s, a1, a2, a3, a4, -⟩ := d
  refine ⟨_, _, a4, by omega, by omega, ?_, k⟩
  rw [Int.toNat_natCast]
  rcases (show g = 0 ∨ g = 1 by omega) with rfl | rfl <;> rfl
theorem gM.ct (d : gM B h st no) {x : Int} (hx : x = (g : Int)) (hg : g < 2) {K : Int → Prop} (k : K ((st.T g).length : Int)) : gLI h (B 3) 102 x K := by
  subst hx
  obtain ⟨s, a1, a2, a3, a4, a5, -⟩ := d
  refine gLI_mk a5 (by omega) (by omega) ?_ k
  rw [Int.toNat_natCast]
  rcases (show g = 0 ∨ g = 1 by omega) with rfl | rfl <;> rfl
theorem gM.tn (d : gM B h st no) (hg : g < 2) {x : Int} {i : Nat} (hx : x = (i : Int)) (hi : i < (st.T g).length) {K : Int → Prop} (k : K (((st.T g).getD i 0 : Nat) : Int)) : gLI h (B (4 + g)) 102 x K := by
  subst hx
  have hl := (d.ok hg).len
  obtain ⟨s, a1, a2, a3, a4, a5, a6, -⟩ := d
  obtain ⟨b1, row, b2, b3, b4⟩ := a6 g hg
  refine gLI_mk b3 (by omega) (by omega) ?_ k
  rw [Int.toNat_natCast, List.getElem?_map, b4 i hi, List.getD_eq_getElem?_getD, List.getElem?_eq_getElem hi]
  rfl
theorem gOk.tn {u' : List Nat} (hok : gOk u') {i : Nat} (hi : i < u'.length) : 1 ≤ u'.getD i 0 ∧ u'.getD i 0 ≤ 3 := by
  refine hok.1 _ ?_
  rw [List.getD_eq_getElem?_getD, List.getElem?_eq_getElem hi]
  exact List.getElem_mem _
theorem r_byCopies_L60 {Q : Nat → gaH → Prop} {K20 : Nat → Int → Int → Nat → Nat → Int → gaH → Nat → Nat → Prop} {e y : List Bool} {p q : Nat} {t : Nat} (re : mR h0 p e) (ry : mR h0 q y) (hy : 1 ≤ y.length) (hl : t * y.length + e.length ≤ 64) {v0 : Nat} {v1 v2 v5 : Int} {kc ks : Nat} (k : ∀ h', fil h0 h' o (rep t y ++ e) → K20 v0 v1 v2 q o (v5 + 1) h' kc ks) : ∀ (z i : Nat) (h : gaH), fil h0 h o (pf (rep t y ++ e) i) → i ≤ t * y.length + e.length → t * y.length + e.length - i < z → w_X7_byCopies_L60 Q K20 z v0 v1 v2 p q v5 (t : Int) o (i : Int) h kc ks
  | 0, _, _, _, _, h9 => absurd h9 (Nat.not_lt_zero _)
  | z + 1, i, h, fl, hi, h9 => by
    have hT : (rep t y ++ e).length = t * y.length + e.length := by simp [rep_len]
    have hy64 : t = 0 ∨ y.length ≤ 64 := by
      rcases Nat.eq_zero_or_pos t with q | q
      · exact Or.inl q
      · right
        have := Nat.le_mul_of_pos_left y.length q
        omega
    have em : (t : Int) * (y.length : Int) = ((t * y.length : Nat) : Int) := by push_cast; rfl
    unfold w_X7_byCopies_L60
    refine fl.2.2.len ?_
    rw [pf_len (by omega), hT]
    (first | refine And.intro (show gR _ from by first | assumption | omega | decide | exact b2i_R _ | exact gR_of (by omega) (by omega)) ?_ | refine And.intro (show gHas _ _ _ from by first | exact gW.has (gD.w (by assumption)) (by omega) | exact gD.has (by assumption) | exact gRu.has (gD.ru (by assumption)) | exact gGr.has (gD.gr (by assumption) _ (by omega))) ?_ | refine gCall_mk (by decide) (by decide) ?_ | refine if_yes (by first | assumption | omega | decide | exact b2i_R _ | exact gR_of (by omega) (by omega)) ?_ | refine if_no (by first | assumption | omega | decide | exact b2i_R _ | exact gR_of (by omega) (by omega)) ?_); (first | refine And.intro (show gR _ from by first | assumption | omega | decide | exact b2i_R _ | exact gR_of (by omega) (by omega)) ?_ | refine And.intro (show gHas _ _ _ from by first | exact gW.has (gD.w (by assumption)) (by omega) | exact gD.has (by assumption) | exact gRu.has (gD.ru (by assumption)) | exact gGr.has (gD.gr (by assumption) _ (by omega))) ?_ | refine gCall_mk (by decide) (by decide) ?_ | refine if_yes (by first | assumption | omega | decide | exact b2i_R _ | exact gR_of (by omega) (by omega)) ?_ | refine if_no (by first | assumption | omega | decide | exact b2i_R _ | exact gR_of (by omega) (by omega)) ?_)
    by_cases q1 : t * y.length + e.length ≤ i
    · refine if_yes (by omega) (k h ?_)
      obtain rfl : i = (rep t y ++ e).length := by omega
      rw [pf_end] at fl; exact fl
    · have fin : ∀ x : Int, x = b2i ((rep t y ++ e).getD i false) → w_X7_byCopies_J106 Q K20 (w_X7_byCopies_L60 Q K20 z) v0 v1 v2 p q v5 (t : Int) o (i : Int) o (i : Int) x h kc ks := fun x hx => by
        unfold w_X7_byCopies_J106
        refine fl.set rfl (by rw [pf_len (by omega)]; omega) (by rw [pf_len (by omega)]; omega) hx (fun h3 f3 => ?_)
        rw [pf_set (by omega)] at f3
        rw [show (i : Int) + 1 = ((i + 1 : Nat) : Int) by omega]
        exact r_byCopies_L60 re ry hy hl k z (i + 1) h3 f3 (by omega) (by omega)
      have re2 := re.on fl.2.1
      have ry2 := ry.on fl.2.1
      refine if_no (by omega) (ry2.len ?_)
      rw [em]
      (first | refine And.intro (show gR _ from by first | assumption | omega | decide | exact b2i_R _ | exact gR_of (by omega) (by omega)) ?_ | refine And.intro (show gHas _ _ _ from by first | exact gW.has (gD.w (by assumption)) (by omega) | exact gD.has (by assumption) | exact gRu.has (gD.ru (by assumption)) | exact gGr.has (gD.gr (by assumption) _ (by omega))) ?_ | refine gCall_mk (by decide) (by decide) ?_ | refine if_yes (by first | assumption | omega | decide | exact b2i_R _ | exact gR_of (by omega) (by omega)) ?_ | refine if_no (by first | assumption | omega | decide | exact b2i_R _ | exact gR_of (by omega) (by omega)) ?_); (first | refine And.intro (show gR _ from by first | assumption | omega | decide | exact b2i_R _ | exact gR_of (by omega) (by omega)) ?_ | refine And.intro (show gHas _ _ _ from by first | exact gW.has (gD.w (by assumption)) (by omega) | exact gD.has (by assumption) | exact gRu.has (gD.ru (by assumption)) | exact gGr.has (gD.gr (by assumption) _ (by omega))) ?_ | refine gCall_mk (by decide) (by decide) ?_ | refine if_yes (by first | assumption | omega | decide | exact b2i_R _ | exact gR_of (by omega) (by omega)) ?_ | refine if_no (by first | assumption | omega | decide | exact b2i_R _ | exact gR_of (by omega) (by omega)) ?_)
      by_cases q2 : t * y.length ≤ i
      · refine if_yes (by omega) (ry2.len ?_)
        rw [em]
        refine re2.at (i := i - t * y.length) (by omega) (by omega) (by omega) (fin _ ?_)
        rw [List.getD_eq_getElem?_getD (l := rep t y ++ e), List.getElem?_append_right (by rw [rep_len]; omega), rep_len, ← List.getD_eq_getElem?_getD]
      · have ht0 : t ≠ 0 := by rintro rfl; simp at q2
        refine if_no (by omega) (ry2.len ⟨by omega, by omega, ?_⟩)
        rw [gRem_nat (by omega) (by omega)]
        have hm := Nat.mod_lt i (show 0 < y.length by omega)
        refine ry2.at (i := i % y.length) rfl hm (by omega) (fin _ ?_)
        rw [List.getD_eq_getElem?_getD (l := rep t y ++ e), List.getElem?_append_left (by rw [rep_len]; omega), ← List.getD_eq_getElem?_getD, rep_at y t i (by omega)]
theorem r_byCopies_L20 {Q : Nat → gaH → Prop} (hg : g < 2) {m bk : Nat} (hm : m + bk = (st.T g).length) (k : ∀ h' o, mK h0 h' → h0 o = none → mR h' o (grw ((st.T g).take m)).2 → Q o h') : ∀ (n i p q : Nat) (h : gaH) (kc ks : Nat), gM B h st no → mK h0 h → h0 q = none → mR h p (grw ((st.T g).take i)).1 → mR h q (grw ((st.T g).take i)).2 → i ≤ m → m - i < n → m - i ≤ kc → 64 * (m - i) ≤ ks → w_X7_byCopies_L20 Q n (B 0) (g : Int) (bk : Int) p q (i : Int) h kc ks
  | 0, _, _, _, _, _, _, _, _, _, _, _, _, h9, _, _ => absurd h9 (Nat.not_lt_zero _)
  | n + 1, i, p, q, h, kc, ks, d, kp, nq, re, ry, hi, h9, hc, hs => by
    have hok := d.ok hg
    have hl := hok.len
    unfold w_X7_byCopies_L20
    refine d.f2 (d.ct rfl hg ?_)
    (first | refine And.intro (show gR _ from by first | assumption | omega | decide | exact b2i_R _ | exact gR_of (by omega) (by omega)) ?_ | refine And.intro (show gHas _ _ _ from by first | exact gW.has (gD.w (by assumption)) (by omega) | exact gD.has (by assumption) | exact gRu.has (gD.ru (by assumption)) | exact gGr.has (gD.gr (by assumption) _ (by omega))) ?_ | refine gCall_mk (by decide) (by decide) ?_ | refine if_yes (by first | assumption | omega | decide | exact b2i_R _ | exact gR_of (by omega) (by omega)) ?_ | refine if_no (by first | assumption | omega | decide | exact b2i_R _ | exact gR_of (by omega) (by omega)) ?_); (first | refine And.intro (show gR _ from by first | assumption | omega | decide | exact b2i_R _ | exact gR_of (by omega) (by omega)) ?_ | refine And.intro (show gHas _ _ _ from by first | exact gW.has (gD.w (by assumption)) (by omega) | exact gD.has (by assumption) | exact gRu.has (gD.ru (by assumption)) | exact gGr.has (gD.gr (by assumption) _ (by omega))) ?_ | refine gCall_mk (by decide) (by decide) ?_ | refine if_yes (by first | assumption | omega | decide | exact b2i_R _ | exact gR_of (by omega) (by omega)) ?_ | refine if_no (by first | assumption | omega | decide | exact b2i_R _ | exact gR_of (by omega) (by omega)) ?_)
    by_cases q1 : m ≤ i
    · refine if_yes (by omega) (k h q kp nq ?_)
      obtain rfl : i = m := by omega
      exact ry
    · refine if_no (by omega) (d.f1 (d.tr rfl hg (d.tn hg rfl (by omega) (ry.len (re.len ?_)))))
      have o1 := hok.take _ (i + 1) (Nat.le_refl _)
      have o0 := hok.take _ i (Nat.le_refl _)
      have ht := hok.tn (i := i) (by omega)
      rw [take_snoc (by omega)] at o1
      have e1 : (grw ((st.T g).take i ++ [(st.T g).getD i 0])).2.length = (st.T g).getD i 0 * (grw ((st.T g).take i)).2.length + (grw ((st.T g).take i)).1.length := by
        rw [grw_snoc]; simp [gstep, rep_len]
      have hlen := o1.2
      rw [e1] at hlen
      have hy1 := (grw_len _ ((st.T g).take i) rfl o0.1).1
      refine fil.new (n := (st.T g).getD i 0 * (grw ((st.T g).take i)).2.length + (grw ((st.T g).take i)).1.length) (by push_cast; rfl) (by omega) (by omega) (by omega) (fun o h1 f1 => ⟨66, ?_⟩)
      refine r_byCopies_L60 re ry (by omega) hlen (fun h' f' => ?_) 66 0 h1 (by rw [pf_0, List.length_append, rep_len]; exact f1) (Nat.zero_le _) (by omega)
      rw [show (i : Int) + 1 = ((i + 1 : Nat) : Int) by omega]
      have eg : grw ((st.T g).take (i + 1)) = ((grw ((st.T g).take i)).2, rep ((st.T g).getD i 0) (grw ((st.T g).take i)).2 ++ (grw ((st.T g).take i)).1) := by rw [take_snoc (by omega), grw_snoc]; rfl
      refine r_byCopies_L20 hg hm k n (i + 1) q o h' _ _ (d.kp f'.2.1) (kp.tr f'.2.1) (kp.non f'.1) (by rw [eg]; exact ry.on f'.2.1) (by rw [eg]; exact f'.2.2) (by omega) (by omega) (by omega) (by omega)
theorem r_byCopies {Q : Nat → gaH → Prop} (d : gM B h st no) (hg : g < 2) {x y : Int} {m bk : Nat} (hx : x = (g : Int)) (hy : y = (bk : Int)) (hm : m + bk = (st.T g).length) (k : ∀ h' o, mK h h' → h o = none → mR h' o (grw ((st.T g).take m)).2 → Q o h') : w_X7_byCopies (B 0) x y h Q := by
  subst hx; subst hy
  have hl := (d.ok hg).len
  unfold w_X7_byCopies
  refine fil.new (n := 1) rfl (by decide) (by decide) (by decide) (fun p h1 f1 => f1.set (i := 0) rfl (by decide) (by decide) (b := true) rfl (fun h2 f2 => ?_))
  refine fil.new (n := 1) rfl (by decide) (by decide) (by decide) (fun q h3 f3 => f3.set (i := 0) rfl (by decide) (by decide) (b := false) rfl (fun h4 f4 => ⟨66, ?_⟩))
  exact r_byCopies_L20 hg hm k 66 0 p q h4 _ _ (d.kp (f2.2.1.tr f4.2.1)) (f2.2.1.tr f4.2.1) (f2.2.1.non f4.1) (f2.2.2.on f4.2.1) f4.2.2 (Nat.zero_le _) (by omega) (by omega) (by omega)
/-- the elder word is the younger of the turns but the last -/
theorem grw_elder (ts : List Nat) (hne : ts ≠ []) : (grw (ts.take (ts.length - 1))).2 = (grw ts).1 := by
  obtain ⟨us, t, rfl⟩ : ∃ us t, ts = us ++ [t] := ⟨ts.dropLast, ts.getLast hne, (List.dropLast_concat_getLast _).symm⟩
  rw [grw_snoc]
  simp [gstep]
theorem r_elder {Q : Nat → gaH → Prop} (d : gM B h st no) (hg : g < 2) {x : Int} (hx : x = (g : Int)) (k : ∀ h' o, mK h h' → h o = none → mR h' o (grw (st.T g)).1 → Q o h') : w_X7_elder (B 0) x h Q := by
  subst hx
  have hl := (d.ok hg).len
  unfold w_X7_elder
  refine d.f2 (d.ct rfl hg ?_)
  refine ⟨by omega, ?_⟩
  by_cases q : st.T g = []
  · refine if_yes (by rw [q]; rfl) (fil.new (n := 1) rfl (by decide) (by decide) (by decide) (fun p h1 f1 => f1.set (i := 0) rfl (by decide) (by decide) (b := true) rfl (fun h2 f2 => k h2 p f2.2.1 f2.1 ?_)))
    rw [q]; exact f2.2.2
  · have hp : 0 < (st.T g).length := List.length_pos_iff.mpr q
    refine if_no (by omega) ⟨d.has, gCall_mk (by decide) (by decide) (r_byCopies d hg (m := (st.T g).length - 1) (bk := 1) rfl rfl (by omega) (fun h' o kp no r => k h' o kp no ?_))⟩
    rw [grw_elder _ q] at r; exact r
theorem r_word {Q : Nat → gaH → Prop} (d : gM B h st no) (hg : g < 2) {x y : Int} {b : Bool} (hx : x = (g : Int)) (hy : y = b2i b) (k : ∀ h' o, mK h h' → h o = none → mR h' o (gWd (st.T g) b) → Q o h') : w_X7_word (B 0) x y h Q := by
  subst hy
  unfold w_X7_word
  refine ⟨b2i_R _, ?_⟩
  cases b
  · refine if_yes rfl ⟨d.has, gCall_mk (by decide) (by decide) (r_byCopies d hg (m := (st.T g).length) (bk := 0) hx rfl rfl (fun h' o kp no r => k h' o kp no ?_))⟩
    rw [List.take_length] at r; exact r
  · exact if_no (by decide) ⟨d.has, gCall_mk (by decide) (by decide) (r_elder d hg hx k)⟩
end RM
