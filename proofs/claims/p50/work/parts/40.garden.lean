/-! The garden: its state, and what its methods' shared steps do. -/
abbrev GSt : Type := (Nat → List Bool) × (Nat → List Nat) × (Nat → Int)
abbrev GSt.S (st : GSt) : Nat → List Bool := st.1
abbrev GSt.T (st : GSt) : Nat → List Nat := st.2.1
abbrev GSt.C (st : GSt) : Nat → Int := st.2.2
def gX (A : Nat → Nat) (h : gaH) (C : Nat → Int) : Prop := h (A 22) = some (5, [.ref (A 23), .ref (A 24), .ref (A 25), .ref (A 3), .ref (A 4), gi (C 0), gi (C 1), gi (C 2), gi (C 3)]) ∧ h (A 23) = some (110, [.ref (A 0), .ref (A 1), .ref (A 2)]) ∧ h (A 24) = some (111, [.ref (A 26), .ref (A 27)])
def gD (A : Nat → Nat) (G : gaG) (h : gaH) (U : Nat → List Bool) (st : GSt) : Prop := gW A h U ∧ gRu A h ∧ gX A h st.C ∧ (∀ g, g < 2 → gGr A h g (st.T g)) ∧ (∀ g, g < 2 → gOk (st.T g)) ∧ (∀ g, g < 2 → U (5 + 2 * g) = (grw (st.T g)).1 ∧ U (6 + 2 * g) = (grw (st.T g)).2) ∧ (∀ w, w < 3 → U w = st.S w) ∧ h (G.2.2.2 0) = some (1102, gaCodes) ∧ ∀ i, i < 31 → G.2.2.2 0 ≠ A i
theorem gD.w {A : Nat → Nat} {G : gaG} {h : gaH} {U : Nat → List Bool} {st : GSt} (d : gD A G h U st) : gW A h U := d.1
theorem gD.ru {A : Nat → Nat} {G : gaG} {h : gaH} {U : Nat → List Bool} {st : GSt} (d : gD A G h U st) : gRu A h := d.2.1
theorem gD.x {A : Nat → Nat} {G : gaG} {h : gaH} {U : Nat → List Bool} {st : GSt} (d : gD A G h U st) : gX A h st.C := d.2.2.1
theorem gD.gr {A : Nat → Nat} {G : gaG} {h : gaH} {U : Nat → List Bool} {st : GSt} (d : gD A G h U st) : ∀ g, g < 2 → gGr A h g (st.T g) := d.2.2.2.1
theorem gD.ok {A : Nat → Nat} {G : gaG} {h : gaH} {U : Nat → List Bool} {st : GSt} (d : gD A G h U st) : ∀ g, g < 2 → gOk (st.T g) := d.2.2.2.2.1
theorem gD.gw {A : Nat → Nat} {G : gaG} {h : gaH} {U : Nat → List Bool} {st : GSt} (d : gD A G h U st) : ∀ g, g < 2 → U (5 + 2 * g) = (grw (st.T g)).1 ∧ U (6 + 2 * g) = (grw (st.T g)).2 := d.2.2.2.2.2.1
theorem gD.s {A : Nat → Nat} {G : gaG} {h : gaH} {U : Nat → List Bool} {st : GSt} (d : gD A G h U st) : ∀ w, w < 3 → U w = st.S w := d.2.2.2.2.2.2.1
theorem gD.mc {A : Nat → Nat} {G : gaG} {h : gaH} {U : Nat → List Bool} {st : GSt} (d : gD A G h U st) : h (G.2.2.2 0) = some (1102, gaCodes) := d.2.2.2.2.2.2.2.1
theorem gD.ne {A : Nat → Nat} {G : gaG} {h : gaH} {U : Nat → List Bool} {st : GSt} (d : gD A G h U st) : ∀ i, i < 31 → G.2.2.2 0 ≠ A i := d.2.2.2.2.2.2.2.2
theorem gD.has {A : Nat → Nat} {G : gaG} {h : gaH} {U : Nat → List Bool} {st : GSt} (d : gD A G h U st) : gHas h (A 22) 5 := ⟨_, d.x.1⟩
def gFr (A : Nat → Nat) (h h' : gaH) : Prop := ∀ b e, (∀ i, i < 31 → b ≠ A i) → h b = some e → h' b = some e
theorem gFr.rf {A : Nat → Nat} {h : gaH} : gFr A h h := fun _ _ _ q => q
theorem gFr.tr {A : Nat → Nat} {h h1 h2 : gaH} (x : gFr A h h1) (y : gFr A h1 h2) : gFr A h h2 := fun b e hb q => y b e hb (x b e hb q)
theorem gFr.sm {A : Nat → Nat} {h h1 : gaH} (x : gSm A h h1) : gFr A h h1 := fun b e hb q => (x b (fun w hw => hb w (by omega))).trans q
theorem gFr.sk {A : Nat → Nat} {h h1 : gaH} (x : gSk A h h1) : gFr A h h1 := fun b e hb q => (x b (fun w hw => hb w (by omega)) (hb 30 (by decide))).trans q
theorem gFr.sg {A : Nat → Nat} {h h1 : gaH} {g : Nat} (hg : g < 2) (x : gSg A g h h1) : gFr A h h1 := fun b e hb q => (x b (fun w hw => hb w (by omega)) (hb _ (by omega)) (hb _ (by omega))).trans q
theorem gFr.up {A : Nat → Nat} {h : gaH} {i : Nat} (hi : i < 31) {e : gaE} : gFr A h (gaUp h (A i) e) := fun b f hb q => by rw [gaUp_ne _ _ (hb i hi)]; exact q
def gRes (A : Nat → Nat) (G : gaG) (h : gaH) (E : List String) (X : String → gaH → Prop) (Q : Int → gaH → Prop) (o : Nat × (Int → Prop) × GSt) : Prop := ∀ h' U', gD A G h' U' o.2.2 → gFr A h h' → (o.1 = 0 → ∀ r, o.2.1 r → Q r h') ∧ (o.1 ≠ 0 → X (E.getD (o.1 - 1) "") h')
theorem gCall_mk {C S c s : Nat} {K : Nat → Nat → Prop} (h1 : C ≤ c) (h2 : S ≤ s) (k : K (c - C) (s - S)) : gCall C S c s K := ⟨h1, h2, _, _, rfl, rfl, k⟩
theorem ite_both {c : Prop} [Decidable c] {X Y : Prop} (k1 : c → X) (k2 : ¬ c → Y) : (if c then X else Y) := by
  by_cases q : c
  · rw [if_pos q]; exact k1 q
  · rw [if_neg q]; exact k2 q
section GV
variable {A : Nat → Nat} {h : gaH} {U : Nat → List Bool} {w v : Nat} {Q : gaH → Prop}
theorem v_clear (g : gW A h U) (hw : w < 11) (k : ∀ h' V, gW A h' V → gSm A h h' → V w = [] → (∀ v, v ≠ w → V v = U v) → Q h') : w_X4_clear (A w) h Q := s_clear g hw (fun h' w' s' => k h' _ w' s' (pu_self _ _ _) (fun _ q => pu_ne _ _ q))
theorem v_add (g : gW A h U) (hw : w < 11) (hl : (U w).length < 64) {x : Int} {b : Bool} (hx : x = b2i b) (k : ∀ h' V, gW A h' V → gSm A h h' → V w = U w ++ [b] → (∀ v, v ≠ w → V v = U v) → Q h') : w_X4_add (A w) x h Q := s_add g hw hl hx (fun h' w' s' => k h' _ w' s' (pu_self _ _ _) (fun _ q => pu_ne _ _ q))
theorem v_addPart (g : gW A h U) (hw : w < 11) (hv : v < 11) (hne : v ≠ w) {x y : Int} {i t : Nat} (hx : x = (i : Int)) (hy : y = (t : Int)) (hi : i ≤ t) (ht : t ≤ (U v).length) (hl : (U w).length + (t - i) ≤ 64) (k : ∀ h' V, gW A h' V → gSm A h h' → V w = U w ++ ((U v).drop i).take (t - i) → (∀ v, v ≠ w → V v = U v) → Q h') : w_X4_addPart (A w) (A v) x y h Q := s_addPart g hw hv hne hx hy hi ht hl (fun h' w' s' => k h' _ w' s' (pu_self _ _ _) (fun _ q => pu_ne _ _ q))
theorem v_takeTurned (g : gW A h U) (hw : w < 11) (hv : v < 11) (hne : v ≠ w) (k : ∀ h' V, gW A h' V → gSm A h h' → V w = (U v).reverse → (∀ v, v ≠ w → V v = U v) → Q h') : w_X4_takeTurned (A w) (A v) h Q := s_takeTurned g hw hv hne (fun h' w' s' => k h' _ w' s' (pu_self _ _ _) (fun _ q => pu_ne _ _ q))
end GV
section GD
variable {A : Nat → Nat} {G : gaG} {h : gaH} {U : Nat → List Bool} {st : GSt} {E : List String} {X : String → gaH → Prop} {Q : Int → gaH → Prop} {w v g : Nat}
theorem gRes.ok {P : Int → Prop} {st' : GSt} (k : gRes A G h E X Q (0, P, st')) {h' : gaH} {U' : Nat → List Bool} (d : gD A G h' U' st') (f : gFr A h h') {r : Int} (hr : P r) : Q r h' := (k h' U' d f).1 rfl r hr
theorem gRes.ex {c : Nat} {P : Int → Prop} {st' : GSt} (k : gRes A G h E X Q (c + 1, P, st')) {h' : gaH} {U' : Nat → List Bool} (d : gD A G h' U' st') (f : gFr A h h') : X (E.getD c "") h' := (k h' U' d f).2 (Nat.succ_ne_zero c)
theorem gRes.on {o : Nat × (Int → Prop) × GSt} (k : gRes A G h E X Q o) {h1 : gaH} (f : gFr A h h1) : gRes A G h1 E X Q o := fun h' U' d f2 => k h' U' d (f.tr f2)
theorem gD.f0 (d : gD A G h U st) {K : Nat → Prop} (k : K (A 23)) : gA h (A 22) 5 0 K := gA_mk d.x.1 rfl k
theorem gD.f1 (d : gD A G h U st) {K : Nat → Prop} (k : K (A 24)) : gA h (A 22) 5 1 K := gA_mk d.x.1 rfl k
theorem gD.f2 (d : gD A G h U st) {K : Nat → Prop} (k : K (A 25)) : gA h (A 22) 5 2 K := gA_mk d.x.1 rfl k
theorem gD.f3 (d : gD A G h U st) {K : Nat → Prop} (k : K (A 3)) : gA h (A 22) 5 3 K := gA_mk d.x.1 rfl k
theorem gD.f4 (d : gD A G h U st) {K : Nat → Prop} (k : K (A 4)) : gA h (A 22) 5 4 K := gA_mk d.x.1 rfl k
theorem gD.cn (d : gD A G h U st) {i f : Nat} (hf : f = 5 + i) (hi : i < 4) {K : Int → Prop} (k : K (st.C i)) : gI h (A 22) 5 f K := by
  subst hf
  refine gI_mk d.x.1 (x := st.C i) ?_ k
  rcases (show i = 0 ∨ i = 1 ∨ i = 2 ∨ i = 3 by omega) with rfl | rfl | rfl | rfl <;> rfl
/-- words and marks have changed, neither growths' nor others than these sheets -/
theorem gD.k (d : gD A G h U st) {h' : gaH} {U' : Nat → List Bool} {S' : Nat → List Bool} (w' : gW A h' U') (s : gSk A h h') (hs : ∀ w, w < 3 → U' w = S' w) (hg : ∀ w, 5 ≤ w → w < 9 → U' w = U w) : gD A G h' U' (S', st.T, st.C) := by
  have hA := d.w.inj
  exact ⟨w', d.ru.onk hA s, ⟨(s.at hA (by decide) (by decide)).trans d.x.1, (s.at hA (by decide) (by decide)).trans d.x.2.1, (s.at hA (by decide) (by decide)).trans d.x.2.2⟩, fun g hg => (d.gr g hg).onk hA hg s, d.ok, fun g q => by rw [hg _ (by omega) (by omega), hg _ (by omega) (by omega)]; exact d.gw g q, hs, (s _ (fun w hw => d.ne w (by omega)) (d.ne 30 (by decide))).trans d.mc, d.ne⟩
/-- words that count for nothing have changed -/
theorem gD.b (d : gD A G h U st) {h' : gaH} {U' : Nat → List Bool} (w' : gW A h' U') (s : gSm A h h') (hs : ∀ w, w < 3 → U' w = U w) (hg : ∀ w, 5 ≤ w → w < 9 → U' w = U w) : gD A G h' U' st :=
  d.k (S' := st.S) w' (gSk.of s) (fun w hw => (hs w hw).trans (d.s w hw)) hg
theorem gD.bk (d : gD A G h U st) {h' : gaH} {U' : Nat → List Bool} (w' : gW A h' U') (s : gSk A h h') (hs : ∀ w, w < 3 → U' w = U w) (hg : ∀ w, 5 ≤ w → w < 9 → U' w = U w) : gD A G h' U' st :=
  d.k (S' := st.S) w' s (fun w hw => (hs w hw).trans (d.s w hw)) hg
/-- one sheet's word has changed -/
theorem gD.sh (d : gD A G h U st) {h' : gaH} {u : List Bool} (hw : w < 3) (w' : gW A h' (pu U w u)) (s : gSm A h h') : gD A G h' (pu U w u) (pu st.S w u, st.T, st.C) :=
  d.k w' (gSk.of s) (fun v hv => by
    by_cases e : v = w
    · rw [e, pu_self, pu_self]
    · rw [pu_ne _ _ e, pu_ne _ _ e]; exact d.s v hv) (fun v h5 h9 => pu_ne _ _ (by omega))
theorem gD.inc (d : gD A G h U st) {i f : Nat} (hf : f = 5 + i) (hi : i < 4) {x : Int} (hx : x = st.C i + 1) {K : gaH → Prop} (k : ∀ h', gD A G h' U (st.S, st.T, pu st.C i (st.C i + 1)) → gFr A h h' → K h') : gPF h (A 22) 5 f (gi x) K := by
  subst hf; subst hx
  have hA := d.w.inj
  have ne : ∀ j, j < 31 → j ≠ 22 → A j ≠ A 22 := fun j hj hn q => hn (hA _ _ hj (by decide) q)
  refine gPF_mk d.x.1 (show 5 + i < 9 by omega) (k _ ⟨d.w.off (by decide) (by decide) _, ?_, ⟨?_, ?_, ?_⟩, fun g hg => ?_, d.ok, d.gw, d.s, ?_, d.ne⟩ (gFr.up (by decide)))
  · show gaUp _ _ _ _ = _
    rw [gaUp_ne _ _ (ne _ (by decide) (by decide))]; exact d.ru
  · rw [gaUp_self]
    rcases (show i = 0 ∨ i = 1 ∨ i = 2 ∨ i = 3 by omega) with rfl | rfl | rfl | rfl <;> rfl
  · rw [gaUp_ne _ _ (ne _ (by decide) (by decide))]; exact d.x.2.1
  · rw [gaUp_ne _ _ (ne _ (by decide) (by decide))]; exact d.x.2.2
  · obtain ⟨a0, row, a1, a2, a3, a4⟩ := d.gr g hg
    exact ⟨by rw [gaUp_ne _ _ (ne _ (by omega) (by omega))]; exact a0, row, a1, a2, by rw [gaUp_ne _ _ (ne _ (by omega) (by omega))]; exact a3, a4⟩
  · rw [gaUp_ne _ _ (d.ne _ (by decide))]; exact d.mc
abbrev okS (x : Int) : Prop := 0 ≤ x ∧ x ≤ 2
abbrev okG (x : Int) : Prop := 0 ≤ x ∧ x ≤ 1
abbrev okP (x y : Int) : Prop := (2 ≤ x ∧ x ≤ 31) ∧ 2 ≤ y ∧ y ≤ 31
abbrev bad (n : Nat) (st : GSt) : Nat × (Int → Prop) × GSt := (n, fun _ => False, st)
abbrev done (st : GSt) (r : Int) : Nat × (Int → Prop) × GSt := (0, fun x => x = r, st)
abbrev GSt.sheet (st : GSt) (w : Nat) (u : List Bool) : GSt := (pu st.S w u, st.T, pu st.C 0 (st.C 0 + 1))
abbrev GSt.turn (st : GSt) (g : Nat) (ts : List Nat) : GSt := (st.S, pu st.T g ts, pu st.C 1 (st.C 1 + 1))
abbrev GSt.refuse (st : GSt) : GSt := (st.S, st.T, pu st.C 2 (st.C 2 + 1))
theorem c_wordOf (d : gD A G h U st) {x : Int} (hx : gR x) {Q : Nat → gaH → Prop} (e : ¬ okS x → X "java/lang/IndexOutOfBoundsException" h) (k : ∀ w : Nat, w < 3 → x = (w : Int) → Q (A w) h) : w_X5_wordOf X (A 22) x h Q := by
  unfold w_X5_wordOf
  refine ⟨hx, ?_⟩
  by_cases q : x < 0
  · exact if_yes q ⟨by decide, by decide, e (by omega)⟩
  · refine if_no q (d.f0 (gAL_mk d.x.2.1 (x := 3) rfl ⟨hx, by decide, ?_⟩))
    by_cases z : x < 3
    · refine if_yes z (d.f0 ?_)
      obtain ⟨w, rfl⟩ : ∃ w : Nat, x = (w : Int) := ⟨x.toNat, by omega⟩
      refine ⟨_, A w, d.x.2.1, by omega, by omega, ?_, k w (by omega) rfl⟩
      rw [Int.toNat_natCast]
      rcases (show w = 0 ∨ w = 1 ∨ w = 2 by omega) with rfl | rfl | rfl <;> rfl
    · exact if_no z ⟨by decide, by decide, e (by omega)⟩
theorem c_growthOf (d : gD A G h U st) {x : Int} (hx : gR x) {Q : Nat → gaH → Prop} (e : ¬ okG x → X "java/lang/IndexOutOfBoundsException" h) (k : ∀ g : Nat, g < 2 → x = (g : Int) → Q (A (26 + g)) h) : w_X5_growthOf X (A 22) x h Q := by
  unfold w_X5_growthOf
  refine ⟨hx, ?_⟩
  by_cases q : x < 0
  · exact if_yes q ⟨by decide, by decide, e (by omega)⟩
  · refine if_no q (d.f1 (gAL_mk d.x.2.2 (x := 2) rfl ⟨hx, by decide, ?_⟩))
    by_cases z : x < 2
    · refine if_yes z (d.f1 ?_)
      obtain ⟨w, rfl⟩ : ∃ w : Nat, x = (w : Int) := ⟨x.toNat, by omega⟩
      refine ⟨_, A (26 + w), d.x.2.2, by omega, by omega, ?_, k w (by omega) rfl⟩
      rw [Int.toNat_natCast]
      rcases (show w = 0 ∨ w = 1 by omega) with rfl | rfl <;> rfl
    · exact if_no z ⟨by decide, by decide, e (by omega)⟩
theorem c_nI0 {Q : gaH → Prop} (e : X "java/lang/IndexOutOfBoundsException" h) : w_X5_needIndex X 0 h Q := ⟨by decide, if_yes rfl ⟨by decide, by decide, e⟩⟩
theorem c_nI1 {Q : gaH → Prop} (k : Q h) : w_X5_needIndex X 1 h Q := ⟨by decide, if_no (by decide) k⟩
theorem c_nA0 {Q : gaH → Prop} (e : X "java/lang/IllegalArgumentException" h) : w_X5_needArgument X 0 h Q := ⟨by decide, if_yes rfl ⟨by decide, by decide, e⟩⟩
theorem c_nA1 {Q : gaH → Prop} (k : Q h) : w_X5_needArgument X 1 h Q := ⟨by decide, if_no (by decide) k⟩
theorem c_nS0 {Q : gaH → Prop} (e : X "java/lang/IllegalStateException" h) : w_X5_needState X 0 h Q := ⟨by decide, if_yes rfl ⟨by decide, by decide, e⟩⟩
theorem c_nS1 {Q : gaH → Prop} (k : Q h) : w_X5_needState X 1 h Q := ⟨by decide, if_no (by decide) k⟩
theorem c_sheetDone (d : gD A G h U st) {r : Int} (k : ∀ h', gD A G h' U (st.S, st.T, pu st.C 0 (st.C 0 + 1)) → gFr A h h' → Q r h') : w_X5_sheetActDone (A 22) r h Q := d.cn (i := 0) rfl (by decide) (d.inc (i := 0) rfl (by decide) rfl k)
theorem c_growthDone (d : gD A G h U st) {r : Int} (k : ∀ h', gD A G h' U (st.S, st.T, pu st.C 1 (st.C 1 + 1)) → gFr A h h' → Q r h') : w_X5_growthActDone (A 22) r h Q := d.cn (i := 1) rfl (by decide) (d.inc (i := 1) rfl (by decide) rfl k)
theorem c_refuse (d : gD A G h U st) (k : gRes A G h E X Q (done st.refuse (-9))) : w_X5_refuse (A 22) h Q := d.cn (i := 2) rfl (by decide) (d.inc (i := 2) rfl (by decide) rfl (fun _ d' f => k.ok d' f rfl))
/-- a sheet is to have this word, and the act is done -/
theorem c_end (d : gD A G h U st) (hw : w < 3) {u : List Bool} {h1 : gaH} (w1 : gW A h1 (pu U w u)) (s1 : gSm A h h1) {r : Int} (k : gRes A G h E X Q (done (st.sheet w u) r)) : w_X5_sheetActDone (A 22) r h1 Q :=
  c_sheetDone (d.sh hw w1 s1) (fun _ d2 f => k.ok d2 ((gFr.sm s1).tr f) rfl)
theorem c_takeRule (d : gD A G h U st) {x y : Int} (hx : gR x) (hy : gR y) {Q : gaH → Prop} (e : ¬ okP x y → X "java/lang/IllegalArgumentException" h) (k : okP x y → ∀ h', gD A G h' (pu (pu U 9 (codeW x.toNat)) 10 (codeW y.toNat)) st → gSm A h h' → Q h') : w_X5_takeRule X (A 22) x y h Q := by
  have b1 : ¬ (2 ≤ x ∧ x ≤ 31) → w_X5_takeRule_J15 X Q (A 22) x y h 2 12 := fun q => by
    unfold w_X5_takeRule_J15 w_X5_takeRule_J16
    (first | refine And.intro (show gR _ from by first | assumption | omega | decide | exact b2i_R _ | exact gR_of (by omega) (by omega)) ?_ | refine And.intro (show gHas _ _ _ from by first | exact gW.has (gD.w (by assumption)) (by omega) | exact gD.has (by assumption) | exact gRu.has (gD.ru (by assumption)) | exact gGr.has (gD.gr (by assumption) _ (by omega))) ?_ | refine gCall_mk (by decide) (by decide) ?_ | refine if_yes (by first | assumption | omega | decide | exact b2i_R _ | exact gR_of (by omega) (by omega)) ?_ | refine if_no (by first | assumption | omega | decide | exact b2i_R _ | exact gR_of (by omega) (by omega)) ?_)
    exact c_nA0 (e (by omega))
  unfold w_X5_takeRule
  (first | refine And.intro (show gR _ from by first | assumption | omega | decide | exact b2i_R _ | exact gR_of (by omega) (by omega)) ?_ | refine And.intro (show gHas _ _ _ from by first | exact gW.has (gD.w (by assumption)) (by omega) | exact gD.has (by assumption) | exact gRu.has (gD.ru (by assumption)) | exact gGr.has (gD.gr (by assumption) _ (by omega))) ?_ | refine gCall_mk (by decide) (by decide) ?_ | refine if_yes (by first | assumption | omega | decide | exact b2i_R _ | exact gR_of (by omega) (by omega)) ?_ | refine if_no (by first | assumption | omega | decide | exact b2i_R _ | exact gR_of (by omega) (by omega)) ?_)
  by_cases q1 : x < 2
  · exact if_yes q1 (b1 (by omega))
  (first | refine And.intro (show gR _ from by first | assumption | omega | decide | exact b2i_R _ | exact gR_of (by omega) (by omega)) ?_ | refine And.intro (show gHas _ _ _ from by first | exact gW.has (gD.w (by assumption)) (by omega) | exact gD.has (by assumption) | exact gRu.has (gD.ru (by assumption)) | exact gGr.has (gD.gr (by assumption) _ (by omega))) ?_ | refine gCall_mk (by decide) (by decide) ?_ | refine if_yes (by first | assumption | omega | decide | exact b2i_R _ | exact gR_of (by omega) (by omega)) ?_ | refine if_no (by first | assumption | omega | decide | exact b2i_R _ | exact gR_of (by omega) (by omega)) ?_); (first | refine And.intro (show gR _ from by first | assumption | omega | decide | exact b2i_R _ | exact gR_of (by omega) (by omega)) ?_ | refine And.intro (show gHas _ _ _ from by first | exact gW.has (gD.w (by assumption)) (by omega) | exact gD.has (by assumption) | exact gRu.has (gD.ru (by assumption)) | exact gGr.has (gD.gr (by assumption) _ (by omega))) ?_ | refine gCall_mk (by decide) (by decide) ?_ | refine if_yes (by first | assumption | omega | decide | exact b2i_R _ | exact gR_of (by omega) (by omega)) ?_ | refine if_no (by first | assumption | omega | decide | exact b2i_R _ | exact gR_of (by omega) (by omega)) ?_)
  by_cases q2 : 31 < x
  · exact if_yes q2 (b1 (by omega))
  (first | refine And.intro (show gR _ from by first | assumption | omega | decide | exact b2i_R _ | exact gR_of (by omega) (by omega)) ?_ | refine And.intro (show gHas _ _ _ from by first | exact gW.has (gD.w (by assumption)) (by omega) | exact gD.has (by assumption) | exact gRu.has (gD.ru (by assumption)) | exact gGr.has (gD.gr (by assumption) _ (by omega))) ?_ | refine gCall_mk (by decide) (by decide) ?_ | refine if_yes (by first | assumption | omega | decide | exact b2i_R _ | exact gR_of (by omega) (by omega)) ?_ | refine if_no (by first | assumption | omega | decide | exact b2i_R _ | exact gR_of (by omega) (by omega)) ?_)
  unfold w_X5_takeRule_J16
  (first | refine And.intro (show gR _ from by first | assumption | omega | decide | exact b2i_R _ | exact gR_of (by omega) (by omega)) ?_ | refine And.intro (show gHas _ _ _ from by first | exact gW.has (gD.w (by assumption)) (by omega) | exact gD.has (by assumption) | exact gRu.has (gD.ru (by assumption)) | exact gGr.has (gD.gr (by assumption) _ (by omega))) ?_ | refine gCall_mk (by decide) (by decide) ?_ | refine if_yes (by first | assumption | omega | decide | exact b2i_R _ | exact gR_of (by omega) (by omega)) ?_ | refine if_no (by first | assumption | omega | decide | exact b2i_R _ | exact gR_of (by omega) (by omega)) ?_)
  refine c_nA1 ?_
  have b2 : ¬ (2 ≤ y ∧ y ≤ 31) → w_X5_takeRule_J34 X Q (A 22) x y h 1 6 := fun q => by
    unfold w_X5_takeRule_J34 w_X5_takeRule_J35
    (first | refine And.intro (show gR _ from by first | assumption | omega | decide | exact b2i_R _ | exact gR_of (by omega) (by omega)) ?_ | refine And.intro (show gHas _ _ _ from by first | exact gW.has (gD.w (by assumption)) (by omega) | exact gD.has (by assumption) | exact gRu.has (gD.ru (by assumption)) | exact gGr.has (gD.gr (by assumption) _ (by omega))) ?_ | refine gCall_mk (by decide) (by decide) ?_ | refine if_yes (by first | assumption | omega | decide | exact b2i_R _ | exact gR_of (by omega) (by omega)) ?_ | refine if_no (by first | assumption | omega | decide | exact b2i_R _ | exact gR_of (by omega) (by omega)) ?_)
    exact c_nA0 (e (by omega))
  (first | refine And.intro (show gR _ from by first | assumption | omega | decide | exact b2i_R _ | exact gR_of (by omega) (by omega)) ?_ | refine And.intro (show gHas _ _ _ from by first | exact gW.has (gD.w (by assumption)) (by omega) | exact gD.has (by assumption) | exact gRu.has (gD.ru (by assumption)) | exact gGr.has (gD.gr (by assumption) _ (by omega))) ?_ | refine gCall_mk (by decide) (by decide) ?_ | refine if_yes (by first | assumption | omega | decide | exact b2i_R _ | exact gR_of (by omega) (by omega)) ?_ | refine if_no (by first | assumption | omega | decide | exact b2i_R _ | exact gR_of (by omega) (by omega)) ?_)
  by_cases q3 : y < 2
  · exact if_yes q3 (b2 (by omega))
  (first | refine And.intro (show gR _ from by first | assumption | omega | decide | exact b2i_R _ | exact gR_of (by omega) (by omega)) ?_ | refine And.intro (show gHas _ _ _ from by first | exact gW.has (gD.w (by assumption)) (by omega) | exact gD.has (by assumption) | exact gRu.has (gD.ru (by assumption)) | exact gGr.has (gD.gr (by assumption) _ (by omega))) ?_ | refine gCall_mk (by decide) (by decide) ?_ | refine if_yes (by first | assumption | omega | decide | exact b2i_R _ | exact gR_of (by omega) (by omega)) ?_ | refine if_no (by first | assumption | omega | decide | exact b2i_R _ | exact gR_of (by omega) (by omega)) ?_); (first | refine And.intro (show gR _ from by first | assumption | omega | decide | exact b2i_R _ | exact gR_of (by omega) (by omega)) ?_ | refine And.intro (show gHas _ _ _ from by first | exact gW.has (gD.w (by assumption)) (by omega) | exact gD.has (by assumption) | exact gRu.has (gD.ru (by assumption)) | exact gGr.has (gD.gr (by assumption) _ (by omega))) ?_ | refine gCall_mk (by decide) (by decide) ?_ | refine if_yes (by first | assumption | omega | decide | exact b2i_R _ | exact gR_of (by omega) (by omega)) ?_ | refine if_no (by first | assumption | omega | decide | exact b2i_R _ | exact gR_of (by omega) (by omega)) ?_)
  by_cases q4 : 31 < y
  · exact if_yes q4 (b2 (by omega))
  (first | refine And.intro (show gR _ from by first | assumption | omega | decide | exact b2i_R _ | exact gR_of (by omega) (by omega)) ?_ | refine And.intro (show gHas _ _ _ from by first | exact gW.has (gD.w (by assumption)) (by omega) | exact gD.has (by assumption) | exact gRu.has (gD.ru (by assumption)) | exact gGr.has (gD.gr (by assumption) _ (by omega))) ?_ | refine gCall_mk (by decide) (by decide) ?_ | refine if_yes (by first | assumption | omega | decide | exact b2i_R _ | exact gR_of (by omega) (by omega)) ?_ | refine if_no (by first | assumption | omega | decide | exact b2i_R _ | exact gR_of (by omega) (by omega)) ?_)
  unfold w_X5_takeRule_J35
  (first | refine And.intro (show gR _ from by first | assumption | omega | decide | exact b2i_R _ | exact gR_of (by omega) (by omega)) ?_ | refine And.intro (show gHas _ _ _ from by first | exact gW.has (gD.w (by assumption)) (by omega) | exact gD.has (by assumption) | exact gRu.has (gD.ru (by assumption)) | exact gGr.has (gD.gr (by assumption) _ (by omega))) ?_ | refine gCall_mk (by decide) (by decide) ?_ | refine if_yes (by first | assumption | omega | decide | exact b2i_R _ | exact gR_of (by omega) (by omega)) ?_ | refine if_no (by first | assumption | omega | decide | exact b2i_R _ | exact gR_of (by omega) (by omega)) ?_)
  refine c_nA1 (d.f2 ?_)
  (first | refine And.intro (show gR _ from by first | assumption | omega | decide | exact b2i_R _ | exact gR_of (by omega) (by omega)) ?_ | refine And.intro (show gHas _ _ _ from by first | exact gW.has (gD.w (by assumption)) (by omega) | exact gD.has (by assumption) | exact gRu.has (gD.ru (by assumption)) | exact gGr.has (gD.gr (by assumption) _ (by omega))) ?_ | refine gCall_mk (by decide) (by decide) ?_ | refine if_yes (by first | assumption | omega | decide | exact b2i_R _ | exact gR_of (by omega) (by omega)) ?_ | refine if_no (by first | assumption | omega | decide | exact b2i_R _ | exact gR_of (by omega) (by omega)) ?_)
  exact s_ruleTake d.w d.ru (c := x.toNat) (d := y.toNat) (by omega) (by omega) (by omega) (by omega) (fun h' w' s' => k ⟨⟨by omega, by omega⟩, by omega, by omega⟩ h' (d.b w' s' (fun v hv => by rw [pu_ne _ _ (by omega), pu_ne _ _ (by omega)]) (fun v _ hv => by rw [pu_ne _ _ (by omega), pu_ne _ _ (by omega)])) s')
def exch (st : GSt) (w : Nat) (f t : Nat) (v : List Bool) : Nat × (Int → Prop) × GSt :=
  if (st.S w).length - (t - f) + v.length ≤ 64 then done (st.sheet w ((st.S w).take f ++ v ++ (st.S w).drop t)) (((st.S w).take f ++ v ++ (st.S w).drop t).length : Int) else done st.refuse (-9)
theorem c_exch (d : gD A G h U st) (hw : w < 3) (hv : v < 11) (hv3 : v ≠ 3) {x y : Int} {f t : Nat} (hx : x = (f : Int)) (hy : y = (t : Int)) (hft : f ≤ t) (ht : t ≤ (U w).length) (k : gRes A G h E X Q (exch st w f t (U v))) : w_X5_exchangePart (A 22) (A w) x y (A v) h Q := by
  subst hx; subst hy
  have l1 := d.w.le (show w < 11 by omega)
  have l2 := d.w.le hv
  have e0 := d.s w hw
  unfold exch at k
  rw [← e0] at k
  unfold w_X5_exchangePart
  refine d.w.many (by omega) (d.w.many hv ?_)
  (first | refine And.intro (show gR _ from by first | assumption | omega | decide | exact b2i_R _ | exact gR_of (by omega) (by omega)) ?_ | refine And.intro (show gHas _ _ _ from by first | exact gW.has (gD.w (by assumption)) (by omega) | exact gD.has (by assumption) | exact gRu.has (gD.ru (by assumption)) | exact gGr.has (gD.gr (by assumption) _ (by omega))) ?_ | refine gCall_mk (by decide) (by decide) ?_ | refine if_yes (by first | assumption | omega | decide | exact b2i_R _ | exact gR_of (by omega) (by omega)) ?_ | refine if_no (by first | assumption | omega | decide | exact b2i_R _ | exact gR_of (by omega) (by omega)) ?_)
  by_cases q : (U w).length - (t - f) + (U v).length ≤ 64
  · rw [if_pos q] at k
    refine if_yes (by omega) (d.f3 ?_)
    (first | refine And.intro (show gR _ from by first | assumption | omega | decide | exact b2i_R _ | exact gR_of (by omega) (by omega)) ?_ | refine And.intro (show gHas _ _ _ from by first | exact gW.has (gD.w (by assumption)) (by omega) | exact gD.has (by assumption) | exact gRu.has (gD.ru (by assumption)) | exact gGr.has (gD.gr (by assumption) _ (by omega))) ?_ | refine gCall_mk (by decide) (by decide) ?_ | refine if_yes (by first | assumption | omega | decide | exact b2i_R _ | exact gR_of (by omega) (by omega)) ?_ | refine if_no (by first | assumption | omega | decide | exact b2i_R _ | exact gR_of (by omega) (by omega)) ?_)
    refine v_clear d.w (by decide) (fun h1 V1 w1 s1 e1 o1 => ?_)
    have d1 := d.b w1 s1 (fun v hv => o1 _ (by omega)) (fun v h5 _ => o1 _ (by omega))
    refine d1.f3 ?_
    (first | refine And.intro (show gR _ from by first | assumption | omega | decide | exact b2i_R _ | exact gR_of (by omega) (by omega)) ?_ | refine And.intro (show gHas _ _ _ from by first | exact gW.has (gD.w (by assumption)) (by omega) | exact gD.has (by assumption) | exact gRu.has (gD.ru (by assumption)) | exact gGr.has (gD.gr (by assumption) _ (by omega))) ?_ | refine gCall_mk (by decide) (by decide) ?_ | refine if_yes (by first | assumption | omega | decide | exact b2i_R _ | exact gR_of (by omega) (by omega)) ?_ | refine if_no (by first | assumption | omega | decide | exact b2i_R _ | exact gR_of (by omega) (by omega)) ?_)
    have a1 := o1 w (by omega)
    refine v_addPart w1 (show 3 < 11 by decide) (show w < 11 by omega) (by omega) (i := 0) (t := f) rfl rfl (Nat.zero_le _) (by rw [a1]; omega) (by rw [e1]; simp; omega) (fun h2 V2 w2 s2 e2 o2 => ?_)
    rw [e1, a1] at e2
    have d2 := d1.b w2 s2 (fun v hv => o2 _ (by omega)) (fun v h5 _ => o2 _ (by omega))
    refine d2.f3 (d2.w.many hv ?_)
    have a2 : V2 v = U v := (o2 v hv3).trans (o1 v hv3)
    rw [a2]
    (first | refine And.intro (show gR _ from by first | assumption | omega | decide | exact b2i_R _ | exact gR_of (by omega) (by omega)) ?_ | refine And.intro (show gHas _ _ _ from by first | exact gW.has (gD.w (by assumption)) (by omega) | exact gD.has (by assumption) | exact gRu.has (gD.ru (by assumption)) | exact gGr.has (gD.gr (by assumption) _ (by omega))) ?_ | refine gCall_mk (by decide) (by decide) ?_ | refine if_yes (by first | assumption | omega | decide | exact b2i_R _ | exact gR_of (by omega) (by omega)) ?_ | refine if_no (by first | assumption | omega | decide | exact b2i_R _ | exact gR_of (by omega) (by omega)) ?_)
    refine v_addPart w2 (show 3 < 11 by decide) hv hv3 (i := 0) (t := (U v).length) rfl rfl (Nat.zero_le _) (by rw [a2]; omega) (by rw [e2]; simp; omega) (fun h3 V3 w3 s3 e3 o3 => ?_)
    rw [e2, a2] at e3
    have d3 := d2.b w3 s3 (fun v hv => o3 _ (by omega)) (fun v h5 _ => o3 _ (by omega))
    have a3 : V3 w = U w := (o3 w (by omega)).trans ((o2 w (by omega)).trans a1)
    refine d3.f3 (d3.w.many (show w < 11 by omega) ?_)
    rw [a3]
    (first | refine And.intro (show gR _ from by first | assumption | omega | decide | exact b2i_R _ | exact gR_of (by omega) (by omega)) ?_ | refine And.intro (show gHas _ _ _ from by first | exact gW.has (gD.w (by assumption)) (by omega) | exact gD.has (by assumption) | exact gRu.has (gD.ru (by assumption)) | exact gGr.has (gD.gr (by assumption) _ (by omega))) ?_ | refine gCall_mk (by decide) (by decide) ?_ | refine if_yes (by first | assumption | omega | decide | exact b2i_R _ | exact gR_of (by omega) (by omega)) ?_ | refine if_no (by first | assumption | omega | decide | exact b2i_R _ | exact gR_of (by omega) (by omega)) ?_)
    refine v_addPart w3 (show 3 < 11 by decide) (show w < 11 by omega) (by omega) (i := t) (t := (U w).length) rfl rfl ht (by rw [a3]; omega) (by rw [e3]; simp; omega) (fun h4 V4 w4 s4 e4 o4 => ?_)
    rw [e3, a3] at e4
    have e5 : V4 3 = (U w).take f ++ U v ++ (U w).drop t := by rw [e4]; simp [List.take_of_length_le]
    have d4 := d3.b w4 s4 (fun v hv => o4 _ (by omega)) (fun v h5 _ => o4 _ (by omega))
    refine d4.f3 ?_
    (first | refine And.intro (show gR _ from by first | assumption | omega | decide | exact b2i_R _ | exact gR_of (by omega) (by omega)) ?_ | refine And.intro (show gHas _ _ _ from by first | exact gW.has (gD.w (by assumption)) (by omega) | exact gD.has (by assumption) | exact gRu.has (gD.ru (by assumption)) | exact gGr.has (gD.gr (by assumption) _ (by omega))) ?_ | refine gCall_mk (by decide) (by decide) ?_ | refine if_yes (by first | assumption | omega | decide | exact b2i_R _ | exact gR_of (by omega) (by omega)) ?_ | refine if_no (by first | assumption | omega | decide | exact b2i_R _ | exact gR_of (by omega) (by omega)) ?_)
    refine s_take w4 (show w < 11 by omega) (show 3 < 11 by decide) (fun h5 w5 s5 => ?_)
    rw [e5] at w5
    refine w5.many (show w < 11 by omega) ?_
    rw [pu_self]
    have d5 := d4.sh hw w5 s5
    (first | refine And.intro (show gR _ from by first | assumption | omega | decide | exact b2i_R _ | exact gR_of (by omega) (by omega)) ?_ | refine And.intro (show gHas _ _ _ from by first | exact gW.has (gD.w (by assumption)) (by omega) | exact gD.has (by assumption) | exact gRu.has (gD.ru (by assumption)) | exact gGr.has (gD.gr (by assumption) _ (by omega))) ?_ | refine gCall_mk (by decide) (by decide) ?_ | refine if_yes (by first | assumption | omega | decide | exact b2i_R _ | exact gR_of (by omega) (by omega)) ?_ | refine if_no (by first | assumption | omega | decide | exact b2i_R _ | exact gR_of (by omega) (by omega)) ?_)
    exact c_end d4 hw w5 s5 (k.on ((gFr.sm s1).tr ((gFr.sm s2).tr ((gFr.sm s3).tr (gFr.sm s4)))))
  · rw [if_neg q] at k
    refine if_no (by omega) ?_
    (first | refine And.intro (show gR _ from by first | assumption | omega | decide | exact b2i_R _ | exact gR_of (by omega) (by omega)) ?_ | refine And.intro (show gHas _ _ _ from by first | exact gW.has (gD.w (by assumption)) (by omega) | exact gD.has (by assumption) | exact gRu.has (gD.ru (by assumption)) | exact gGr.has (gD.gr (by assumption) _ (by omega))) ?_ | refine gCall_mk (by decide) (by decide) ?_ | refine if_yes (by first | assumption | omega | decide | exact b2i_R _ | exact gR_of (by omega) (by omega)) ?_ | refine if_no (by first | assumption | omega | decide | exact b2i_R _ | exact gR_of (by omega) (by omega)) ?_)
    exact c_refuse d k
def settled (st : GSt) (w : Nat) (u : List Bool) : Nat × (Int → Prop) × GSt := done (st.sheet w u) (if st.S w = u then 0 else 1)
theorem c_settle (d : gD A G h U st) (hw : w < 3) (hv : v < 11) (k : gRes A G h E X Q (settled st w (U v))) : w_X5_settle (A 22) (A w) (A v) h Q := by
  have e0 := d.s w hw
  unfold settled at k
  rw [← e0] at k
  unfold w_X5_settle
  refine s_orderOf d.w (by omega) hv ?_
  have r1 := cmpL_R (U w) (U v)
  have r2 := cmpL_eq (U w) (U v)
  (first | refine And.intro (show gR _ from by first | assumption | omega | decide | exact b2i_R _ | exact gR_of (by omega) (by omega)) ?_ | refine And.intro (show gHas _ _ _ from by first | exact gW.has (gD.w (by assumption)) (by omega) | exact gD.has (by assumption) | exact gRu.has (gD.ru (by assumption)) | exact gGr.has (gD.gr (by assumption) _ (by omega))) ?_ | refine gCall_mk (by decide) (by decide) ?_ | refine if_yes (by first | assumption | omega | decide | exact b2i_R _ | exact gR_of (by omega) (by omega)) ?_ | refine if_no (by first | assumption | omega | decide | exact b2i_R _ | exact gR_of (by omega) (by omega)) ?_)
  have fin : ∀ t : Int, t = (if U w = U v then 1 else 0) → w_X5_settle_J13 Q (A 22) (A w) (A v) t h := by
    intro t ht
    unfold w_X5_settle_J13
    (first | refine And.intro (show gR _ from by first | assumption | omega | decide | exact b2i_R _ | exact gR_of (by omega) (by omega)) ?_ | refine And.intro (show gHas _ _ _ from by first | exact gW.has (gD.w (by assumption)) (by omega) | exact gD.has (by assumption) | exact gRu.has (gD.ru (by assumption)) | exact gGr.has (gD.gr (by assumption) _ (by omega))) ?_ | refine gCall_mk (by decide) (by decide) ?_ | refine if_yes (by first | assumption | omega | decide | exact b2i_R _ | exact gR_of (by omega) (by omega)) ?_ | refine if_no (by first | assumption | omega | decide | exact b2i_R _ | exact gR_of (by omega) (by omega)) ?_)
    refine s_take d.w (show w < 11 by omega) hv (fun h1 w1 s1 => ?_)
    have d1 := d.sh hw w1 s1
    by_cases q : U w = U v
    · rw [if_pos q] at ht k
      subst ht
      (repeat (first | refine And.intro (show gR _ from by first | assumption | omega | decide | exact b2i_R _ | exact gR_of (by omega) (by omega)) ?_ | refine And.intro (show gHas _ _ _ from by first | exact gW.has (gD.w (by assumption)) (by omega) | exact gD.has (by assumption) | exact gRu.has (gD.ru (by assumption)) | exact gGr.has (gD.gr (by assumption) _ (by omega))) ?_ | refine gCall_mk (by decide) (by decide) ?_ | refine if_yes (by first | assumption | omega | decide | exact b2i_R _ | exact gR_of (by omega) (by omega)) ?_ | refine if_no (by first | assumption | omega | decide | exact b2i_R _ | exact gR_of (by omega) (by omega)) ?_))
      exact c_end d hw w1 s1 k
    · rw [if_neg q] at ht k
      subst ht
      (repeat (first | refine And.intro (show gR _ from by first | assumption | omega | decide | exact b2i_R _ | exact gR_of (by omega) (by omega)) ?_ | refine And.intro (show gHas _ _ _ from by first | exact gW.has (gD.w (by assumption)) (by omega) | exact gD.has (by assumption) | exact gRu.has (gD.ru (by assumption)) | exact gGr.has (gD.gr (by assumption) _ (by omega))) ?_ | refine gCall_mk (by decide) (by decide) ?_ | refine if_yes (by first | assumption | omega | decide | exact b2i_R _ | exact gR_of (by omega) (by omega)) ?_ | refine if_no (by first | assumption | omega | decide | exact b2i_R _ | exact gR_of (by omega) (by omega)) ?_))
      exact c_end d hw w1 s1 k
  by_cases q : U w = U v
  · exact if_yes (r2.mpr q) (fin 1 (by rw [if_pos q]))
  · exact if_no (fun z => q (r2.mp z)) (fin 0 (by rw [if_neg q]))
end GD
