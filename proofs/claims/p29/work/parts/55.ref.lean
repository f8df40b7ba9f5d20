/-! The reference's object changes: numbers told, sheets put in, turns. -/
def mF (B : Nat → Nat) (h h' : gaH) : Prop := ∀ a e, (∀ i, i < 6 → a ≠ B i) → h a = some e → h' a = some e
theorem mF.rf {B : Nat → Nat} {h : gaH} : mF B h h := fun _ _ _ q => q
theorem mF.tr {B : Nat → Nat} {h h1 h2 : gaH} (x : mF B h h1) (y : mF B h1 h2) : mF B h h2 := fun a e hb q => y a e hb (x a e hb q)
theorem mF.kp {B : Nat → Nat} {h h1 : gaH} (x : mK h h1) : mF B h h1 := fun a e _ q => x a e q
theorem mF.up {B : Nat → Nat} {h : gaH} {i : Nat} (hi : i < 6) {e : gaE} : mF B h (gaUp h (B i) e) := fun a f hb q => by rw [gaUp_ne _ _ (hb i hi)]; exact q
def mRes (B : Nat → Nat) (h : gaH) (Q : Int → gaH → Prop) (o : Nat × (Int → Prop) × GSt) : Prop := ∀ h' r, gM B h' o.2.2 (o.1 : Int) → mF B h h' → (o.1 = 0 → o.2.1 r) → Q r h'
def mSafe (B : Nat → Nat) (h : gaH) (Q : Int → gaH → Prop) (st : GSt) (c : Nat) : Prop := ∀ h' r, gM B h' st (c : Int) → mF B h h' → Q r h'
section RS
variable {B : Nat → Nat} {h h0 : gaH} {st : GSt} {no : Int} {a b o : Nat} {u v : List Bool} {w g : Nat} {x y z : Int} {Q : Int → gaH → Prop}
theorem mRes.on {r : Nat × (Int → Prop) × GSt} (k : mRes B h Q r) {h1 : gaH} (f : mF B h h1) : mRes B h1 Q r := fun h' x d f2 => k h' x d (f.tr f2)
theorem mSafe.on {c : Nat} (k : mSafe B h Q st c) {h1 : gaH} (f : mF B h h1) : mSafe B h1 Q st c := fun h' x d f2 => k h' x d (f.tr f2)
theorem mRes.ok {P : Int → Prop} {st' : GSt} (k : mRes B h Q (0, P, st')) {h' : gaH} (d : gM B h' st' 0) (f : mF B h h') {r : Int} (hr : P r) : Q r h' := k h' r d f (fun _ => hr)
theorem mRes.ex {c : Nat} {P : Int → Prop} {st' : GSt} (k : mRes B h Q (c + 1, P, st')) {h' : gaH} (d : gM B h' st' ((c + 1 : Nat) : Int)) (f : mF B h h') {r : Int} : Q r h' := k h' r d f (fun q => absurd q (Nat.succ_ne_zero c))
theorem gM.inj (d : gM B h st no) : ∀ i j, i < 6 → j < 6 → B i = B j → i = j := by obtain ⟨s, a1, a2, a3, a4, a5, a6, a7⟩ := d; exact a7.1
theorem gM.cell (d : gM B h st no) {i : Nat} (hi : i < 38) : ∃ e, h (B i) = some e := by obtain ⟨s, a1, a2, a3, a4, a5, a6, a7⟩ := d; exact a7.2 i hi
theorem gM.new (d : gM B h st no) (ho : h o = none) : ∀ i, i < 38 → o ≠ B i := fun i hi q => by
  obtain ⟨e, he⟩ := d.cell hi
  rw [← q, ho] at he; cases he
/-- the object's numbers are set -/
theorem gM.put (d : gM B h st no) {C : Nat → Int} {no' : Int} : gM B (gaUp h (B 0) (7, [.ref (B 1), .ref (B 2), .ref (B 3), gi (C 0), gi (C 1), gi (C 2), gi (C 3), gi no'])) (st.S, st.T, C) no' := by
  obtain ⟨s, a1, a2, a3, a4, a5, a6, a7⟩ := d
  have ne : ∀ i, i < 6 → i ≠ 0 → B i ≠ B 0 := fun i hi hn q => hn (a7.1 i 0 hi (by decide) q)
  refine ⟨s, gaUp_self _ _ _, ?_, fun w hw => ⟨?_, (a3 w hw).2⟩, ?_, ?_, fun g hg => ?_, a7.1, fun i hi => upE (a7.2 i hi)⟩
  · rw [gaUp_ne _ _ (ne _ (by decide) (by decide))]; exact a2
  · unfold mR; rw [gaUp_ne _ _ ((a3 w hw).2.2 0 (by decide))]; exact (a3 w hw).1
  · rw [gaUp_ne _ _ (ne _ (by decide) (by decide))]; exact a4
  · rw [gaUp_ne _ _ (ne _ (by decide) (by decide))]; exact a5
  · obtain ⟨b1, row, b2, b3, b4⟩ := a6 g hg
    exact ⟨b1, row, b2, by rw [gaUp_ne _ _ (ne _ (by omega) (by omega))]; exact b3, b4⟩
theorem gM.setNo (d : gM B h st no) {c : Int} {K : gaH → Prop} (k : ∀ h', gM B h' st c → mF B h h' → K h') : gPF h (B 0) 7 7 (gi c) K := by
  obtain ⟨s, a1, -⟩ := id d
  exact gPF_mk a1 (by simp) (k _ (d.put (C := st.C)) (mF.up (by decide)))
theorem gM.inc (d : gM B h st no) {i f : Nat} (hf : f = 3 + i) (hi : i < 4) {x : Int} (hx : x = st.C i + 1) {K : gaH → Prop} (k : ∀ h', gM B h' (st.S, st.T, pu st.C i (st.C i + 1)) no → mF B h h' → K h') : gPF h (B 0) 7 f (gi x) K := by
  subst hf; subst hx
  obtain ⟨s, a1, -⟩ := id d
  refine gPF_mk a1 (by simp; omega) (k _ ?_ (mF.up (by decide)))
  have := d.put (C := pu st.C i (st.C i + 1)) (no' := no)
  rcases (show i = 0 ∨ i = 1 ∨ i = 2 ∨ i = 3 by omega) with rfl | rfl | rfl | rfl <;> exact this
theorem r_J16 (d : gM B h st no) (k0 : no ≤ 0 → Q 0 h) (k1 : 0 < no → Q 1 h) (hn : gR no) : w_X7_refuse_J16 Q (B 0) h := by
  unfold w_X7_refuse_J16
  exact d.nn ⟨hn, ite_both k0 (fun q => k1 (by omega))⟩
theorem r_refuse (d : gM B h st 0) {bd : Bool} (hx : x = b2i bd) {c : Int} (hc : 1 ≤ c ∧ c ≤ 3) (k0 : bd = false → Q 0 h) (k1 : bd = true → ∀ h', gM B h' st c → mF B h h' → Q 1 h') : w_X7_refuse (B 0) x c h Q := by
  subst hx
  unfold w_X7_refuse
  refine ⟨b2i_R _, ?_⟩
  cases bd
  · exact if_yes rfl (r_J16 d (fun _ => k0 rfl) (fun q => absurd q (by decide)) (by decide))
  · exact if_no (by decide) (d.nn ⟨by decide, if_yes rfl (d.setNo (fun h' d' f => r_J16 d' (fun q => by omega) (fun _ => k1 rfl h' d' f) (by omega)))⟩)
theorem r_start (d : gM B h st no) {bd : Bool} (hx : x = b2i bd) {c : Int} (hc : 1 ≤ c ∧ c ≤ 3) (k0 : bd = false → ∀ h', gM B h' st 0 → mF B h h' → Q 0 h') (k1 : bd = true → ∀ h', gM B h' st c → mF B h h' → Q 1 h') : w_X7_start (B 0) x c h Q := by
  unfold w_X7_start
  exact d.setNo (fun h1 d1 f1 => ⟨d1.has, r_refuse d1 hx hc (fun q => ⟨by decide, k0 q h1 d1 f1⟩) (fun q h2 d2 f2 => ⟨by decide, k1 q h2 d2 (f1.tr f2)⟩)⟩)
theorem r_isIn {lo hi : Int} (hx : gR x) (h1 : gR lo) (h2 : gR hi) (k : Q (b2i (decide (lo ≤ x ∧ x ≤ hi))) h) : w_X7_isIn x lo hi h Q := by
  unfold w_X7_isIn
  refine ⟨hx, h1, ?_⟩
  by_cases q : x < lo
  · rw [decide_eq_false (by omega)] at k; exact if_yes q k
  · refine if_no q ⟨hx, h2, ?_⟩
    by_cases z : hi < x
    · rw [decide_eq_false (by omega)] at k; exact if_yes z k
    · rw [decide_eq_true (by omega)] at k; exact if_no z k
theorem r_flip {c : Bool} (k : Q (b2i (!c)) h) : gR (b2i c) ∧ (if b2i c = 0 then Q 1 h else Q 0 h) := by
  cases c
  · exact ⟨by decide, if_yes rfl k⟩
  · exact ⟨by decide, if_no (by decide) k⟩
theorem r_isNoSheet (hx : gR x) (k : Q (b2i (!decide (okS x))) h) : w_X7_isNoSheet x h Q := by
  unfold w_X7_isNoSheet
  exact r_isIn hx (by decide) (by decide) (r_flip k)
theorem r_isNoGrowth (hx : gR x) (k : Q (b2i (!decide (okG x))) h) : w_X7_isNoGrowth x h Q := by
  unfold w_X7_isNoGrowth
  exact r_isIn hx (by decide) (by decide) (r_flip k)
theorem r_isNoRule (hx : gR x) (hy : gR y) (k : Q (b2i (!decide (okP x y))) h) : w_X7_isNoRule x y h Q := by
  unfold w_X7_isNoRule
  refine r_isIn hx (by decide) (by decide) ⟨b2i_R _, ?_⟩
  by_cases q : 2 ≤ x ∧ x ≤ 31
  · rw [decide_eq_true q]
    refine if_no (by decide) (r_isIn hy (by decide) (by decide) ?_)
    have e : decide (okP x y) = decide (2 ≤ y ∧ y ≤ 31) := by by_cases z : 2 ≤ y ∧ y ≤ 31 <;> simp [okP, q, z]
    rw [e] at k
    exact r_flip k
  · rw [decide_eq_false q]
    have e : decide (okP x y) = false := decide_eq_false (fun z => q z.1)
    rw [e] at k
    exact if_yes rfl k
theorem r_one {c : Bool} (hx : x = b2i c) (k : Q (b2i c) h) : w_X7_one x h Q := by
  subst hx
  cases c
  · exact ⟨by decide, if_yes rfl k⟩
  · exact ⟨by decide, if_no (by decide) k⟩
/-- no place up to the length -/
theorem r_isNoGap (d : gM B h st no) (hx : gR x) (hy : gR y) (k : Q (b2i (!decide (okS x ∧ 0 ≤ y ∧ y ≤ ((st.S x.toNat).length : Int)))) h) : w_X7_isNoGap (B 0) x y h Q := by
  unfold w_X7_isNoGap
  refine r_isNoSheet hx ⟨b2i_R _, ?_⟩
  by_cases q : okS x
  · obtain ⟨w, rfl⟩ : ∃ w : Nat, x = w := ⟨x.toNat, by omega⟩
    rw [Int.toNat_natCast] at k
    have hl := d.sl (show w < 3 by omega)
    rw [decide_eq_true q]
    refine if_yes rfl (d.f0 (d.sh rfl (by omega) (fun a r _ => r.len (r_isIn hy (by decide) (by omega) ?_))))
    have e : decide (okS (w : Int) ∧ 0 ≤ y ∧ y ≤ ((st.S w).length : Int)) = decide (0 ≤ y ∧ y ≤ ((st.S w).length : Int)) := by rw [decide_eq_decide]; omega
    rw [e] at k
    exact r_flip k
  · rw [decide_eq_false q]
    rw [decide_eq_false (fun z => q z.1)] at k
    exact if_no (by decide) k
theorem r_isNoPlace (d : gM B h st no) (hx : gR x) (hy : gR y) (k : Q (b2i (!decide (okS x ∧ 0 ≤ y ∧ y < ((st.S x.toNat).length : Int)))) h) : w_X7_isNoPlace (B 0) x y h Q := by
  unfold w_X7_isNoPlace
  refine r_isNoSheet hx ⟨b2i_R _, ?_⟩
  by_cases q : okS x
  · obtain ⟨w, rfl⟩ : ∃ w : Nat, x = w := ⟨x.toNat, by omega⟩
    rw [Int.toNat_natCast] at k
    have hl := d.sl (show w < 3 by omega)
    rw [decide_eq_true q]
    refine if_yes rfl (d.f0 (d.sh rfl (by omega) (fun a r _ => r.len (r_isIn hy (by decide) (by omega) ?_))))
    have e : decide (okS (w : Int) ∧ 0 ≤ y ∧ y < ((st.S w).length : Int)) = decide (0 ≤ y ∧ y ≤ ((st.S w).length : Int) - 1) := by
      rw [decide_eq_decide]; omega
    rw [e] at k
    exact r_flip k
  · rw [decide_eq_false q]
    rw [decide_eq_false (fun z => q z.1)] at k
    exact if_no (by decide) k
theorem r_isNoPart (d : gM B h st no) (hx : gR x) (hy : gR y) (hz : gR z) (k : Q (b2i (!decide (okS x ∧ okF y z (st.S x.toNat).length))) h) : w_X7_isNoPart (B 0) x y z h Q := by
  unfold w_X7_isNoPart
  refine r_isNoSheet hx ⟨b2i_R _, ?_⟩
  by_cases q : okS x
  · obtain ⟨w, rfl⟩ : ∃ w : Nat, x = w := ⟨x.toNat, by omega⟩
    rw [Int.toNat_natCast] at k
    have hl := d.sl (show w < 3 by omega)
    rw [decide_eq_true q]
    refine if_yes rfl ⟨hy, ?_⟩
    by_cases q1 : y < 0
    · rw [decide_eq_false (by omega)] at k; exact if_yes q1 k
    refine if_no q1 ⟨hy, hz, ?_⟩
    by_cases q2 : z < y
    · rw [decide_eq_false (by omega)] at k; exact if_yes q2 k
    refine if_no q2 (d.f0 (d.sh rfl (by omega) (fun a r _ => r.len ⟨hz, by omega, ?_⟩)))
    by_cases q3 : z ≤ ((st.S w).length : Int)
    · rw [decide_eq_true (by omega)] at k; exact if_yes q3 k
    · rw [decide_eq_false (by omega)] at k; exact if_no q3 k
  · rw [decide_eq_false q]
    rw [decide_eq_false (fun z => q z.1)] at k
    exact if_no (by decide) k
theorem r_cannot (d : gM B h st no) (k : ∀ h', gM B h' st.refuse no → mF B h h' → Q (-9) h') : w_X7_cannot (B 0) h Q := by
  unfold w_X7_cannot
  exact d.cn (i := 2) rfl (by decide) (d.inc (i := 2) rfl (by decide) rfl k)
/-- a row becomes a sheet's word -/
theorem r_comes (d : gM B h st no) (hw : w < 3) (hx : x = (w : Int)) (r : mR h a u) (hu : u.length ≤ 64) (hne : ∀ i, i < 38 → a ≠ B i) (k : ∀ h', gM B h' (st.sheet w u) no → mF B h h' → Q (u.length : Int) h') : w_X7_comes (B 0) x a h Q := by
  subst hx
  unfold w_X7_comes
  refine d.f0 ⟨r.has, ?_⟩
  obtain ⟨s, a1, a2, a3, a4, a5, a6, a7⟩ := id d
  have ne : ∀ i, i < 6 → i ≠ 1 → B i ≠ B 1 := fun i hi hn q => hn (a7.1 i 1 hi (by decide) q)
  refine gSI_mk a2 (by omega) (by omega) (by rw [Int.toNat_natCast]; simp; omega) ?_
  have d1 : gM B (gaUp h (B 1) (112, [Value.ref (s 0), .ref (s 1), .ref (s 2)].set (w : Int).toNat (.ref a))) (pu st.S w u, st.T, st.C) no := by
    refine ⟨pu s w a, ?_, ?_, fun v hv => ?_, ?_, ?_, fun g hg => ?_, a7.1, fun i hi => upE (a7.2 i hi)⟩
    · rw [gaUp_ne _ _ (ne _ (by decide) (by decide))]; exact a1
    · rw [gaUp_self, Int.toNat_natCast]
      rcases (show w = 0 ∨ w = 1 ∨ w = 2 by omega) with rfl | rfl | rfl <;> rfl
    · show mR _ (pu s w a v) (pu st.S w u v) ∧ (pu st.S w u v).length ≤ 64 ∧ _
      by_cases e : v = w
      · subst e
        rw [pu_self, pu_self]
        exact ⟨by unfold mR; rw [gaUp_ne _ _ (hne 1 (by decide))]; exact r, hu, hne⟩
      · rw [pu_ne _ _ e, pu_ne _ _ e]
        exact ⟨by unfold mR; rw [gaUp_ne _ _ ((a3 v hv).2.2 1 (by decide))]; exact (a3 v hv).1, (a3 v hv).2⟩
    · rw [gaUp_ne _ _ (ne _ (by decide) (by decide))]; exact a4
    · rw [gaUp_ne _ _ (ne _ (by decide) (by decide))]; exact a5
    · obtain ⟨b1, row, b2, b3, b4⟩ := a6 g hg
      exact ⟨b1, row, b2, by rw [gaUp_ne _ _ (ne _ (by omega) (by omega))]; exact b3, b4⟩
  refine d1.cn (i := 0) rfl (by decide) (d1.inc (i := 0) rfl (by decide) rfl (fun h2 d2 f2 => ?_))
  have r2 : mR h2 a u := f2 _ _ (fun i hi => hne i (by omega)) (by rw [gaUp_ne _ _ (hne 1 (by decide))]; exact r)
  exact r2.len (k h2 d2 ((mF.up (by decide)).tr f2))
theorem r_becomes (d : gM B h st no) (hw : w < 3) (hx : x = (w : Int)) (r : mR h a u) (hu : u.length ≤ 64) (hne : ∀ i, i < 38 → a ≠ B i) (k : ∀ h', gM B h' (st.sheet w u) no → mF B h h' → Q (if st.S w = u then 0 else 1) h') : w_X7_becomes (B 0) x a h Q := by
  have hl := d.sl hw
  unfold w_X7_becomes
  refine d.f0 (d.sh hx hw (fun c rc _ => r_areSame rc r (by omega) (by omega) ⟨b2i_R _, ?_⟩))
  have fin : ∀ t : Bool, t = !decide (st.S w = u) → w_X7_becomes_J18 Q (B 0) x a (b2i t) h := by
    intro t ht
    unfold w_X7_becomes_J18
    refine r_one rfl ⟨d.has, r_comes d hw hx r hu hne (fun h' d' f' => ?_)⟩
    have kk := k h' d' f'
    subst ht
    by_cases q : st.S w = u
    · rw [if_pos q] at kk; rw [decide_eq_true q]; exact kk
    · rw [if_neg q] at kk; rw [decide_eq_false q]; exact kk
  by_cases q : st.S w = u
  · rw [decide_eq_true q] at fin ⊢; exact if_no (by decide) (fin false rfl)
  · rw [decide_eq_false q] at fin ⊢; exact if_yes rfl (fin true rfl)
/-- a row is put in the place of a part -/
theorem r_put (d : gM B h st 0) (hw : w < 3) (hx : x = (w : Int)) {f t : Nat} (hy : y = (f : Int)) (hz : z = (t : Int)) (hft : f ≤ t) (ht : t ≤ (st.S w).length) (r : mR h a v) (hv : v.length ≤ 64) (k : mRes B h Q (exch st w f t v)) : w_X7_put (B 0) x y z a h Q := by
  subst hx; subst hy; subst hz
  have hl := d.sl hw
  unfold exch at k
  unfold w_X7_put
  refine d.f0 (d.sh rfl hw (fun c rc nc => rc.len (r.len ⟨by omega, ?_⟩)))
  have hT : ((st.S w).take f ++ v ++ (st.S w).drop t).length = (st.S w).length - (t - f) + v.length := by simp; omega
  by_cases q : (st.S w).length - (t - f) + v.length ≤ 64
  · rw [if_pos q] at k
    refine if_yes (by omega) (d.f0 (d.sh rfl hw (fun c2 rc2 nc2 => gCall_mk (by decide) (by decide) (r_spliced rc2 r rfl rfl hft ht hl hv (fun o h1 f1 => ?_)))))
    have d1 := d.kp f1.2.1
    exact ⟨d1.has, r_comes d1 hw rfl f1.2.2 (by omega) (d.new f1.1) (fun h2 d2 f2 => k.ok d2 ((mF.kp f1.2.1).tr f2) rfl)⟩
  · rw [if_neg q] at k
    exact if_no (by omega) ⟨d.has, r_cannot d (fun h2 d2 f2 => k.ok d2 f2 rfl)⟩
end RS
