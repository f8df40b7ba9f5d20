/-! The reference's object changes: numbers told, sheets put in, turns. -/
def mF (B : Nat → Nat) (h h' : gaH) : Prop := ∀ a e, (∀ i, i < 6 → a ≠ B i) → h a = some e → h' a = some e
theorem mF.rf {B : Nat → Nat} {h : gaH} : mF B h h := fun _ _ _ q => q
theorem mF.tr {B : Nat → Nat} {h h1 h2 : gaH} (x : mF B h h1) (y : mF B h1 h2) : mF B h h2 := fun a e hb q => y a e hb (x a e hb q)
theorem mF.kp {B : Nat → Nat} {h h1 : gaH} (x : mK h h1) : mF B h h1 := fun a e _ q => x a e q
theorem mF.up {B : Nat → Nat} {h : gaH} {i : Nat} (hi : i < 6) {e : gaE} : mF B h (gaUp h (B i) e) := fun a f hb q => by rw [gaUp_ne _ _ (hb i hi)]; exact q
def mRes (B : Nat → Nat) (h : gaH) (Q : Int → gaH → Prop) (o : Nat × (Int → Prop) × GSt) : Prop := ∀ h' r, gM B h' o.2.2 (o.1 : Int) → mF B h h' → (o.1 = 0 → o.2.1 r) → Q r h'
def mSafe (B : Nat → Nat) (h : gaH) (Q : Int → gaH → Prop) (st : GSt) (c : Nat) : Prop := ∀ h' r, gM B h' st (c : Int) → mF B h h' → Q r h'
section RS
variable {B : Nat → Nat} {h h0 : gaH} {st : GSt} {no : Int} {a b o : Nat} {u v : List Bool} {w g : Nat} {x y z : Int} {Q : Int → gaH → Prop}
theorem mRes.on {r : Nat × (Int → Prop) × GSt} (k : mRes B h Q r) {h1 : gaH} (f : mF B h h1) : mRes B h1 Q r := fun h' x d f2 => k h' x d (f.tr f2)
theorem mSafe.on {c : Nat} (k : mSafe B h Q st c) {h1 : gaH} (f : mF B h h1) : mSafe B h1 Q st c := fun h' x d f2 => k h' x d (f.tr f2)
theorem mRes.ok {P : Int → Prop} {st' : GSt} (k : mRes B h Q (0, P, st')) {h' : gaH} (d : gM B h' st' 0) (f : mF B h h') {r : Int} (hr : P r) : Q r h' := k h' r d f (fun _ => hr)
theorem mRes.ex {c : Nat} {P : Int → Prop} {st' : GSt} (k : mRes B h Q (c + 1, P, st')) {h' : gaH} (d : gM B h' st' ((c + 1 : Nat) : Int)) (f : mF B h h') {r : Int} : Q r h' := k h' r d f (fun q => absurd q (Nat.succ_ne_zero c))
theorem gM.inj (d : gM B h st no) : ∀ i j, i < 6 → j < 6 → B i = B j → i = j := by obtain ⟨s, a1, a2, a3, a4, a5, a6, a7⟩ := d; exact a7.1
theorem gM.cell (d : gM B h st no) {i : Nat} (hi : i < 38) : ∃ e, h (B i) = some e := by obtain ⟨s, a1, a2, a3, a4, a5, a6, a7⟩ := d; exact a7.2 i hi
theorem gM.new (d : gM B h st no) (ho : h o = none) : ∀ i, i < 38 → o ≠ B i := fun i hi q => by
  obtain ⟨e, he⟩ := d.cell hi
  rw [← q, ho] at he; cases he
/-- the object's numbers are set -/
theorem gM.put (d : gM B h st no) {C : Nat → Int} {no' : Int} : gM B (gaUp h (B 0) (7, [.ref (B 1), .ref (B 2), .ref (B 3), gi (C 0), gi (C 1), gi (C 2), gi (C 3), gi no'])) (st.S, st.T, C) no' := by
  obtain ⟨s, a1, a2, a3, a4, a5, a6, a7⟩ := d
  have ne : ∀ i, i < 6 → i ≠ 0 → B i ≠ B 0 := fun i hi hn q => hn (a7.1 i 0 hi (by decide) q)
  refine ⟨s, gaUp_self _ _ _, ?_, fun w hw => ⟨?_, (a3 w hw).2⟩, ?_, ?_, fun g hg => ?_, a7.1, fun i hi => upE (a7.2 i hi)⟩
  · rw [gaUp_ne _ _ (ne _ (by decide) (by decide))]; exact a2
  · unfold mR; rw [gaUp_ne _ _ ((a3 w hw).2.2 0 (by decide))]; exact (a3 w hw).1
  · rw [gaUp_ne _ _ (ne _ (by decide) (by decide))]; exact a4
  · rw [gaUp_ne _ _ (ne _ (by decide) (by decide))]; exact a5
  · obtain ⟨b1, row, b2, b3, b4⟩ := a6 g hg
    exact ⟨b1, row, b2, by rw [gaUp_ne _ _ (ne _ (by omega) (by omega))]; exact b3, b4⟩
theorem gM.setNo (d : gM B h st no) {c : Int} {K : gaH → Prop} (k : ∀ h', gM B h' st c → mF B h h' → K h') : gPF h (B 0) 7 7 (gi c) K := by
  obtain ⟨s, a1, -⟩ := id d
  exact gPF_mk a1 (by simp) (k _ (d.put (C := st.C)) (mF.up (by decide)))
theorem gM.inc (d : gM B h st no) {i f : Nat} (hf : f = 3 + i) (hi : i < 4) {x : Int} (hx : x = st.C i + 1) {K : gaH → Prop} (k : ∀ h', gM B h' (st.S, st.T, pu st.C i (st.C i + 1)) no → mF B h h' → K h') : gPF h (B 0) 7 f (gi x) K := by
  subst hf; subst hx
  obtain ⟨s, a1, -⟩ := id d
  refine gPF_mk a1 (by simp; omega) (k _ ?_ (mF.up (by decide)))
  have := d.put (C := pu st.C i (st.C i + 1)) (no' := no)
  rcases (show i = 0 ∨ i = 1 ∨ i = 2 ∨ i = 3 by omega) with rfl | rfl | rfl | rfl <;> exact this
theorem r_J16 (d : gM B h st no) (k0 : no ≤ 0 → Q 0 h) (k1 : 0 < no → Q 1 h) (hn : gR no) : w_X7_refuse_J16 Q (B 0) h := by
  unfold w_X7_refuse_J16
  exact d.nn ⟨hn, ite_both k0 (fun q => k1 (by omega))⟩
theorem r_refuse (d : gM B h st 0) {bd : Bool} (hx : x = b2i bd) {c : Int} (hc : 1 ≤ c ∧ c ≤ 3) (k0 : bd = false → Q 0 h) (k1 : bd = true → ∀ h', gM B h' st c → mF B h h' → Q 1 h') : w_X7_refuse (B 0) x c h Q := by
  subst hx
  unfold w_X7_refuse
  refine ⟨b2i_R _, ?_⟩
  cases bd
  · exact if_yes rfl (r_J16 d (fun _ => k0 rfl) (fun q => absurd q (by decide)) (by decide))
  · exact if_no (by decide) (d.nn ⟨by decide, if_yes rfl (d.setNo (fun h' d' f => r_J16 d' (fun q => by omega) (fun _ => k1 rfl h' d' f) (by omega)))⟩)
theorem r_start (d : gM B h st no) {bd : Bool} (hx : x = b2i bd) {c : Int} (hc : 1 ≤ c ∧ c ≤ 3) (k0 : bd = false → ∀ h', gM B h' st 0 → mF B h h' → Q 0 h') (k1 : bd = true → ∀ h', gM B h' st c → mF B h h' → Q 1 h') : w_X7_start (B 0) x c h Q := by
  unfold w_X7_start
  exact d.setNo (fun h1 d1 f1 => ⟨d1.has, r_refuse d1 hx hc (fun q => ⟨by decide, k0 q h1 d1 f1⟩) (fun q h2 d2 f2 => ⟨by decide, k1 q h2 d2 (f1.tr f2)⟩)⟩)
theorem r_isIn {lo hi : Int} (hx : gR x) (h1 : gR lo) (h2 : gR hi) (k : Q (b2i (decide (lo ≤ x ∧ x ≤ hi))) h) : w_X7_isIn x lo hi h Q := by
  unfold w_X7_isIn
  refine ⟨hx, h1, ?_⟩
  by_cases q : x < lo
  · rw [decide_eq_false (by omega)] at k; exact if_yes q k
  · refine if_no q ⟨hx, h2, ?_⟩
    by_cases z : hi < x
    · rw [decide_eq_false (by omega)] at k; exact if_yes z k
    · rw [decide_eq_true (by omega)] at k; exact if_no z k
theorem r_flip {c : Bool} (k : Q (b2i (!c)) h) : gR (b2i c) ∧ (if b2i c = 0 then Q 1 h else Q 0 h) := by
  cases c
  · exact ⟨by decide, if_yes rfl k⟩
  · exact ⟨by decide, if_no (by decide) k⟩
theorem r_isNoSheet (hx : gR x) (k : Q (b2i (!decide (okS x))) h) : w_X7_isNoSheet x h Q := by
  unfold w_X7_isNoSheet
  exact r_isIn hx (by decide) (by decide) (r_flip k)
theorem r_isNoGrowth (hx : gR x) (k : Q (b2i (!decide (okG x))) h) : w_X7_isNoGrowth x h Q := by
  unfold w_X7_isNoGrowth
  exact r_isIn hx (by decide) (by decide) (r_flip k)
theorem r_isNoRule (hx : gR x) (hy : gR y) (k : Q (b2i (!decide (okP x y))) h) : w_X7_isNoRule x y h Q := by
  unfold w_X7_isNoRule
  refine r_isIn hx (by decide) (by decide) ⟨b2i_R _, ?_⟩
  by_cases q : 2 ≤ x ∧ x ≤ 31
  · rw [decide_eq_true q]
    refine if_no (by decide) (r_isIn hy (by decide) (by decide) ?_)
    have e : decide (okP x y) = decide (2 ≤ y ∧ y ≤ 31) := by by_cases z : 2 ≤ y ∧ y ≤ 31 <;> simp [okP, q, z]
    rw [e] at k
    exact r_flip k
  · rw [decide_eq_false q]
    have e : decide (okP x y) = false := decide_eq_false (fun z => q z.1)
    rw [e] at k
    exact if_yes rfl k
theorem r_one {c : Bool} (hx : x = b2i c) (k : Q (b2i c) h) : w_X7_one x h Q := by
  subst hx
  cases c
  · exact ⟨by decide, if_yes rfl k⟩
  · exact ⟨by decide, if_no (by decide) k⟩
/-- no place up to the length -/
theorem r_isNoGap (d : gM B h st no) (hx : gR x) (hy : gR y) (k : Q (b2i (!decide (okS x ∧ 0 ≤ y ∧ y ≤ ((st.S x.toNat).length : Int)))) h) : w_X7_isNoGap (B 0) x y h Q := by
  unfold w_X7_isNoGap
  refine r_isNoSheet hx ⟨b2i_R _, ?_⟩
  by_cases q : okS x
  · obtain ⟨w, rfl⟩ : ∃ w : Nat, x = w := ⟨x.toNat, by omega⟩
    rw [Int.toNat_natCast] at k
    have hl := d.sl (show w < 3 by omega)
    rw [decide_eq_true q]
    refine if_yes rfl (d.f0 (d.sh rfl (by omega) (fun a r _ => r.len (r_isIn hy (by decide) (by omega) ?_))))
    have e : decide (okS (w : Int) ∧ 0 ≤ y ∧ y ≤ ((st.S w).length : Int)) = decide (0 ≤ y ∧ y ≤ ((st.S w).length : Int)) := by rw [decide_eq_decide]; omega
    rw [e] at k
    exact r_flip k
  · rw [decide_eq_false q]
    rw [decide_eq_false (fun z => q z.1)] at k
    exact if_no (by decide) k
theorem r_isNoPlace (d : gM B h st no) (hx : gR x) (hy : gR y) (k : Q (b2i (!decide (okS x ∧ 0 ≤ y ∧ y < ((st.S x.toNat).length : Int)))) h) : w_X7_isNoPlace (B 0) x y h Q := by
  unfold w_X7_isNoPlace
  refine r_isNoSheet hx ⟨b2i_R _, ?_⟩
  by_cases q : okS x
  · obtain ⟨w, rfl⟩ : ∃ w : Nat, x = w := ⟨x.toNat, by omega⟩
    rw [Int.toNat_natCast] at k
    have hl := d.sl (show w < 3 by omega)
    rw [decide_eq_true q]
    refine if_yes rfl (d.f0 (d.sh rfl (by omega) (fun a r _ => r.len (r_isIn hy (by decide) (by omega) ?_))))
    have e : decide (okS (w : Int) ∧ 0 ≤ y ∧ y < ((st.S w).length : Int)) = decide (0 ≤ y ∧ y ≤ ((st.S w).length : Int) - 1) := by
      rw [decide_eq_decide]; omega
    rw [e] at k
    exact r_flip k
  · rw [decide_eq_false q]
    rw [decide_eq_false (fun z => q z.1)] at k
    exact if_no (by decide) k
theorem r_isNoPart (d : gM B h st no) (hx : gR x) (hy : gR y) (hz : gR z) (k : Q (b2i (!decide (okS x ∧ okF y z (st.S x.toNat).length))) h) : w_X7_isNoPart (B 0) x y z h Q := by
  unfold w_X7_isNoPart
  refine r_isNoSheet hx ⟨b2i_R _, ?_⟩
  by_cases q : okS x
  · obtain ⟨w, rfl⟩ : ∃ w : Nat, x = w := ⟨x.toNat, by omega⟩
    rw [Int.toNat_natCast] at k
    have hl := d.sl (show w < 3 by omega)
    rw [decide_eq_true q]
    refine if_yes rfl ⟨hy, ?_⟩
    by_cases q1 : y < 0
    · rw [decide_eq_false (by omega)] at k; exact if_yes q1 k
    refine if_no q1 ⟨hy, hz, ?_⟩
    by_cases q2 : z < y
    · rw [decide_eq_false (by omega)] at k; exact if_yes q2 k
    refine if_no q2 (d.f0 (d.sh rfl (by omega) (fun a r _ => r.len ⟨hz, by omega, ?_⟩)))
    by_cases q3 : z ≤ ((st.S w).length : Int)
    · rw [decide_eq_true (by omega)] at k; exact if_yes q3 k
    · rw [decide_eq_false (by omega)] at k; exact if_no q3 k
  · rw [decide_eq_false q]
    rw [decide_eq_false (fun z => q z.1)] at k
    exact if_no (by decide) k
theorem r_cannot (d : gM B h st no) (k : ∀ h', gM B h' st.refuse no → mF B h h' → Q (-9) h') : w_X7_cannot (B 0) h Q := by
  unfold w_X7_cannot
  exact d.cn (i := 2) rfl (by decide) (d.inc (i := 2) rfl (by decide) rfl k)
/-- a row becomes a sheet's word -/
theorem r_comes (d : gM B h st no) (hw : w < 3) (hx : x = (w : Int)) (r : mR h a u) (hu : u.length ≤ 64) (hne : ∀ i, i < 38 → a ≠ B i) (k : ∀ h', gM B h' (st.sheet w u) no → mF B h h' → Q (u.length : Int) h') : w_X7_comes (B 0) x a h Q := by
  subst hx
  unfold w_X7_comes
  refine d.f0 ⟨r.has, ?_⟩
  obtain ⟨s, a1, a2, a3, a4, a5, a6, a7⟩ := id d
  have ne : ∀ i, i < 6 → i ≠ 1 → B i ≠ B 1 := fun i hi hn q => hn (a7.1 i 1 hi (by decide) q)
  refine gSI_mk a2 (by omega) (by omega) (by rw [Int.toNat_natCast]; simp; omega) ?_
  have d1 : gM B (gaUp h (B 1) (112, [Value.ref (s 0), .ref (s 1), .ref (s 2)].set (w : Int).toNat (.ref a))) (pu st.S w u, st.T, st.C) no := by
    refine ⟨pu s w a, ?_, ?_, fun v hv => ?_, ?_, ?_, fun g hg => ?_, a7.1, fun i hi => upE (a7.2 i hi)⟩
    · rw [gaUp_ne _ _ (ne _ (by decide) (by decide))]; exact a1
    · rw [gaUp_self, Int.toNat_natCast]
      rcases (show w = 0 ∨ w = 1 ∨ w = 2 by omega) with rfl | rfl | rfl <;> rfl
    · show mR _ (pu s w a v) (pu st.S w u v) ∧ (pu st.S w u v).length ≤ 64 ∧ _
      by_cases e : v = w
      · subst e
        rw [pu_self, pu_self]
        exact ⟨by unfold mR; rw [gaUp_ne _ _ (hne 1 (by decide))]; exact r, hu, hne⟩
      · rw [pu_ne _ _ e, pu_ne _ _ e]
        exact ⟨by unfold mR; rw [gaUp_ne _ _ ((a3 v hv).2.2 1 (by decide))]; exact (a3 v hv).1, (a3 v hv).2⟩
    · rw [gaUp_ne _ _ (ne _ (by decide) (by decide))]; exact a4
    · rw [gaUp_ne _ _ (ne _ (by decide) (by decide))]; exact a5
    · obtain ⟨b1, row, b2, b3, b4⟩ := a6 g hg
      exact ⟨b1, row, b2, by rw [gaUp_ne _ _ (ne _ (by omega) (by omega))]; exact b3, b4⟩
  refine d1.cn (i := 0) rfl (by decide) (d1.inc (i := 0) rfl (by decide) rfl (fun h2 d2 f2 => ?_))
  have r2 : mR h2 a u := f2 _ _ (fun i hi => hne i (by omega)) (by rw [gaUp_ne _ _ (hne 1 (by decide))]; exact r)
  exact r2.len (k h2 d2 ((mF.up (by decide)).tr f2))
theorem r_becomes (d : gM B h st no) (hw : w < 3) (hx : x = (w : Int)) (r : mR h a u) (hu : u.length ≤ 64) (hne : ∀ i, i < 38 → a ≠ B i) (k : ∀ h', gM B h' (st.sheet w u) no → mF B h h' → Q (if st.S w = u then 0 else 1) h') : w_X7_becomes (B 0) x a h Q := by
  have hl := d.sl hw
  unfold w_X7_becomes
  refine d.f0 (d.sh hx hw (fun c rc _ => r_areSame rc r (by omega) (by omega) ⟨b2i_R _, ?_⟩))
  have fin : ∀ t : Bool, t = !decide (st.S w = u) → w_X7_becomes_J18 Q (B 0) x a (b2i t) h := by
    intro t ht
    unfold w_X7_becomes_J18
    refine r_one rfl ⟨d.has, r_comes d hw hx r hu hne (fun h' d' f' => ?_)⟩
    have kk := k h' d' f'
    subst ht
    by_cases q : st.S w = u
    · rw [if_pos q] at kk; rw [decide_eq_true q]; exact kk
    · rw [if_neg q] at kk; rw [decide_eq_false q]; exact kk
  by_cases q : st.S w = u
  · rw [decide_eq_true q] at fin ⊢; exact if_no (by decide) (fin false rfl)
  · rw [decide_eq_false q] at fin ⊢; exact if_yes rfl (fin true rfl)
/-- a row is put in the place of a part -/
theorem r_put (d : gM B h st 0) (hw : w < 3) (hx : x = (w : Int)) {f t : Nat} (hy : y = (f : Int)) (hz : z = (t : Int)) (hft : f ≤ t) (ht : t ≤ (st.S w).length) (r : mR h a v) (hv : v.length ≤ 64) (k : mRes B h Q (exch st w f t v)) : w_X7_put (B 0) x y z a h Q := by
  subst hx; subst hy; subst hz
  have hl := d.sl hw
  unfold exch at k
  unfold w_X7_put
  refine d.f0 (d.sh rfl hw (fun c rc nc => rc.len (r.len ⟨by omega, ?_⟩)))
  have hT : ((st.S w).take f ++ v ++ (st.S w).drop t).length = (st.S w).length - (t - f) + v.length := by simp; omega
  by_cases q : (st.S w).length - (t - f) + v.length ≤ 64
  · rw [if_pos q] at k
    refine if_yes (by omega) (d.f0 (d.sh rfl hw (fun c2 rc2 nc2 => gCall_mk (by decide) (by decide) (r_spliced rc2 r rfl rfl hft ht hl hv (fun o h1 f1 => ?_)))))
    have d1 := d.kp f1.2.1
    exact ⟨d1.has, r_comes d1 hw rfl f1.2.2 (by omega) (d.new f1.1) (fun h2 d2 f2 => k.ok d2 ((mF.kp f1.2.1).tr f2) rfl)⟩
  · rw [if_neg q] at k
    exact if_no (by omega) ⟨d.has, r_cannot d (fun h2 d2 f2 => k.ok d2 f2 rfl)⟩
end RS
/-! The reference's acts. -/
theorem sel {c : Bool} (F : Int → Prop) (k : F (b2i (!c))) : gR (b2i c) ∧ (if b2i c = 0 then F 1 else F 0) := by
  cases c
  · exact ⟨by decide, if_yes rfl k⟩
  · exact ⟨by decide, if_no (by decide) k⟩
theorem nd {P : Prop} [Decidable P] (h : (!decide P) = false) : P := by simpa using h
theorem nn {P : Prop} [Decidable P] (h : (!decide P) = true) : ¬ P := by simpa using h
section RX
variable {B : Nat → Nat} {h h0 : gaH} {st : GSt} {no : Int} {a b o : Nat} {u v : List Bool} {w g : Nat} {x y z : Int} {Q : Int → gaH → Prop}
theorem r_write {c : Int} (d : gM B h st no) (hx : gR x) (hc : gR c) (k : mRes B h Q (m_write st x c)) : w_X7_write (B 0) x c h Q := by
  unfold w_X7_write
  refine r_isNoSheet hx ⟨d.has, r_start d rfl (by decide) (fun q h1 d1 f1 => ?_) (fun q h1 d1 f1 => ?_)⟩
  · rw [m_write, if_pos (nd q)] at k
    obtain ⟨w, rfl⟩ : ∃ w : Nat, x = w := ⟨x.toNat, by have := nd q; omega⟩
    have hw := nd q
    refine ⟨by decide, if_yes rfl (r_isIn hc (by decide) (by decide) (sel (fun t => w_X7_write_J28 Q (B 0) (w : Int) c (B 0) t h1 1 16) ?_))⟩
    unfold w_X7_write_J28
    refine ⟨d1.has, r_refuse d1 rfl (by decide) (fun q => ?_) (fun q h2 d2 f2 => ?_)⟩
    · have hcc := nd q
      rw [if_pos hcc, Int.toNat_natCast] at k
      refine ⟨by decide, if_yes rfl (gCall_mk (by decide) (by decide) (r_ofCode (c := c.toNat) (by omega) (by omega) (by omega) (fun o h2 f2 => ?_)))⟩
      have d2 := d1.kp f2.2.1
      have hl : (codeW c.toNat).length ≤ 16 := codeL_len 16 _
      exact ⟨d2.has, r_comes d2 (by omega) rfl f2.2.2 (by omega) (d1.new f2.1) (fun h3 d3 f3 => k.ok d3 (f1.tr ((mF.kp f2.2.1).tr f3)) rfl)⟩
    · rw [if_neg (nn q)] at k
      exact ⟨by decide, if_no (by decide) (k.ex d2 (f1.tr f2))⟩
  · rw [m_write, if_neg (nn q)] at k
    exact ⟨by decide, if_no (by decide) (k.ex d1 f1)⟩
theorem r_append (d : gM B h st no) (hx : gR x) (hy : gR y) (k : mRes B h Q (m_append st x y)) : w_X7_append (B 0) x y h Q := by
  have bd : ¬ (okS x ∧ okS y) → w_X7_append_J20 Q (B 0) x y (B 0) 1 h 1 128 := fun q => by
    have e : m_append st x y = bad 1 st := by
      unfold m_append
      by_cases q1 : okS x
      · rw [if_pos q1, if_neg (fun q2 => q ⟨q1, q2⟩)]
      · rw [if_neg q1]
    rw [e] at k
    unfold w_X7_append_J20
    exact ⟨d.has, r_start d (bd := true) rfl (by decide) (fun q => by cases q) (fun q h1 d1 f1 => ⟨by decide, if_no (by decide) (k.ex d1 f1)⟩)⟩
  unfold w_X7_append
  refine r_isNoSheet hx ⟨b2i_R _, ?_⟩
  by_cases q1 : okS x
  · rw [decide_eq_true q1]
    refine if_yes rfl (r_isNoSheet hy ⟨b2i_R _, ?_⟩)
    by_cases q2 : okS y
    · rw [decide_eq_true q2]
      refine if_yes rfl ?_
      rw [m_append, if_pos q1, if_pos q2] at k
      unfold w_X7_append_J20
      refine ⟨d.has, r_start d (bd := false) rfl (by decide) (fun q h1 d1 f1 => ⟨by decide, if_yes rfl ?_⟩) (fun q => by cases q)⟩
      obtain ⟨w, rfl⟩ : ∃ w : Nat, x = w := ⟨x.toNat, by omega⟩
      obtain ⟨v, rfl⟩ : ∃ v : Nat, y = v := ⟨y.toNat, by omega⟩
      rw [Int.toNat_natCast, Int.toNat_natCast] at k
      refine d1.f0 (d1.sh rfl (by omega) (fun a ra na => ra.len (d1.f0 (d1.sh rfl (by omega) (fun a2 ra2 na2 => ra2.len (d1.f0 (d1.sh rfl (by omega) (fun c rc nc => ⟨d1.has, gCall_mk (by decide) (by decide) ?_⟩))))))))
      exact r_put d1 (by omega) rfl rfl rfl (Nat.le_refl _) (Nat.le_refl _) rc (d1.sl (by omega)) (k.on f1)
    · rw [decide_eq_false q2]
      exact if_no (by decide) (bd (fun z => q2 z.2))
  · rw [decide_eq_false q1]
    exact if_no (by decide) (bd (fun z => q1 z.1))
theorem r_insertSign {b : Bool} (d : gM B h st no) (hx : gR x) (hy : gR y) (hz : z = b2i b) (k : mRes B h Q (m_insertSign st x y b)) : w_X7_insertSign (B 0) x y z h Q := by
  unfold w_X7_insertSign
  refine ⟨d.has, r_isNoGap d hx hy ⟨d.has, r_start d rfl (by decide) (fun q h1 d1 f1 => ?_) (fun q h1 d1 f1 => ?_)⟩⟩
  · obtain ⟨q1, q2⟩ := nd q
    rw [m_insertSign, if_pos q1, if_pos q2] at k
    obtain ⟨w, rfl⟩ : ∃ w : Nat, x = w := ⟨x.toNat, by omega⟩
    obtain ⟨p, rfl⟩ : ∃ p : Nat, y = p := ⟨y.toNat, by omega⟩
    rw [Int.toNat_natCast, Int.toNat_natCast] at k
    rw [Int.toNat_natCast] at q2
    refine ⟨by decide, if_yes rfl (fil.new (n := 1) rfl (by decide) (by decide) (by decide) (fun o h2 f2 => r_one hz (f2.set (i := 0) rfl (by decide) (by decide) rfl (fun h3 f3 => ?_))))⟩
    have d3 := d1.kp f3.2.1
    exact ⟨d3.has, gCall_mk (by decide) (by decide) (r_put d3 (by omega) rfl rfl rfl (Nat.le_refl _) (by omega) f3.2.2 (by simp) (k.on (f1.tr (mF.kp f3.2.1))))⟩
  · have q1 := nn q
    have e : m_insertSign st x y b = bad 1 st := by
      unfold m_insertSign
      by_cases z1 : okS x
      · rw [if_pos z1, if_neg (fun z2 => q1 ⟨z1, z2⟩)]
      · rw [if_neg z1]
    rw [e] at k
    exact ⟨by decide, if_no (by decide) (k.ex d1 f1)⟩
theorem r_insertSheet (d : gM B h st no) (hx : gR x) (hy : gR y) (hz : gR z) (k : mRes B h Q (m_insertSheet st x y z)) : w_X7_insertSheet (B 0) x y z h Q := by
  have bd : ¬ ((okS x ∧ 0 ≤ y ∧ y ≤ ((st.S x.toNat).length : Int)) ∧ okS z) → w_X7_insertSheet_J22 Q (B 0) x y z (B 0) 1 h 1 128 := fun q => by
    have e : m_insertSheet st x y z = bad 1 st := by
      unfold m_insertSheet
      by_cases q1 : okS x
      · rw [if_pos q1]
        by_cases q2 : okS z
        · rw [if_pos q2, if_neg (fun q3 => q ⟨⟨q1, q3⟩, q2⟩)]
        · rw [if_neg q2]
      · rw [if_neg q1]
    rw [e] at k
    unfold w_X7_insertSheet_J22
    exact ⟨d.has, r_start d (bd := true) rfl (by decide) (fun q => by cases q) (fun q h1 d1 f1 => ⟨by decide, if_no (by decide) (k.ex d1 f1)⟩)⟩
  unfold w_X7_insertSheet
  refine ⟨d.has, r_isNoGap d hx hy ⟨b2i_R _, ?_⟩⟩
  by_cases q1 : okS x ∧ 0 ≤ y ∧ y ≤ ((st.S x.toNat).length : Int)
  · rw [decide_eq_true q1]
    refine if_yes rfl (r_isNoSheet hz ⟨b2i_R _, ?_⟩)
    by_cases q2 : okS z
    · rw [decide_eq_true q2]
      refine if_yes rfl ?_
      rw [m_insertSheet, if_pos q1.1, if_pos q2, if_pos q1.2] at k
      unfold w_X7_insertSheet_J22
      refine ⟨d.has, r_start d (bd := false) rfl (by decide) (fun q h1 d1 f1 => ⟨by decide, if_yes rfl ?_⟩) (fun q => by cases q)⟩
      obtain ⟨w, rfl⟩ : ∃ w : Nat, x = w := ⟨x.toNat, by omega⟩
      obtain ⟨v, rfl⟩ : ∃ v : Nat, z = v := ⟨z.toNat, by omega⟩
      obtain ⟨p, rfl⟩ : ∃ p : Nat, y = p := ⟨y.toNat, by omega⟩
      simp only [Int.toNat_natCast] at k q1
      refine d1.f0 (d1.sh rfl (by omega) (fun c rc nc => ⟨d1.has, gCall_mk (by decide) (by decide) ?_⟩))
      exact r_put d1 (by omega) rfl rfl rfl (Nat.le_refl _) (by omega) rc (d1.sl (by omega)) (k.on f1)
    · rw [decide_eq_false q2]
      exact if_no (by decide) (bd (fun z => q2 z.2))
  · rw [decide_eq_false q1]
    exact if_no (by decide) (bd (fun z => q1 z.1))
theorem r_replace {o : Int} (d : gM B h st no) (hx : gR x) (hy : gR y) (hz : gR z) (ho : gR o) (k : mRes B h Q (m_replace st x y z o)) : w_X7_replace (B 0) x y z o h Q := by
  have bd : ¬ ((okS x ∧ okF y z (st.S x.toNat).length) ∧ okS o) → w_X7_replace_J24 Q (B 0) x y z o (B 0) 1 h 1 128 := fun q => by
    have e : m_replace st x y z o = bad 1 st := by
      unfold m_replace
      by_cases q1 : okS x
      · rw [if_pos q1]
        by_cases q2 : okS o
        · rw [if_pos q2, if_neg (fun q3 => q ⟨⟨q1, q3⟩, q2⟩)]
        · rw [if_neg q2]
      · rw [if_neg q1]
    rw [e] at k
    unfold w_X7_replace_J24
    exact ⟨d.has, r_start d (bd := true) rfl (by decide) (fun q => by cases q) (fun q h1 d1 f1 => ⟨by decide, if_no (by decide) (k.ex d1 f1)⟩)⟩
  unfold w_X7_replace
  refine ⟨d.has, r_isNoPart d hx hy hz ⟨b2i_R _, ?_⟩⟩
  by_cases q1 : okS x ∧ okF y z (st.S x.toNat).length
  · rw [decide_eq_true q1]
    refine if_yes rfl (r_isNoSheet ho ⟨b2i_R _, ?_⟩)
    by_cases q2 : okS o
    · rw [decide_eq_true q2]
      refine if_yes rfl ?_
      rw [m_replace, if_pos q1.1, if_pos q2, if_pos q1.2] at k
      unfold w_X7_replace_J24
      refine ⟨d.has, r_start d (bd := false) rfl (by decide) (fun q h1 d1 f1 => ⟨by decide, if_yes rfl ?_⟩) (fun q => by cases q)⟩
      obtain ⟨w, rfl⟩ : ∃ w : Nat, x = w := ⟨x.toNat, by omega⟩
      obtain ⟨v, rfl⟩ : ∃ v : Nat, o = v := ⟨o.toNat, by omega⟩
      simp only [Int.toNat_natCast] at k q1
      refine d1.f0 (d1.sh rfl (by omega) (fun c rc nc => ⟨d1.has, gCall_mk (by decide) (by decide) ?_⟩))
      exact r_put d1 (by omega) rfl (show y = (y.toNat : Int) by omega) (show z = (z.toNat : Int) by omega) (by omega) (by omega) rc (d1.sl (by omega)) (k.on f1)
    · rw [decide_eq_false q2]
      exact if_no (by decide) (bd (fun z => q2 z.2))
  · rw [decide_eq_false q1]
    exact if_no (by decide) (bd (fun z => q1 z.1))
theorem r_setSign {b : Bool} (d : gM B h st no) (hx : gR x) (hy : gR y) (hz : z = b2i b) (k : mRes B h Q (m_setSign st x y b)) : w_X7_setSign (B 0) x y z h Q := by
  unfold w_X7_setSign
  refine ⟨d.has, r_isNoPlace d hx hy ⟨d.has, r_start d rfl (by decide) (fun q h1 d1 f1 => ?_) (fun q h1 d1 f1 => ?_)⟩⟩
  · obtain ⟨q1, q2⟩ := nd q
    rw [m_setSign, if_pos q1, if_pos q2] at k
    obtain ⟨w, rfl⟩ : ∃ w : Nat, x = w := ⟨x.toNat, by omega⟩
    obtain ⟨p, rfl⟩ : ∃ p : Nat, y = p := ⟨y.toNat, by omega⟩
    simp only [Int.toNat_natCast] at k q2
    have hl := d1.sl (show w < 3 by omega)
    refine ⟨by decide, if_yes rfl (d1.f0 (d1.sh rfl (by omega) (fun a ra na => ra.at rfl (by omega) (by omega) (d1.f0 (d1.sh rfl (by omega) (fun c rc nc => ?_))))))⟩
    refine fil.new (n := 1) rfl (by decide) (by decide) (by decide) (fun o h2 f2 => r_one hz (f2.set (i := 0) rfl (by decide) (by decide) rfl (fun h3 f3 => gCall_mk (by decide) (by decide) ?_)))
    refine r_spliced (rc.on f3.2.1) f3.2.2 (f := p) (t := p + 1) rfl (by omega) (by omega) (by omega) hl (by simp) (fun o2 h4 f4 => ?_)
    have d4 := d1.kp (f3.2.1.tr f4.2.1)
    have hT : ((st.S w).take p ++ [b] ++ (st.S w).drop (p + 1)) = (st.S w).set p b := by
      rw [List.set_eq_take_append_cons_drop, if_pos (by omega)]; simp
    have f42 := f4.2.2
    rw [show (List.replicate 1 false).set 0 b = [b] from rfl, hT] at f42
    refine ⟨d4.has, r_comes d4 (by omega) rfl f42 (by simp; exact hl) (d4.kp mK.rf |> fun _ => (d1.kp f3.2.1).new f4.1) (fun h5 d5 f5 => r_one hz ⟨b2i_R _, b2i_R _, ?_⟩)⟩
    have kk := fun r hr => k.ok (r := r) d5 (f1.tr ((mF.kp (f3.2.1.tr f4.2.1)).tr f5)) hr
    unfold w_X7_setSign_J69
    by_cases q3 : (st.S w).getD p false = b
    · refine if_yes (congrArg b2i q3) (r_one (c := false) rfl (kk _ ?_))
      show _ = if _ then _ else _
      rw [if_pos q3]; rfl
    · refine if_no (fun z => q3 ((b2i_eq _ _).mp z)) (r_one (c := true) rfl (kk _ ?_))
      show _ = if _ then _ else _
      rw [if_neg q3]; rfl
  · have q1 := nn q
    have e : m_setSign st x y b = bad 1 st := by
      unfold m_setSign
      by_cases z1 : okS x
      · rw [if_pos z1, if_neg (fun z2 => q1 ⟨z1, z2⟩)]
      · rw [if_neg z1]
    rw [e] at k
    exact ⟨by decide, if_no (by decide) (k.ex d1 f1)⟩
theorem r_removeSign (d : gM B h st no) (hx : gR x) (hy : gR y) (k : mRes B h Q (m_removeSign st x y)) : w_X7_removeSign (B 0) x y h Q := by
  unfold w_X7_removeSign
  refine ⟨d.has, r_isNoPlace d hx hy ⟨d.has, r_start d rfl (by decide) (fun q h1 d1 f1 => ?_) (fun q h1 d1 f1 => ?_)⟩⟩
  · obtain ⟨q1, q2⟩ := nd q
    rw [m_removeSign, if_pos q1, if_pos q2] at k
    obtain ⟨w, rfl⟩ : ∃ w : Nat, x = w := ⟨x.toNat, by omega⟩
    obtain ⟨p, rfl⟩ : ∃ p : Nat, y = p := ⟨y.toNat, by omega⟩
    simp only [Int.toNat_natCast] at k q2
    have hl := d1.sl (show w < 3 by omega)
    refine ⟨by decide, if_yes rfl (d1.f0 (d1.sh rfl (by omega) (fun a ra na => ra.at rfl (by omega) (by omega) (d1.f0 (d1.sh rfl (by omega) (fun c rc nc => ?_))))))⟩
    refine fil.new (n := 0) rfl (by decide) (by decide) (by decide) (fun o h2 f2 => gCall_mk (by decide) (by decide) ?_)
    refine r_spliced (rc.on f2.2.1) f2.2.2 (f := p) (t := p + 1) rfl (by omega) (by omega) (by omega) hl (by decide) (fun o2 h4 f4 => ?_)
    have d4 := d1.kp (f2.2.1.tr f4.2.1)
    have f42 := f4.2.2
    rw [show List.replicate 0 false = ([] : List Bool) from rfl, List.append_nil] at f42
    refine ⟨d4.has, r_comes d4 (by omega) rfl f42 (by simp; omega) ((d1.kp f2.2.1).new f4.1) (fun h5 d5 f5 => k.ok d5 (f1.tr ((mF.kp (f2.2.1.tr f4.2.1)).tr f5)) ?_)⟩
    rw [Nat.add_sub_cancel_left, take_one (u := st.S w) (i := p) (by omega), List.take_succ_cons, List.take_zero]
    cases (st.S w).getD p false <;> rfl
  · have q1 := nn q
    have e : m_removeSign st x y = bad 1 st := by
      unfold m_removeSign
      by_cases z1 : okS x
      · rw [if_pos z1, if_neg (fun z2 => q1 ⟨z1, z2⟩)]
      · rw [if_neg z1]
    rw [e] at k
    exact ⟨by decide, if_no (by decide) (k.ex d1 f1)⟩
theorem ones_cut (u : List Bool) {f t : Nat} (hft : f ≤ t) (ht : t ≤ u.length) : ones u = ones (u.take f ++ u.drop t) + ones ((u.drop f).take (t - f)) := by
  have e : u = u.take f ++ ((u.drop f).take (t - f) ++ u.drop t) := by
    have e1 : u.drop f = (u.drop f).take (t - f) ++ u.drop t := by
      have := (List.take_append_drop (t - f) (u.drop f)).symm
      rw [List.drop_drop, show f + (t - f) = t by omega] at this
      exact this
    rw [← e1, List.take_append_drop]
  conv => lhs; rw [e]
  rw [ones_app, ones_app, ones_app]; omega
theorem r_remove (d : gM B h st no) (hx : gR x) (hy : gR y) (hz : gR z) (k : mRes B h Q (m_remove st x y z)) : w_X7_remove (B 0) x y z h Q := by
  unfold w_X7_remove
  refine ⟨d.has, r_isNoPart d hx hy hz ⟨d.has, r_start d rfl (by decide) (fun q h1 d1 f1 => ?_) (fun q h1 d1 f1 => ?_)⟩⟩
  · obtain ⟨q1, q2⟩ := nd q
    rw [m_remove, if_pos q1, if_pos q2] at k
    obtain ⟨w, rfl⟩ : ∃ w : Nat, x = w := ⟨x.toNat, by omega⟩
    obtain ⟨p, rfl⟩ : ∃ p : Nat, y = p := ⟨y.toNat, by omega⟩
    obtain ⟨t, rfl⟩ : ∃ p : Nat, z = p := ⟨z.toNat, by omega⟩
    simp only [Int.toNat_natCast] at k q2
    have hl := d1.sl (show w < 3 by omega)
    refine ⟨by decide, if_yes rfl (d1.f0 (d1.sh rfl (by omega) (fun a ra na => r_bs ra (by omega) (d1.f0 (d1.sh rfl (by omega) (fun c rc nc => ?_))))))⟩
    refine fil.new (n := 0) rfl (by decide) (by decide) (by decide) (fun o h2 f2 => gCall_mk (by decide) (by decide) ?_)
    refine r_spliced (rc.on f2.2.1) f2.2.2 (f := p) (t := t) rfl rfl (by omega) (by omega) hl (by decide) (fun o2 h4 f4 => ?_)
    have d4 := d1.kp (f2.2.1.tr f4.2.1)
    have f42 := f4.2.2
    rw [show List.replicate 0 false = ([] : List Bool) from rfl, List.append_nil] at f42
    refine ⟨d4.has, r_comes d4 (by omega) rfl f42 (by simp; omega) ((d1.kp f2.2.1).new f4.1) (fun h5 d5 f5 => d5.f0 (d5.sh rfl (by omega) (fun c2 rc2 nc2 => ?_)))⟩
    have e9 : (GSt.sheet st w ((st.S w).take p ++ (st.S w).drop t)).S w = (st.S w).take p ++ (st.S w).drop t := pu_self _ _ _
    rw [e9] at rc2
    refine r_bs rc2 (by simp; omega) (k.ok d5 (f1.tr ((mF.kp (f2.2.1.tr f4.2.1)).tr f5)) ?_)
    rw [ones_cut (st.S w) (f := p) (t := t) (by omega) (by omega)]
    push_cast; omega
  · have q1 := nn q
    have e : m_remove st x y z = bad 1 st := by
      unfold m_remove
      by_cases z1 : okS x
      · rw [if_pos z1, if_neg (fun z2 => q1 ⟨z1, z2⟩)]
      · rw [if_neg z1]
    rw [e] at k
    exact ⟨by decide, if_no (by decide) (k.ex d1 f1)⟩
end RX
/-! The reference's acts, the others. -/
theorem mR.fr {B : Nat → Nat} {h h' : gaH} {a : Nat} {u : List Bool} (r : mR h a u) (f : mF B h h') (na : ∀ i, i < 38 → a ≠ B i) : mR h' a u := f _ _ (fun i hi => na i (by omega)) r
theorem img_not (u : List Bool) : img [true] [false] u = u.map (fun b => !b) := by
  induction u with
  | nil => rfl
  | cons b t ih => simp only [img, List.map_cons, ih]; cases b <;> rfl
theorem byL_le {ts : List Nat} (hok : gOk ts) : (byL ts).length ≤ 64 := by
  obtain ⟨n1, n2, n3, n4⟩ := nums_ok hok
  by_cases q : ts = []
  · rw [q]; decide
  · have h2 : 2 ≤ (nums ts).2.2.1 := by
      rw [nums_grw _ ts rfl]
      have := (grw_len _ ts rfl hok.1).1
      have := List.length_pos_iff.mpr q
      show 2 ≤ (grw ts).2.length
      omega
    rw [byL_len q h2]; exact n3
section RY
variable {B : Nat → Nat} {h h0 : gaH} {st : GSt} {no : Int} {a b o : Nat} {u v : List Bool} {w g : Nat} {x y z : Int} {Q : Int → gaH → Prop}
theorem r_turn (d : gM B h st no) (hx : gR x) (k : mRes B h Q (m_turn st x)) : w_X7_turn (B 0) x h Q := by
  unfold w_X7_turn
  refine r_isNoSheet hx ⟨d.has, r_start d rfl (by decide) (fun q h1 d1 f1 => ?_) (fun q h1 d1 f1 => ?_)⟩
  · have q1 := nd q
    rw [m_turn, if_pos q1] at k
    obtain ⟨w, rfl⟩ : ∃ w : Nat, x = w := ⟨x.toNat, by omega⟩
    rw [Int.toNat_natCast] at k
    have hl := d1.sl (show w < 3 by omega)
    refine ⟨by decide, if_yes rfl (d1.f0 (d1.sh rfl (by omega) (fun a ra na => gCall_mk (by decide) (by decide) (r_turned ra hl (fun o h2 f2 => ?_)))))⟩
    have d2 := d1.kp f2.2.1
    exact ⟨d2.has, r_becomes d2 (by omega) rfl f2.2.2 (by simpa using hl) (d1.new f2.1) (fun h3 d3 f3 => k.ok d3 (f1.tr ((mF.kp f2.2.1).tr f3)) rfl)⟩
  · rw [m_turn, if_neg (nn q)] at k
    exact ⟨by decide, if_no (by decide) (k.ex d1 f1)⟩
theorem r_exchange (d : gM B h st no) (hx : gR x) (k : mRes B h Q (m_exchange st x)) : w_X7_exchange (B 0) x h Q := by
  unfold w_X7_exchange
  refine r_isNoSheet hx ⟨d.has, r_start d rfl (by decide) (fun q h1 d1 f1 => ?_) (fun q h1 d1 f1 => ?_)⟩
  · have q1 := nd q
    rw [m_exchange, if_pos q1] at k
    obtain ⟨w, rfl⟩ : ∃ w : Nat, x = w := ⟨x.toNat, by omega⟩
    rw [Int.toNat_natCast] at k
    have hl := d1.sl (show w < 3 by omega)
    refine ⟨by decide, if_yes rfl (d1.f0 (d1.sh rfl (by omega) (fun a ra na => ?_)))⟩
    refine fil.new (n := 1) rfl (by decide) (by decide) (by decide) (fun p h2 f2 => f2.set (i := 0) rfl (by decide) (by decide) (b := true) rfl (fun h3 f3 => ?_))
    refine fil.new (n := 1) rfl (by decide) (by decide) (by decide) (fun q h4 f4 => f4.set (i := 0) rfl (by decide) (by decide) (b := false) rfl (fun h5 f5 => gCall_mk (by decide) (by decide) ?_))
    have kk := f3.2.1.tr f5.2.1
    have e := img_not (st.S w)
    refine r_image (x := [true]) (y := [false]) (ra.on kk) (f3.2.2.on f5.2.1) f5.2.2 (by omega) (by decide) (by decide) (by rw [e]; simp; omega) (fun o h6 f6 => ?_)
    have d6 := d1.kp (kk.tr f6.2.1)
    have f62 := f6.2.2
    rw [e] at f62
    refine ⟨d6.has, r_comes d6 (by omega) rfl f62 (by simpa using hl) ((d1.kp kk).new f6.1) (fun h7 d7 f7 => d7.f0 (d7.sh rfl (by omega) (fun c rc nc => ?_)))⟩
    have e9 : (GSt.sheet st w ((st.S w).map (fun b => !b))).S w = (st.S w).map (fun b => !b) := pu_self _ _ _
    rw [e9] at rc
    exact r_bs rc (by simp; omega) (k.ok d7 (f1.tr ((mF.kp (kk.tr f6.2.1)).tr f7)) rfl)
  · rw [m_exchange, if_neg (nn q)] at k
    exact ⟨by decide, if_no (by decide) (k.ex d1 f1)⟩
theorem r_copy (d : gM B h st no) (hx : gR x) (hy : gR y) (k : mRes B h Q (m_copy st x y)) : w_X7_copy (B 0) x y h Q := by
  have bd : ¬ (okS x ∧ okS y) → w_X7_copy_J20 Q (B 0) x y (B 0) 1 h := fun q => by
    have e : m_copy st x y = bad 1 st := by
      unfold m_copy
      by_cases q1 : okS x
      · rw [if_pos q1, if_neg (fun q2 => q ⟨q1, q2⟩)]
      · rw [if_neg q1]
    rw [e] at k
    unfold w_X7_copy_J20
    exact ⟨d.has, r_start d (bd := true) rfl (by decide) (fun q => by cases q) (fun q h1 d1 f1 => ⟨by decide, if_no (by decide) (k.ex d1 f1)⟩)⟩
  unfold w_X7_copy
  refine r_isNoSheet hx ⟨b2i_R _, ?_⟩
  by_cases q1 : okS x
  · rw [decide_eq_true q1]
    refine if_yes rfl (r_isNoSheet hy ⟨b2i_R _, ?_⟩)
    by_cases q2 : okS y
    · rw [decide_eq_true q2]
      refine if_yes rfl ?_
      rw [m_copy, if_pos q1, if_pos q2] at k
      unfold w_X7_copy_J20
      refine ⟨d.has, r_start d (bd := false) rfl (by decide) (fun q h1 d1 f1 => ⟨by decide, if_yes rfl ?_⟩) (fun q => by cases q)⟩
      obtain ⟨w, rfl⟩ : ∃ w : Nat, x = w := ⟨x.toNat, by omega⟩
      obtain ⟨v, rfl⟩ : ∃ v : Nat, y = v := ⟨y.toNat, by omega⟩
      rw [Int.toNat_natCast, Int.toNat_natCast] at k
      refine d1.f0 (d1.sh rfl (by omega) (fun a ra na => ⟨d1.has, ?_⟩))
      exact r_becomes d1 (by omega) rfl ra (d1.sl (by omega)) na (fun h3 d3 f3 => k.ok d3 (f1.tr f3) rfl)
    · rw [decide_eq_false q2]
      exact if_no (by decide) (bd (fun z => q2 z.2))
  · rw [decide_eq_false q1]
    exact if_no (by decide) (bd (fun z => q1 z.1))
theorem r_apply (d : gM B h st no) (hx : gR x) (hy : gR y) (hz : gR z) (k : mRes B h Q (m_apply st x y z)) : w_X7_apply (B 0) x y z h Q := by
  unfold w_X7_apply
  refine r_isNoSheet hx ⟨d.has, r_start d rfl (by decide) (fun q h1 d1 f1 => ?_) (fun q h1 d1 f1 => ?_)⟩
  · have q1 := nd q
    rw [m_apply, if_pos q1] at k
    refine ⟨by decide, if_yes rfl (r_isNoRule hy hz ⟨d1.has, r_refuse d1 rfl (by decide) (fun q => ?_) (fun q h2 d2 f2 => ?_)⟩)⟩
    · have q2 := nd q
      rw [if_pos q2] at k
      obtain ⟨w, rfl⟩ : ∃ w : Nat, x = w := ⟨x.toNat, by omega⟩
      obtain ⟨c, rfl⟩ : ∃ w : Nat, y = w := ⟨y.toNat, by omega⟩
      obtain ⟨e, rfl⟩ : ∃ w : Nat, z = w := ⟨z.toNat, by omega⟩
      simp only [Int.toNat_natCast] at k
      have hl := d1.sl (show w < 3 by omega)
      have l1 := (code_ok c (by omega) (by omega)).2
      have l2 := (code_ok e (by omega) (by omega)).2
      have l3 := img_le (codeW c) (codeW e) (m := 4) l1 l2 (st.S w)
      refine ⟨by decide, if_yes rfl (d1.f0 (d1.sh rfl (by omega) (fun a ra na => gCall_mk (by decide) (by decide) (r_ofCode (c := c) rfl (by omega) (by omega) (fun p h2 f2 => gCall_mk (by decide) (by decide) (r_ofCode (c := e) rfl (by omega) (by omega) (fun q h3 f3 => gCall_mk (by decide) (by decide) ?_)))))))⟩
      have kk := f2.2.1.tr f3.2.1
      refine r_image (ra.on kk) (f2.2.2.on f3.2.1) f3.2.2 (by omega) (by omega) (by omega) (by omega) (fun o h4 f4 => f4.2.2.len ⟨by omega, ?_⟩)
      have k4 := kk.tr f4.2.1
      have d4 := d1.kp k4
      by_cases q3 : (img (codeW c) (codeW e) (st.S w)).length ≤ 64
      · rw [if_pos q3] at k
        exact if_yes (by omega) ⟨d4.has, r_comes d4 (by omega) rfl f4.2.2 q3 ((d1.kp kk).new f4.1) (fun h5 d5 f5 => k.ok d5 (f1.tr ((mF.kp k4).tr f5)) rfl)⟩
      · rw [if_neg q3] at k
        exact if_no (by omega) ⟨d4.has, r_cannot d4 (fun h5 d5 f5 => k.ok d5 (f1.tr ((mF.kp k4).tr f5)) rfl)⟩
    · rw [if_neg (nn q)] at k
      exact ⟨by decide, if_no (by decide) (k.ex d2 (f1.tr f2))⟩
  · rw [m_apply, if_neg (nn q)] at k
    exact ⟨by decide, if_no (by decide) (k.ex d1 f1)⟩
theorem r_lay (d : gM B h st no) (hx : gR x) (hy : gR y) (hz : gR z) (k : mRes B h Q (m_lay st x y z)) : w_X7_lay (B 0) x y z h Q := by
  have bd : ¬ (okG x ∧ okS y) → w_X7_lay_J20 Q (B 0) x y z (B 0) 1 h 391 22856 := fun q => by
    have e : m_lay st x y z = bad 1 st := by
      unfold m_lay
      by_cases q1 : okG x
      · rw [if_pos q1, if_neg (fun q2 => q ⟨q1, q2⟩)]
      · rw [if_neg q1]
    rw [e] at k
    unfold w_X7_lay_J20
    exact ⟨d.has, r_start d (bd := true) rfl (by decide) (fun q => by cases q) (fun q h1 d1 f1 => ⟨by decide, if_no (by decide) (k.ex d1 f1)⟩)⟩
  unfold w_X7_lay
  refine r_isNoGrowth hx ⟨b2i_R _, ?_⟩
  by_cases q1 : okG x
  · rw [decide_eq_true q1]
    refine if_yes rfl (r_isNoSheet hy ⟨b2i_R _, ?_⟩)
    by_cases q2 : okS y
    · rw [decide_eq_true q2]
      refine if_yes rfl ?_
      rw [m_lay, if_pos q1, if_pos q2] at k
      unfold w_X7_lay_J20
      refine ⟨d.has, r_start d (bd := false) rfl (by decide) (fun q h1 d1 f1 => ⟨by decide, if_yes rfl (r_isIn hz (by decide) (by decide) (sel (fun t => w_X7_lay_J42 Q (B 0) x y z (B 0) t h1 391 22856) ?_))⟩) (fun q => by cases q)⟩
      unfold w_X7_lay_J42
      refine ⟨d1.has, r_refuse d1 rfl (by decide) (fun q => ?_) (fun q h2 d2 f2 => ?_)⟩
      · have q3 := nd q
        rw [if_pos q3] at k
        obtain ⟨g, rfl⟩ : ∃ w : Nat, x = w := ⟨x.toNat, by omega⟩
        obtain ⟨w, rfl⟩ : ∃ w : Nat, y = w := ⟨y.toNat, by omega⟩
        simp only [Int.toNat_natCast] at k
        have fin : ∀ h2 o kc ks, mK h1 h2 → h1 o = none → mR h2 o (layW (st.T g) z) → (layW (st.T g) z).length ≤ 64 → w_X7_lay_J84 Q (B 0) (w : Int) o h2 kc ks := by
          intro h2 o kc ks k2 no r2 hl
          have d2 := d1.kp k2
          unfold w_X7_lay_J84
          exact ⟨d2.has, r_comes d2 (by omega) rfl r2 hl (d1.new no) (fun h5 d5 f5 => k.ok d5 (f1.tr ((mF.kp k2).tr f5)) rfl)⟩
        have hok := d1.ok (show g < 2 by omega)
        refine ⟨by decide, if_yes rfl ⟨hz, ?_⟩⟩
        by_cases c0 : z = 0
        · refine if_yes c0 ⟨d1.has, gCall_mk (by decide) (by decide) (r_byCopies d1 (show g < 2 by omega) (m := (st.T g).length) (bk := 0) rfl rfl rfl (fun h2 o k2 no r2 => ?_))⟩
          rw [List.take_length] at r2
          have e : layW (st.T g) z = (grw (st.T g)).2 := by rw [layW, if_neg (by omega)]
          exact fin h2 o _ _ k2 no (by rw [e]; exact r2) (by rw [e]; exact hok.2)
        refine if_no c0 ⟨hz, ?_⟩
        by_cases c1 : z = 1
        · refine if_yes c1 ⟨d1.has, gCall_mk (by decide) (by decide) (r_byRules d1 (show g < 2 by omega) rfl (fun h2 o k2 no r2 => ?_))⟩
          have e : layW (st.T g) z = (grw (st.T g)).2 := by rw [layW, if_neg (by omega)]
          exact fin h2 o _ _ k2 no (by rw [e]; exact r2) (by rw [e]; exact hok.2)
        · refine if_no c1 ⟨d1.has, gCall_mk (by decide) (by decide) (r_byLine d1 (show g < 2 by omega) rfl (fun h2 o k2 no r2 => ?_))⟩
          have e : layW (st.T g) z = byL (st.T g) := by rw [layW, if_pos (by omega)]
          exact fin h2 o _ _ k2 no (by rw [e]; exact r2) (by rw [e]; exact byL_le hok)
      · rw [if_neg (nn q)] at k
        exact ⟨by decide, if_no (by decide) (k.ex d2 (f1.tr f2))⟩
    · rw [decide_eq_false q2]
      exact if_no (by decide) (bd (fun z => q2 z.2))
  · rw [decide_eq_false q1]
    exact if_no (by decide) (bd (fun z => q1 z.1))
end RY
/-! The reference's acts: cutTo, rotate, line, twos, and the growths'. -/
section RZ
variable {B : Nat → Nat} {h h0 : gaH} {st : GSt} {no : Int} {a b o : Nat} {u v : List Bool} {w g : Nat} {x y z : Int} {Q : Int → gaH → Prop}
def cutW (u : List Bool) (n : Nat) : List Bool := u.take n ++ List.replicate (n - u.length) false
theorem cutW_len (u : List Bool) (n : Nat) : (cutW u n).length = n := by simp [cutW]; omega
theorem cutW_at {u : List Bool} {n i : Nat} (h1 : i < n) (h2 : i < u.length) : (cutW u n).getD i false = u.getD i false := by
  unfold cutW
  rw [List.getD_eq_getElem?_getD, List.getElem?_append_left (by simp; omega), List.getElem?_take_of_lt h1, ← List.getD_eq_getElem?_getD]
theorem cutW_end {u : List Bool} {n i : Nat} (hi : i ≤ n) (h : n ≤ i ∨ u.length ≤ i) : pf (cutW u n) i = cutW u n := by
  rcases h with q | q
  · obtain rfl : i = n := by omega
    have := pf_end (cutW u i)
    rw [cutW_len] at this; exact this
  · unfold pf
    rw [cutW_len]
    unfold cutW
    rw [List.take_of_length_le (show u.length ≤ n by omega), List.take_append, List.take_of_length_le q, List.append_assoc, List.take_replicate, List.replicate_append_replicate]
    congr 2; omega
theorem r_cutTo_L {h0 : gaH} (d0 : gM B h0 st 0) (hw : w < 3) (ru : mR h0 a (st.S w)) (na : ∀ i, i < 38 → a ≠ B i) {n : Nat} (hn : n ≤ 64) (k : mRes B h0 Q (done (st.sheet w (cutW (st.S w) n)) ((st.S w).length : Int))) {kc ks : Nat} : ∀ (z i : Nat) (h : gaH), fil h0 h o (pf (cutW (st.S w) n) i) → i ≤ n → n - i < z → w_X7_cutTo_L52 Q z (B 0) (w : Int) (n : Int) a o (i : Int) h kc ks
  | 0, _, _, _, _, h9 => absurd h9 (Nat.not_lt_zero _)
  | z + 1, i, h, fl, hi, h9 => by
    have hl := d0.sl hw
    have hT := cutW_len (st.S w) n
    have d := d0.kp fl.2.1
    have fin : (n ≤ i ∨ (st.S w).length ≤ i) → w_X7_cutTo_J80 Q (B 0) (w : Int) a o h kc ks := fun q => by
      rw [cutW_end hi q] at fl
      unfold w_X7_cutTo_J80
      refine ⟨d.has, r_comes d hw rfl fl.2.2 (by omega) (d0.new fl.1) (fun h2 d2 f2 => ?_)⟩
      have ff := (mF.kp fl.2.1).tr f2
      exact (ru.fr ff na).len (k.ok d2 ff rfl)
    unfold w_X7_cutTo_L52
    refine ⟨by omega, by omega, ?_⟩
    by_cases q : n ≤ i
    · exact if_yes (by omega) (fin (Or.inl q))
    · refine if_no (by omega) ((ru.on fl.2.1).len ⟨by omega, by omega, ?_⟩)
      by_cases q2 : (st.S w).length ≤ i
      · exact if_yes (by omega) (fin (Or.inr q2))
      · refine if_no (by omega) ((ru.on fl.2.1).at rfl (by omega) (by omega) (fl.set rfl (by rw [pf_len (by omega)]; omega) (by rw [pf_len (by omega)]; omega) rfl (fun h3 f3 => ?_)))
        rw [← cutW_at (n := n) (by omega) (by omega), pf_set (by omega)] at f3
        rw [show (i : Int) + 1 = ((i + 1 : Nat) : Int) by omega]
        exact r_cutTo_L d0 hw ru na hn k z (i + 1) h3 f3 (by omega) (by omega)
theorem r_cutTo (d : gM B h st no) (hx : gR x) (hy : gR y) (k : mRes B h Q (m_cutTo st x y)) : w_X7_cutTo (B 0) x y h Q := by
  unfold w_X7_cutTo
  refine r_isNoSheet hx ⟨d.has, r_start d rfl (by decide) (fun q h1 d1 f1 => ?_) (fun q h1 d1 f1 => ?_)⟩
  · have q1 := nd q
    rw [m_cutTo, if_pos q1] at k
    refine ⟨by decide, if_yes rfl (r_isIn hy (by decide) (by decide) (sel (fun t => w_X7_cutTo_J28 Q (B 0) x y (B 0) t h1 1 64) ?_))⟩
    unfold w_X7_cutTo_J28
    refine ⟨d1.has, r_refuse d1 rfl (by decide) (fun q => ?_) (fun q h2 d2 f2 => ?_)⟩
    · have q2 := nd q
      rw [if_pos q2] at k
      obtain ⟨w, rfl⟩ : ∃ w : Nat, x = w := ⟨x.toNat, by omega⟩
      obtain ⟨n, rfl⟩ : ∃ w : Nat, y = w := ⟨y.toNat, by omega⟩
      simp only [Int.toNat_natCast] at k
      refine ⟨by decide, if_yes rfl (d1.f0 (d1.sh rfl (by omega) (fun a ra na => fil.new (n := n) rfl (by omega) (by decide) (by omega) (fun o h2 f2 => ⟨66, ?_⟩))))⟩
      exact r_cutTo_L d1 (by omega) ra na (by omega) (k.on f1) 66 0 h2 (by rw [pf_0, cutW_len]; exact f2) (Nat.zero_le _) (by omega)
    · rw [if_neg (nn q)] at k
      exact ⟨by decide, if_no (by decide) (k.ex d2 (f1.tr f2))⟩
  · rw [m_cutTo, if_neg (nn q)] at k
    exact ⟨by decide, if_no (by decide) (k.ex d1 f1)⟩
theorem rot_at {u : List Bool} {n i : Nat} (hn : n ≤ u.length) (hi : i < u.length) : (u.drop n ++ u.take n).getD i false = u.getD ((i + n) % u.length) false := by
  rw [List.getD_eq_getElem?_getD, List.getD_eq_getElem?_getD]
  by_cases q : i + n < u.length
  · rw [Nat.mod_eq_of_lt q, List.getElem?_append_left (by simp; omega), List.getElem?_drop, Nat.add_comm]
  · have e : (i + n) % u.length = i + n - u.length := by
      rw [Nat.mod_eq_sub_mod (by omega), Nat.mod_eq_of_lt (by omega)]
    rw [e, List.getElem?_append_right (by simp; omega)]
    simp only [List.length_drop]
    rw [List.getElem?_take_of_lt (by omega)]
    congr 2; omega
theorem r_rotate_L {h0 : gaH} (d0 : gM B h0 st 0) (hw : w < 3) (ru : mR h0 a (st.S w)) {n : Nat} (hn : n ≤ (st.S w).length) (k : mRes B h0 Q (settled st w ((st.S w).drop n ++ (st.S w).take n))) {kc ks : Nat} : ∀ (z i : Nat) (h : gaH), fil h0 h o (pf ((st.S w).drop n ++ (st.S w).take n) i) → i ≤ (st.S w).length → (st.S w).length - i < z → w_X7_rotate_L58 Q z (B 0) (w : Int) (n : Int) a o (i : Int) h kc ks
  | 0, _, _, _, _, h9 => absurd h9 (Nat.not_lt_zero _)
  | z + 1, i, h, fl, hi, h9 => by
    have hl := d0.sl hw
    have hT : ((st.S w).drop n ++ (st.S w).take n).length = (st.S w).length := by simp; omega
    have d := d0.kp fl.2.1
    unfold w_X7_rotate_L58
    refine fl.2.2.len ?_
    rw [pf_len (by omega), hT]
    refine ⟨by omega, by omega, ?_⟩
    by_cases q : (st.S w).length ≤ i
    · obtain rfl : i = ((st.S w).drop n ++ (st.S w).take n).length := by omega
      rw [pf_end] at fl
      exact if_yes (by omega) ⟨d.has, r_becomes d hw rfl fl.2.2 (by omega) (d0.new fl.1) (fun h2 d2 f2 => k.ok d2 ((mF.kp fl.2.1).tr f2) rfl)⟩
    · refine if_no (by omega) ((ru.on fl.2.1).len ⟨by omega, by omega, ?_⟩)
      have e : gRem ((i : Int) + (n : Int)) ((st.S w).length : Int) = (((i + n) % (st.S w).length : Nat) : Int) := by
        have := gRem_nat (a := i + n) (b := (st.S w).length) (by omega) (by omega)
        rw [← this]; congr 1
      rw [e]
      refine (ru.on fl.2.1).at rfl (Nat.mod_lt _ (by omega)) (by omega) (fl.set rfl (by rw [pf_len (by omega)]; omega) (by rw [pf_len (by omega)]; omega) rfl (fun h3 f3 => ?_))
      rw [← rot_at hn (by omega), pf_set (by omega)] at f3
      rw [show (i : Int) + 1 = ((i + 1 : Nat) : Int) by omega]
      exact r_rotate_L d0 hw ru hn k z (i + 1) h3 f3 (by omega) (by omega)
theorem r_rotate (d : gM B h st no) (hx : gR x) (hy : gR y) (k : mRes B h Q (m_rotate st x y)) : w_X7_rotate (B 0) x y h Q := by
  unfold w_X7_rotate
  refine r_isNoSheet hx ⟨d.has, r_start d rfl (by decide) (fun q h1 d1 f1 => ?_) (fun q h1 d1 f1 => ?_)⟩
  · have q1 := nd q
    rw [m_rotate, if_pos q1] at k
    obtain ⟨w, rfl⟩ : ∃ w : Nat, x = w := ⟨x.toNat, by omega⟩
    rw [Int.toNat_natCast] at k
    have hl := d1.sl (show w < 3 by omega)
    refine ⟨by decide, if_yes rfl (d1.f0 (d1.sh rfl (by omega) (fun a ra na => ra.len (r_isIn hy (by decide) (by omega) (sel (fun t => w_X7_rotate_J33 Q (B 0) (w : Int) y (B 0) t h1 1 64) ?_)))))⟩
    unfold w_X7_rotate_J33
    refine ⟨d1.has, r_refuse d1 rfl (by decide) (fun q => ?_) (fun q h2 d2 f2 => ?_)⟩
    · have q2 := nd q
      rw [if_pos q2] at k
      obtain ⟨n, rfl⟩ : ∃ w : Nat, y = w := ⟨y.toNat, by omega⟩
      simp only [Int.toNat_natCast] at k
      refine ⟨by decide, if_yes rfl (d1.f0 (d1.sh rfl (by omega) (fun a ra na => ra.len (fil.new (n := (st.S w).length) rfl (by omega) (by decide) (by omega) (fun o h2 f2 => ⟨66, ?_⟩)))))⟩
      have hT : ((st.S w).drop n ++ (st.S w).take n).length = (st.S w).length := by simp; omega
      exact r_rotate_L d1 (by omega) ra (by omega) (k.on f1) 66 0 h2 (by rw [pf_0, hT]; exact f2) (Nat.zero_le _) (by omega)
    · rw [if_neg (nn q)] at k
      exact ⟨by decide, if_no (by decide) (k.ex d2 (f1.tr f2))⟩
  · rw [m_rotate, if_neg (nn q)] at k
    exact ⟨by decide, if_no (by decide) (k.ex d1 f1)⟩
theorem lineW_len (n p s : Nat) : (lineW n p s).length = n := by simp [lineW]
theorem lineW_at {n p s i : Nat} (hi : i < n) : (lineW n p s).getD i false = lineB n p s i := by
  unfold lineW
  rw [List.getD_eq_getElem?_getD]; simp [hi]
theorem r_line_L {h0 : gaH} (d0 : gM B h0 st 0) (hw : w < 3) {n p s : Nat} (hn : 1 ≤ n ∧ n ≤ 64) (hp : p ≤ n) (hs : s < n) (k : mRes B h0 Q (settled st w (lineW n p s))) {kc ks : Nat} : ∀ (z i : Nat) (h : gaH), fil h0 h o (pf (lineW n p s) i) → i ≤ n → n - i < z → w_X7_line_L66 Q z (B 0) (w : Int) (n : Int) (p : Int) (s : Int) o (i : Int) h kc ks
  | 0, _, _, _, _, h9 => absurd h9 (Nat.not_lt_zero _)
  | z + 1, i, h, fl, hi, h9 => by
    have hT := lineW_len n p s
    have d := d0.kp fl.2.1
    unfold w_X7_line_L66
    refine ⟨by omega, by omega, ?_⟩
    by_cases q : n ≤ i
    · obtain rfl : i = (lineW n p s).length := by omega
      rw [pf_end] at fl
      exact if_yes (by omega) ⟨d.has, r_becomes d hw rfl fl.2.2 (by omega) (d0.new fl.1) (fun h2 d2 f2 => k.ok d2 ((mF.kp fl.2.1).tr f2) rfl)⟩
    · refine if_no (by omega) (r_lineSign (n := n) (p := p) (s := s) (i := i) (by omega) (by omega) (by omega) (by omega) (by omega) rfl rfl rfl rfl (fl.set rfl (by rw [pf_len (by omega)]; omega) (by rw [pf_len (by omega)]; omega) rfl (fun h3 f3 => ?_)))
      rw [← lineW_at (show i < n by omega), pf_set (by omega)] at f3
      rw [show (i : Int) + 1 = ((i + 1 : Nat) : Int) by omega]
      exact r_line_L d0 hw hn hp hs k z (i + 1) h3 f3 (by omega) (by omega)
theorem r_line {n p s : Int} (d : gM B h st no) (hx : gR x) (hn : gR n) (hp : gR p) (hs : gR s) (k : mRes B h Q (m_line st x n p s)) : w_X7_line (B 0) x n p s h Q := by
  unfold w_X7_line
  refine r_isNoSheet hx ⟨d.has, r_start d rfl (by decide) (fun q h1 d1 f1 => ?_) (fun q h1 d1 f1 => ?_)⟩
  · have q1 := nd q
    rw [m_line, if_pos q1] at k
    have bd : ¬ ((1 ≤ n ∧ n ≤ 64) ∧ (0 ≤ p ∧ p ≤ n) ∧ 0 ≤ s ∧ s < n) → w_X7_line_J49 Q (B 0) x n p s (B 0) 1 h1 1 64 := fun q => by
      have e : (if 1 ≤ n ∧ n ≤ 64 then if 0 ≤ p ∧ p ≤ n then if 0 ≤ s ∧ s < n then settled st x.toNat (lineW n.toNat p.toNat s.toNat) else bad 2 st else bad 2 st else bad 2 st) = bad 2 st := by
        by_cases z1 : 1 ≤ n ∧ n ≤ 64
        · rw [if_pos z1]
          by_cases z2 : 0 ≤ p ∧ p ≤ n
          · rw [if_pos z2, if_neg (fun z3 => q ⟨z1, z2, z3⟩)]
          · rw [if_neg z2]
        · rw [if_neg z1]
      rw [e] at k
      unfold w_X7_line_J49
      exact ⟨d1.has, r_refuse d1 (bd := true) rfl (by decide) (fun q => by cases q) (fun q h2 d2 f2 => ⟨by decide, if_no (by decide) (k.ex d2 (f1.tr f2))⟩)⟩
    refine ⟨by decide, if_yes rfl (r_isIn hn (by decide) (by decide) ⟨b2i_R _, ?_⟩)⟩
    by_cases z1 : 1 ≤ n ∧ n ≤ 64
    · rw [decide_eq_true z1]
      refine if_no (by decide) (r_isIn hp (by decide) hn ⟨b2i_R _, ?_⟩)
      by_cases z2 : 0 ≤ p ∧ p ≤ n
      · rw [decide_eq_true z2]
        refine if_no (by decide) (r_isIn hs (by decide) (by omega) ⟨b2i_R _, ?_⟩)
        by_cases z3 : 0 ≤ s ∧ s < n
        · rw [decide_eq_true (show 0 ≤ s ∧ s ≤ n - 1 by omega)]
          refine if_no (by decide) ?_
          rw [if_pos z1, if_pos z2, if_pos z3] at k
          obtain ⟨w, rfl⟩ : ∃ w : Nat, x = w := ⟨x.toNat, by omega⟩
          obtain ⟨n, rfl⟩ : ∃ w : Nat, n = w := ⟨n.toNat, by omega⟩
          obtain ⟨p, rfl⟩ : ∃ w : Nat, p = w := ⟨p.toNat, by omega⟩
          obtain ⟨s, rfl⟩ : ∃ w : Nat, s = w := ⟨s.toNat, by omega⟩
          simp only [Int.toNat_natCast] at k
          unfold w_X7_line_J49
          refine ⟨d1.has, r_refuse d1 (bd := false) rfl (by decide) (fun q => ⟨by decide, if_yes rfl (fil.new (n := n) rfl (by omega) (by decide) (by omega) (fun o h2 f2 => ⟨66, ?_⟩))⟩) (fun q => by cases q)⟩
          exact r_line_L d1 (by omega) (by omega) (by omega) (by omega) (k.on f1) 66 0 h2 (by rw [pf_0, lineW_len]; exact f2) (Nat.zero_le _) (by omega)
        · rw [decide_eq_false (show ¬ (0 ≤ s ∧ s ≤ n - 1) by omega)]
          exact if_yes rfl (bd (fun z => z3 z.2.2))
      · rw [decide_eq_false z2]
        exact if_yes rfl (bd (fun z => z2 z.2.1))
    · rw [decide_eq_false z1]
      exact if_yes rfl (bd (fun z => z1 z.1))
  · rw [m_line, if_neg (nn q)] at k
    exact ⟨by decide, if_no (by decide) (k.ex d1 f1)⟩
theorem r_twos (d : gM B h st no) (hx : gR x) (hy : gR y) (hz : gR z) (k : mRes B h Q (m_twos st x y z)) : w_X7_twos (B 0) x y z h Q := by
  unfold w_X7_twos
  refine r_isNoSheet hx ⟨d.has, r_start d rfl (by decide) (fun q h1 d1 f1 => ?_) (fun q h1 d1 f1 => ?_)⟩
  · have q1 := nd q
    rw [m_twos, if_pos q1] at k
    have bd : ¬ ((0 ≤ y ∧ y ≤ 6) ∧ 0 ≤ z ∧ z ≤ 2) → w_X7_twos_J37 Q (B 0) x y z (B 0) 1 h1 44 4928 := fun q => by
      have e : (if 0 ≤ y ∧ y ≤ 6 then if 0 ≤ z ∧ z ≤ 2 then done (st.sheet x.toNat (twL y.toNat)) ((twL y.toNat).length : Int) else bad 2 st else bad 2 st) = bad 2 st := by
        by_cases z1 : 0 ≤ y ∧ y ≤ 6
        · rw [if_pos z1, if_neg (fun z2 => q ⟨z1, z2⟩)]
        · rw [if_neg z1]
      rw [e] at k
      unfold w_X7_twos_J37
      exact ⟨d1.has, r_refuse d1 (bd := true) rfl (by decide) (fun q => by cases q) (fun q h2 d2 f2 => ⟨by decide, if_no (by decide) (k.ex d2 (f1.tr f2))⟩)⟩
    refine ⟨by decide, if_yes rfl (r_isIn hy (by decide) (by decide) ⟨b2i_R _, ?_⟩)⟩
    by_cases z1 : 0 ≤ y ∧ y ≤ 6
    · rw [decide_eq_true z1]
      refine if_no (by decide) (r_isIn hz (by decide) (by decide) ⟨b2i_R _, ?_⟩)
      by_cases z2 : 0 ≤ z ∧ z ≤ 2
      · rw [decide_eq_true z2]
        refine if_no (by decide) ?_
        rw [if_pos z1, if_pos z2] at k
        obtain ⟨w, rfl⟩ : ∃ w : Nat, x = w := ⟨x.toNat, by omega⟩
        obtain ⟨s, rfl⟩ : ∃ w : Nat, y = w := ⟨y.toNat, by omega⟩
        simp only [Int.toNat_natCast] at k
        unfold w_X7_twos_J37
        refine ⟨d1.has, r_refuse d1 (bd := false) rfl (by decide) (fun q => ⟨by decide, if_yes rfl (gCall_mk (by decide) (by decide) (r_twosOf rfl (show s ≤ 6 by omega) hz z2 (fun h2 o k2 n2 r2 => ?_)))⟩) (fun q => by cases q)⟩
        have d2 := d1.kp k2
        have hl : (twL s).length ≤ 64 := by
          rw [twL_len s (by omega)]
          have : 2 ^ s ≤ 2 ^ 6 := Nat.pow_le_pow_right (by decide) (by omega)
          omega
        exact ⟨d2.has, r_comes d2 (by omega) rfl r2 hl (d1.new n2) (fun h5 d5 f5 => k.ok d5 (f1.tr ((mF.kp k2).tr f5)) rfl)⟩
      · rw [decide_eq_false z2]
        exact if_yes rfl (bd (fun z => z2 z.2))
    · rw [decide_eq_false z1]
      exact if_yes rfl (bd (fun z => z1 z.1))
  · rw [m_twos, if_neg (nn q)] at k
    exact ⟨by decide, if_no (by decide) (k.ex d1 f1)⟩
theorem r_knock (d : gM B h st no) (k : mRes B h Q (m_knock st)) : w_X7_knock (B 0) h Q := by
  unfold w_X7_knock
  exact d.setNo (fun h1 d1 f1 => d1.cn (i := 3) rfl (by decide) (d1.inc (i := 3) rfl (by decide) rfl (fun h2 d2 f2 => d2.cn (i := 3) rfl (by decide) (k.ok d2 (f1.tr f2) (show pu st.C 3 (st.C 3 + 1) 3 = st.C 3 + 1 from pu_self _ _ _)))))
end RZ
