/-! Texts, as far as they go through: what a StringBuilder holds is told by its length. -/
def sbd (h0 h : gaH) (b : Nat) (n : Nat) : Prop := ∃ v bs, h b = some (1, [.ref v, gi 0, gi 0, gi (n : Int)]) ∧ h v = some (101, bs) ∧ (∀ x ∈ bs, fits (gaTy 101) x = true) ∧ (bs.length = 16 ∨ bs.length = 34 ∨ bs.length = 70) ∧ n ≤ bs.length ∧ b ≠ v ∧ h0 b = none ∧ h0 v = none ∧ ∀ a e, h0 a = some e → h a = some e
theorem gNA_mk {h : gaH} {t : Nat} {v : Value} {x : Int} {c s : Nat} {K : Nat → gaH → Nat → Nat → Prop} {n : Nat} (hx : x = (n : Int)) (h1 : n ≤ 100000) (h2 : 1 ≤ c) (h3 : n ≤ s) (k : ∀ a, h a = none → K a (gaUp h a (t, List.replicate n v)) (c - 1) (s - n)) : gNA h t v x c s K := by
  subst hx
  exact ⟨by omega, by omega, h2, by omega, fun a ha => ⟨_, _, rfl, rfl, by rw [Int.toNat_natCast]; exact k a ha⟩⟩
theorem gNO_mk {h : gaH} {ci n : Nat} {fs : List Value} {c s : Nat} {K : Nat → gaH → Nat → Nat → Prop} (h2 : 1 ≤ c) (h3 : n ≤ s) (k : ∀ a, h a = none → K a (gaUp h a (ci, fs)) (c - 1) (s - n)) : gNO h ci n fs c s K := ⟨h2, h3, fun a ha => ⟨_, _, rfl, rfl, k a ha⟩⟩
theorem up_keep {h : gaH} {a b : Nat} {e f : gaE} (hb : h b = none) (ha : h a = some e) : gaUp h b f a = some e := by
  rw [gaUp_ne _ _ (fun q => by rw [q, hb] at ha; cases ha)]; exact ha
theorem new_ne {h : gaH} {a b : Nat} {e : gaE} (ha : h a = some e) (hb : h b = none) : a ≠ b := fun q => by rw [q, hb] at ha; cases ha
theorem fits0 {n : Nat} : ∀ x ∈ List.replicate n (gi 0), fits (gaTy 101) x = true := fun x hx => by rw [List.eq_of_mem_replicate hx]; decide +kernel
section SB
variable {G : gaG} {h0 h : gaH} {b n : Nat}
theorem sb_init {Q : gaH → Prop} {b : Nat} (hb : h0 b = none) (k : ∀ h', sbd h0 h' b 0 → Q h') : w_J4_init_da8c8 G b (gaUp h0 b (1, [.null, gi 0, gi 0, gi 0])) Q := by
  unfold w_J4_init_da8c8
  refine gCall_mk (by decide) (by decide) ?_
  unfold w_J5_init_d00df
  refine gNA_mk (n := 16) rfl (by decide) (by decide) (by decide) (fun v hv => ?_)
  have hvb : v ≠ b := fun q => by rw [q, gaUp_self] at hv; cases hv
  rw [gaUp_ne _ _ hvb] at hv
  refine gPF_mk (fs := [.null, gi 0, gi 0, gi 0]) (by rw [gaUp_ne _ _ (Ne.symm hvb), gaUp_self]) (by simp) (gPF_mk (gaUp_self _ _ _) (by simp) (k _ ⟨v, List.replicate 16 (gi 0), ?_, ?_, fits0, by simp, by decide, Ne.symm hvb, hb, hv, fun a e ha => ?_⟩))
  · rw [gaUp_self]; rfl
  · rw [gaUp_ne _ _ hvb, gaUp_ne _ _ hvb, gaUp_self]
  · rw [gaUp_ne _ _ (new_ne ha hb), gaUp_ne _ _ (new_ne ha hb), gaUp_ne _ _ (new_ne ha hv), gaUp_ne _ _ (new_ne ha hb)]; exact ha
theorem gShr0 {n : Nat} (hn : n < 2147483648) : gShr (n : Int) 0 = (n : Int) := by have := gShr_nat (n := n) (d := 0) hn (by decide); simpa using this
theorem gShl0 {n : Nat} (hn : n < 2147483648) : gShl (n : Int) 0 = (n : Int) := by have := gShl_nat (n := n) (d := 0) (by omega) (by decide); simpa using this
theorem sb_ensure {Q : gaH → Prop} (sb : sbd h0 h b n) {m : Nat} {x : Int} (hx : x = (m : Int)) (hm : m ≤ 65) (hmn : n ≤ m) (hnm : m ≤ n + 1) (k : ∀ h', sbd h0 h' b n → (∀ v bs, h' b = some (1, [.ref v, gi 0, gi 0, gi (n : Int)]) → h' v = some (101, bs) → m ≤ bs.length) → Q h') : w_J5_ensureCapacityInternal_d00df b x h Q := by
  subst hx
  obtain ⟨v, bs, a1, a2, a3, a4, a5, a6, a7, a8, a9⟩ := id sb
  unfold w_J5_ensureCapacityInternal_d00df
  refine gA_mk a1 rfl (gAL_mk a2 rfl (gI_mk a1 rfl (x := 0) ?_))
  rw [gShr0 (by omega)]
  (first | refine And.intro (show gR _ from by first | assumption | omega | decide | exact b2i_R _ | exact gR_of (by omega) (by omega)) ?_ | refine And.intro (show gHas _ _ _ from by first | exact gW.has (gD.w (by assumption)) (by omega) | exact gD.has (by assumption) | exact gRu.has (gD.ru (by assumption)) | exact gGr.has (gD.gr (by assumption) _ (by omega))) ?_ | refine gCall_mk (by decide) (by decide) ?_ | refine if_yes (by first | assumption | omega | decide | exact b2i_R _ | exact gR_of (by omega) (by omega)) ?_ | refine if_no (by first | assumption | omega | decide | exact b2i_R _ | exact gR_of (by omega) (by omega)) ?_)
  by_cases q : m ≤ bs.length
  · exact if_yes (by omega) (k h sb (fun v2 bs2 e1 e2 => by
      rw [a1] at e1; cases e1; rw [a2] at e2; cases e2; exact q))
  · refine if_no (by omega) (gA_mk a1 rfl ⟨⟨_, a1⟩, ?_⟩)
    have hl : bs.length = 16 ∨ bs.length = 34 := by omega
    have nn : n = bs.length := by omega
    unfold w_J5_newCapacity_0f7a4
    refine gA_mk a1 rfl (gAL_mk a2 rfl (gI_mk a1 rfl (x := 0) (gI_mk a1 rfl (x := 0) ?_)))
    rw [gShl0 (by omega), show gShl 2 0 = 2 by decide +kernel]
    unfold w_J8_newLength_cabcc
    (first | refine And.intro (show gR _ from by first | assumption | omega | decide | exact b2i_R _ | exact gR_of (by omega) (by omega)) ?_ | refine And.intro (show gHas _ _ _ from by first | exact gW.has (gD.w (by assumption)) (by omega) | exact gD.has (by assumption) | exact gRu.has (gD.ru (by assumption)) | exact gGr.has (gD.gr (by assumption) _ (by omega))) ?_ | refine gCall_mk (by decide) (by decide) ?_ | refine if_yes (by first | assumption | omega | decide | exact b2i_R _ | exact gR_of (by omega) (by omega)) ?_ | refine if_no (by first | assumption | omega | decide | exact b2i_R _ | exact gR_of (by omega) (by omega)) ?_); (first | refine And.intro (show gR _ from by first | assumption | omega | decide | exact b2i_R _ | exact gR_of (by omega) (by omega)) ?_ | refine And.intro (show gHas _ _ _ from by first | exact gW.has (gD.w (by assumption)) (by omega) | exact gD.has (by assumption) | exact gRu.has (gD.ru (by assumption)) | exact gGr.has (gD.gr (by assumption) _ (by omega))) ?_ | refine gCall_mk (by decide) (by decide) ?_ | refine if_yes (by first | assumption | omega | decide | exact b2i_R _ | exact gR_of (by omega) (by omega)) ?_ | refine if_no (by first | assumption | omega | decide | exact b2i_R _ | exact gR_of (by omega) (by omega)) ?_); (first | refine And.intro (show gR _ from by first | assumption | omega | decide | exact b2i_R _ | exact gR_of (by omega) (by omega)) ?_ | refine And.intro (show gHas _ _ _ from by first | exact gW.has (gD.w (by assumption)) (by omega) | exact gD.has (by assumption) | exact gRu.has (gD.ru (by assumption)) | exact gGr.has (gD.gr (by assumption) _ (by omega))) ?_ | refine gCall_mk (by decide) (by decide) ?_ | refine if_yes (by first | assumption | omega | decide | exact b2i_R _ | exact gR_of (by omega) (by omega)) ?_ | refine if_no (by first | assumption | omega | decide | exact b2i_R _ | exact gR_of (by omega) (by omega)) ?_); (first | refine And.intro (show gR _ from by first | assumption | omega | decide | exact b2i_R _ | exact gR_of (by omega) (by omega)) ?_ | refine And.intro (show gHas _ _ _ from by first | exact gW.has (gD.w (by assumption)) (by omega) | exact gD.has (by assumption) | exact gRu.has (gD.ru (by assumption)) | exact gGr.has (gD.gr (by assumption) _ (by omega))) ?_ | refine gCall_mk (by decide) (by decide) ?_ | refine if_yes (by first | assumption | omega | decide | exact b2i_R _ | exact gR_of (by omega) (by omega)) ?_ | refine if_no (by first | assumption | omega | decide | exact b2i_R _ | exact gR_of (by omega) (by omega)) ?_); (first | refine And.intro (show gR _ from by first | assumption | omega | decide | exact b2i_R _ | exact gR_of (by omega) (by omega)) ?_ | refine And.intro (show gHas _ _ _ from by first | exact gW.has (gD.w (by assumption)) (by omega) | exact gD.has (by assumption) | exact gRu.has (gD.ru (by assumption)) | exact gGr.has (gD.gr (by assumption) _ (by omega))) ?_ | refine gCall_mk (by decide) (by decide) ?_ | refine if_yes (by first | assumption | omega | decide | exact b2i_R _ | exact gR_of (by omega) (by omega)) ?_ | refine if_no (by first | assumption | omega | decide | exact b2i_R _ | exact gR_of (by omega) (by omega)) ?_); (first | refine And.intro (show gR _ from by first | assumption | omega | decide | exact b2i_R _ | exact gR_of (by omega) (by omega)) ?_ | refine And.intro (show gHas _ _ _ from by first | exact gW.has (gD.w (by assumption)) (by omega) | exact gD.has (by assumption) | exact gRu.has (gD.ru (by assumption)) | exact gGr.has (gD.gr (by assumption) _ (by omega))) ?_ | refine gCall_mk (by decide) (by decide) ?_ | refine if_yes (by first | assumption | omega | decide | exact b2i_R _ | exact gR_of (by omega) (by omega)) ?_ | refine if_no (by first | assumption | omega | decide | exact b2i_R _ | exact gR_of (by omega) (by omega)) ?_)
    (first | refine And.intro (show gR _ from by first | assumption | omega | decide | exact b2i_R _ | exact gR_of (by omega) (by omega)) ?_ | refine And.intro (show gHas _ _ _ from by first | exact gW.has (gD.w (by assumption)) (by omega) | exact gD.has (by assumption) | exact gRu.has (gD.ru (by assumption)) | exact gGr.has (gD.gr (by assumption) _ (by omega))) ?_ | refine gCall_mk (by decide) (by decide) ?_ | refine if_yes (by first | assumption | omega | decide | exact b2i_R _ | exact gR_of (by omega) (by omega)) ?_ | refine if_no (by first | assumption | omega | decide | exact b2i_R _ | exact gR_of (by omega) (by omega)) ?_); (first | refine And.intro (show gR _ from by first | assumption | omega | decide | exact b2i_R _ | exact gR_of (by omega) (by omega)) ?_ | refine And.intro (show gHas _ _ _ from by first | exact gW.has (gD.w (by assumption)) (by omega) | exact gD.has (by assumption) | exact gRu.has (gD.ru (by assumption)) | exact gGr.has (gD.gr (by assumption) _ (by omega))) ?_ | refine gCall_mk (by decide) (by decide) ?_ | refine if_yes (by first | assumption | omega | decide | exact b2i_R _ | exact gR_of (by omega) (by omega)) ?_ | refine if_no (by first | assumption | omega | decide | exact b2i_R _ | exact gR_of (by omega) (by omega)) ?_)
    refine gI_mk a1 rfl (x := 0) ?_
    have emax : (bs.length : Int) + max ((m : Int) - (bs.length : Int)) ((bs.length : Int) + 2) = ((2 * bs.length + 2 : Nat) : Int) := by omega
    rw [emax, gShr0 (by omega)]
    refine gI_mk a1 rfl (x := 0) (gCall_mk (by decide) (by decide) ?_)
    rw [gShl0 (by omega)]
    unfold w_J7_copyOf_9075b
    refine gAL_mk a2 rfl ?_
    (first | refine And.intro (show gR _ from by first | assumption | omega | decide | exact b2i_R _ | exact gR_of (by omega) (by omega)) ?_ | refine And.intro (show gHas _ _ _ from by first | exact gW.has (gD.w (by assumption)) (by omega) | exact gD.has (by assumption) | exact gRu.has (gD.ru (by assumption)) | exact gGr.has (gD.gr (by assumption) _ (by omega))) ?_ | refine gCall_mk (by decide) (by decide) ?_ | refine if_yes (by first | assumption | omega | decide | exact b2i_R _ | exact gR_of (by omega) (by omega)) ?_ | refine if_no (by first | assumption | omega | decide | exact b2i_R _ | exact gR_of (by omega) (by omega)) ?_); (first | refine And.intro (show gR _ from by first | assumption | omega | decide | exact b2i_R _ | exact gR_of (by omega) (by omega)) ?_ | refine And.intro (show gHas _ _ _ from by first | exact gW.has (gD.w (by assumption)) (by omega) | exact gD.has (by assumption) | exact gRu.has (gD.ru (by assumption)) | exact gGr.has (gD.gr (by assumption) _ (by omega))) ?_ | refine gCall_mk (by decide) (by decide) ?_ | refine if_yes (by first | assumption | omega | decide | exact b2i_R _ | exact gR_of (by omega) (by omega)) ?_ | refine if_no (by first | assumption | omega | decide | exact b2i_R _ | exact gR_of (by omega) (by omega)) ?_)
    refine if_no (by omega) (gNA_mk (n := 2 * bs.length + 2) rfl (by omega) (by decide) (by omega) (fun c hc => ?_))
    have cv := new_ne a2 hc
    have cb := new_ne a1 hc
    refine gAL_mk (up_keep hc a2) rfl ?_
    (first | refine And.intro (show gR _ from by first | assumption | omega | decide | exact b2i_R _ | exact gR_of (by omega) (by omega)) ?_ | refine And.intro (show gHas _ _ _ from by first | exact gW.has (gD.w (by assumption)) (by omega) | exact gD.has (by assumption) | exact gRu.has (gD.ru (by assumption)) | exact gGr.has (gD.gr (by assumption) _ (by omega))) ?_ | refine gCall_mk (by decide) (by decide) ?_ | refine if_yes (by first | assumption | omega | decide | exact b2i_R _ | exact gR_of (by omega) (by omega)) ?_ | refine if_no (by first | assumption | omega | decide | exact b2i_R _ | exact gR_of (by omega) (by omega)) ?_); (first | refine And.intro (show gR _ from by first | assumption | omega | decide | exact b2i_R _ | exact gR_of (by omega) (by omega)) ?_ | refine And.intro (show gHas _ _ _ from by first | exact gW.has (gD.w (by assumption)) (by omega) | exact gD.has (by assumption) | exact gRu.has (gD.ru (by assumption)) | exact gGr.has (gD.gr (by assumption) _ (by omega))) ?_ | refine gCall_mk (by decide) (by decide) ?_ | refine if_yes (by first | assumption | omega | decide | exact b2i_R _ | exact gR_of (by omega) (by omega)) ?_ | refine if_no (by first | assumption | omega | decide | exact b2i_R _ | exact gR_of (by omega) (by omega)) ?_)
    refine ⟨cv, ⟨bs, _, up_keep hc a2, gaUp_self _ _ _, by omega, by omega, by omega, by omega, by omega, by omega, by simp; omega, a3, fun us e1 e2 => ?_⟩⟩
    rw [List.length_replicate] at e1
    have hc0 : h0 c = none := by
      cases q2 : h0 c with
      | none => rfl
      | some e => rw [a9 c e q2] at hc; cases hc
    refine gPF_mk (fs := [.ref v, gi 0, gi 0, gi (n : Int)]) (by rw [gaUp_ne _ _ cb, gaUp_ne _ _ cb]; exact a1) (by simp) (k _ ⟨c, us, ?_, ?_, fun x hx => ?_, by omega, by omega, cb, a7, hc0, fun a e ha => ?_⟩ (fun v2 bs2 f1 f2 => ?_))
    · rw [gaUp_self]; rfl
    · rw [gaUp_ne _ _ (Ne.symm cb), gaUp_self]
    · rcases e2 x hx with q3 | q3
      · exact a3 x q3
      · exact fits0 x q3
    · have := a9 a e ha
      rw [gaUp_ne _ _ (new_ne ha a7), gaUp_ne _ _ (new_ne this hc), gaUp_ne _ _ (new_ne this hc)]; exact this
    · rw [gaUp_self] at f1
      cases f1
      rw [gaUp_ne _ _ (Ne.symm cb), gaUp_self] at f2
      cases f2
      omega
theorem gI2b_byte {c : Int} (h1 : 0 ≤ c) (h2 : c ≤ 127) : gI2b c = c := by
  obtain ⟨n, rfl⟩ : ∃ n : Nat, c = n := ⟨c.toNat, by omega⟩
  have : ∀ m, m < 128 → gI2b ((m : Nat) : Int) = (m : Int) := by decide +kernel
  exact this n (by omega)
theorem narrow_byte2 {c : Int} (h1 : 0 ≤ c) (h2 : c ≤ 127) : narrow .byte (gi c) = gi c ∧ fits (gaTy 101) (gi c) = true := by
  obtain ⟨n, rfl⟩ : ∃ n : Nat, c = n := ⟨c.toNat, by omega⟩
  have : ∀ m, m < 128 → narrow .byte (gi ((m : Nat) : Int)) = gi (m : Int) ∧ fits (gaTy 101) (gi (m : Int)) = true := by decide +kernel
  exact this n (by omega)
theorem sb_put {K : gaH → Prop} (sb : sbd h0 h b n) {v : Nat} {bs : List Value} (a1 : h b = some (1, [.ref v, gi 0, gi 0, gi (n : Int)])) (a2 : h v = some (101, bs)) {c : Int} (h1 : 0 ≤ c) (h2 : c ≤ 127) {x : Int} {p : Nat} (hx : x = (p : Int)) (hp : p < bs.length) (k : ∀ h' bs', sbd h0 h' b n → h' b = some (1, [.ref v, gi 0, gi 0, gi (n : Int)]) → h' v = some (101, bs') → bs'.length = bs.length → K h') : gSI h v 101 x (gi c) K := by
  subst hx
  obtain ⟨v', bs', b1, b2, b3, b4, b5, b6, b7, b8, b9⟩ := sb
  rw [a1] at b1; cases b1
  rw [a2] at b2; cases b2
  refine gSI_mk a2 (by omega) (by omega) (by omega) (k _ (bs.set p (gi c)) ⟨v, bs.set p (gi c), ?_, ?_, ?_, by simpa using b4, by simpa using b5, b6, b7, b8, fun a e ha => ?_⟩ ?_ ?_ (by simp))
  · rw [gaUp_ne _ _ b6]; exact a1
  · rw [gaUp_self, Int.toNat_natCast]
  · intro x hx
    rcases List.mem_or_eq_of_mem_set hx with q | q
    · exact b3 x q
    · rw [q]; exact (narrow_byte2 h1 h2).2
  · rw [gaUp_ne _ _ (new_ne ha b8)]; exact b9 a e ha
  · rw [gaUp_ne _ _ b6]; exact a1
  · rw [gaUp_self, Int.toNat_natCast]
theorem sb_cnt {K : gaH → Prop} (sb : sbd h0 h b n) {m : Nat} {x : Int} (hx : x = (m : Int)) (hm : ∀ v bs, h b = some (1, [.ref v, gi 0, gi 0, gi (n : Int)]) → h v = some (101, bs) → m ≤ bs.length) (k : ∀ h', sbd h0 h' b m → (∀ a, a ≠ b → h' a = h a) → (∀ v, h b = some (1, [.ref v, gi 0, gi 0, gi (n : Int)]) → h' b = some (1, [.ref v, gi 0, gi 0, gi (m : Int)])) → K h') : gPF h b 1 3 (gi x) K := by
  subst hx
  obtain ⟨v, bs, b1, b2, b3, b4, b5, b6, b7, b8, b9⟩ := sb
  refine gPF_mk b1 (by simp) (k _ ⟨v, bs, by rw [gaUp_self]; rfl, by rw [gaUp_ne _ _ (Ne.symm b6)]; exact b2, b3, b4, hm v bs b1 b2, b6, b7, b8, fun a e ha => by rw [gaUp_ne _ _ (new_ne ha b7)]; exact b9 a e ha⟩ (fun a ha => gaUp_ne _ _ ha) (fun w q => by rw [b1] at q; cases q; rw [gaUp_self]; rfl))
theorem sb_lat {Q : Int → gaH → Prop} (sb : sbd h0 h b n) (k : Q 1 h) : w_J5_isLatin1_aae02 G b h Q := by
  obtain ⟨v, bs, b1, -⟩ := sb
  unfold w_J5_isLatin1_aae02
  exact gI_mk b1 rfl (x := 0) ⟨by decide, if_yes rfl k⟩
theorem sbd.has (sb : sbd h0 h b n) : gHas h b 1 := by obtain ⟨v, bs, b1, -⟩ := sb; exact ⟨_, b1⟩
/-- a sign is added -/
theorem sb_char {Q : Nat → gaH → Prop} (sb : sbd h0 h b n) (hn : n < 65) {c : Int} (h1 : 0 ≤ c) (h2 : c ≤ 127) (k : ∀ h', sbd h0 h' b (n + 1) → Q b h') : w_J4_append_cf468 G b c h Q := by
  unfold w_J4_append_cf468
  refine ⟨sb.has, gCall_mk (by decide) (by decide) ?_⟩
  unfold w_J5_append_3fe6f
  obtain ⟨v0, bs0, b1, -⟩ := id sb
  refine gI_mk b1 rfl (x := (n : Int)) ⟨sb.has, gCall_mk (by decide) (by decide) (sb_ensure sb (m := n + 1) (by omega) (by omega) (by omega) (by omega) (fun h' s1 le => ⟨s1.has, sb_lat s1 ?_⟩))⟩
  (first | refine And.intro (show gR _ from by first | assumption | omega | decide | exact b2i_R _ | exact gR_of (by omega) (by omega)) ?_ | refine And.intro (show gHas _ _ _ from by first | exact gW.has (gD.w (by assumption)) (by omega) | exact gD.has (by assumption) | exact gRu.has (gD.ru (by assumption)) | exact gGr.has (gD.gr (by assumption) _ (by omega))) ?_ | refine gCall_mk (by decide) (by decide) ?_ | refine if_yes (by first | assumption | omega | decide | exact b2i_R _ | exact gR_of (by omega) (by omega)) ?_ | refine if_no (by first | assumption | omega | decide | exact b2i_R _ | exact gR_of (by omega) (by omega)) ?_); (first | refine And.intro (show gR _ from by first | assumption | omega | decide | exact b2i_R _ | exact gR_of (by omega) (by omega)) ?_ | refine And.intro (show gHas _ _ _ from by first | exact gW.has (gD.w (by assumption)) (by omega) | exact gD.has (by assumption) | exact gRu.has (gD.ru (by assumption)) | exact gGr.has (gD.gr (by assumption) _ (by omega))) ?_ | refine gCall_mk (by decide) (by decide) ?_ | refine if_yes (by first | assumption | omega | decide | exact b2i_R _ | exact gR_of (by omega) (by omega)) ?_ | refine if_no (by first | assumption | omega | decide | exact b2i_R _ | exact gR_of (by omega) (by omega)) ?_)
  refine if_no (by omega) ⟨by decide, if_no (by decide) ?_⟩
  obtain ⟨v, bs, a1, a2, -⟩ := id s1
  have hl := le v bs a1 a2
  refine gA_mk a1 rfl (gI_mk a1 rfl (x := (n : Int)) (sb_cnt s1 (m := n + 1) (by omega) le (fun h2' s2 keep e => ?_)))
  rw [gI2b_byte h1 h2]
  refine ⟨(narrow_byte2 h1 h2).1, sb_put s2 (e v a1) (by
    obtain ⟨_, _, _, _, _, _, _, q, -⟩ := id s1
    rw [keep v (fun z => by
      obtain ⟨v3, bs3, c1, c2, c3, c4, c5, c6, -⟩ := s1
      rw [a1] at c1; cases c1; exact c6 z.symm)]; exact a2) h1 h2 rfl (by omega) (fun h3 bs3 s3 _ _ _ => k h3 s3)⟩
/-- a turn is added -/
theorem sb_turn {Q : Nat → gaH → Prop} (sb : sbd h0 h b n) (hn : n < 65) (m3 : h0 (G.2.2.2 1) = some (1101, gaOnes)) {t : Nat} (ht : 1 ≤ t ∧ t ≤ 3) (k : ∀ h', sbd h0 h' b (n + 1) → Q b h') : w_J4_append_bf812 G b (t : Int) h Q := by
  unfold w_J4_append_bf812
  refine ⟨sb.has, gCall_mk (by decide) (by decide) ?_⟩
  unfold w_J5_append_c97b9
  obtain ⟨v0, bs0, b1, -⟩ := id sb
  refine gI_mk b1 rfl (x := (n : Int)) ?_
  unfold w_J6_stringSize_0f7a4
  refine ⟨by omega, if_no (by omega) ⟨1, ?_⟩⟩
  unfold w_J6_stringSize_0f7a4_L16
  refine ⟨by decide, if_no (by decide) ⟨by omega, by decide, if_no (by omega) ⟨sb.has, gCall_mk (by decide) (by decide) (sb_ensure sb (m := n + 1) (by omega) (by omega) (by omega) (by omega) (fun h' s1 le => ⟨s1.has, sb_lat s1 ?_⟩))⟩⟩⟩
  (first | refine And.intro (show gR _ from by first | assumption | omega | decide | exact b2i_R _ | exact gR_of (by omega) (by omega)) ?_ | refine And.intro (show gHas _ _ _ from by first | exact gW.has (gD.w (by assumption)) (by omega) | exact gD.has (by assumption) | exact gRu.has (gD.ru (by assumption)) | exact gGr.has (gD.gr (by assumption) _ (by omega))) ?_ | refine gCall_mk (by decide) (by decide) ?_ | refine if_yes (by first | assumption | omega | decide | exact b2i_R _ | exact gR_of (by omega) (by omega)) ?_ | refine if_no (by first | assumption | omega | decide | exact b2i_R _ | exact gR_of (by omega) (by omega)) ?_); (first | refine And.intro (show gR _ from by first | assumption | omega | decide | exact b2i_R _ | exact gR_of (by omega) (by omega)) ?_ | refine And.intro (show gHas _ _ _ from by first | exact gW.has (gD.w (by assumption)) (by omega) | exact gD.has (by assumption) | exact gRu.has (gD.ru (by assumption)) | exact gGr.has (gD.gr (by assumption) _ (by omega))) ?_ | refine gCall_mk (by decide) (by decide) ?_ | refine if_yes (by first | assumption | omega | decide | exact b2i_R _ | exact gR_of (by omega) (by omega)) ?_ | refine if_no (by first | assumption | omega | decide | exact b2i_R _ | exact gR_of (by omega) (by omega)) ?_)
  obtain ⟨v, bs, a1, a2, a3, a4, a5, a6, a7, a8, a9⟩ := id s1
  have hl := le v bs a1 a2
  refine gA_mk a1 rfl ?_
  unfold w_J6_getChars_ba4f3
  refine ⟨by omega, if_yes (by omega) ?_⟩
  unfold w_J6_getChars_ba4f3_J12
  refine ⟨by decide, if_yes rfl ⟨1, ?_⟩⟩
  unfold w_J6_getChars_ba4f3_L22
  refine ⟨by omega, if_yes (by omega) ⟨1101, gaOnes, ((48 + t % 10 : Nat) : Int), a9 _ _ m3, Or.inr rfl, by omega, by omega, ?_, ?_⟩⟩
  · rw [Int.neg_neg, Int.toNat_natCast]
    rcases (show t = 1 ∨ t = 2 ∨ t = 3 by omega) with rfl | rfl | rfl <;> rfl
  · refine ⟨(narrow_byte2 (by omega) (by omega)).1, sb_put s1 a1 a2 (by omega) (by omega) (p := n) (by omega) (by omega) (fun h2 bs2 s2 e1 e2 e3 => ⟨by omega, if_yes (by omega) ?_⟩)⟩
    unfold w_J6_getChars_ba4f3_J104
    refine ⟨by decide, if_yes rfl ?_⟩
    refine sb_cnt s2 (m := n + 1) (by omega) (fun v2 bs3 f1 f2 => ?_) (fun h3 s3 _ _ => k h3 s3)
    rw [e1] at f1; cases f1
    rw [e2] at f2; cases f2
    omega
theorem sb_toString {Q : Nat → gaH → Prop} (sb : sbd h0 h b n) (hn : n ≤ 64) (k : ∀ h' o, (∀ a e, h0 a = some e → h' a = some e) → h0 o = none → Q o h') : w_J4_toString_0e30d G b h Q := by
  obtain ⟨v, bs, a1, a2, a3, a4, a5, a6, a7, a8, a9⟩ := id sb
  unfold w_J4_toString_0e30d
  refine gNO_mk (by decide) (by decide) (fun o ho => gCall_mk (by decide) (by decide) ?_)
  have ob := new_ne a1 ho
  have ov := new_ne a2 ho
  have ho0 : h0 o = none := by
    cases q2 : h0 o with
    | none => rfl
    | some e => rw [a9 o e q2] at ho; cases ho
  unfold w_J0_init_81219
  refine gCall_mk (by decide) (by decide) ?_
  unfold w_J0_init_db425 w_J5_getValue_6d5f1
  have e1 : gaUp h o (0, [.null, gi 0, gi 0, gi 0]) b = some (1, [.ref v, gi 0, gi 0, gi (n : Int)]) := up_keep ho a1
  refine ⟨⟨_, e1⟩, gA_mk e1 rfl ⟨⟨_, e1⟩, ?_⟩⟩
  unfold w_J4_length_8abf5 w_J5_length_8abf5
  refine ⟨⟨_, e1⟩, gI_mk e1 rfl (x := (n : Int)) ⟨⟨_, e1⟩, ?_⟩⟩
  unfold w_J5_isLatin1_aae02
  refine gI_mk e1 rfl (x := 0) ⟨by decide, if_yes rfl ⟨by decide, if_no (by decide) (gPF_mk (gaUp_self _ _ _) (by decide) (gCall_mk (by decide) (by decide) ?_))⟩⟩
  have e2 : gaUp (gaUp h o (0, [.null, gi 0, gi 0, gi 0])) o (0, [.null, gi 0, gi 0, gi 0].set 1 (gi 0)) v = some (101, bs) := by rw [gaUp_ne _ _ ov, gaUp_ne _ _ ov]; exact a2
  have e3 : ∀ a e, h0 a = some e → gaUp (gaUp h o (0, [.null, gi 0, gi 0, gi 0])) o (0, [.null, gi 0, gi 0, gi 0].set 1 (gi 0)) a = some e := fun a e ha => by rw [gaUp_ne _ _ (new_ne ha ho0), gaUp_ne _ _ (new_ne ha ho0)]; exact a9 a e ha
  have e4 : gaUp (gaUp h o (0, [.null, gi 0, gi 0, gi 0])) o (0, [.null, gi 0, gi 0, gi 0].set 1 (gi 0)) o = some (0, [.null, gi 0, gi 0, gi 0]) := gaUp_self _ _ _
  generalize gaUp (gaUp h o (0, [.null, gi 0, gi 0, gi 0])) o (0, [.null, gi 0, gi 0, gi 0].set 1 (gi 0)) = g at e2 e3 e4 ⊢
  have fin : ∀ c f, g c = none → ∀ f2, gPF (gaUp (gaUp g c f) c f2) o 0 0 (.ref c) (fun h' => Q o h') := fun c f hc f2 => by
    have oc := new_ne e4 hc
    exact gPF_mk (by rw [gaUp_ne _ _ oc, gaUp_ne _ _ oc]; exact e4) (by decide) (k _ o (fun a e ha => by
      have h9 := e3 a e ha
      rw [gaUp_ne _ _ (new_ne ha ho0), gaUp_ne _ _ (new_ne h9 hc), gaUp_ne _ _ (new_ne h9 hc)]; exact h9) ho0)
  have fin1 : ∀ c f, g c = none → gPF (gaUp g c f) o 0 0 (.ref c) (fun h' => Q o h') := fun c f hc => by
    have oc := new_ne e4 hc
    exact gPF_mk (by rw [gaUp_ne _ _ oc]; exact e4) (by decide) (k _ o (fun a e ha => by
      have h9 := e3 a e ha
      rw [gaUp_ne _ _ (new_ne ha ho0), gaUp_ne _ _ (new_ne h9 hc)]; exact h9) ho0)
  unfold w_J7_copyOfRange_39247
  refine ⟨by decide, if_yes rfl (gAL_mk e2 rfl ⟨by omega, by omega, ?_⟩)⟩
  by_cases q : n = bs.length
  · refine if_yes (by omega) ⟨bs, e2, a3, by decide, by omega, fun c hc => ⟨_, _, rfl, rfl, ⟨_, gaUp_self _ _ _⟩, ?_⟩⟩
    exact fin1 c _ hc
  · refine if_no (by omega) ?_
    unfold w_J7_copyOfRange_39247_J10 w_J7_copyOfRangeByte_39247 w_J7_checkLength_df160
    refine gCall_mk (by decide) (by decide) ⟨by omega, by decide, if_yes (by omega) ?_⟩
    refine gNA_mk (n := n) (by omega) (by omega) (by decide) (by omega) (fun c hc => ?_)
    refine gAL_mk (up_keep hc e2) rfl ?_
    refine ⟨by omega, by omega, new_ne e2 hc, ?_⟩
    refine ⟨bs, _, up_keep hc e2, gaUp_self _ _ _, by omega, by omega, by omega, by omega, by omega, by omega, by simp; omega, a3, fun us _ _ => ?_⟩
    exact fin c _ hc _
end SB
