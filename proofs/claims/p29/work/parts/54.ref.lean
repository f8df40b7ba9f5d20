/-! The reference: twos, steps back, and what is read, as far as it goes through. -/
theorem twL_not : ∀ s, s < 6 → twL s ++ img [true] [false] (twL s) = twL (s + 1) := by decide +kernel
def parL : Nat → Nat → Bool → Bool
  | 0, _, b => b
  | f + 1, v, b => if v = 0 then b else parL f (v / 2) (xor b (decide (v % 2 = 1)))
theorem parL_two : ∀ i, i < 64 → parL 7 i false = (twL 6).getD i false := by decide +kernel
section RT
variable {B : Nat → Nat} {h h0 : gaH} {st : GSt} {no : Int} {a b o : Nat} {u v : List Bool} {w g : Nat}
theorem xor_rem (b : Bool) {v : Nat} (hv : v ≤ 1000) : gRem (b2i b + (v : Int)) 2 = b2i (xor b (decide (v % 2 = 1))) := by
  have e : b2i b + (v : Int) = (((if b = true then 1 else 0) + v : Nat) : Int) := by cases b <;> simp [b2i]
  have e2 : gRem (((if b = true then 1 else 0) + v : Nat) : Int) 2 = ((((if b = true then 1 else 0) + v) % 2 : Nat) : Int) := gRem_nat (b := 2) (by split <;> omega) (by decide)
  rw [e, e2]
  rcases Nat.mod_two_eq_zero_or_one v with q | q
  · rw [Nat.add_mod, q]; cases b <;> rfl
  · rw [Nat.add_mod, q]; cases b <;> rfl
theorem r_twos_L96 {Q : Nat → gaH → Prop} {K : Nat → Int → gaH → Nat → Nat → Prop} {i : Nat} {kc ks : Nat} {t : List Bool} (hi : i < t.length) (ht : t.length ≤ 1000) : ∀ (z f v : Nat) (h : gaH) (w : List Bool) (b : Bool), fil h0 h o w → w.length = t.length → w.getD i false = b → v < 2 ^ f → f < z → v ≤ 1000 → (∀ h', fil h0 h' o (w.set i (parL (f + 1) v b)) → K o ((i : Int) + 1) h' kc ks) → w_X7_twosOf_L96 Q K z o (i : Int) (v : Int) h kc ks
  | 0, _, _, _, _, _, _, _, _, _, h9, _, _ => absurd h9 (Nat.not_lt_zero _)
  | z + 1, f, v, h, w, b, fl, hw, hb, hv, h9, hv2, k => by
    unfold w_X7_twosOf_L96
    refine ⟨by omega, ?_⟩
    by_cases q : v = 0
    · refine if_yes (by omega) (k h ?_)
      have e : w.set i (parL (f + 1) v b) = w := by
        rw [parL, if_pos q, ← hb]
        refine List.ext_getElem? (fun j => ?_)
        by_cases z : j = i
        · rw [z, List.getElem?_set_self (by omega), getD_lt (by omega)]
        · rw [List.getElem?_set_ne (by omega)]
      rw [e]; exact fl
    · refine if_no (by omega) (fl.2.2.at rfl (by omega) (by omega) ?_)
      have e2 : gDiv (v : Int) 2 = ((v / 2 : Nat) : Int) := gDiv_nat (b := 2) (by omega) (by decide)
      rw [hb, xor_rem b hv2, e2]
      refine fl.set rfl (by omega) (by omega) rfl (fun h2 f2 => ?_)
      cases f with
      | zero => omega
      | succ f =>
        refine r_twos_L96 hi ht z f (v / 2) h2 _ (xor b (decide (v % 2 = 1))) f2 (by simp [hw]) (by rw [List.getD_eq_getElem?_getD, List.getElem?_set_self (by omega)]; rfl) (by rw [Nat.pow_succ] at hv; omega) (by omega) (by omega) (fun h3 f3 => k h3 ?_)
        rw [List.set_set] at f3
        rw [parL, if_neg q]; exact f3
theorem r_twos_L87 {Q : Nat → gaH → Prop} {s : Nat} (hs : s ≤ 6) (k : ∀ h', fil h0 h' o (twL s) → Q o h') {kc ks : Nat} : ∀ (z i : Nat) (h : gaH), fil h0 h o (pf (twL s) i) → i ≤ 2 ^ s → 2 ^ s - i < z → w_X7_twosOf_L87 Q z o (i : Int) h kc ks
  | 0, _, _, _, _, h9 => absurd h9 (Nat.not_lt_zero _)
  | z + 1, i, h, fl, hi, h9 => by
    have hT := twL_len s hs
    have h64 : 2 ^ s ≤ 64 := by have : 2 ^ s ≤ 2 ^ 6 := Nat.pow_le_pow_right (by decide) hs; omega
    unfold w_X7_twosOf_L87
    refine fl.2.2.len ?_
    rw [pf_len (by omega), hT]
    refine ⟨by omega, ⟨by omega, by omega⟩, ?_⟩
    by_cases q : 2 ^ s ≤ i
    · refine if_yes (by omega) (k h ?_)
      obtain rfl : i = (twL s).length := by omega
      rw [pf_end] at fl; exact fl
    · refine if_no (by omega) ⟨8, ?_⟩
      have hb : (pf (twL s) i).getD i false = false := by
        unfold pf
        rw [List.getD_eq_getElem?_getD, List.getElem?_append_right (by simp; omega)]
        simp
        by_cases q2 : (twL s).length - i = 0
        · rw [q2]; rfl
        · rw [List.getElem?_replicate]; split <;> rfl
      refine r_twos_L96 (t := twL s) (by omega) (by omega) 8 6 i h _ false fl (pf_len (by omega)) hb (by omega) (by decide) (by omega) (fun h3 f3 => ?_)
      have e : (twL s).getD i false = (twL 6).getD i false := by
        rw [twL_take s hs, List.getD_eq_getElem?_getD, List.getElem?_take_of_lt (by omega), ← List.getD_eq_getElem?_getD]
      rw [parL_two i (by omega), ← e, pf_set (by omega)] at f3
      rw [show (i : Int) + 1 = ((i + 1 : Nat) : Int) by omega]
      exact r_twos_L87 hs k z (i + 1) h3 f3 (by omega) (by omega)
theorem r_twos_L15 {Q : Nat → gaH → Prop} {s : Nat} (hs : s ≤ 6) {rd : Int} (hrd : rd = 0 ∨ rd = 1) (k : ∀ h' o, mK h0 h' → h0 o = none → mR h' o (twL s) → Q o h') : ∀ (z i p : Nat) (h : gaH) (kc ks : Nat), mK h0 h → h0 p = none → mR h p (twL i) → i ≤ s → s - i < z → 6 * (s - i) ≤ kc → 600 * (s - i) ≤ ks → w_X7_twosOf_L15 Q z (s : Int) rd p (i : Int) h kc ks
  | 0, _, _, _, _, _, _, _, _, _, h9, _, _ => absurd h9 (Nat.not_lt_zero _)
  | z + 1, i, p, h, kc, ks, kp, np, rp, hi, h9, hc, hs2 => by
    unfold w_X7_twosOf_L15
    (first | refine And.intro (show gR _ from by first | assumption | omega | decide | exact b2i_R _ | exact gR_of (by omega) (by omega)) ?_ | refine And.intro (show gHas _ _ _ from by first | exact gW.has (gD.w (by assumption)) (by omega) | exact gD.has (by assumption) | exact gRu.has (gD.ru (by assumption)) | exact gGr.has (gD.gr (by assumption) _ (by omega))) ?_ | refine gCall_mk (by decide) (by decide) ?_ | refine if_yes (by first | assumption | omega | decide | exact b2i_R _ | exact gR_of (by omega) (by omega)) ?_ | refine if_no (by first | assumption | omega | decide | exact b2i_R _ | exact gR_of (by omega) (by omega)) ?_); (first | refine And.intro (show gR _ from by first | assumption | omega | decide | exact b2i_R _ | exact gR_of (by omega) (by omega)) ?_ | refine And.intro (show gHas _ _ _ from by first | exact gW.has (gD.w (by assumption)) (by omega) | exact gD.has (by assumption) | exact gRu.has (gD.ru (by assumption)) | exact gGr.has (gD.gr (by assumption) _ (by omega))) ?_ | refine gCall_mk (by decide) (by decide) ?_ | refine if_yes (by first | assumption | omega | decide | exact b2i_R _ | exact gR_of (by omega) (by omega)) ?_ | refine if_no (by first | assumption | omega | decide | exact b2i_R _ | exact gR_of (by omega) (by omega)) ?_)
    by_cases q : s ≤ i
    · obtain rfl : i = s := by omega
      exact if_yes (by omega) (k h p kp np rp)
    · have hl := twL_len i (by omega)
      have hl2 := twL_len (i + 1) (by omega)
      have h64 : 2 ^ i ≤ 32 := by have : 2 ^ i ≤ 2 ^ 5 := Nat.pow_le_pow_right (by decide) (by omega); omega
      have h65 : 2 ^ (i + 1) ≤ 64 := by rw [Nat.pow_succ]; omega
      have en := twL_not i (by omega)
      have eln : (img [true] [false] (twL i)).length ≤ 64 := by
        have := congrArg List.length en
        rw [List.length_append] at this; omega
      refine if_no (by omega) (fil.new (n := 1) rfl (by decide) (by omega) (by omega) (fun x h1 f1 => f1.set (i := 0) rfl (by decide) (by decide) (b := true) rfl (fun h2 f2 => ?_)))
      refine fil.new (n := 1) rfl (by decide) (by omega) (by omega) (fun y h3 f3 => f3.set (i := 0) rfl (by decide) (by decide) (b := false) rfl (fun h4 f4 => gCall_mk (by omega) (by omega) ?_))
      have kk := f2.2.1.tr f4.2.1
      refine r_image (rp.on kk) (f2.2.2.on f4.2.1) f4.2.2 (by omega) (by decide) (by decide) (by show (img [true] [false] (twL i)).length ≤ 256; omega) (fun q1 h5 f5 => ?_)
      have kk5 := kk.tr f5.2.1
      refine ⟨by omega, ?_⟩
      rcases hrd with e | e
      · refine if_yes e (gCall_mk (by omega) (by omega) (r_ofCode (c := 5) rfl (by decide) (by decide) (fun c1 h6 f6 => gCall_mk (by omega) (by omega) (r_ofCode (c := 6) rfl (by decide) (by decide) (fun c2 h7 f7 => gCall_mk (by omega) (by omega) ?_)))))
        have kk7 := kk5.tr (f6.2.1.tr f7.2.1)
        have ei := twL_img i (by omega)
        refine r_image (rp.on kk7) (f6.2.2.on f7.2.1) f7.2.2 (by omega) (by decide) (by decide) (by rw [ei]; omega) (fun q2 h8 f8 => ?_)
        rw [show (i : Int) + 1 = ((i + 1 : Nat) : Int) by omega]
        refine r_twos_L15 hs (Or.inl e) k z (i + 1) q2 h8 _ _ (kp.tr (kk7.tr f8.2.1)) ((kp.tr kk7).non f8.1) (by rw [← ei]; exact f8.2.2) (by omega) (by omega) (by omega) (by omega)
      · have rp5 := rp.on kk5
        refine if_no (by omega) (rp5.len (rp5.len (gCall_mk (by omega) (by omega) ?_)))
        refine r_spliced rp5 f5.2.2 (f := (twL i).length) (t := (twL i).length) rfl rfl (Nat.le_refl _) (Nat.le_refl _) (by omega) eln (fun q2 h6 f6 => ?_)
        have r6 := f6.2.2
        rw [List.take_length, List.drop_length, List.append_nil] at r6
        rw [show (i : Int) + 1 = ((i + 1 : Nat) : Int) by omega]
        refine r_twos_L15 hs (Or.inr e) k z (i + 1) q2 h6 _ _ (kp.tr (kk5.tr f6.2.1)) ((kp.tr kk5).non f6.1) ?_ (by omega) (by omega) (by omega) (by omega)
        rw [← en]; exact r6
theorem r_twosOf {Q : Nat → gaH → Prop} {s : Nat} {x rd : Int} (hx : x = (s : Int)) (hs : s ≤ 6) (hr : gR rd) (hrd : 0 ≤ rd ∧ rd ≤ 2) (k : ∀ h' o, mK h h' → h o = none → mR h' o (twL s) → Q o h') : w_X7_twosOf x rd h Q := by
  subst hx
  have h64 : 2 ^ s ≤ 64 := by have : 2 ^ s ≤ 2 ^ 6 := Nat.pow_le_pow_right (by decide) hs; omega
  unfold w_X7_twosOf
  refine fil.new (n := 1) rfl (by decide) (by decide) (by decide) (fun x h1 f1 => f1.set (i := 0) rfl (by decide) (by decide) (b := false) rfl (fun h2 f2 => ⟨hr, ?_⟩))
  by_cases q : 2 ≤ rd
  · refine if_yes q (fil.new (n := 2 ^ s) ?_ (by omega) (by decide) (by omega) (fun y h3 f3 => ⟨66, ?_⟩))
    · have := gShl_nat (n := 1) (d := s) (by omega) (by omega)
      rw [show ((1 : Nat) : Int) = 1 from rfl] at this
      rw [this]; push_cast; omega
    · exact r_twos_L87 hs (fun h' f' => k h' y (f2.2.1.tr f'.2.1) (f2.2.1.non f'.1) f'.2.2) 66 0 h3 (by rw [pf_0, twL_len s hs]; exact f3) (Nat.zero_le _) (by omega)
  · refine if_no q ⟨8, ?_⟩
    exact r_twos_L15 hs (by omega) (fun h' o k' n' r' => k h' o k' n' r') 8 0 x h2 _ _ f2.2.1 f2.1 f2.2.2 (Nat.zero_le _) (by omega) (by omega) (by omega)
end RT
