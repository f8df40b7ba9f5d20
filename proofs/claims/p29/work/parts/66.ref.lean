/-! The reference: digest and texts, as far as they go through. -/
section RDg
variable {B : Nat → Nat} {h h0 : gaH} {st : GSt} {no : Int} {a b o : Nat} {u v : List Bool} {w g : Nat} {x y z : Int} {G : gaG}
theorem r_added_L {Q : Int64 → gaH → Prop} {p q : Nat} (hg : g < 2) (d : gM B h st no) (ry : mR h p (grw (st.T g)).2) (re : mR h q (grw (st.T g)).1) (k : ∀ r h', mK h h' → Q r h') : ∀ (n i : Nat) (t : Int64), i ≤ (st.T g).length → (st.T g).length - i < n → w_X7_added_L32 Q n (B 0) (g : Int) p q t (i : Int) h 2 256
  | 0, _, _, _, h9 => absurd h9 (Nat.not_lt_zero _)
  | n + 1, i, t, hi, h9 => by
    have ho := d.ok hg
    have hl := ho.len
    have l1 := ho.2
    have l2 := ho.elder
    unfold w_X7_added_L32 w_X7_add
    refine d.f2 (d.ct rfl hg ⟨by omega, by omega, ?_⟩)
    by_cases q1 : (st.T g).length ≤ i
    · refine if_yes (by omega) (ry.len ?_)
      refine re.len (r_bs ry (by omega) (r_bs re (by omega) (r_crossOf ry re (by omega) (by omega) (gCall_mk (by decide) (by decide) (r_alikeOf ry re l1 l2 (grw_alike _) (fun h2 k2 => k _ h2 k2))))))
    · refine if_no (by omega) (d.f1 (d.tr rfl hg (d.tn hg rfl (by omega) ?_)))
      show w_X7_added_L32 Q n (B 0) (g : Int) p q _ ((i : Int) + 1) h 2 256
      rw [show (i : Int) + 1 = ((i + 1 : Nat) : Int) by omega]
      exact r_added_L hg d ry re k n (i + 1) _ (by omega) (by omega)
theorem r_added {Q : Int64 → gaH → Prop} {t : Int64} (hg : g < 2) (hx : x = (g : Int)) (d : gM B h st no) (k : ∀ r h', mK h h' → Q r h') : w_X7_added (B 0) t x h Q := by
  subst hx
  have hl := (d.ok hg).len
  unfold w_X7_added w_X7_add
  refine ⟨d.has, gCall_mk (by decide) (by decide) (r_word (b := false) d hg rfl rfl (fun h2 oy k2 n2 ry => ⟨(d.kp k2).has, gCall_mk (by decide) (by decide) (r_word (b := true) (d.kp k2) hg rfl rfl (fun h3 oe k3 n3 re => ?_))⟩))⟩
  have d3 := d.kp (k2.tr k3)
  refine d3.f2 (d3.ct rfl hg ⟨66, ?_⟩)
  exact r_added_L hg d3 (ry.on k3) re (fun r h' k' => k r h' (k2.tr (k3.tr k'))) 66 0 _ (Nat.zero_le _) (by omega)
theorem r_digest_L172 {Q : Int64 → gaH → Prop} : ∀ (n i : Nat) (h : gaH) (t : Int64) (kc ks : Nat), gM B h st no → i ≤ 4 → 4 - i < n → 928 ≤ kc → 55564 ≤ ks → (∀ r h', mK h h' → Q r h') → w_X7_digest_L172 Q n (B 0) t (i : Int) h kc ks
  | 0, _, _, _, _, _, _, _, h9, _, _, _ => absurd h9 (Nat.not_lt_zero _)
  | n + 1, i, h, t, kc, ks, d, hi, h9, hc, hs, k => by
    unfold w_X7_digest_L172 w_X7_add
    refine ⟨by omega, ?_⟩
    by_cases q : 4 ≤ i
    · exact if_yes (by omega) ⟨d.has, gCall_mk hc hs (r_isWhole d (fun h2 k2 => r_one rfl (k _ h2 k2)))⟩
    · refine if_no (by omega) ⟨d.has, r_told d (by omega) ?_⟩
      show w_X7_digest_L172 Q n (B 0) _ ((i : Int) + 1) h kc ks
      rw [show (i : Int) + 1 = ((i + 1 : Nat) : Int) by omega]
      exact r_digest_L172 n (i + 1) h _ kc ks d (by omega) (by omega) hc hs k
theorem r_digest_L55 {Q : Int64 → gaH → Prop} {K21 : Nat → Int64 → Nat → Int → Int → gaH → Nat → Nat → Prop} {c v3 : Nat} {v4 v5 : Int} {kc ks : Nat} (r : mR h a u) (hl : u.length ≤ 64) (k : ∀ t : Int64, K21 c t v3 v4 (v5 + 1) h kc ks) : ∀ (n i : Nat) (t : Int64), i ≤ u.length → u.length - i < n → w_X7_digest_L55 Q K21 n c t v3 v4 v5 a a (u.length : Int) (i : Int) h kc ks
  | 0, _, _, _, h9 => absurd h9 (Nat.not_lt_zero _)
  | n + 1, i, t, hi, h9 => by
    unfold w_X7_digest_L55 w_X7_add
    refine ⟨by omega, by omega, ?_⟩
    by_cases q : u.length ≤ i
    · refine if_yes (by omega) (r_bs r (by omega) (r.len (r_isMir (f := 0) (t := u.length) r hl rfl rfl (Nat.zero_le _) (Nat.le_refl _) (fun t2 => r_one rfl (r_timesOf r hl (fun r1 => r_overlapsOf r hl (fun r2 => r_foldsOf r hl (fun r3 => r_leastOf r hl (fun r4 => k _)))))))))
    · refine if_no (by omega) (r.at rfl (by omega) (by omega) ?_)
      show w_X7_digest_L55 Q K21 n c _ v3 v4 v5 a a (u.length : Int) ((i : Int) + 1) h kc ks
      rw [show (i : Int) + 1 = ((i + 1 : Nat) : Int) by omega]
      exact r_digest_L55 r hl k n (i + 1) _ (by omega) (by omega)
theorem r_digest_L21 {Q : Int64 → gaH → Prop} (d : gM B h st no) (k : ∀ r h', mK h h' → Q r h') : ∀ (n i : Nat) (t : Int64), i ≤ 3 → 3 - i < n → w_X7_digest_L21 Q n (B 0) t (B 1) 3 (i : Int) h 1200 73228
  | 0, _, _, _, h9 => absurd h9 (Nat.not_lt_zero _)
  | n + 1, i, t, hi, h9 => by
    unfold w_X7_digest_L21 w_X7_add
    refine ⟨by omega, by decide, ?_⟩
    by_cases q : 3 ≤ i
    · refine if_yes (by omega) ⟨d.has, gCall_mk (by decide) (by decide) (r_added (g := 0) (by decide) rfl d (fun r2 h2 k2 => ⟨(d.kp k2).has, gCall_mk (by decide) (by decide) (r_added (g := 1) (by decide) rfl (d.kp k2) (fun r3 h3 k3 => ⟨5, ?_⟩))⟩))⟩
      exact r_digest_L172 5 0 h3 _ _ _ (d.kp (k2.tr k3)) (by decide) (by decide) (by decide) (by decide) (fun r h' k' => k r h' (k2.tr (k3.tr k')))
    · have hl := d.sl (show i < 3 by omega)
      refine if_no (by omega) (d.sh rfl (show i < 3 by omega) (fun a ra na => ra.len (ra.len ⟨66, ?_⟩)))
      refine r_digest_L55 ra hl (fun t2 => ?_) 66 0 _ (Nat.zero_le _) (by omega)
      rw [show (i : Int) + 1 = ((i + 1 : Nat) : Int) by omega]
      exact r_digest_L21 d k n (i + 1) _ (by omega) (by omega)
theorem r_digest {Q : Int64 → gaH → Prop} (d : gM B h st no) (k : ∀ r h', gM B h' st 0 → mF B h h' → Q r h') : w_X7_digest (B 0) h Q := by
  unfold w_X7_digest
  refine d.setNo (fun h1 d1 f1 => d1.f0 ?_)
  obtain ⟨s, a1, a2, -⟩ := id d1
  exact gAL_mk a2 (x := 3) rfl ⟨4, r_digest_L21 d1 (fun r h' k' => k r h' (d1.kp k') (f1.tr (mF.kp k'))) 4 0 _ (by decide) (by decide)⟩
end RDg
