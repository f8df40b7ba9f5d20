/-! The reference: isSound. -/
section RI
variable {B : Nat → Nat} {h h0 : gaH} {st : GSt} {no : Int} {a b o : Nat} {u v : List Bool} {w g : Nat} {x y z : Int} {Q : Int → gaH → Prop}
theorem r_isWhole_L54 : ∀ (n i : Nat) (h : gaH) (kc ks : Nat), gM B h st no → i ≤ 2 → 2 - i < n → 461 * (2 - i) ≤ kc → 27590 * (2 - i) ≤ ks → (∀ h', mK h h' → Q (b2i (((i ≥ 1 ∨ soundB (st.T 0) = true) && (i ≥ 2 ∨ soundB (st.T 1) = true)))) h') → w_X7_isWhole_L54 Q n (B 0) (i : Int) h kc ks
  | 0, _, _, _, _, _, _, h1, _, _, _ => absurd h1 (Nat.not_lt_zero _)
  | n + 1, i, h, kc, ks, d, hi, h1, hc, hs, k => by
    unfold w_X7_isWhole_L54
    refine ⟨by omega, ?_⟩
    by_cases q : 2 ≤ i
    · obtain rfl : i = 2 := by omega
      exact if_yes (by omega) (k h mK.rf)
    · have hg : i < 2 := by omega
      have ho := d.ok hg
      have hl := ho.len
      have l1 := ho.2
      have l2 := ho.elder
      have l3 := byL_le ho
      have r1 := crossG_R ho
      have r2 := unlike_R l1 l2
      refine if_no (by omega) ⟨d.has, gCall_mk (by omega) (by omega) (r_word (b := false) d hg rfl rfl (fun h2 oy k2 n2 ry => ⟨(d.kp k2).has, gCall_mk (by omega) (by omega) (r_word (b := true) (d.kp k2) hg rfl rfl (fun h3 oe k3 n3 re => ?_))⟩))⟩
      have ry3 : mR h3 oy (grw (st.T i)).2 := ry.on k3
      have re3 : mR h3 oe (grw (st.T i)).1 := re
      have d3 := d.kp (k2.tr k3)
      refine ⟨d3.has, gCall_mk (by omega) (by omega) (r_byRules d3 hg rfl (fun h4 o4 k4 n4 r4 => r_areSame (ry3.on k4) r4 (by omega) (by omega) ⟨b2i_R _, ?_⟩))⟩
      rw [decide_eq_true rfl]
      have d4 := d3.kp k4
      refine if_no (by decide) ⟨d4.has, gCall_mk (by omega) (by omega) (r_byLine d4 hg rfl (fun h5 o5 k5 n5 r5 => r_areSame (ry3.on (k4.tr k5)) r5 (by omega) (by omega) ⟨b2i_R _, ?_⟩))⟩
      have k25 := k2.tr (k3.tr (k4.tr k5))
      have d5 := d.kp k25
      have ry5 := ry3.on (k4.tr k5)
      have re5 := re3.on (k4.tr k5)
      have bad : soundB (st.T i) = false → ∀ h', mK h h' → Q 0 h' := fun e h' kk => by
        have := k h' kk
        rcases (show i = 0 ∨ i = 1 by omega) with rfl | rfl
        · simpa [e, b2i] using this
        · simpa [e, b2i] using this
      by_cases q1 : byL (st.T i) = (grw (st.T i)).2
      · rw [decide_eq_true q1.symm]
        refine if_no (by decide) (r_crossOf ry5 re5 (by omega) (by omega) (d5.f2 (d5.ct rfl hg ?_)))
        have er : gRem ((st.T i).length : Int) 2 = (((st.T i).length % 2 : Nat) : Int) := gRem_nat (b := 2) (by omega) (by decide)
        rw [er]
        have ec : ((grw (st.T i)).2.length : Int) * (ones (grw (st.T i)).1 : Int) - ((grw (st.T i)).1.length : Int) * (ones (grw (st.T i)).2 : Int) = crossG (st.T i) := rfl
        rw [ec]
        have ed : 1 - (((st.T i).length % 2 : Nat) : Int) * 2 = (if (st.T i).length % 2 = 0 then 1 else -1) := by
          rcases Nat.mod_two_eq_zero_or_one (st.T i).length with e | e <;> rw [e] <;> rfl
        rw [ed]
        refine ⟨by omega, by split <;> decide, ?_⟩
        by_cases q2 : crossG (st.T i) = (if (st.T i).length % 2 = 0 then 1 else -1)
        · refine if_yes q2 (gCall_mk (by omega) (by omega) (r_alikeOf ry5 re5 l1 l2 (grw_alike _) (fun h6 k6 => (ry5.on k6).len ((re5.on k6).len ⟨by omega, by omega, ?_⟩))))
          by_cases q3 : unlike (grw (st.T i)).2 (grw (st.T i)).1 = ((grw (st.T i)).2.length : Int) + ((grw (st.T i)).1.length : Int) - 2
          · refine if_yes q3 ?_
            have e : soundB (st.T i) = true := by rw [soundB, decide_eq_true q1, decide_eq_true q2, decide_eq_true q3]; rfl
            rw [show (i : Int) + 1 = ((i + 1 : Nat) : Int) by omega]
            refine r_isWhole_L54 n (i + 1) h6 _ _ (d5.kp k6) (by omega) (by omega) (by omega) (by omega) (fun h7 k7 => ?_)
            have kk := k h7 (k25.tr (k6.tr k7))
            rcases (show i = 0 ∨ i = 1 by omega) with rfl | rfl
            · simpa [e] using kk
            · simpa [e] using kk
          · exact if_no q3 (bad (by rw [soundB, decide_eq_true q1, decide_eq_true q2, decide_eq_false q3]; rfl) _ (k25.tr k6))
        · exact if_no q2 (bad (by rw [soundB, decide_eq_true q1, decide_eq_false q2]; rfl) _ k25)
      · rw [decide_eq_false (fun z => q1 z.symm)]
        exact if_yes rfl (bad (by rw [soundB, decide_eq_false q1]; rfl) _ k25)
theorem r_isWhole_L10 : ∀ (n i : Nat) (h : gaH) (kc ks : Nat), gM B h st no → i ≤ 3 → 3 - i < n → 2 * (3 - i) + 922 ≤ kc → 128 * (3 - i) + 55180 ≤ ks → (∀ h', mK h h' → Q (b2i (soundB (st.T 0) && soundB (st.T 1))) h') → w_X7_isWhole_L10 Q n (B 0) (B 1) 3 (i : Int) h kc ks
  | 0, _, _, _, _, _, _, h1, _, _, _ => absurd h1 (Nat.not_lt_zero _)
  | n + 1, i, h, kc, ks, d, hi, h1, hc, hs, k => by
    unfold w_X7_isWhole_L10
    refine ⟨by omega, by decide, ?_⟩
    by_cases q : 3 ≤ i
    · refine if_yes (by omega) ⟨3, r_isWhole_L54 3 0 h kc ks d (by decide) (by decide) (by omega) (by omega) (fun h' k' => ?_)⟩
      have kk := k h' k'
      simpa using kk
    · have hw : i < 3 := by omega
      have hl := d.sl hw
      refine if_no (by omega) (d.sh rfl hw (fun a ra na => ra.len ⟨by omega, if_no (by omega) (gCall_mk (by omega) (by omega) (r_turned ra hl (fun o h2 f2 => gCall_mk (by omega) (by omega) (r_turned f2.2.2 (by simpa using hl) (fun o3 h3 f3 => r_areSame f3.2.2 (ra.on (f2.2.1.tr f3.2.1)) (by simp; omega) (by omega) ⟨b2i_R _, ?_⟩)))))⟩))
      rw [decide_eq_true (List.reverse_reverse _)]
      refine if_no (by decide) ?_
      rw [show (i : Int) + 1 = ((i + 1 : Nat) : Int) by omega]
      have kk := f2.2.1.tr f3.2.1
      exact r_isWhole_L10 n (i + 1) h3 _ _ (d.kp kk) (by omega) (by omega) (by omega) (by omega) (fun h' k' => k h' (kk.tr k'))
theorem r_isWhole (d : gM B h st no) (k : ∀ h', mK h h' → Q (b2i (soundB (st.T 0) && soundB (st.T 1))) h') : w_X7_isWhole (B 0) h Q := by
  unfold w_X7_isWhole
  obtain ⟨s, a1, a2, -⟩ := id d
  exact d.f0 (gAL_mk a2 (x := 3) rfl ⟨4, r_isWhole_L10 4 0 h _ _ d (by decide) (by decide) (by decide) (by decide) k⟩)
theorem r_isSound (d : gM B h st no) (k : mRes B h Q (m_isSound st)) : w_X7_isSound (B 0) h Q := by
  unfold w_X7_isSound
  exact d.setNo (fun h1 d1 f1 => ⟨d1.has, gCall_mk (by decide) (by decide) (r_isWhole d1 (fun h2 k2 => ⟨b2i_nar _, k.ok (d1.kp k2) (f1.tr (mF.kp k2)) rfl⟩))⟩)
end RI
