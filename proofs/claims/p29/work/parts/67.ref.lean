/-! The reference: texts, as far as they go through. -/
section RTx
variable {B : Nat → Nat} {h h0 : gaH} {st : GSt} {no : Int} {a b o : Nat} {u v : List Bool} {w g : Nat} {x y z : Int} {G : gaG} {Q : Nat → gaH → Prop}
theorem r_textOf_L (r : mR h0 a u) (hl : u.length ≤ 64) (k : ∀ h' o, mK h0 h' → Q o h') : ∀ (n i : Nat) (h : gaH) (kc ks : Nat), sbd h0 h b i → i ≤ u.length → u.length - i < n → 2 * (u.length - i) + 5 ≤ kc → 134 * (u.length - i) + 272 ≤ ks → w_X7_textOf_L16 G Q n b a (u.length : Int) (i : Int) h kc ks
  | 0, _, _, _, _, _, _, h1, _, _ => absurd h1 (Nat.not_lt_zero _)
  | n + 1, i, h, kc, ks, sb, hi, h1, hc, hs => by
    have kp : mK h0 h := by obtain ⟨_, _, _, _, _, _, _, _, _, _, q⟩ := sb; exact q
    unfold w_X7_textOf_L16
    refine ⟨by omega, by omega, ?_⟩
    by_cases q : u.length ≤ i
    · exact if_yes (by omega) ⟨sb.has, gCall_mk (by omega) (by omega) (sb_toString sb (by omega) (fun h' o k' _ => k h' o k'))⟩
    · have go : ∀ c : Int, 0 ≤ c → c ≤ 127 → w_X7_textOf_J42 G Q (w_X7_textOf_L16 G Q n) b a (u.length : Int) (i : Int) b c h kc ks := fun c c1 c2 => by
        unfold w_X7_textOf_J42
        refine ⟨sb.has, gCall_mk (by omega) (by omega) (sb_char sb (by omega) c1 c2 (fun h' s' => ?_))⟩
        rw [show (i : Int) + 1 = ((i + 1 : Nat) : Int) by omega]
        exact r_textOf_L r hl k n (i + 1) h' _ _ s' (by omega) (by omega) (by omega) (by omega)
      exact if_no (by omega) ((r.on kp).at rfl (by omega) (by omega) ⟨b2i_R _, ite_both (fun _ => go 98 (by decide) (by decide)) (fun _ => go 97 (by decide) (by decide))⟩)
theorem r_textOf (r : mR h a u) (hl : u.length ≤ 64) (k : ∀ h' o, mK h h' → Q o h') : w_X7_textOf G a h Q := by
  unfold w_X7_textOf
  refine gNO_mk (by decide) (by decide) (fun o ho => gCall_mk (by decide) (by decide) (sb_init ho (fun h' sb => ?_)))
  have kp : mK h h' := by obtain ⟨_, _, _, _, _, _, _, _, _, _, q⟩ := sb; exact q
  exact (r.on kp).len ⟨66, r_textOf_L r hl k 66 0 h' _ _ sb (Nat.zero_le _) (by omega) (by omega) (by omega)⟩
theorem r_text (d : gM B h st no) (hx : gR x) (k : ∀ (c : Nat) h' r, gM B h' st (c : Int) → mF B h h' → Q r h') : w_X7_text G (B 0) x h Q := by
  unfold w_X7_text
  refine r_isNoSheet hx ⟨d.has, r_start d rfl (by decide) (fun q h1 d1 f1 => ?_) (fun q h1 d1 f1 => ?_)⟩
  · obtain ⟨w, rfl⟩ : ∃ w : Nat, x = w := ⟨x.toNat, by have := nd q; omega⟩
    have hw : w < 3 := by have := nd q; omega
    exact ⟨by decide, if_yes rfl (d1.f0 (d1.sh rfl hw (fun a ra na => gCall_mk (by decide) (by decide) (r_textOf ra (d1.sl hw) (fun h2 o k2 => k 0 h2 o (d1.kp k2) (f1.tr (mF.kp k2)))))))⟩
  · exact ⟨by decide, if_no (by decide) (k 1 h1 _ d1 f1)⟩
theorem r_grown {c : Bool} (d : gM B h st no) (hx : gR x) (hy : y = b2i c) (k : ∀ (c : Nat) h' r, gM B h' st (c : Int) → mF B h h' → Q r h') : w_X7_grown G (B 0) x y h Q := by
  unfold w_X7_grown
  refine r_isNoGrowth hx ⟨d.has, r_start d rfl (by decide) (fun q h1 d1 f1 => ?_) (fun q h1 d1 f1 => ?_)⟩
  · obtain ⟨g, rfl⟩ : ∃ w : Nat, x = w := ⟨x.toNat, by have := nd q; omega⟩
    have hg : g < 2 := by have := nd q; omega
    have hl := gWd_le (d1.ok hg) c
    exact ⟨by decide, if_yes rfl ⟨d1.has, gCall_mk (by decide) (by decide) (r_word d1 hg rfl hy (fun h2 o k2 n2 r2 => gCall_mk (by decide) (by decide) (r_textOf r2 hl (fun h3 o3 k3 => k 0 h3 o3 (d1.kp (k2.tr k3)) (f1.tr (mF.kp (k2.tr k3)))))))⟩⟩
  · exact ⟨by decide, if_no (by decide) (k 1 h1 _ d1 f1)⟩
theorem r_turns_L (hg : g < 2) (d0 : gM B h0 st no) (m3 : h0 (G.2.2.2 1) = some (1101, gaOnes)) (k : ∀ h' o, mK h0 h' → Q o h') : ∀ (n i : Nat) (h : gaH) (kc ks : Nat), sbd h0 h b i → i ≤ (st.T g).length → (st.T g).length - i < n → 2 * ((st.T g).length - i) + 5 ≤ kc → 134 * ((st.T g).length - i) + 272 ≤ ks → w_X7_turns_L25 G Q n (B 0) (g : Int) b (i : Int) h kc ks
  | 0, _, _, _, _, _, _, h1, _, _ => absurd h1 (Nat.not_lt_zero _)
  | n + 1, i, h, kc, ks, sb, hi, h1, hc, hs => by
    have kp : mK h0 h := by obtain ⟨_, _, _, _, _, _, _, _, _, _, q⟩ := sb; exact q
    have d := d0.kp kp
    have l1 := (d.ok hg).len
    unfold w_X7_turns_L25
    refine d.f2 (d.ct rfl hg ⟨by omega, by omega, ?_⟩)
    by_cases q : (st.T g).length ≤ i
    · exact if_yes (by omega) ⟨sb.has, gCall_mk (by omega) (by omega) (sb_toString sb (by omega) (fun h' o k' _ => k h' o k'))⟩
    · refine if_no (by omega) (d.f1 (d.tr rfl hg (d.tn hg rfl (by omega) ⟨sb.has, gCall_mk (by omega) (by omega) (sb_turn sb (by omega) m3 ((d.ok hg).tn (by omega)) (fun h' s' => ?_))⟩)))
      rw [show (i : Int) + 1 = ((i + 1 : Nat) : Int) by omega]
      exact r_turns_L hg d0 m3 k n (i + 1) h' _ _ s' (by omega) (by omega) (by omega) (by omega)
theorem r_turns (d : gM B h st no) (hx : gR x) (m3 : h (G.2.2.2 1) = some (1101, gaOnes)) (hm : ∀ i, i < 6 → G.2.2.2 1 ≠ B i) (k : ∀ (c : Nat) h' r, gM B h' st (c : Int) → mF B h h' → Q r h') : w_X7_turns G (B 0) x h Q := by
  unfold w_X7_turns
  refine r_isNoGrowth hx ⟨d.has, r_start d rfl (by decide) (fun q h1 d1 f1 => ?_) (fun q h1 d1 f1 => ?_)⟩
  · obtain ⟨g, rfl⟩ : ∃ w : Nat, x = w := ⟨x.toNat, by have := nd q; omega⟩
    have hg : g < 2 := by have := nd q; omega
    have l1 := (d1.ok hg).len
    refine ⟨by decide, if_yes rfl (gNO_mk (by decide) (by decide) (fun o ho => gCall_mk (by decide) (by decide) (sb_init ho (fun h' sb => ⟨66, ?_⟩))))⟩
    exact r_turns_L hg d1 (f1 _ _ hm m3) (fun h2 o k2 => k 0 h2 o (d1.kp k2) (f1.tr (mF.kp k2))) 66 0 h' _ _ sb (Nat.zero_le _) (by omega) (by omega) (by omega)
  · exact ⟨by decide, if_no (by decide) (k 1 h1 _ d1 f1)⟩
end RTx
