/-! The law's loop. -/
theorem law_loop {A B : Nat → Nat} {G : gaG} {O b L : Nat} {xs : Nat → Int32} (S : lS A B G O b) (hL : L ≤ 320) : ∀ (n m : Nat) (h : gaH) (U : Nat → List Bool) (st : GSt) (no : Int) (z : Int64) (s : Value) (kc ks : Nat), lV A B G O b L xs h U st st no z s → m ≤ 64 → 64 - m < n → 1400 * (64 - m) ≤ kc → 75000 * (64 - m) ≤ ks → w_L_law_L27 G n b (A 22) (B 0) O ((5 * m : Nat) : Int) h kc ks
  | 0, _, _, _, _, _, _, _, _, _, _, _, h9, _, _ => absurd h9 (Nat.not_lt_zero _)
  | n + 1, m, h, U, st, no, z, s, kc, ks, v, hm, h9, hc0, hs0 => by
    unfold w_L_law_L27
    refine ⟨1102, _, v.bb, Or.inr rfl, ?_⟩
    rw [List.length_map, List.length_range]
    refine ⟨by omega, by omega, ?_⟩
    by_cases q : (L : Int) - 5 < ((5 * m : Nat) : Int)
    · exact if_yes q trivial
    have hi : 5 * m + 5 ≤ L := by omega
    have hc : 1400 ≤ kc := by omega
    have hs : 75000 ≤ ks := by omega
    have kk : ∀ (h' : gaH) (U' : Nat → List Bool) (st' : GSt) (no' : Int) (z' : Int64) (s' : Value) (c2 s2 : Nat), lV A B G O b L xs h' U' st' st' no' z' s' → kc ≤ c2 + 1400 → ks ≤ s2 + 75000 → w_L_law_L27 G n b (A 22) (B 0) O (((5 * m : Nat) : Int) + 5) h' c2 s2 := fun h' U' st' no' z' s' c2 s2 v' k1 k2 => by
      have := law_loop S hL n (m + 1) h' U' st' no' z' s' c2 s2 v' (by omega) (by omega) (by omega) (by omega)
      rw [show ((5 * (m + 1) : Nat) : Int) = ((5 * m : Nat) : Int) + 5 by omega] at this
      exact this
    refine if_no q (v.sc (i := 5 * m) (j := 0) (by omega) (by omega) hL ?_)
    generalize (xs (5 * m + 0)).toInt = c
    exact ⟨gR_toInt _, fun _ => j_J244 S v hL hi hc hs kk, fun _ => j_J284 S v hL hi hc hs kk, fun _ => j_J324 S v hL hi hc hs kk, fun _ => j_J392 S v hL hi hc hs kk, fun _ => j_J444 S v hL hi hc hs kk, fun _ => j_J512 S v hL hi hc hs kk, fun _ => j_J552 S v hL hi hc hs kk, fun _ => j_J604 S v hL hi hc hs kk, fun _ => j_J668 S v hL hi hc hs kk, fun _ => j_J708 S v hL hi hc hs kk, fun _ => j_J736 S v hL hi hc hs kk, fun _ => j_J764 S v hL hi hc hs kk, fun _ => j_J804 S v hL hi hc hs kk, fun _ => j_J844 S v hL hi hc hs kk, fun _ => j_J896 S v hL hi hc hs kk, fun _ => j_J948 S v hL hi hc hs kk, fun _ => j_J1000 S v hL hi hc hs kk, fun _ => j_J1052 S v hL hi hc hs kk, fun _ => j_J1116 S v hL hi hc hs kk, fun _ => j_J1156 S v hL hi hc hs kk, fun _ => j_J1184 S v hL hi hc hs kk, fun _ => j_J1212 S v hL hi hc hs kk, fun _ => j_J1240 S v hL hi hc hs kk, fun _ => j_J1280 S v hL hi hc hs kk, fun _ => j_J1308 S v hL hi hc hs kk, fun _ => j_J1393 S v hL hi hc hs kk, fun _ => j_J1445 S v hL hi hc hs kk, fun _ => j_J1497 S v hL hi hc hs kk, fun _ => j_J1537 S v hL hi hc hs kk, fun _ => j_J1565 S v hL hi hc hs kk, fun _ => j_J1633 S v hL hi hc hs kk, fun _ => j_J1701 S v hL hi hc hs kk, fun _ => j_J1729 S v hL hi hc hs kk, fun _ => j_J1757 S v hL hi hc hs kk, fun _ => j_J1785 S v hL hi hc hs kk, fun _ => j_J1813 S v hL hi hc hs kk, fun _ => j_J1841 S v hL hi hc hs kk, fun _ => j_J1881 S v hL hi hc hs kk, fun _ => j_J1909 S v hL hi hc hs kk, fun _ => j_J1965 S v hL hi hc hs kk, fun _ => j_J2021 S v hL hi hc hs kk, fun _ => j_J2077 S v hL hi hc hs kk, fun _ => j_J2105 S v hL hi hc hs kk, fun _ => j_J2133 S v hL hi hc hs kk, fun _ => j_J2161 S v hL hi hc hs kk, fun _ => j_J2174 S v hL hi hc hs kk, fun _ => j_J2187 S v hL hi hc hs kk, fun _ => j_J2200 v kk⟩
