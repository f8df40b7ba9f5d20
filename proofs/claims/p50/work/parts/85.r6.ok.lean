theorem law_ok {G : gaG} {h : gaH} {b L kc ks : Nat} {xs : Nat → Int32} (hL : L ≤ 260) (m1 : h b = some (1102, (List.range L).map (fun i => Value.int (xs i)))) (m2 : h (G.2.2.2 0) = some (1102, gaCodes)) (h1 : 600104 ≤ kc) (h2 : 7301314 ≤ ks) : w_L_law G b h kc ks := by
  unfold w_L_law
  refine (aL.nil h).no (by omega) (by omega) (fun a g1 d1 => gCall_mk (by omega) (by omega) (c_init d1 (fun p1 p2 p3 p4 p5 p6 p7 p8 p9 p10 p11 p12 p13 p14 p15 p16 p17 p18 p19 p20 p21 p22 p23 p24 p25 p26 p27 p28 p29 p30 g2 d2 => ⟨6, ?_⟩)))
  have d6 : aL h g2 (asF a p1 p2 p3 p4 p5 p6 p7 p8 p9 p10 p11 p12 p13 p14 p15 p16 p17 p18 p19 p20 p21 p22 p23 p24 p25 p26 p27 p28 p29 p30) := d2
  have hD := st_D d6 _ rfl m2
  have lt : ∀ i, i < 31 → pA.getD i 0 < 31 := by decide +kernel
  have off : ∀ i, i < 31 → b ≠ ky (asF a p1 p2 p3 p4 p5 p6 p7 p8 p9 p10 p11 p12 p13 p14 p15 p16 p17 p18 p19 p20 p21 p22 p23 p24 p25 p26 p27 p28 p29 p30) (pA.getD i 0) := fun i hi z => by
    rw [z, ky_none d6 (lt i hi)] at m1
    cases m1
  have e : gE (fun i => ky (asF a p1 p2 p3 p4 p5 p6 p7 p8 p9 p10 p11 p12 p13 p14 p15 p16 p17 p18 p19 p20 p21 p22 p23 p24 p25 p26 p27 p28 p29 p30) (pA.getD i 0)) G b ((List.range L).map (fun i => Value.int (xs i))) g2 (fun _ => []) (fun _ => []) := ⟨off, ky_off d6 m1, _, _, hD⟩
  exact g_L10 (A := fun i => ky (asF a p1 p2 p3 p4 p5 p6 p7 p8 p9 p10 p11 p12 p13 p14 p15 p16 p17 p18 p19 p20 p21 p22 p23 p24 p25 p26 p27 p28 p29 p30) (pA.getD i 0)) hL 6 4 0 g2 _ _ _ _ e rfl (by decide) rfl (by decide) (by omega) (by omega)
