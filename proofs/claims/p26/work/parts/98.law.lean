theorem law_ok {G : gaG} {h : gaH} {b L kc ks : Nat} {xs : Nat → Int32} (hL : L ≤ 320) (m1 : h b = some (1102, (List.range L).map (fun i => Value.int (xs i)))) (m2 : h (G.2.2.2 0) = some (1102, gaCodes)) (m3 : h (G.2.2.2 1) = some (1101, gaOnes)) (h1 : 600128 ≤ kc) (h2 : 7301098 ≤ ks) : w_L_law G b h kc ks := by
  unfold w_L_law
  refine (aL.nil h).no (by omega) (by omega) (fun a g1 d1 => gCall_mk (by omega) (by omega) (c_init d1 (fun p1 p2 p3 p4 p5 p6 p7 p8 p9 p10 p11 p12 p13 p14 p15 p16 p17 p18 p19 p20 p21 p22 p23 p24 p25 p26 p27 p28 p29 p30 g2 d2 => d2.no (by omega) (by omega) (fun b0 g3 d3 => gCall_mk (by omega) (by omega) (r_init d3 (fun q1 q2 q3 q4 q5 q6 q7 q8 g4 d4 => d4.no (by omega) (by omega) (fun o g5 d5 => ?_)))))))
  unfold w_X6_init
  refine ⟨66, ?_⟩
  have d6 : aL h g5 (asF a b0 o p1 p2 p3 p4 p5 p6 p7 p8 p9 p10 p11 p12 p13 p14 p15 p16 p17 p18 p19 p20 p21 p22 p23 p24 p25 p26 p27 p28 p29 p30 q1 q2 q3 q4 q5 q6 q7 q8) := d5
  have hD := st_D d6 _ rfl m2
  have hM := st_M d6 _ rfl
  have lt : ∀ i, i < 38 → pAll2.getD i 0 < 41 := by decide +kernel
  have off : ∀ (x : Nat) (e : gaE), h x = some e → ∀ i, i < 38 → x ≠ ky (asF a b0 o p1 p2 p3 p4 p5 p6 p7 p8 p9 p10 p11 p12 p13 p14 p15 p16 p17 p18 p19 p20 p21 p22 p23 p24 p25 p26 p27 p28 p29 p30 q1 q2 q3 q4 q5 q6 q7 q8) (pAll2.getD i 0) := fun x e q i hi z => by
    rw [z, ky_none d6 (lt i hi)] at q
    cases q
  have S : lS (fun i => ky (asF a b0 o p1 p2 p3 p4 p5 p6 p7 p8 p9 p10 p11 p12 p13 p14 p15 p16 p17 p18 p19 p20 p21 p22 p23 p24 p25 p26 p27 p28 p29 p30 q1 q2 q3 q4 q5 q6 q7 q8) (pA.getD i 0)) (fun i => ky (asF a b0 o p1 p2 p3 p4 p5 p6 p7 p8 p9 p10 p11 p12 p13 p14 p15 p16 p17 p18 p19 p20 p21 p22 p23 p24 p25 p26 p27 p28 p29 p30 q1 q2 q3 q4 q5 q6 q7 q8) (pAll2.getD i 0)) G o b := by
    refine ⟨fun i hi => ?_, rfl, fun i j hi hj e => ?_, off _ _ m1, off _ _ m2, off _ _ m3⟩
    · show ky _ _ = ky _ _
      rw [(by decide +kernel : ∀ i, i < 31 → pAll2.getD (6 + i) 0 = pA.getD i 0) i hi]
    · have e2 := ky_inj d6 (lt i hi) (lt j hj) e
      exact (by decide +kernel : ∀ i, i < 38 → ∀ j, j < 38 → pAll2.getD i 0 = pAll2.getD j 0 → i = j) i hi j hj e2
  have v : lV (fun i => ky (asF a b0 o p1 p2 p3 p4 p5 p6 p7 p8 p9 p10 p11 p12 p13 p14 p15 p16 p17 p18 p19 p20 p21 p22 p23 p24 p25 p26 p27 p28 p29 p30 q1 q2 q3 q4 q5 q6 q7 q8) (pA.getD i 0)) (fun i => ky (asF a b0 o p1 p2 p3 p4 p5 p6 p7 p8 p9 p10 p11 p12 p13 p14 p15 p16 p17 p18 p19 p20 p21 p22 p23 p24 p25 p26 p27 p28 p29 p30 q1 q2 q3 q4 q5 q6 q7 q8) (pAll2.getD i 0)) G o b L xs g5 (fun w => if w = 5 ∨ w = 7 then [true] else if w = 6 ∨ w = 8 then [false] else []) st0 st0 0 0 .null := ⟨hD, hM, d6.at 0 rfl, ky_off d6 m1, ky_off d6 m3⟩
  exact law_loop S hL 66 0 g5 _ _ _ _ _ _ _ v (by omega) (by omega) (by omega) (by omega)
