theorem law_ok {G : gaG} {h : gaH} {b L kc ks : Nat} {xs : Nat → Int32} (hL : L ≤ 320) (m1 : h b = some (1102, (List.range L).map (fun i => Value.int (xs i)))) (m2 : h (G.2.2.2 0) = some (1102, gaCodes)) (m3 : h (G.2.2.2 1) = some (1101, gaOnes)) (h1 : 600128 ≤ kc) (h2 : 7301098 ≤ ks) : w_L_law G b h kc ks := by
  sorry
