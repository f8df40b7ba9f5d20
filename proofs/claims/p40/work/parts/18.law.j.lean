def w_L_law_J2201 (G : gaG)  (K27 : Nat → Nat → Nat → Nat → Int → gaH → Nat → Nat → Prop) (v0 : Nat) (v1 : Nat) (v2 : Nat) (v3 : Nat) (v4 : Int) (h : gaH) (kc ks : Nat) : Prop := K27 v0 v1 v2 v3 (v4 + 5) h kc ks
def w_L_law_J2188 (G : gaG)  (K27 : Nat → Nat → Nat → Nat → Int → gaH → Nat → Nat → Prop) (v0 : Nat) (v1 : Nat) (v2 : Nat) (v3 : Nat) (v4 : Int) (h : gaH) (kc ks : Nat) : Prop := gHas h v1 5 ∧ gCall 78 468 kc ks (fun c3 s4 => w_X5_digest G (fun _ _ => False) v1 h (fun r2 hp1 => gHas hp1 v2 7 ∧ gCall 1200 73228 c3 s4 (fun c7 s8 => w_X7_digest v2 hp1 (fun r6 hp5 => w_L_law_J2201 G K27 v0 v1 v2 v3 v4 hp5 c7 s8))))
def w_L_law_J2175 (G : gaG)  (K27 : Nat → Nat → Nat → Nat → Int → gaH → Nat → Nat → Prop) (v0 : Nat) (v1 : Nat) (v2 : Nat) (v3 : Nat) (v4 : Int) (h : gaH) (kc ks : Nat) : Prop := gHas h v1 5 ∧ gCall 18 108 kc ks (fun c3 s4 => w_X5_isSound G (fun _ _ => False) v1 h (fun r2 hp1 => gHas hp1 v2 7 ∧ gCall 928 55564 c3 s4 (fun c7 s8 => w_X7_isSound v2 hp1 (fun r6 hp5 => w_L_law_J2201 G K27 v0 v1 v2 v3 v4 hp5 c7 s8))))
def w_L_law_J2162 (G : gaG)  (K27 : Nat → Nat → Nat → Nat → Int → gaH → Nat → Nat → Prop) (v0 : Nat) (v1 : Nat) (v2 : Nat) (v3 : Nat) (v4 : Int) (h : gaH) (kc ks : Nat) : Prop := gHas h v1 5 ∧ w_X5_knock v1 h (fun r2 hp1 => gHas hp1 v2 7 ∧ w_X7_knock v2 hp1 (fun r4 hp3 => w_L_law_J2201 G K27 v0 v1 v2 v3 v4 hp3 kc ks))
def w_L_law_J2134 (G : gaG)  (K27 : Nat → Nat → Nat → Nat → Int → gaH → Nat → Nat → Prop) (v0 : Nat) (v1 : Nat) (v2 : Nat) (v3 : Nat) (v4 : Int) (h : gaH) (kc ks : Nat) : Prop := gLI h v0 102 (v4 + 1) (fun r1 => gCall 1 6 kc ks (fun c4 s5 => w_L_house v1 r1 v3 h (fun r3 hp2 => gLI hp2 v0 102 (v4 + 1) (fun r6 => gHas hp2 v2 7 ∧ w_X7_house v2 r6 hp2 (fun r8 hp7 => w_L_law_J2201 G K27 v0 v1 v2 v3 v4 hp7 c4 s5)))))
def w_L_law_J2106 (G : gaG)  (K27 : Nat → Nat → Nat → Nat → Int → gaH → Nat → Nat → Prop) (v0 : Nat) (v1 : Nat) (v2 : Nat) (v3 : Nat) (v4 : Int) (h : gaH) (kc ks : Nat) : Prop := gLI h v0 102 (v4 + 1) (fun r1 => gCall 1 6 kc ks (fun c4 s5 => w_L_alike v1 r1 v3 h (fun r3 hp2 => gLI hp2 v0 102 (v4 + 1) (fun r6 => gHas hp2 v2 7 ∧ gCall 136 8832 c4 s5 (fun c9 s10 => w_X7_alike v2 r6 hp2 (fun r8 hp7 => w_L_law_J2201 G K27 v0 v1 v2 v3 v4 hp7 c9 s10))))))
def w_L_law_J2078 (G : gaG)  (K27 : Nat → Nat → Nat → Nat → Int → gaH → Nat → Nat → Prop) (v0 : Nat) (v1 : Nat) (v2 : Nat) (v3 : Nat) (v4 : Int) (h : gaH) (kc ks : Nat) : Prop := gLI h v0 102 (v4 + 1) (fun r1 => gCall 1 6 kc ks (fun c4 s5 => w_L_cross v1 r1 v3 h (fun r3 hp2 => gLI hp2 v0 102 (v4 + 1) (fun r6 => gHas hp2 v2 7 ∧ gCall 134 8576 c4 s5 (fun c9 s10 => w_X7_cross v2 r6 hp2 (fun r8 hp7 => w_L_law_J2201 G K27 v0 v1 v2 v3 v4 hp7 c9 s10))))))
def w_L_law_J2070 (G : gaG)  (K27 : Nat → Nat → Nat → Nat → Int → gaH → Nat → Nat → Prop) (v0 : Nat) (v1 : Nat) (v2 : Nat) (v3 : Nat) (v4 : Int) (t0 : Nat) (t1 : Int) (t2 : Int) (h : gaH) (kc ks : Nat) : Prop := gHas h t0 7 ∧ gCall 67 4288 kc ks (fun c3 s4 => w_X7_ups t0 t1 t2 h (fun r2 hp1 => w_L_law_J2201 G K27 v0 v1 v2 v3 v4 hp1 c3 s4))
def w_L_law_J2043 (G : gaG)  (K27 : Nat → Nat → Nat → Nat → Int → gaH → Nat → Nat → Prop) (v0 : Nat) (v1 : Nat) (v2 : Nat) (v3 : Nat) (v4 : Int) (t0 : Nat) (t1 : Int) (t2 : Int) (h : gaH) (kc ks : Nat) : Prop := gCall 1 6 kc ks (fun c3 s4 => w_L_ups t0 t1 t2 v3 h (fun r2 hp1 => gLI hp1 v0 102 (v4 + 1) (fun r5 => gLI hp1 v0 102 (v4 + 2) (fun r6 => gR r6 ∧ (if r6 = 0 then w_L_law_J2070 G K27 v0 v1 v2 v3 v4 v2 r5 0 hp1 c3 s4 else w_L_law_J2070 G K27 v0 v1 v2 v3 v4 v2 r5 1 hp1 c3 s4)))))
def w_L_law_J2022 (G : gaG)  (K27 : Nat → Nat → Nat → Nat → Int → gaH → Nat → Nat → Prop) (v0 : Nat) (v1 : Nat) (v2 : Nat) (v3 : Nat) (v4 : Int) (h : gaH) (kc ks : Nat) : Prop := gLI h v0 102 (v4 + 1) (fun r1 => gLI h v0 102 (v4 + 2) (fun r2 => gR r2 ∧ (if r2 = 0 then w_L_law_J2043 G K27 v0 v1 v2 v3 v4 v1 r1 0 h kc ks else w_L_law_J2043 G K27 v0 v1 v2 v3 v4 v1 r1 1 h kc ks)))
def w_L_law_J2014 (G : gaG)  (K27 : Nat → Nat → Nat → Nat → Int → gaH → Nat → Nat → Prop) (v0 : Nat) (v1 : Nat) (v2 : Nat) (v3 : Nat) (v4 : Int) (t0 : Nat) (t1 : Int) (t2 : Int) (h : gaH) (kc ks : Nat) : Prop := gHas h t0 7 ∧ gCall 67 4288 kc ks (fun c3 s4 => w_X7_size t0 t1 t2 h (fun r2 hp1 => w_L_law_J2201 G K27 v0 v1 v2 v3 v4 hp1 c3 s4))
def w_L_law_J1987 (G : gaG)  (K27 : Nat → Nat → Nat → Nat → Int → gaH → Nat → Nat → Prop) (v0 : Nat) (v1 : Nat) (v2 : Nat) (v3 : Nat) (v4 : Int) (t0 : Nat) (t1 : Int) (t2 : Int) (h : gaH) (kc ks : Nat) : Prop := gCall 1 6 kc ks (fun c3 s4 => w_L_size t0 t1 t2 v3 h (fun r2 hp1 => gLI hp1 v0 102 (v4 + 1) (fun r5 => gLI hp1 v0 102 (v4 + 2) (fun r6 => gR r6 ∧ (if r6 = 0 then w_L_law_J2014 G K27 v0 v1 v2 v3 v4 v2 r5 0 hp1 c3 s4 else w_L_law_J2014 G K27 v0 v1 v2 v3 v4 v2 r5 1 hp1 c3 s4)))))
def w_L_law_J1966 (G : gaG)  (K27 : Nat → Nat → Nat → Nat → Int → gaH → Nat → Nat → Prop) (v0 : Nat) (v1 : Nat) (v2 : Nat) (v3 : Nat) (v4 : Int) (h : gaH) (kc ks : Nat) : Prop := gLI h v0 102 (v4 + 1) (fun r1 => gLI h v0 102 (v4 + 2) (fun r2 => gR r2 ∧ (if r2 = 0 then w_L_law_J1987 G K27 v0 v1 v2 v3 v4 v1 r1 0 h kc ks else w_L_law_J1987 G K27 v0 v1 v2 v3 v4 v1 r1 1 h kc ks)))
def w_L_law_J1928 (G : gaG)  (K27 : Nat → Nat → Nat → Nat → Int → gaH → Nat → Nat → Prop) (v0 : Nat) (v1 : Nat) (v2 : Nat) (v3 : Nat) (v4 : Int) (v5 : Int) (t0 : Nat) (t1 : Int) (t2 : Int) (h : gaH) (kc ks : Nat) : Prop := gHas h t0 7 ∧ gCall 202 13204 kc ks (fun c3 s4 => w_X7_grown G t0 t1 t2 h (fun r2 hp1 => gHas hp1 v2 7 ∧ w_X7_thrown v2 hp1 (fun r6 hp5 => gR r6 ∧ gR v5 ∧ (if r6 = v5 then gR v5 ∧ (if v5 = 0 then gA hp5 v3 6 1 (fun r7 => gHas hp5 r7 0 ∧ w_J0_equals_9ea2d G r7 r2 hp5 (fun r9 hp8 => gR r9 ∧ (if r9 = 0 then False else w_L_law_J2201 G K27 v0 v1 v2 v3 v4 hp8 c3 s4))) else w_L_law_J2201 G K27 v0 v1 v2 v3 v4 hp5 c3 s4) else False))))
def w_L_law_J1901 (G : gaG)  (K27 : Nat → Nat → Nat → Nat → Int → gaH → Nat → Nat → Prop) (v0 : Nat) (v1 : Nat) (v2 : Nat) (v3 : Nat) (v4 : Int) (t0 : Nat) (t1 : Int) (t2 : Int) (h : gaH) (kc ks : Nat) : Prop := gCall 136 8922 kc ks (fun c3 s4 => w_L_grown G t0 t1 t2 v3 h (fun r2 hp1 => gLI hp1 v0 102 (v4 + 1) (fun r5 => gLI hp1 v0 102 (v4 + 2) (fun r6 => gR r6 ∧ (if r6 = 0 then w_L_law_J1928 G K27 v0 v1 v2 v3 v4 r2 v2 r5 0 hp1 c3 s4 else w_L_law_J1928 G K27 v0 v1 v2 v3 v4 r2 v2 r5 1 hp1 c3 s4)))))
def w_L_law_J1880 (G : gaG)  (K27 : Nat → Nat → Nat → Nat → Int → gaH → Nat → Nat → Prop) (v0 : Nat) (v1 : Nat) (v2 : Nat) (v3 : Nat) (v4 : Int) (h : gaH) (kc ks : Nat) : Prop := gLI h v0 102 (v4 + 1) (fun r1 => gLI h v0 102 (v4 + 2) (fun r2 => gR r2 ∧ (if r2 = 0 then w_L_law_J1901 G K27 v0 v1 v2 v3 v4 v1 r1 0 h kc ks else w_L_law_J1901 G K27 v0 v1 v2 v3 v4 v1 r1 1 h kc ks)))
def w_L_law_J1852 (G : gaG)  (K27 : Nat → Nat → Nat → Nat → Int → gaH → Nat → Nat → Prop) (v0 : Nat) (v1 : Nat) (v2 : Nat) (v3 : Nat) (v4 : Int) (h : gaH) (kc ks : Nat) : Prop := gLI h v0 102 (v4 + 1) (fun r1 => gCall 136 8922 kc ks (fun c4 s5 => w_L_turns G v1 r1 v3 h (fun r3 hp2 => gLI hp2 v0 102 (v4 + 1) (fun r6 => gHas hp2 v2 7 ∧ gCall 135 8916 c4 s5 (fun c9 s10 => w_X7_turns G v2 r6 hp2 (fun r8 hp7 => w_L_law_J2201 G K27 v0 v1 v2 v3 v4 hp7 c9 s10))))))
def w_L_law_J1812 (G : gaG)  (K27 : Nat → Nat → Nat → Nat → Int → gaH → Nat → Nat → Prop) (v0 : Nat) (v1 : Nat) (v2 : Nat) (v3 : Nat) (v4 : Int) (h : gaH) (kc ks : Nat) : Prop := gLI h v0 102 (v4 + 1) (fun r1 => gLI h v0 102 (v4 + 2) (fun r2 => gCall 2 12 kc ks (fun c5 s6 => w_L_isApart v1 r1 r2 v3 h (fun r4 hp3 => gLI hp3 v0 102 (v4 + 1) (fun r7 => gLI hp3 v0 102 (v4 + 2) (fun r8 => gHas hp3 v2 7 ∧ gCall 4 288 c5 s6 (fun c11 s12 => w_X7_isApart v2 r7 r8 hp3 (fun r10 hp9 => w_L_law_J2201 G K27 v0 v1 v2 v3 v4 hp9 c11 s12))))))))
def w_L_law_J1784 (G : gaG)  (K27 : Nat → Nat → Nat → Nat → Int → gaH → Nat → Nat → Prop) (v0 : Nat) (v1 : Nat) (v2 : Nat) (v3 : Nat) (v4 : Int) (h : gaH) (kc ks : Nat) : Prop := gLI h v0 102 (v4 + 1) (fun r1 => gCall 1 6 kc ks (fun c4 s5 => w_L_least v1 r1 v3 h (fun r3 hp2 => gLI hp2 v0 102 (v4 + 1) (fun r6 => gHas hp2 v2 7 ∧ w_X7_least v2 r6 hp2 (fun r8 hp7 => w_L_law_J2201 G K27 v0 v1 v2 v3 v4 hp7 c4 s5)))))
def w_L_law_J1756 (G : gaG)  (K27 : Nat → Nat → Nat → Nat → Int → gaH → Nat → Nat → Prop) (v0 : Nat) (v1 : Nat) (v2 : Nat) (v3 : Nat) (v4 : Int) (h : gaH) (kc ks : Nat) : Prop := gLI h v0 102 (v4 + 1) (fun r1 => gCall 1 6 kc ks (fun c4 s5 => w_L_folds v1 r1 v3 h (fun r3 hp2 => gLI hp2 v0 102 (v4 + 1) (fun r6 => gHas hp2 v2 7 ∧ w_X7_folds v2 r6 hp2 (fun r8 hp7 => w_L_law_J2201 G K27 v0 v1 v2 v3 v4 hp7 c4 s5)))))
def w_L_law_J1728 (G : gaG)  (K27 : Nat → Nat → Nat → Nat → Int → gaH → Nat → Nat → Prop) (v0 : Nat) (v1 : Nat) (v2 : Nat) (v3 : Nat) (v4 : Int) (h : gaH) (kc ks : Nat) : Prop := gLI h v0 102 (v4 + 1) (fun r1 => gCall 1 6 kc ks (fun c4 s5 => w_L_mirrors v1 r1 v3 h (fun r3 hp2 => gLI hp2 v0 102 (v4 + 1) (fun r6 => gHas hp2 v2 7 ∧ w_X7_mirrors v2 r6 hp2 (fun r8 hp7 => w_L_law_J2201 G K27 v0 v1 v2 v3 v4 hp7 c4 s5)))))
def w_L_law_J1700 (G : gaG)  (K27 : Nat → Nat → Nat → Nat → Int → gaH → Nat → Nat → Prop) (v0 : Nat) (v1 : Nat) (v2 : Nat) (v3 : Nat) (v4 : Int) (h : gaH) (kc ks : Nat) : Prop := gLI h v0 102 (v4 + 1) (fun r1 => gCall 1 6 kc ks (fun c4 s5 => w_L_overlaps v1 r1 v3 h (fun r3 hp2 => gLI hp2 v0 102 (v4 + 1) (fun r6 => gHas hp2 v2 7 ∧ w_X7_overlaps v2 r6 hp2 (fun r8 hp7 => w_L_law_J2201 G K27 v0 v1 v2 v3 v4 hp7 c4 s5)))))
def w_L_law_J1672 (G : gaG)  (K27 : Nat → Nat → Nat → Nat → Int → gaH → Nat → Nat → Prop) (v0 : Nat) (v1 : Nat) (v2 : Nat) (v3 : Nat) (v4 : Int) (h : gaH) (kc ks : Nat) : Prop := gLI h v0 102 (v4 + 1) (fun r1 => gCall 1 6 kc ks (fun c4 s5 => w_L_times v1 r1 v3 h (fun r3 hp2 => gLI hp2 v0 102 (v4 + 1) (fun r6 => gHas hp2 v2 7 ∧ w_X7_times v2 r6 hp2 (fun r8 hp7 => w_L_law_J2201 G K27 v0 v1 v2 v3 v4 hp7 c4 s5)))))
def w_L_law_J1664 (G : gaG)  (K27 : Nat → Nat → Nat → Nat → Int → gaH → Nat → Nat → Prop) (v0 : Nat) (v1 : Nat) (v2 : Nat) (v3 : Nat) (v4 : Int) (t0 : Nat) (t1 : Int) (t2 : Int) (t3 : Int) (h : gaH) (kc ks : Nat) : Prop := gHas h t0 7 ∧ w_X7_kinds t0 t1 t2 t3 h (fun r2 hp1 => w_L_law_J2201 G K27 v0 v1 v2 v3 v4 hp1 kc ks)
def w_L_law_J1631 (G : gaG)  (K27 : Nat → Nat → Nat → Nat → Int → gaH → Nat → Nat → Prop) (v0 : Nat) (v1 : Nat) (v2 : Nat) (v3 : Nat) (v4 : Int) (t0 : Nat) (t1 : Int) (t2 : Int) (t3 : Int) (h : gaH) (kc ks : Nat) : Prop := gCall 2 12 kc ks (fun c3 s4 => w_L_kinds t0 t1 t2 t3 v3 h (fun r2 hp1 => gLI hp1 v0 102 (v4 + 1) (fun r5 => gLI hp1 v0 102 (v4 + 2) (fun r6 => gLI hp1 v0 102 (v4 + 3) (fun r7 => gR r7 ∧ (if r7 = 0 then w_L_law_J1664 G K27 v0 v1 v2 v3 v4 v2 r5 r6 0 hp1 c3 s4 else w_L_law_J1664 G K27 v0 v1 v2 v3 v4 v2 r5 r6 1 hp1 c3 s4))))))
def w_L_law_J1604 (G : gaG)  (K27 : Nat → Nat → Nat → Nat → Int → gaH → Nat → Nat → Prop) (v0 : Nat) (v1 : Nat) (v2 : Nat) (v3 : Nat) (v4 : Int) (h : gaH) (kc ks : Nat) : Prop := gLI h v0 102 (v4 + 1) (fun r1 => gLI h v0 102 (v4 + 2) (fun r2 => gLI h v0 102 (v4 + 3) (fun r3 => gR r3 ∧ (if r3 = 0 then w_L_law_J1631 G K27 v0 v1 v2 v3 v4 v1 r1 r2 0 h kc ks else w_L_law_J1631 G K27 v0 v1 v2 v3 v4 v1 r1 r2 1 h kc ks))))
def w_L_law_J1596 (G : gaG)  (K27 : Nat → Nat → Nat → Nat → Int → gaH → Nat → Nat → Prop) (v0 : Nat) (v1 : Nat) (v2 : Nat) (v3 : Nat) (v4 : Int) (t0 : Nat) (t1 : Int) (t2 : Int) (t3 : Int) (h : gaH) (kc ks : Nat) : Prop := gHas h t0 7 ∧ w_X7_spread t0 t1 t2 t3 h (fun r2 hp1 => w_L_law_J2201 G K27 v0 v1 v2 v3 v4 hp1 kc ks)
def w_L_law_J1563 (G : gaG)  (K27 : Nat → Nat → Nat → Nat → Int → gaH → Nat → Nat → Prop) (v0 : Nat) (v1 : Nat) (v2 : Nat) (v3 : Nat) (v4 : Int) (t0 : Nat) (t1 : Int) (t2 : Int) (t3 : Int) (h : gaH) (kc ks : Nat) : Prop := gCall 2 12 kc ks (fun c3 s4 => w_L_spread t0 t1 t2 t3 v3 h (fun r2 hp1 => gLI hp1 v0 102 (v4 + 1) (fun r5 => gLI hp1 v0 102 (v4 + 2) (fun r6 => gLI hp1 v0 102 (v4 + 3) (fun r7 => gR r7 ∧ (if r7 = 0 then w_L_law_J1596 G K27 v0 v1 v2 v3 v4 v2 r5 r6 0 hp1 c3 s4 else w_L_law_J1596 G K27 v0 v1 v2 v3 v4 v2 r5 r6 1 hp1 c3 s4))))))
def w_L_law_J1536 (G : gaG)  (K27 : Nat → Nat → Nat → Nat → Int → gaH → Nat → Nat → Prop) (v0 : Nat) (v1 : Nat) (v2 : Nat) (v3 : Nat) (v4 : Int) (h : gaH) (kc ks : Nat) : Prop := gLI h v0 102 (v4 + 1) (fun r1 => gLI h v0 102 (v4 + 2) (fun r2 => gLI h v0 102 (v4 + 3) (fun r3 => gR r3 ∧ (if r3 = 0 then w_L_law_J1563 G K27 v0 v1 v2 v3 v4 v1 r1 r2 0 h kc ks else w_L_law_J1563 G K27 v0 v1 v2 v3 v4 v1 r1 r2 1 h kc ks))))
def w_L_law_J1508 (G : gaG)  (K27 : Nat → Nat → Nat → Nat → Int → gaH → Nat → Nat → Prop) (v0 : Nat) (v1 : Nat) (v2 : Nat) (v3 : Nat) (v4 : Int) (h : gaH) (kc ks : Nat) : Prop := gLI h v0 102 (v4 + 1) (fun r1 => gCall 1 6 kc ks (fun c4 s5 => w_L_isMirrored v1 r1 v3 h (fun r3 hp2 => gLI hp2 v0 102 (v4 + 1) (fun r6 => gHas hp2 v2 7 ∧ w_X7_isMirrored_ v2 r6 hp2 (fun r8 hp7 => w_L_law_J2201 G K27 v0 v1 v2 v3 v4 hp7 c4 s5)))))
def w_L_law_J1468 (G : gaG)  (K27 : Nat → Nat → Nat → Nat → Int → gaH → Nat → Nat → Prop) (v0 : Nat) (v1 : Nat) (v2 : Nat) (v3 : Nat) (v4 : Int) (h : gaH) (kc ks : Nat) : Prop := gLI h v0 102 (v4 + 1) (fun r1 => gLI h v0 102 (v4 + 2) (fun r2 => gCall 2 12 kc ks (fun c5 s6 => w_L_order v1 r1 r2 v3 h (fun r4 hp3 => gLI hp3 v0 102 (v4 + 1) (fun r7 => gLI hp3 v0 102 (v4 + 2) (fun r8 => gHas hp3 v2 7 ∧ w_X7_order v2 r7 r8 hp3 (fun r10 hp9 => w_L_law_J2201 G K27 v0 v1 v2 v3 v4 hp9 c5 s6)))))))
def w_L_law_J1416 (G : gaG)  (K27 : Nat → Nat → Nat → Nat → Int → gaH → Nat → Nat → Prop) (v0 : Nat) (v1 : Nat) (v2 : Nat) (v3 : Nat) (v4 : Int) (h : gaH) (kc ks : Nat) : Prop := gLI h v0 102 (v4 + 1) (fun r1 => gLI h v0 102 (v4 + 2) (fun r2 => gLI h v0 102 (v4 + 3) (fun r3 => gCall 3 18 kc ks (fun c6 s7 => w_L_findLast v1 r1 r2 r3 v3 h (fun r5 hp4 => gLI hp4 v0 102 (v4 + 1) (fun r8 => gLI hp4 v0 102 (v4 + 2) (fun r9 => gLI hp4 v0 102 (v4 + 3) (fun r10 => gHas hp4 v2 7 ∧ w_X7_findLast v2 r8 r9 r10 hp4 (fun r12 hp11 => w_L_law_J2201 G K27 v0 v1 v2 v3 v4 hp11 c6 s7)))))))))
def w_L_law_J1364 (G : gaG)  (K27 : Nat → Nat → Nat → Nat → Int → gaH → Nat → Nat → Prop) (v0 : Nat) (v1 : Nat) (v2 : Nat) (v3 : Nat) (v4 : Int) (h : gaH) (kc ks : Nat) : Prop := gLI h v0 102 (v4 + 1) (fun r1 => gLI h v0 102 (v4 + 2) (fun r2 => gLI h v0 102 (v4 + 3) (fun r3 => gCall 3 18 kc ks (fun c6 s7 => w_L_find v1 r1 r2 r3 v3 h (fun r5 hp4 => gLI hp4 v0 102 (v4 + 1) (fun r8 => gLI hp4 v0 102 (v4 + 2) (fun r9 => gLI hp4 v0 102 (v4 + 3) (fun r10 => gHas hp4 v2 7 ∧ w_X7_find v2 r8 r9 r10 hp4 (fun r12 hp11 => w_L_law_J2201 G K27 v0 v1 v2 v3 v4 hp11 c6 s7)))))))))
def w_L_law_J1356 (G : gaG)  (K27 : Nat → Nat → Nat → Nat → Int → gaH → Nat → Nat → Prop) (v0 : Nat) (v1 : Nat) (v2 : Nat) (v3 : Nat) (v4 : Int) (t0 : Nat) (t1 : Int) (t2 : Int) (h : gaH) (kc ks : Nat) : Prop := gHas h t0 7 ∧ w_X7_count t0 t1 t2 h (fun r2 hp1 => w_L_law_J2201 G K27 v0 v1 v2 v3 v4 hp1 kc ks)
def w_L_law_J1329 (G : gaG)  (K27 : Nat → Nat → Nat → Nat → Int → gaH → Nat → Nat → Prop) (v0 : Nat) (v1 : Nat) (v2 : Nat) (v3 : Nat) (v4 : Int) (t0 : Nat) (t1 : Int) (t2 : Int) (h : gaH) (kc ks : Nat) : Prop := gCall 1 6 kc ks (fun c3 s4 => w_L_count t0 t1 t2 v3 h (fun r2 hp1 => gLI hp1 v0 102 (v4 + 1) (fun r5 => gLI hp1 v0 102 (v4 + 2) (fun r6 => gR r6 ∧ (if r6 = 0 then w_L_law_J1356 G K27 v0 v1 v2 v3 v4 v2 r5 0 hp1 c3 s4 else w_L_law_J1356 G K27 v0 v1 v2 v3 v4 v2 r5 1 hp1 c3 s4)))))
def w_L_law_J1308 (G : gaG)  (K27 : Nat → Nat → Nat → Nat → Int → gaH → Nat → Nat → Prop) (v0 : Nat) (v1 : Nat) (v2 : Nat) (v3 : Nat) (v4 : Int) (h : gaH) (kc ks : Nat) : Prop := gLI h v0 102 (v4 + 1) (fun r1 => gLI h v0 102 (v4 + 2) (fun r2 => gR r2 ∧ (if r2 = 0 then w_L_law_J1329 G K27 v0 v1 v2 v3 v4 v1 r1 0 h kc ks else w_L_law_J1329 G K27 v0 v1 v2 v3 v4 v1 r1 1 h kc ks)))
def w_L_law_J1280 (G : gaG)  (K27 : Nat → Nat → Nat → Nat → Int → gaH → Nat → Nat → Prop) (v0 : Nat) (v1 : Nat) (v2 : Nat) (v3 : Nat) (v4 : Int) (h : gaH) (kc ks : Nat) : Prop := gLI h v0 102 (v4 + 1) (fun r1 => gCall 136 8922 kc ks (fun c4 s5 => w_L_text G v1 r1 v3 h (fun r3 hp2 => gLI hp2 v0 102 (v4 + 1) (fun r6 => gHas hp2 v2 7 ∧ gCall 135 8916 c4 s5 (fun c9 s10 => w_X7_text G v2 r6 hp2 (fun r8 hp7 => w_L_law_J2201 G K27 v0 v1 v2 v3 v4 hp7 c9 s10))))))
def w_L_law_J1240 (G : gaG)  (K27 : Nat → Nat → Nat → Nat → Int → gaH → Nat → Nat → Prop) (v0 : Nat) (v1 : Nat) (v2 : Nat) (v3 : Nat) (v4 : Int) (h : gaH) (kc ks : Nat) : Prop := gLI h v0 102 (v4 + 1) (fun r1 => gLI h v0 102 (v4 + 2) (fun r2 => gCall 2 12 kc ks (fun c5 s6 => w_L_isB v1 r1 r2 v3 h (fun r4 hp3 => gLI hp3 v0 102 (v4 + 1) (fun r7 => gLI hp3 v0 102 (v4 + 2) (fun r8 => gHas hp3 v2 7 ∧ w_X7_isB v2 r7 r8 hp3 (fun r10 hp9 => w_L_law_J2201 G K27 v0 v1 v2 v3 v4 hp9 c5 s6)))))))
def w_L_law_J1212 (G : gaG)  (K27 : Nat → Nat → Nat → Nat → Int → gaH → Nat → Nat → Prop) (v0 : Nat) (v1 : Nat) (v2 : Nat) (v3 : Nat) (v4 : Int) (h : gaH) (kc ks : Nat) : Prop := gLI h v0 102 (v4 + 1) (fun r1 => gCall 1 6 kc ks (fun c4 s5 => w_L_length v1 r1 v3 h (fun r3 hp2 => gLI hp2 v0 102 (v4 + 1) (fun r6 => gHas hp2 v2 7 ∧ w_X7_length v2 r6 hp2 (fun r8 hp7 => w_L_law_J2201 G K27 v0 v1 v2 v3 v4 hp7 c4 s5)))))
def w_L_law_J1184 (G : gaG)  (K27 : Nat → Nat → Nat → Nat → Int → gaH → Nat → Nat → Prop) (v0 : Nat) (v1 : Nat) (v2 : Nat) (v3 : Nat) (v4 : Int) (h : gaH) (kc ks : Nat) : Prop := gLI h v0 102 (v4 + 1) (fun r1 => gCall 1 6 kc ks (fun c4 s5 => w_L_fresh v1 r1 v3 h (fun r3 hp2 => gLI hp2 v0 102 (v4 + 1) (fun r6 => gHas hp2 v2 7 ∧ w_X7_fresh v2 r6 hp2 (fun r8 hp7 => w_L_law_J2201 G K27 v0 v1 v2 v3 v4 hp7 c4 s5)))))
def w_L_law_J1156 (G : gaG)  (K27 : Nat → Nat → Nat → Nat → Int → gaH → Nat → Nat → Prop) (v0 : Nat) (v1 : Nat) (v2 : Nat) (v3 : Nat) (v4 : Int) (h : gaH) (kc ks : Nat) : Prop := gLI h v0 102 (v4 + 1) (fun r1 => gCall 2 12 kc ks (fun c4 s5 => w_L_shrink v1 r1 v3 h (fun r3 hp2 => gLI hp2 v0 102 (v4 + 1) (fun r6 => gHas hp2 v2 7 ∧ w_X7_shrink v2 r6 hp2 (fun r8 hp7 => w_L_law_J2201 G K27 v0 v1 v2 v3 v4 hp7 c4 s5)))))
def w_L_law_J1116 (G : gaG)  (K27 : Nat → Nat → Nat → Nat → Int → gaH → Nat → Nat → Prop) (v0 : Nat) (v1 : Nat) (v2 : Nat) (v3 : Nat) (v4 : Int) (h : gaH) (kc ks : Nat) : Prop := gLI h v0 102 (v4 + 1) (fun r1 => gLI h v0 102 (v4 + 2) (fun r2 => gCall 2 12 kc ks (fun c5 s6 => w_L_grow v1 r1 r2 v3 h (fun r4 hp3 => gLI hp3 v0 102 (v4 + 1) (fun r7 => gLI hp3 v0 102 (v4 + 2) (fun r8 => gHas hp3 v2 7 ∧ gCall 133 8197 c5 s6 (fun c11 s12 => w_X7_grow v2 r7 r8 hp3 (fun r10 hp9 => w_L_law_J2201 G K27 v0 v1 v2 v3 v4 hp9 c11 s12))))))))
def w_L_law_J1052 (G : gaG)  (K27 : Nat → Nat → Nat → Nat → Int → gaH → Nat → Nat → Prop) (v0 : Nat) (v1 : Nat) (v2 : Nat) (v3 : Nat) (v4 : Int) (h : gaH) (kc ks : Nat) : Prop := gLI h v0 102 (v4 + 1) (fun r1 => gLI h v0 102 (v4 + 2) (fun r2 => gLI h v0 102 (v4 + 3) (fun r3 => gLI h v0 102 (v4 + 4) (fun r4 => gCall 4 24 kc ks (fun c7 s8 => w_L_line v1 r1 r2 r3 r4 v3 h (fun r6 hp5 => gLI hp5 v0 102 (v4 + 1) (fun r9 => gLI hp5 v0 102 (v4 + 2) (fun r10 => gLI hp5 v0 102 (v4 + 3) (fun r11 => gLI hp5 v0 102 (v4 + 4) (fun r12 => gHas hp5 v2 7 ∧ gCall 1 64 c7 s8 (fun c15 s16 => w_X7_line v2 r9 r10 r11 r12 hp5 (fun r14 hp13 => w_L_law_J2201 G K27 v0 v1 v2 v3 v4 hp13 c15 s16))))))))))))
def w_L_law_J1000 (G : gaG)  (K27 : Nat → Nat → Nat → Nat → Int → gaH → Nat → Nat → Prop) (v0 : Nat) (v1 : Nat) (v2 : Nat) (v3 : Nat) (v4 : Int) (h : gaH) (kc ks : Nat) : Prop := gLI h v0 102 (v4 + 1) (fun r1 => gLI h v0 102 (v4 + 2) (fun r2 => gLI h v0 102 (v4 + 3) (fun r3 => gCall 3 18 kc ks (fun c6 s7 => w_L_twos v1 r1 r2 r3 v3 h (fun r5 hp4 => gLI hp4 v0 102 (v4 + 1) (fun r8 => gLI hp4 v0 102 (v4 + 2) (fun r9 => gLI hp4 v0 102 (v4 + 3) (fun r10 => gHas hp4 v2 7 ∧ gCall 44 4928 c6 s7 (fun c13 s14 => w_X7_twos v2 r8 r9 r10 hp4 (fun r12 hp11 => w_L_law_J2201 G K27 v0 v1 v2 v3 v4 hp11 c13 s14))))))))))
def w_L_law_J948 (G : gaG)  (K27 : Nat → Nat → Nat → Nat → Int → gaH → Nat → Nat → Prop) (v0 : Nat) (v1 : Nat) (v2 : Nat) (v3 : Nat) (v4 : Int) (h : gaH) (kc ks : Nat) : Prop := gLI h v0 102 (v4 + 1) (fun r1 => gLI h v0 102 (v4 + 2) (fun r2 => gLI h v0 102 (v4 + 3) (fun r3 => gCall 3 18 kc ks (fun c6 s7 => w_L_lay G v1 r1 r2 r3 v3 h (fun r5 hp4 => gLI hp4 v0 102 (v4 + 1) (fun r8 => gLI hp4 v0 102 (v4 + 2) (fun r9 => gLI hp4 v0 102 (v4 + 3) (fun r10 => gHas hp4 v2 7 ∧ gCall 391 22856 c6 s7 (fun c13 s14 => w_X7_lay v2 r8 r9 r10 hp4 (fun r12 hp11 => w_L_law_J2201 G K27 v0 v1 v2 v3 v4 hp11 c13 s14))))))))))
def w_L_law_J896 (G : gaG)  (K27 : Nat → Nat → Nat → Nat → Int → gaH → Nat → Nat → Prop) (v0 : Nat) (v1 : Nat) (v2 : Nat) (v3 : Nat) (v4 : Int) (h : gaH) (kc ks : Nat) : Prop := gLI h v0 102 (v4 + 1) (fun r1 => gLI h v0 102 (v4 + 2) (fun r2 => gLI h v0 102 (v4 + 3) (fun r3 => gCall 4 24 kc ks (fun c6 s7 => w_L_undo v1 r1 r2 r3 v3 h (fun r5 hp4 => gLI hp4 v0 102 (v4 + 1) (fun r8 => gLI hp4 v0 102 (v4 + 2) (fun r9 => gLI hp4 v0 102 (v4 + 3) (fun r10 => gHas hp4 v2 7 ∧ gCall 8 450 c6 s7 (fun c13 s14 => w_X7_undo v2 r8 r9 r10 hp4 (fun r12 hp11 => w_L_law_J2201 G K27 v0 v1 v2 v3 v4 hp11 c13 s14))))))))))
def w_L_law_J844 (G : gaG)  (K27 : Nat → Nat → Nat → Nat → Int → gaH → Nat → Nat → Prop) (v0 : Nat) (v1 : Nat) (v2 : Nat) (v3 : Nat) (v4 : Int) (h : gaH) (kc ks : Nat) : Prop := gLI h v0 102 (v4 + 1) (fun r1 => gLI h v0 102 (v4 + 2) (fun r2 => gLI h v0 102 (v4 + 3) (fun r3 => gCall 3 18 kc ks (fun c6 s7 => w_L_apply v1 r1 r2 r3 v3 h (fun r5 hp4 => gLI hp4 v0 102 (v4 + 1) (fun r8 => gLI hp4 v0 102 (v4 + 2) (fun r9 => gLI hp4 v0 102 (v4 + 3) (fun r10 => gHas hp4 v2 7 ∧ gCall 3 288 c6 s7 (fun c13 s14 => w_X7_apply v2 r8 r9 r10 hp4 (fun r12 hp11 => w_L_law_J2201 G K27 v0 v1 v2 v3 v4 hp11 c13 s14))))))))))
def w_L_law_J804 (G : gaG)  (K27 : Nat → Nat → Nat → Nat → Int → gaH → Nat → Nat → Prop) (v0 : Nat) (v1 : Nat) (v2 : Nat) (v3 : Nat) (v4 : Int) (h : gaH) (kc ks : Nat) : Prop := gLI h v0 102 (v4 + 1) (fun r1 => gLI h v0 102 (v4 + 2) (fun r2 => gCall 2 12 kc ks (fun c5 s6 => w_L_copy v1 r1 r2 v3 h (fun r4 hp3 => gLI hp3 v0 102 (v4 + 1) (fun r7 => gLI hp3 v0 102 (v4 + 2) (fun r8 => gHas hp3 v2 7 ∧ w_X7_copy v2 r7 r8 hp3 (fun r10 hp9 => w_L_law_J2201 G K27 v0 v1 v2 v3 v4 hp9 c5 s6)))))))
def w_L_law_J764 (G : gaG)  (K27 : Nat → Nat → Nat → Nat → Int → gaH → Nat → Nat → Prop) (v0 : Nat) (v1 : Nat) (v2 : Nat) (v3 : Nat) (v4 : Int) (h : gaH) (kc ks : Nat) : Prop := gLI h v0 102 (v4 + 1) (fun r1 => gLI h v0 102 (v4 + 2) (fun r2 => gCall 2 12 kc ks (fun c5 s6 => w_L_rotate v1 r1 r2 v3 h (fun r4 hp3 => gLI hp3 v0 102 (v4 + 1) (fun r7 => gLI hp3 v0 102 (v4 + 2) (fun r8 => gHas hp3 v2 7 ∧ gCall 1 64 c5 s6 (fun c11 s12 => w_X7_rotate v2 r7 r8 hp3 (fun r10 hp9 => w_L_law_J2201 G K27 v0 v1 v2 v3 v4 hp9 c11 s12))))))))
def w_L_law_J736 (G : gaG)  (K27 : Nat → Nat → Nat → Nat → Int → gaH → Nat → Nat → Prop) (v0 : Nat) (v1 : Nat) (v2 : Nat) (v3 : Nat) (v4 : Int) (h : gaH) (kc ks : Nat) : Prop := gLI h v0 102 (v4 + 1) (fun r1 => gCall 1 6 kc ks (fun c4 s5 => w_L_exchange v1 r1 v3 h (fun r3 hp2 => gLI hp2 v0 102 (v4 + 1) (fun r6 => gHas hp2 v2 7 ∧ gCall 3 384 c4 s5 (fun c9 s10 => w_X7_exchange v2 r6 hp2 (fun r8 hp7 => w_L_law_J2201 G K27 v0 v1 v2 v3 v4 hp7 c9 s10))))))
def w_L_law_J708 (G : gaG)  (K27 : Nat → Nat → Nat → Nat → Int → gaH → Nat → Nat → Prop) (v0 : Nat) (v1 : Nat) (v2 : Nat) (v3 : Nat) (v4 : Int) (h : gaH) (kc ks : Nat) : Prop := gLI h v0 102 (v4 + 1) (fun r1 => gCall 1 6 kc ks (fun c4 s5 => w_L_turn v1 r1 v3 h (fun r3 hp2 => gLI hp2 v0 102 (v4 + 1) (fun r6 => gHas hp2 v2 7 ∧ gCall 1 64 c4 s5 (fun c9 s10 => w_X7_turn v2 r6 hp2 (fun r8 hp7 => w_L_law_J2201 G K27 v0 v1 v2 v3 v4 hp7 c9 s10))))))
def w_L_law_J668 (G : gaG)  (K27 : Nat → Nat → Nat → Nat → Int → gaH → Nat → Nat → Prop) (v0 : Nat) (v1 : Nat) (v2 : Nat) (v3 : Nat) (v4 : Int) (h : gaH) (kc ks : Nat) : Prop := gLI h v0 102 (v4 + 1) (fun r1 => gLI h v0 102 (v4 + 2) (fun r2 => gCall 2 12 kc ks (fun c5 s6 => w_L_cutTo v1 r1 r2 v3 h (fun r4 hp3 => gLI hp3 v0 102 (v4 + 1) (fun r7 => gLI hp3 v0 102 (v4 + 2) (fun r8 => gHas hp3 v2 7 ∧ gCall 1 64 c5 s6 (fun c11 s12 => w_X7_cutTo v2 r7 r8 hp3 (fun r10 hp9 => w_L_law_J2201 G K27 v0 v1 v2 v3 v4 hp9 c11 s12))))))))
def w_L_law_J604 (G : gaG)  (K27 : Nat → Nat → Nat → Nat → Int → gaH → Nat → Nat → Prop) (v0 : Nat) (v1 : Nat) (v2 : Nat) (v3 : Nat) (v4 : Int) (h : gaH) (kc ks : Nat) : Prop := gLI h v0 102 (v4 + 1) (fun r1 => gLI h v0 102 (v4 + 2) (fun r2 => gLI h v0 102 (v4 + 3) (fun r3 => gLI h v0 102 (v4 + 4) (fun r4 => gCall 3 18 kc ks (fun c7 s8 => w_L_replace v1 r1 r2 r3 r4 v3 h (fun r6 hp5 => gLI hp5 v0 102 (v4 + 1) (fun r9 => gLI hp5 v0 102 (v4 + 2) (fun r10 => gLI hp5 v0 102 (v4 + 3) (fun r11 => gLI hp5 v0 102 (v4 + 4) (fun r12 => gHas hp5 v2 7 ∧ gCall 1 128 c7 s8 (fun c15 s16 => w_X7_replace v2 r9 r10 r11 r12 hp5 (fun r14 hp13 => w_L_law_J2201 G K27 v0 v1 v2 v3 v4 hp13 c15 s16))))))))))))
def w_L_law_J552 (G : gaG)  (K27 : Nat → Nat → Nat → Nat → Int → gaH → Nat → Nat → Prop) (v0 : Nat) (v1 : Nat) (v2 : Nat) (v3 : Nat) (v4 : Int) (h : gaH) (kc ks : Nat) : Prop := gLI h v0 102 (v4 + 1) (fun r1 => gLI h v0 102 (v4 + 2) (fun r2 => gLI h v0 102 (v4 + 3) (fun r3 => gCall 2 12 kc ks (fun c6 s7 => w_L_remove v1 r1 r2 r3 v3 h (fun r5 hp4 => gLI hp4 v0 102 (v4 + 1) (fun r8 => gLI hp4 v0 102 (v4 + 2) (fun r9 => gLI hp4 v0 102 (v4 + 3) (fun r10 => gHas hp4 v2 7 ∧ gCall 2 192 c6 s7 (fun c13 s14 => w_X7_remove v2 r8 r9 r10 hp4 (fun r12 hp11 => w_L_law_J2201 G K27 v0 v1 v2 v3 v4 hp11 c13 s14))))))))))
def w_L_law_J512 (G : gaG)  (K27 : Nat → Nat → Nat → Nat → Int → gaH → Nat → Nat → Prop) (v0 : Nat) (v1 : Nat) (v2 : Nat) (v3 : Nat) (v4 : Int) (h : gaH) (kc ks : Nat) : Prop := gLI h v0 102 (v4 + 1) (fun r1 => gLI h v0 102 (v4 + 2) (fun r2 => gCall 2 12 kc ks (fun c5 s6 => w_L_removeSign v1 r1 r2 v3 h (fun r4 hp3 => gLI hp3 v0 102 (v4 + 1) (fun r7 => gLI hp3 v0 102 (v4 + 2) (fun r8 => gHas hp3 v2 7 ∧ gCall 2 192 c5 s6 (fun c11 s12 => w_X7_removeSign v2 r7 r8 hp3 (fun r10 hp9 => w_L_law_J2201 G K27 v0 v1 v2 v3 v4 hp9 c11 s12))))))))
def w_L_law_J504 (G : gaG)  (K27 : Nat → Nat → Nat → Nat → Int → gaH → Nat → Nat → Prop) (v0 : Nat) (v1 : Nat) (v2 : Nat) (v3 : Nat) (v4 : Int) (t0 : Nat) (t1 : Int) (t2 : Int) (t3 : Int) (h : gaH) (kc ks : Nat) : Prop := gHas h t0 7 ∧ gCall 2 192 kc ks (fun c3 s4 => w_X7_setSign t0 t1 t2 t3 h (fun r2 hp1 => w_L_law_J2201 G K27 v0 v1 v2 v3 v4 hp1 c3 s4))
def w_L_law_J471 (G : gaG)  (K27 : Nat → Nat → Nat → Nat → Int → gaH → Nat → Nat → Prop) (v0 : Nat) (v1 : Nat) (v2 : Nat) (v3 : Nat) (v4 : Int) (t0 : Nat) (t1 : Int) (t2 : Int) (t3 : Int) (h : gaH) (kc ks : Nat) : Prop := gCall 2 12 kc ks (fun c3 s4 => w_L_setSign t0 t1 t2 t3 v3 h (fun r2 hp1 => gLI hp1 v0 102 (v4 + 1) (fun r5 => gLI hp1 v0 102 (v4 + 2) (fun r6 => gLI hp1 v0 102 (v4 + 3) (fun r7 => gR r7 ∧ (if r7 = 0 then w_L_law_J504 G K27 v0 v1 v2 v3 v4 v2 r5 r6 0 hp1 c3 s4 else w_L_law_J504 G K27 v0 v1 v2 v3 v4 v2 r5 r6 1 hp1 c3 s4))))))
def w_L_law_J444 (G : gaG)  (K27 : Nat → Nat → Nat → Nat → Int → gaH → Nat → Nat → Prop) (v0 : Nat) (v1 : Nat) (v2 : Nat) (v3 : Nat) (v4 : Int) (h : gaH) (kc ks : Nat) : Prop := gLI h v0 102 (v4 + 1) (fun r1 => gLI h v0 102 (v4 + 2) (fun r2 => gLI h v0 102 (v4 + 3) (fun r3 => gR r3 ∧ (if r3 = 0 then w_L_law_J471 G K27 v0 v1 v2 v3 v4 v1 r1 r2 0 h kc ks else w_L_law_J471 G K27 v0 v1 v2 v3 v4 v1 r1 r2 1 h kc ks))))
def w_L_law_J392 (G : gaG)  (K27 : Nat → Nat → Nat → Nat → Int → gaH → Nat → Nat → Prop) (v0 : Nat) (v1 : Nat) (v2 : Nat) (v3 : Nat) (v4 : Int) (h : gaH) (kc ks : Nat) : Prop := gLI h v0 102 (v4 + 1) (fun r1 => gLI h v0 102 (v4 + 2) (fun r2 => gLI h v0 102 (v4 + 3) (fun r3 => gCall 3 18 kc ks (fun c6 s7 => w_L_insertSheet v1 r1 r2 r3 v3 h (fun r5 hp4 => gLI hp4 v0 102 (v4 + 1) (fun r8 => gLI hp4 v0 102 (v4 + 2) (fun r9 => gLI hp4 v0 102 (v4 + 3) (fun r10 => gHas hp4 v2 7 ∧ gCall 1 128 c6 s7 (fun c13 s14 => w_X7_insertSheet v2 r8 r9 r10 hp4 (fun r12 hp11 => w_L_law_J2201 G K27 v0 v1 v2 v3 v4 hp11 c13 s14))))))))))
def w_L_law_J384 (G : gaG)  (K27 : Nat → Nat → Nat → Nat → Int → gaH → Nat → Nat → Prop) (v0 : Nat) (v1 : Nat) (v2 : Nat) (v3 : Nat) (v4 : Int) (t0 : Nat) (t1 : Int) (t2 : Int) (t3 : Int) (h : gaH) (kc ks : Nat) : Prop := gHas h t0 7 ∧ gCall 2 192 kc ks (fun c3 s4 => w_X7_insertSign t0 t1 t2 t3 h (fun r2 hp1 => w_L_law_J2201 G K27 v0 v1 v2 v3 v4 hp1 c3 s4))
def w_L_law_J351 (G : gaG)  (K27 : Nat → Nat → Nat → Nat → Int → gaH → Nat → Nat → Prop) (v0 : Nat) (v1 : Nat) (v2 : Nat) (v3 : Nat) (v4 : Int) (t0 : Nat) (t1 : Int) (t2 : Int) (t3 : Int) (h : gaH) (kc ks : Nat) : Prop := gCall 2 12 kc ks (fun c3 s4 => w_L_insertSign t0 t1 t2 t3 v3 h (fun r2 hp1 => gLI hp1 v0 102 (v4 + 1) (fun r5 => gLI hp1 v0 102 (v4 + 2) (fun r6 => gLI hp1 v0 102 (v4 + 3) (fun r7 => gR r7 ∧ (if r7 = 0 then w_L_law_J384 G K27 v0 v1 v2 v3 v4 v2 r5 r6 0 hp1 c3 s4 else w_L_law_J384 G K27 v0 v1 v2 v3 v4 v2 r5 r6 1 hp1 c3 s4))))))
def w_L_law_J324 (G : gaG)  (K27 : Nat → Nat → Nat → Nat → Int → gaH → Nat → Nat → Prop) (v0 : Nat) (v1 : Nat) (v2 : Nat) (v3 : Nat) (v4 : Int) (h : gaH) (kc ks : Nat) : Prop := gLI h v0 102 (v4 + 1) (fun r1 => gLI h v0 102 (v4 + 2) (fun r2 => gLI h v0 102 (v4 + 3) (fun r3 => gR r3 ∧ (if r3 = 0 then w_L_law_J351 G K27 v0 v1 v2 v3 v4 v1 r1 r2 0 h kc ks else w_L_law_J351 G K27 v0 v1 v2 v3 v4 v1 r1 r2 1 h kc ks))))
def w_L_law_J284 (G : gaG)  (K27 : Nat → Nat → Nat → Nat → Int → gaH → Nat → Nat → Prop) (v0 : Nat) (v1 : Nat) (v2 : Nat) (v3 : Nat) (v4 : Int) (h : gaH) (kc ks : Nat) : Prop := gLI h v0 102 (v4 + 1) (fun r1 => gLI h v0 102 (v4 + 2) (fun r2 => gCall 2 12 kc ks (fun c5 s6 => w_L_append v1 r1 r2 v3 h (fun r4 hp3 => gLI hp3 v0 102 (v4 + 1) (fun r7 => gLI hp3 v0 102 (v4 + 2) (fun r8 => gHas hp3 v2 7 ∧ gCall 1 128 c5 s6 (fun c11 s12 => w_X7_append v2 r7 r8 hp3 (fun r10 hp9 => w_L_law_J2201 G K27 v0 v1 v2 v3 v4 hp9 c11 s12))))))))
def w_L_law_J244 (G : gaG)  (K27 : Nat → Nat → Nat → Nat → Int → gaH → Nat → Nat → Prop) (v0 : Nat) (v1 : Nat) (v2 : Nat) (v3 : Nat) (v4 : Int) (h : gaH) (kc ks : Nat) : Prop := gLI h v0 102 (v4 + 1) (fun r1 => gLI h v0 102 (v4 + 2) (fun r2 => gCall 2 12 kc ks (fun c5 s6 => w_L_write v1 r1 r2 v3 h (fun r4 hp3 => gLI hp3 v0 102 (v4 + 1) (fun r7 => gLI hp3 v0 102 (v4 + 2) (fun r8 => gHas hp3 v2 7 ∧ gCall 1 16 c5 s6 (fun c11 s12 => w_X7_write v2 r7 r8 hp3 (fun r10 hp9 => w_L_law_J2201 G K27 v0 v1 v2 v3 v4 hp9 c11 s12))))))))
def w_L_law_L27 (G : gaG)  : Nat → (Nat → Nat → Nat → Nat → Int → gaH → Nat → Nat → Prop)
  | 0 => fun _ _ _ _ _ _ _ _ => False
  | n + 1 => fun v0 v1 v2 v3 v4 h kc ks => gAL h v0 102 (fun r1 => gR v4 ∧ gR (r1 - 5) ∧ (if (r1 - 5) < v4 then True else gLI h v0 102 v4 (fun r2 => gR (gAnd r2 63) ∧ ((gAnd r2 63) = 0 → w_L_law_J244 G (w_L_law_L27 G n) v0 v1 v2 v3 v4 h kc ks) ∧ ((gAnd r2 63) = 1 → w_L_law_J284 G (w_L_law_L27 G n) v0 v1 v2 v3 v4 h kc ks) ∧ ((gAnd r2 63) = 2 → w_L_law_J324 G (w_L_law_L27 G n) v0 v1 v2 v3 v4 h kc ks) ∧ ((gAnd r2 63) = 3 → w_L_law_J392 G (w_L_law_L27 G n) v0 v1 v2 v3 v4 h kc ks) ∧ ((gAnd r2 63) = 4 → w_L_law_J444 G (w_L_law_L27 G n) v0 v1 v2 v3 v4 h kc ks) ∧ ((gAnd r2 63) = 5 → w_L_law_J512 G (w_L_law_L27 G n) v0 v1 v2 v3 v4 h kc ks) ∧ ((gAnd r2 63) = 6 → w_L_law_J552 G (w_L_law_L27 G n) v0 v1 v2 v3 v4 h kc ks) ∧ ((gAnd r2 63) = 7 → w_L_law_J604 G (w_L_law_L27 G n) v0 v1 v2 v3 v4 h kc ks) ∧ ((gAnd r2 63) = 8 → w_L_law_J668 G (w_L_law_L27 G n) v0 v1 v2 v3 v4 h kc ks) ∧ ((gAnd r2 63) = 9 → w_L_law_J708 G (w_L_law_L27 G n) v0 v1 v2 v3 v4 h kc ks) ∧ ((gAnd r2 63) = 10 → w_L_law_J736 G (w_L_law_L27 G n) v0 v1 v2 v3 v4 h kc ks) ∧ ((gAnd r2 63) = 11 → w_L_law_J764 G (w_L_law_L27 G n) v0 v1 v2 v3 v4 h kc ks) ∧ ((gAnd r2 63) = 12 → w_L_law_J804 G (w_L_law_L27 G n) v0 v1 v2 v3 v4 h kc ks) ∧ ((gAnd r2 63) = 13 → w_L_law_J844 G (w_L_law_L27 G n) v0 v1 v2 v3 v4 h kc ks) ∧ ((gAnd r2 63) = 14 → w_L_law_J896 G (w_L_law_L27 G n) v0 v1 v2 v3 v4 h kc ks) ∧ ((gAnd r2 63) = 15 → w_L_law_J948 G (w_L_law_L27 G n) v0 v1 v2 v3 v4 h kc ks) ∧ ((gAnd r2 63) = 16 → w_L_law_J1000 G (w_L_law_L27 G n) v0 v1 v2 v3 v4 h kc ks) ∧ ((gAnd r2 63) = 17 → w_L_law_J1052 G (w_L_law_L27 G n) v0 v1 v2 v3 v4 h kc ks) ∧ ((gAnd r2 63) = 18 → w_L_law_J1116 G (w_L_law_L27 G n) v0 v1 v2 v3 v4 h kc ks) ∧ ((gAnd r2 63) = 19 → w_L_law_J1156 G (w_L_law_L27 G n) v0 v1 v2 v3 v4 h kc ks) ∧ ((gAnd r2 63) = 20 → w_L_law_J1184 G (w_L_law_L27 G n) v0 v1 v2 v3 v4 h kc ks) ∧ ((gAnd r2 63) = 21 → w_L_law_J1212 G (w_L_law_L27 G n) v0 v1 v2 v3 v4 h kc ks) ∧ ((gAnd r2 63) = 22 → w_L_law_J1240 G (w_L_law_L27 G n) v0 v1 v2 v3 v4 h kc ks) ∧ ((gAnd r2 63) = 23 → w_L_law_J1280 G (w_L_law_L27 G n) v0 v1 v2 v3 v4 h kc ks) ∧ ((gAnd r2 63) = 24 → w_L_law_J1308 G (w_L_law_L27 G n) v0 v1 v2 v3 v4 h kc ks) ∧ ((gAnd r2 63) = 25 → w_L_law_J1364 G (w_L_law_L27 G n) v0 v1 v2 v3 v4 h kc ks) ∧ ((gAnd r2 63) = 26 → w_L_law_J1416 G (w_L_law_L27 G n) v0 v1 v2 v3 v4 h kc ks) ∧ ((gAnd r2 63) = 27 → w_L_law_J1468 G (w_L_law_L27 G n) v0 v1 v2 v3 v4 h kc ks) ∧ ((gAnd r2 63) = 28 → w_L_law_J1508 G (w_L_law_L27 G n) v0 v1 v2 v3 v4 h kc ks) ∧ ((gAnd r2 63) = 29 → w_L_law_J1536 G (w_L_law_L27 G n) v0 v1 v2 v3 v4 h kc ks) ∧ ((gAnd r2 63) = 30 → w_L_law_J1604 G (w_L_law_L27 G n) v0 v1 v2 v3 v4 h kc ks) ∧ ((gAnd r2 63) = 31 → w_L_law_J1672 G (w_L_law_L27 G n) v0 v1 v2 v3 v4 h kc ks) ∧ ((gAnd r2 63) = 32 → w_L_law_J1700 G (w_L_law_L27 G n) v0 v1 v2 v3 v4 h kc ks) ∧ ((gAnd r2 63) = 33 → w_L_law_J1728 G (w_L_law_L27 G n) v0 v1 v2 v3 v4 h kc ks) ∧ ((gAnd r2 63) = 34 → w_L_law_J1756 G (w_L_law_L27 G n) v0 v1 v2 v3 v4 h kc ks) ∧ ((gAnd r2 63) = 35 → w_L_law_J1784 G (w_L_law_L27 G n) v0 v1 v2 v3 v4 h kc ks) ∧ ((gAnd r2 63) = 36 → w_L_law_J1812 G (w_L_law_L27 G n) v0 v1 v2 v3 v4 h kc ks) ∧ ((gAnd r2 63) = 37 → w_L_law_J1852 G (w_L_law_L27 G n) v0 v1 v2 v3 v4 h kc ks) ∧ ((gAnd r2 63) = 38 → w_L_law_J1880 G (w_L_law_L27 G n) v0 v1 v2 v3 v4 h kc ks) ∧ ((gAnd r2 63) = 39 → w_L_law_J1966 G (w_L_law_L27 G n) v0 v1 v2 v3 v4 h kc ks) ∧ ((gAnd r2 63) = 40 → w_L_law_J2022 G (w_L_law_L27 G n) v0 v1 v2 v3 v4 h kc ks) ∧ ((gAnd r2 63) = 41 → w_L_law_J2078 G (w_L_law_L27 G n) v0 v1 v2 v3 v4 h kc ks) ∧ ((gAnd r2 63) = 42 → w_L_law_J2106 G (w_L_law_L27 G n) v0 v1 v2 v3 v4 h kc ks) ∧ ((gAnd r2 63) = 43 → w_L_law_J2134 G (w_L_law_L27 G n) v0 v1 v2 v3 v4 h kc ks) ∧ ((gAnd r2 63) = 44 → w_L_law_J2162 G (w_L_law_L27 G n) v0 v1 v2 v3 v4 h kc ks) ∧ ((gAnd r2 63) = 45 → w_L_law_J2175 G (w_L_law_L27 G n) v0 v1 v2 v3 v4 h kc ks) ∧ ((gAnd r2 63) = 46 → w_L_law_J2188 G (w_L_law_L27 G n) v0 v1 v2 v3 v4 h kc ks) ∧ (((gAnd r2 63) < 0 ∨ 46 < (gAnd r2 63)) → w_L_law_J2201 G (w_L_law_L27 G n) v0 v1 v2 v3 v4 h kc ks))))
def w_L_law (G : gaG) (a0 : Nat) (h : gaH) (kc ks : Nat) : Prop := gNO h 5 9 ([.null, .null, .null, .null, .null, gi 0, gi 0, gi 0, gi 0]) kc ks (fun o1 hp2 c3 s4 => gCall 30 1058 c3 s4 (fun c7 s8 => w_X5_init o1 hp2 (fun hp5 => gNO hp5 7 8 ([.null, .null, .null, gi 0, gi 0, gi 0, gi 0, gi 0]) c7 s8 (fun o9 hp10 c11 s12 => gCall 8 512 c11 s12 (fun c15 s16 => w_X7_init o9 hp10 (fun hp13 => gNO hp13 6 2 ([.long 0, .null]) c15 s16 (fun o17 hp18 c19 s20 => w_X6_init o17 hp18 (fun hp21 => ∃ z, w_L_law_L27 G z a0 o1 o9 o17 0 hp21 c19 s20))))))))
theorem hl_L_law_J2201 {p : Program} {l : Launch} {e : Env} {s : State} {m : MethodId} {args : Array Value} {below : List Frame} {meth : Method} {c : Code} {G : gaG} {nm : String} {Z : State → Prop} (hst : l.stackTraces = false) (V : gaV p l s m args meth c G code RL 7 gaW ret nm) (hend : ∀ (pc : Nat) (lv : List (Option Value)) (h : gaH) (k j : Nat), decode code pc = .ok (.ireturn, 1) → gaP p l e room_1 s m args below meth c G 7 Z pc lv [gi 1] h k j) : ∀ (K27 : Nat → Nat → Nat → Nat → Int → gaH → Nat → Nat → Prop), ∀ (hK27 : ∀ (v0 : Nat) (v1 : Nat) (v2 : Nat) (v3 : Nat) (v4 : Int) (h : gaH) (kc ks : Nat), K27 v0 v1 v2 v3 v4 h kc ks → gaP p l e room_1 s m args below meth c G 7 Z 27 [some (.ref v0), some (.ref v1), some (.ref v2), some (.ref v3), some (gi v4), none, none] [] h kc ks), ∀ (v0 : Nat) (v1 : Nat) (v2 : Nat) (v3 : Nat) (v4 : Int) (h : gaH) (kc ks : Nat), w_L_law_J2201 G K27 v0 v1 v2 v3 v4 h kc ks → gaP p l e room_1 s m args below meth c G 7 Z 2201 [some (.ref v0), some (.ref v1), some (.ref v2), some (.ref v3), some (gi v4), none, none] [] h kc ks := by
  intro K27 hK27
  intro v0 v1 v2 v3 v4 h kc ks hw
  unfold w_L_law_J2201 at hw
  refine gi_iinc (lv2 := [some (.ref v0), some (.ref v1), some (.ref v2), some (.ref v3), some (gi (v4 + 5)), none, none]) V dL_law_2201 (by decide) rfl rfl rfl rfl ?_
  refine g_goto V dL_law_2204 rfl ?_
  exact hK27 v0 v1 v2 v3 (v4 + 5) h kc ks hw
theorem hl_L_law_J2188 {p : Program} {l : Launch} {e : Env} {s : State} {m : MethodId} {args : Array Value} {below : List Frame} {meth : Method} {c : Code} {G : gaG} {nm : String} {Z : State → Prop} (hst : l.stackTraces = false) (V : gaV p l s m args meth c G code RL 7 gaW ret nm) (hend : ∀ (pc : Nat) (lv : List (Option Value)) (h : gaH) (k j : Nat), decode code pc = .ok (.ireturn, 1) → gaP p l e room_1 s m args below meth c G 7 Z pc lv [gi 1] h k j) : ∀ (K27 : Nat → Nat → Nat → Nat → Int → gaH → Nat → Nat → Prop), ∀ (hK27 : ∀ (v0 : Nat) (v1 : Nat) (v2 : Nat) (v3 : Nat) (v4 : Int) (h : gaH) (kc ks : Nat), K27 v0 v1 v2 v3 v4 h kc ks → gaP p l e room_1 s m args below meth c G 7 Z 27 [some (.ref v0), some (.ref v1), some (.ref v2), some (.ref v3), some (gi v4), none, none] [] h kc ks), ∀ (v0 : Nat) (v1 : Nat) (v2 : Nat) (v3 : Nat) (v4 : Int) (h : gaH) (kc ks : Nat), w_L_law_J2188 G K27 v0 v1 v2 v3 v4 h kc ks → gaP p l e room_1 s m args below meth c G 7 Z 2188 [some (.ref v0), some (.ref v1), some (.ref v2), some (.ref v3), some (gi v4), none, none] [] h kc ks := by
  intro K27 hK27
  intro v0 v1 v2 v3 v4 h kc ks hw
  unfold w_L_law_J2188 at hw
  refine g_aload_n V dL_law_2188 rfl rfl ?_
  obtain ⟨hb, hw⟩ := hw
  obtain ⟨fb, hb⟩ := hb
  obtain ⟨hk, hj, c3, s4, ec, es, hw⟩ := hw
  refine g_callV (C := RX5) (T := TX5) (N := 9) (st := []) V (k_X5_digest hst hw) ww_2_82 ww_2_83 ww_2_84 ww_1_1 ww_2_85 hd_X5_digest ⟨by decide, by decide⟩ rfl (by decide) hb rfl rfl (ga_cat rfl) dL_law_2189 hk hj rfl ga_none (ga_kl (fun r2 hp1 hw => ?_))
  refine ga_re ec es ?_
  refine g_pop2 V dL_law_2192 rfl rfl ?_
  refine g_aload_n V dL_law_2193 rfl rfl ?_
  obtain ⟨hb, hw⟩ := hw
  obtain ⟨fb, hb⟩ := hb
  obtain ⟨hk, hj, c7, s8, ec, es, hw⟩ := hw
  refine g_callV (C := RX7) (T := TX7) (N := 8) (st := []) V (k_X7_digest hst hw) ww_7_65 ww_7_66 ww_7_67 ww_1_5 ww_7_68 hd_X7_digest ⟨by decide, by decide⟩ rfl (by decide) hb rfl rfl (ga_cat rfl) dL_law_2194 hk hj rfl ga_none (ga_kl (fun r6 hp5 hw => ?_))
  refine ga_re ec es ?_
  refine g_pop2 V dL_law_2197 rfl rfl ?_
  refine g_goto V dL_law_2198 rfl ?_
  exact hl_L_law_J2201 hst V hend K27 hK27 v0 v1 v2 v3 v4 hp5 c7 s8 hw
theorem hl_L_law_J2175 {p : Program} {l : Launch} {e : Env} {s : State} {m : MethodId} {args : Array Value} {below : List Frame} {meth : Method} {c : Code} {G : gaG} {nm : String} {Z : State → Prop} (hst : l.stackTraces = false) (V : gaV p l s m args meth c G code RL 7 gaW ret nm) (hend : ∀ (pc : Nat) (lv : List (Option Value)) (h : gaH) (k j : Nat), decode code pc = .ok (.ireturn, 1) → gaP p l e room_1 s m args below meth c G 7 Z pc lv [gi 1] h k j) : ∀ (K27 : Nat → Nat → Nat → Nat → Int → gaH → Nat → Nat → Prop), ∀ (hK27 : ∀ (v0 : Nat) (v1 : Nat) (v2 : Nat) (v3 : Nat) (v4 : Int) (h : gaH) (kc ks : Nat), K27 v0 v1 v2 v3 v4 h kc ks → gaP p l e room_1 s m args below meth c G 7 Z 27 [some (.ref v0), some (.ref v1), some (.ref v2), some (.ref v3), some (gi v4), none, none] [] h kc ks), ∀ (v0 : Nat) (v1 : Nat) (v2 : Nat) (v3 : Nat) (v4 : Int) (h : gaH) (kc ks : Nat), w_L_law_J2175 G K27 v0 v1 v2 v3 v4 h kc ks → gaP p l e room_1 s m args below meth c G 7 Z 2175 [some (.ref v0), some (.ref v1), some (.ref v2), some (.ref v3), some (gi v4), none, none] [] h kc ks := by
  intro K27 hK27
  intro v0 v1 v2 v3 v4 h kc ks hw
  unfold w_L_law_J2175 at hw
  refine g_aload_n V dL_law_2175 rfl rfl ?_
  obtain ⟨hb, hw⟩ := hw
  obtain ⟨fb, hb⟩ := hb
  obtain ⟨hk, hj, c3, s4, ec, es, hw⟩ := hw
  refine g_callV (C := RX5) (T := TX5) (N := 9) (st := []) V (k_X5_isSound hst hw) ww_1_142 ww_1_143 ww_1_144 ww_1_1 ww_1_145 hd_X5_isSound ⟨by decide, by decide⟩ rfl (by decide) hb rfl rfl (ga_cat rfl) dL_law_2176 hk hj rfl ga_none (ga_ki (fun r2 hp1 hw => ?_))
  refine ga_re ec es ?_
  refine g_pop V dL_law_2179 rfl rfl ?_
  refine g_aload_n V dL_law_2180 rfl rfl ?_
  obtain ⟨hb, hw⟩ := hw
  obtain ⟨fb, hb⟩ := hb
  obtain ⟨hk, hj, c7, s8, ec, es, hw⟩ := hw
  refine g_callV (C := RX7) (T := TX7) (N := 8) (st := []) V (k_X7_isSound hst hw) ww_7_57 ww_7_58 ww_7_59 ww_1_5 ww_7_60 hd_X7_isSound ⟨by decide, by decide⟩ rfl (by decide) hb rfl rfl (ga_cat rfl) dL_law_2181 hk hj rfl ga_none (ga_ki (fun r6 hp5 hw => ?_))
  refine ga_re ec es ?_
  refine g_pop V dL_law_2184 rfl rfl ?_
  refine g_goto V dL_law_2185 rfl ?_
  exact hl_L_law_J2201 hst V hend K27 hK27 v0 v1 v2 v3 v4 hp5 c7 s8 hw
theorem hl_L_law_J2162 {p : Program} {l : Launch} {e : Env} {s : State} {m : MethodId} {args : Array Value} {below : List Frame} {meth : Method} {c : Code} {G : gaG} {nm : String} {Z : State → Prop} (hst : l.stackTraces = false) (V : gaV p l s m args meth c G code RL 7 gaW ret nm) (hend : ∀ (pc : Nat) (lv : List (Option Value)) (h : gaH) (k j : Nat), decode code pc = .ok (.ireturn, 1) → gaP p l e room_1 s m args below meth c G 7 Z pc lv [gi 1] h k j) : ∀ (K27 : Nat → Nat → Nat → Nat → Int → gaH → Nat → Nat → Prop), ∀ (hK27 : ∀ (v0 : Nat) (v1 : Nat) (v2 : Nat) (v3 : Nat) (v4 : Int) (h : gaH) (kc ks : Nat), K27 v0 v1 v2 v3 v4 h kc ks → gaP p l e room_1 s m args below meth c G 7 Z 27 [some (.ref v0), some (.ref v1), some (.ref v2), some (.ref v3), some (gi v4), none, none] [] h kc ks), ∀ (v0 : Nat) (v1 : Nat) (v2 : Nat) (v3 : Nat) (v4 : Int) (h : gaH) (kc ks : Nat), w_L_law_J2162 G K27 v0 v1 v2 v3 v4 h kc ks → gaP p l e room_1 s m args below meth c G 7 Z 2162 [some (.ref v0), some (.ref v1), some (.ref v2), some (.ref v3), some (gi v4), none, none] [] h kc ks := by
  intro K27 hK27
  intro v0 v1 v2 v3 v4 h kc ks hw
  unfold w_L_law_J2162 at hw
  refine g_aload_n V dL_law_2162 rfl rfl ?_
  obtain ⟨hb, hw⟩ := hw
  obtain ⟨fb, hb⟩ := hb
  refine g_callV (C := RX5) (T := TX5) (N := 9) (st := []) V (k_X5_knock hst hw) ww_1_138 ww_1_139 ww_1_140 ww_1_1 ww_1_141 hd_X5_knock ⟨by decide, by decide⟩ rfl (by decide) hb rfl rfl (ga_cat rfl) dL_law_2163 (Nat.zero_le _) (Nat.zero_le _) rfl ga_none (ga_ki (fun r2 hp1 hw => ?_))
  refine g_pop V dL_law_2166 rfl rfl ?_
  refine g_aload_n V dL_law_2167 rfl rfl ?_
  obtain ⟨hb, hw⟩ := hw
  obtain ⟨fb, hb⟩ := hb
  refine g_callV (C := RX7) (T := TX7) (N := 8) (st := []) V (k_X7_knock hst hw) ww_7_53 ww_7_54 ww_7_55 ww_1_5 ww_7_56 hd_X7_knock ⟨by decide, by decide⟩ rfl (by decide) hb rfl rfl (ga_cat rfl) dL_law_2168 (Nat.zero_le _) (Nat.zero_le _) rfl ga_none (ga_ki (fun r4 hp3 hw => ?_))
  refine g_pop V dL_law_2171 rfl rfl ?_
  refine g_goto V dL_law_2172 rfl ?_
  exact hl_L_law_J2201 hst V hend K27 hK27 v0 v1 v2 v3 v4 hp3 kc ks hw
theorem hl_L_law_J2134 {p : Program} {l : Launch} {e : Env} {s : State} {m : MethodId} {args : Array Value} {below : List Frame} {meth : Method} {c : Code} {G : gaG} {nm : String} {Z : State → Prop} (hst : l.stackTraces = false) (V : gaV p l s m args meth c G code RL 7 gaW ret nm) (hend : ∀ (pc : Nat) (lv : List (Option Value)) (h : gaH) (k j : Nat), decode code pc = .ok (.ireturn, 1) → gaP p l e room_1 s m args below meth c G 7 Z pc lv [gi 1] h k j) : ∀ (K27 : Nat → Nat → Nat → Nat → Int → gaH → Nat → Nat → Prop), ∀ (hK27 : ∀ (v0 : Nat) (v1 : Nat) (v2 : Nat) (v3 : Nat) (v4 : Int) (h : gaH) (kc ks : Nat), K27 v0 v1 v2 v3 v4 h kc ks → gaP p l e room_1 s m args below meth c G 7 Z 27 [some (.ref v0), some (.ref v1), some (.ref v2), some (.ref v3), some (gi v4), none, none] [] h kc ks), ∀ (v0 : Nat) (v1 : Nat) (v2 : Nat) (v3 : Nat) (v4 : Int) (h : gaH) (kc ks : Nat), w_L_law_J2134 G K27 v0 v1 v2 v3 v4 h kc ks → gaP p l e room_1 s m args below meth c G 7 Z 2134 [some (.ref v0), some (.ref v1), some (.ref v2), some (.ref v3), some (gi v4), none, none] [] h kc ks := by
  intro K27 hK27
  intro v0 v1 v2 v3 v4 h kc ks hw
  unfold w_L_law_J2134 at hw
  refine g_aload_n V dL_law_2134 rfl rfl ?_
  refine g_aload_n V dL_law_2135 rfl rfl ?_
  refine g_iload V dL_law_2136 rfl rfl ?_
  refine g_iconst V (Int32.ofInt 1) dL_law_2138 rfl rfl ?_
  refine gi_iadd V dL_law_2139 rfl ?_
  obtain ⟨t9, vs, r1, ha, ht, h0, h9, hv, hw⟩ := hw
  refine gi_iaload V ha ht h0 h9 hv dL_law_2140 rfl ?_
  refine g_aload_n V dL_law_2141 rfl rfl ?_
  obtain ⟨hk, hj, c4, s5, ec, es, hw⟩ := hw
  refine g_callSX (st := []) V (k_L_house hst hw) ww_5_169 ww_5_170 ww_1_0 ww_5_171 hd_L_house ⟨by decide, by decide⟩ rfl rfl (ga_cat rfl) dL_law_2142 hk hj rfl ga_none (ga_ki (fun r3 hp2 hw => ?_))
  refine ga_re ec es ?_
  refine g_istore (lv2 := [some (.ref v0), some (.ref v1), some (.ref v2), some (.ref v3), some (gi v4), some (gi r3), none]) V dL_law_2145 (by decide) rfl rfl rfl ?_
  refine g_aload_n V dL_law_2147 rfl rfl ?_
  refine g_aload_n V dL_law_2148 rfl rfl ?_
  refine g_iload V dL_law_2149 rfl rfl ?_
  refine g_iconst V (Int32.ofInt 1) dL_law_2151 rfl rfl ?_
  refine gi_iadd V dL_law_2152 rfl ?_
  obtain ⟨t9, vs, r6, ha, ht, h0, h9, hv, hw⟩ := hw
  refine gi_iaload V ha ht h0 h9 hv dL_law_2153 rfl ?_
  obtain ⟨hb, hw⟩ := hw
  obtain ⟨fb, hb⟩ := hb
  refine g_callV (C := RX7) (T := TX7) (N := 8) (st := []) V (k_X7_house hst hw) ww_7_45 ww_7_46 ww_7_47 ww_1_5 ww_7_48 hd_X7_house ⟨by decide, by decide⟩ rfl (by decide) hb rfl rfl (ga_cat rfl) dL_law_2154 (Nat.zero_le _) (Nat.zero_le _) rfl ga_none (ga_ki (fun r8 hp7 hw => ?_))
  refine g_istore (lv2 := [some (.ref v0), some (.ref v1), some (.ref v2), some (.ref v3), some (gi v4), some (gi r3), some (gi r8)]) V dL_law_2157 (by decide) rfl rfl rfl ?_
  refine g_goto V dL_law_2159 rfl ?_
  refine g_less (bs := [true, true, true, true, true, false, false]) (lv2 := [some (.ref v0), some (.ref v1), some (.ref v2), some (.ref v3), some (gi v4), none, none]) rfl ?_
  exact hl_L_law_J2201 hst V hend K27 hK27 v0 v1 v2 v3 v4 hp7 c4 s5 hw
theorem hl_L_law_J2106 {p : Program} {l : Launch} {e : Env} {s : State} {m : MethodId} {args : Array Value} {below : List Frame} {meth : Method} {c : Code} {G : gaG} {nm : String} {Z : State → Prop} (hst : l.stackTraces = false) (V : gaV p l s m args meth c G code RL 7 gaW ret nm) (hend : ∀ (pc : Nat) (lv : List (Option Value)) (h : gaH) (k j : Nat), decode code pc = .ok (.ireturn, 1) → gaP p l e room_1 s m args below meth c G 7 Z pc lv [gi 1] h k j) : ∀ (K27 : Nat → Nat → Nat → Nat → Int → gaH → Nat → Nat → Prop), ∀ (hK27 : ∀ (v0 : Nat) (v1 : Nat) (v2 : Nat) (v3 : Nat) (v4 : Int) (h : gaH) (kc ks : Nat), K27 v0 v1 v2 v3 v4 h kc ks → gaP p l e room_1 s m args below meth c G 7 Z 27 [some (.ref v0), some (.ref v1), some (.ref v2), some (.ref v3), some (gi v4), none, none] [] h kc ks), ∀ (v0 : Nat) (v1 : Nat) (v2 : Nat) (v3 : Nat) (v4 : Int) (h : gaH) (kc ks : Nat), w_L_law_J2106 G K27 v0 v1 v2 v3 v4 h kc ks → gaP p l e room_1 s m args below meth c G 7 Z 2106 [some (.ref v0), some (.ref v1), some (.ref v2), some (.ref v3), some (gi v4), none, none] [] h kc ks := by
  intro K27 hK27
  intro v0 v1 v2 v3 v4 h kc ks hw
  unfold w_L_law_J2106 at hw
  refine g_aload_n V dL_law_2106 rfl rfl ?_
  refine g_aload_n V dL_law_2107 rfl rfl ?_
  refine g_iload V dL_law_2108 rfl rfl ?_
  refine g_iconst V (Int32.ofInt 1) dL_law_2110 rfl rfl ?_
  refine gi_iadd V dL_law_2111 rfl ?_
  obtain ⟨t9, vs, r1, ha, ht, h0, h9, hv, hw⟩ := hw
  refine gi_iaload V ha ht h0 h9 hv dL_law_2112 rfl ?_
  refine g_aload_n V dL_law_2113 rfl rfl ?_
  obtain ⟨hk, hj, c4, s5, ec, es, hw⟩ := hw
  refine g_callSX (st := []) V (k_L_alike hst hw) ww_5_165 ww_5_166 ww_1_0 ww_5_167 hd_L_alike ⟨by decide, by decide⟩ rfl rfl (ga_cat rfl) dL_law_2114 hk hj rfl ga_none (ga_ki (fun r3 hp2 hw => ?_))
  refine ga_re ec es ?_
  refine g_istore (lv2 := [some (.ref v0), some (.ref v1), some (.ref v2), some (.ref v3), some (gi v4), some (gi r3), none]) V dL_law_2117 (by decide) rfl rfl rfl ?_
  refine g_aload_n V dL_law_2119 rfl rfl ?_
  refine g_aload_n V dL_law_2120 rfl rfl ?_
  refine g_iload V dL_law_2121 rfl rfl ?_
  refine g_iconst V (Int32.ofInt 1) dL_law_2123 rfl rfl ?_
  refine gi_iadd V dL_law_2124 rfl ?_
  obtain ⟨t9, vs, r6, ha, ht, h0, h9, hv, hw⟩ := hw
  refine gi_iaload V ha ht h0 h9 hv dL_law_2125 rfl ?_
  obtain ⟨hb, hw⟩ := hw
  obtain ⟨fb, hb⟩ := hb
  obtain ⟨hk, hj, c9, s10, ec, es, hw⟩ := hw
  refine g_callV (C := RX7) (T := TX7) (N := 8) (st := []) V (k_X7_alike hst hw) ww_7_38 ww_7_39 ww_7_40 ww_1_5 ww_7_41 hd_X7_alike ⟨by decide, by decide⟩ rfl (by decide) hb rfl rfl (ga_cat rfl) dL_law_2126 hk hj rfl ga_none (ga_ki (fun r8 hp7 hw => ?_))
  refine ga_re ec es ?_
  refine g_istore (lv2 := [some (.ref v0), some (.ref v1), some (.ref v2), some (.ref v3), some (gi v4), some (gi r3), some (gi r8)]) V dL_law_2129 (by decide) rfl rfl rfl ?_
  refine g_goto V dL_law_2131 rfl ?_
  refine g_less (bs := [true, true, true, true, true, false, false]) (lv2 := [some (.ref v0), some (.ref v1), some (.ref v2), some (.ref v3), some (gi v4), none, none]) rfl ?_
  exact hl_L_law_J2201 hst V hend K27 hK27 v0 v1 v2 v3 v4 hp7 c9 s10 hw
theorem hl_L_law_J2078 {p : Program} {l : Launch} {e : Env} {s : State} {m : MethodId} {args : Array Value} {below : List Frame} {meth : Method} {c : Code} {G : gaG} {nm : String} {Z : State → Prop} (hst : l.stackTraces = false) (V : gaV p l s m args meth c G code RL 7 gaW ret nm) (hend : ∀ (pc : Nat) (lv : List (Option Value)) (h : gaH) (k j : Nat), decode code pc = .ok (.ireturn, 1) → gaP p l e room_1 s m args below meth c G 7 Z pc lv [gi 1] h k j) : ∀ (K27 : Nat → Nat → Nat → Nat → Int → gaH → Nat → Nat → Prop), ∀ (hK27 : ∀ (v0 : Nat) (v1 : Nat) (v2 : Nat) (v3 : Nat) (v4 : Int) (h : gaH) (kc ks : Nat), K27 v0 v1 v2 v3 v4 h kc ks → gaP p l e room_1 s m args below meth c G 7 Z 27 [some (.ref v0), some (.ref v1), some (.ref v2), some (.ref v3), some (gi v4), none, none] [] h kc ks), ∀ (v0 : Nat) (v1 : Nat) (v2 : Nat) (v3 : Nat) (v4 : Int) (h : gaH) (kc ks : Nat), w_L_law_J2078 G K27 v0 v1 v2 v3 v4 h kc ks → gaP p l e room_1 s m args below meth c G 7 Z 2078 [some (.ref v0), some (.ref v1), some (.ref v2), some (.ref v3), some (gi v4), none, none] [] h kc ks := by
  intro K27 hK27
  intro v0 v1 v2 v3 v4 h kc ks hw
  unfold w_L_law_J2078 at hw
  refine g_aload_n V dL_law_2078 rfl rfl ?_
  refine g_aload_n V dL_law_2079 rfl rfl ?_
  refine g_iload V dL_law_2080 rfl rfl ?_
  refine g_iconst V (Int32.ofInt 1) dL_law_2082 rfl rfl ?_
  refine gi_iadd V dL_law_2083 rfl ?_
  obtain ⟨t9, vs, r1, ha, ht, h0, h9, hv, hw⟩ := hw
  refine gi_iaload V ha ht h0 h9 hv dL_law_2084 rfl ?_
  refine g_aload_n V dL_law_2085 rfl rfl ?_
  obtain ⟨hk, hj, c4, s5, ec, es, hw⟩ := hw
  refine g_callSX (st := []) V (k_L_cross hst hw) ww_5_161 ww_5_162 ww_1_0 ww_5_163 hd_L_cross ⟨by decide, by decide⟩ rfl rfl (ga_cat rfl) dL_law_2086 hk hj rfl ga_none (ga_ki (fun r3 hp2 hw => ?_))
  refine ga_re ec es ?_
  refine g_istore (lv2 := [some (.ref v0), some (.ref v1), some (.ref v2), some (.ref v3), some (gi v4), some (gi r3), none]) V dL_law_2089 (by decide) rfl rfl rfl ?_
  refine g_aload_n V dL_law_2091 rfl rfl ?_
  refine g_aload_n V dL_law_2092 rfl rfl ?_
  refine g_iload V dL_law_2093 rfl rfl ?_
  refine g_iconst V (Int32.ofInt 1) dL_law_2095 rfl rfl ?_
  refine gi_iadd V dL_law_2096 rfl ?_
  obtain ⟨t9, vs, r6, ha, ht, h0, h9, hv, hw⟩ := hw
  refine gi_iaload V ha ht h0 h9 hv dL_law_2097 rfl ?_
  obtain ⟨hb, hw⟩ := hw
  obtain ⟨fb, hb⟩ := hb
  obtain ⟨hk, hj, c9, s10, ec, es, hw⟩ := hw
  refine g_callV (C := RX7) (T := TX7) (N := 8) (st := []) V (k_X7_cross hst hw) ww_7_31 ww_7_32 ww_7_33 ww_1_5 ww_7_34 hd_X7_cross ⟨by decide, by decide⟩ rfl (by decide) hb rfl rfl (ga_cat rfl) dL_law_2098 hk hj rfl ga_none (ga_ki (fun r8 hp7 hw => ?_))
  refine ga_re ec es ?_
  refine g_istore (lv2 := [some (.ref v0), some (.ref v1), some (.ref v2), some (.ref v3), some (gi v4), some (gi r3), some (gi r8)]) V dL_law_2101 (by decide) rfl rfl rfl ?_
  refine g_goto V dL_law_2103 rfl ?_
  refine g_less (bs := [true, true, true, true, true, false, false]) (lv2 := [some (.ref v0), some (.ref v1), some (.ref v2), some (.ref v3), some (gi v4), none, none]) rfl ?_
  exact hl_L_law_J2201 hst V hend K27 hK27 v0 v1 v2 v3 v4 hp7 c9 s10 hw
theorem hl_L_law_J2070 {p : Program} {l : Launch} {e : Env} {s : State} {m : MethodId} {args : Array Value} {below : List Frame} {meth : Method} {c : Code} {G : gaG} {nm : String} {Z : State → Prop} (hst : l.stackTraces = false) (V : gaV p l s m args meth c G code RL 7 gaW ret nm) (hend : ∀ (pc : Nat) (lv : List (Option Value)) (h : gaH) (k j : Nat), decode code pc = .ok (.ireturn, 1) → gaP p l e room_1 s m args below meth c G 7 Z pc lv [gi 1] h k j) : ∀ (K27 : Nat → Nat → Nat → Nat → Int → gaH → Nat → Nat → Prop), ∀ (hK27 : ∀ (v0 : Nat) (v1 : Nat) (v2 : Nat) (v3 : Nat) (v4 : Int) (h : gaH) (kc ks : Nat), K27 v0 v1 v2 v3 v4 h kc ks → gaP p l e room_1 s m args below meth c G 7 Z 27 [some (.ref v0), some (.ref v1), some (.ref v2), some (.ref v3), some (gi v4), none, none] [] h kc ks), ∀ (v0 : Nat) (v1 : Nat) (v2 : Nat) (v3 : Nat) (v4 : Int) (t0 : Nat) (t1 : Int) (t2 : Int) (h : gaH) (kc ks : Nat), w_L_law_J2070 G K27 v0 v1 v2 v3 v4 t0 t1 t2 h kc ks → gaP p l e room_1 s m args below meth c G 7 Z 2070 [some (.ref v0), some (.ref v1), some (.ref v2), some (.ref v3), some (gi v4), none, none] [gi t2, gi t1, .ref t0] h kc ks := by
  intro K27 hK27
  intro v0 v1 v2 v3 v4 t0 t1 t2 h kc ks hw
  unfold w_L_law_J2070 at hw
  obtain ⟨hb, hw⟩ := hw
  obtain ⟨fb, hb⟩ := hb
  obtain ⟨hk, hj, c3, s4, ec, es, hw⟩ := hw
  refine g_callV (C := RX7) (T := TX7) (N := 8) (st := []) V (k_X7_ups hst hw) ww_7_27 ww_7_28 ww_7_29 ww_1_5 ww_7_30 hd_X7_ups ⟨by decide, by decide⟩ rfl (by decide) hb rfl rfl (ga_cat rfl) dL_law_2070 hk hj rfl ga_none (ga_ki (fun r2 hp1 hw => ?_))
  refine ga_re ec es ?_
  refine g_istore (lv2 := [some (.ref v0), some (.ref v1), some (.ref v2), some (.ref v3), some (gi v4), none, some (gi r2)]) V dL_law_2073 (by decide) rfl rfl rfl ?_
  refine g_goto V dL_law_2075 rfl ?_
  refine g_less (bs := [true, true, true, true, true, true, false]) (lv2 := [some (.ref v0), some (.ref v1), some (.ref v2), some (.ref v3), some (gi v4), none, none]) rfl ?_
  exact hl_L_law_J2201 hst V hend K27 hK27 v0 v1 v2 v3 v4 hp1 c3 s4 hw
theorem hl_L_law_J2043 {p : Program} {l : Launch} {e : Env} {s : State} {m : MethodId} {args : Array Value} {below : List Frame} {meth : Method} {c : Code} {G : gaG} {nm : String} {Z : State → Prop} (hst : l.stackTraces = false) (V : gaV p l s m args meth c G code RL 7 gaW ret nm) (hend : ∀ (pc : Nat) (lv : List (Option Value)) (h : gaH) (k j : Nat), decode code pc = .ok (.ireturn, 1) → gaP p l e room_1 s m args below meth c G 7 Z pc lv [gi 1] h k j) : ∀ (K27 : Nat → Nat → Nat → Nat → Int → gaH → Nat → Nat → Prop), ∀ (hK27 : ∀ (v0 : Nat) (v1 : Nat) (v2 : Nat) (v3 : Nat) (v4 : Int) (h : gaH) (kc ks : Nat), K27 v0 v1 v2 v3 v4 h kc ks → gaP p l e room_1 s m args below meth c G 7 Z 27 [some (.ref v0), some (.ref v1), some (.ref v2), some (.ref v3), some (gi v4), none, none] [] h kc ks), ∀ (v0 : Nat) (v1 : Nat) (v2 : Nat) (v3 : Nat) (v4 : Int) (t0 : Nat) (t1 : Int) (t2 : Int) (h : gaH) (kc ks : Nat), w_L_law_J2043 G K27 v0 v1 v2 v3 v4 t0 t1 t2 h kc ks → gaP p l e room_1 s m args below meth c G 7 Z 2043 [some (.ref v0), some (.ref v1), some (.ref v2), some (.ref v3), some (gi v4), none, none] [gi t2, gi t1, .ref t0] h kc ks := by
  intro K27 hK27
  intro v0 v1 v2 v3 v4 t0 t1 t2 h kc ks hw
  unfold w_L_law_J2043 at hw
  refine g_aload_n V dL_law_2043 rfl rfl ?_
  obtain ⟨hk, hj, c3, s4, ec, es, hw⟩ := hw
  refine g_callSX (st := []) V (k_L_ups hst hw) ww_5_157 ww_5_158 ww_1_0 ww_5_159 hd_L_ups ⟨by decide, by decide⟩ rfl rfl (ga_cat rfl) dL_law_2044 hk hj rfl ga_none (ga_ki (fun r2 hp1 hw => ?_))
  refine ga_re ec es ?_
  refine g_istore (lv2 := [some (.ref v0), some (.ref v1), some (.ref v2), some (.ref v3), some (gi v4), some (gi r2), none]) V dL_law_2047 (by decide) rfl rfl rfl ?_
  refine g_aload_n V dL_law_2049 rfl rfl ?_
  refine g_aload_n V dL_law_2050 rfl rfl ?_
  refine g_iload V dL_law_2051 rfl rfl ?_
  refine g_iconst V (Int32.ofInt 1) dL_law_2053 rfl rfl ?_
  refine gi_iadd V dL_law_2054 rfl ?_
  obtain ⟨t9, vs, r5, ha, ht, h0, h9, hv, hw⟩ := hw
  refine gi_iaload V ha ht h0 h9 hv dL_law_2055 rfl ?_
  refine g_aload_n V dL_law_2056 rfl rfl ?_
  refine g_iload V dL_law_2057 rfl rfl ?_
  refine g_iconst V (Int32.ofInt 2) dL_law_2059 rfl rfl ?_
  refine gi_iadd V dL_law_2060 rfl ?_
  obtain ⟨t9, vs, r6, ha, ht, h0, h9, hv, hw⟩ := hw
  refine gi_iaload V ha ht h0 h9 hv dL_law_2061 rfl ?_
  obtain ⟨hx0, hw⟩ := hw
  refine gi_if_eq V dL_law_2062 rfl rfl hx0 (fun q => ?_) (fun q => ?_)
  · have hw := ga_t q hw
    refine g_iconst V (Int32.ofInt 0) dL_law_2069 rfl rfl ?_
    refine g_less (bs := [true, true, true, true, true, false, true]) (lv2 := [some (.ref v0), some (.ref v1), some (.ref v2), some (.ref v3), some (gi v4), none, none]) rfl ?_
    exact hl_L_law_J2070 hst V hend K27 hK27 v0 v1 v2 v3 v4 v2 r5 0 hp1 c3 s4 hw
  · have hw := ga_f q hw
    refine g_iconst V (Int32.ofInt 1) dL_law_2065 rfl rfl ?_
    refine g_goto V dL_law_2066 rfl ?_
    refine g_less (bs := [true, true, true, true, true, false, true]) (lv2 := [some (.ref v0), some (.ref v1), some (.ref v2), some (.ref v3), some (gi v4), none, none]) rfl ?_
    exact hl_L_law_J2070 hst V hend K27 hK27 v0 v1 v2 v3 v4 v2 r5 1 hp1 c3 s4 hw
theorem hl_L_law_J2022 {p : Program} {l : Launch} {e : Env} {s : State} {m : MethodId} {args : Array Value} {below : List Frame} {meth : Method} {c : Code} {G : gaG} {nm : String} {Z : State → Prop} (hst : l.stackTraces = false) (V : gaV p l s m args meth c G code RL 7 gaW ret nm) (hend : ∀ (pc : Nat) (lv : List (Option Value)) (h : gaH) (k j : Nat), decode code pc = .ok (.ireturn, 1) → gaP p l e room_1 s m args below meth c G 7 Z pc lv [gi 1] h k j) : ∀ (K27 : Nat → Nat → Nat → Nat → Int → gaH → Nat → Nat → Prop), ∀ (hK27 : ∀ (v0 : Nat) (v1 : Nat) (v2 : Nat) (v3 : Nat) (v4 : Int) (h : gaH) (kc ks : Nat), K27 v0 v1 v2 v3 v4 h kc ks → gaP p l e room_1 s m args below meth c G 7 Z 27 [some (.ref v0), some (.ref v1), some (.ref v2), some (.ref v3), some (gi v4), none, none] [] h kc ks), ∀ (v0 : Nat) (v1 : Nat) (v2 : Nat) (v3 : Nat) (v4 : Int) (h : gaH) (kc ks : Nat), w_L_law_J2022 G K27 v0 v1 v2 v3 v4 h kc ks → gaP p l e room_1 s m args below meth c G 7 Z 2022 [some (.ref v0), some (.ref v1), some (.ref v2), some (.ref v3), some (gi v4), none, none] [] h kc ks := by
  intro K27 hK27
  intro v0 v1 v2 v3 v4 h kc ks hw
  unfold w_L_law_J2022 at hw
  refine g_aload_n V dL_law_2022 rfl rfl ?_
  refine g_aload_n V dL_law_2023 rfl rfl ?_
  refine g_iload V dL_law_2024 rfl rfl ?_
  refine g_iconst V (Int32.ofInt 1) dL_law_2026 rfl rfl ?_
  refine gi_iadd V dL_law_2027 rfl ?_
  obtain ⟨t9, vs, r1, ha, ht, h0, h9, hv, hw⟩ := hw
  refine gi_iaload V ha ht h0 h9 hv dL_law_2028 rfl ?_
  refine g_aload_n V dL_law_2029 rfl rfl ?_
  refine g_iload V dL_law_2030 rfl rfl ?_
  refine g_iconst V (Int32.ofInt 2) dL_law_2032 rfl rfl ?_
  refine gi_iadd V dL_law_2033 rfl ?_
  obtain ⟨t9, vs, r2, ha, ht, h0, h9, hv, hw⟩ := hw
  refine gi_iaload V ha ht h0 h9 hv dL_law_2034 rfl ?_
  obtain ⟨hx0, hw⟩ := hw
  refine gi_if_eq V dL_law_2035 rfl rfl hx0 (fun q => ?_) (fun q => ?_)
  · have hw := ga_t q hw
    refine g_iconst V (Int32.ofInt 0) dL_law_2042 rfl rfl ?_
    exact hl_L_law_J2043 hst V hend K27 hK27 v0 v1 v2 v3 v4 v1 r1 0 h kc ks hw
  · have hw := ga_f q hw
    refine g_iconst V (Int32.ofInt 1) dL_law_2038 rfl rfl ?_
    refine g_goto V dL_law_2039 rfl ?_
    exact hl_L_law_J2043 hst V hend K27 hK27 v0 v1 v2 v3 v4 v1 r1 1 h kc ks hw
theorem hl_L_law_J2014 {p : Program} {l : Launch} {e : Env} {s : State} {m : MethodId} {args : Array Value} {below : List Frame} {meth : Method} {c : Code} {G : gaG} {nm : String} {Z : State → Prop} (hst : l.stackTraces = false) (V : gaV p l s m args meth c G code RL 7 gaW ret nm) (hend : ∀ (pc : Nat) (lv : List (Option Value)) (h : gaH) (k j : Nat), decode code pc = .ok (.ireturn, 1) → gaP p l e room_1 s m args below meth c G 7 Z pc lv [gi 1] h k j) : ∀ (K27 : Nat → Nat → Nat → Nat → Int → gaH → Nat → Nat → Prop), ∀ (hK27 : ∀ (v0 : Nat) (v1 : Nat) (v2 : Nat) (v3 : Nat) (v4 : Int) (h : gaH) (kc ks : Nat), K27 v0 v1 v2 v3 v4 h kc ks → gaP p l e room_1 s m args below meth c G 7 Z 27 [some (.ref v0), some (.ref v1), some (.ref v2), some (.ref v3), some (gi v4), none, none] [] h kc ks), ∀ (v0 : Nat) (v1 : Nat) (v2 : Nat) (v3 : Nat) (v4 : Int) (t0 : Nat) (t1 : Int) (t2 : Int) (h : gaH) (kc ks : Nat), w_L_law_J2014 G K27 v0 v1 v2 v3 v4 t0 t1 t2 h kc ks → gaP p l e room_1 s m args below meth c G 7 Z 2014 [some (.ref v0), some (.ref v1), some (.ref v2), some (.ref v3), some (gi v4), none, none] [gi t2, gi t1, .ref t0] h kc ks := by
  intro K27 hK27
  intro v0 v1 v2 v3 v4 t0 t1 t2 h kc ks hw
  unfold w_L_law_J2014 at hw
  obtain ⟨hb, hw⟩ := hw
  obtain ⟨fb, hb⟩ := hb
  obtain ⟨hk, hj, c3, s4, ec, es, hw⟩ := hw
  refine g_callV (C := RX7) (T := TX7) (N := 8) (st := []) V (k_X7_size hst hw) ww_7_23 ww_7_24 ww_7_25 ww_1_5 ww_7_26 hd_X7_size ⟨by decide, by decide⟩ rfl (by decide) hb rfl rfl (ga_cat rfl) dL_law_2014 hk hj rfl ga_none (ga_ki (fun r2 hp1 hw => ?_))
  refine ga_re ec es ?_
  refine g_istore (lv2 := [some (.ref v0), some (.ref v1), some (.ref v2), some (.ref v3), some (gi v4), none, some (gi r2)]) V dL_law_2017 (by decide) rfl rfl rfl ?_
  refine g_goto V dL_law_2019 rfl ?_
  refine g_less (bs := [true, true, true, true, true, true, false]) (lv2 := [some (.ref v0), some (.ref v1), some (.ref v2), some (.ref v3), some (gi v4), none, none]) rfl ?_
  exact hl_L_law_J2201 hst V hend K27 hK27 v0 v1 v2 v3 v4 hp1 c3 s4 hw
theorem hl_L_law_J1987 {p : Program} {l : Launch} {e : Env} {s : State} {m : MethodId} {args : Array Value} {below : List Frame} {meth : Method} {c : Code} {G : gaG} {nm : String} {Z : State → Prop} (hst : l.stackTraces = false) (V : gaV p l s m args meth c G code RL 7 gaW ret nm) (hend : ∀ (pc : Nat) (lv : List (Option Value)) (h : gaH) (k j : Nat), decode code pc = .ok (.ireturn, 1) → gaP p l e room_1 s m args below meth c G 7 Z pc lv [gi 1] h k j) : ∀ (K27 : Nat → Nat → Nat → Nat → Int → gaH → Nat → Nat → Prop), ∀ (hK27 : ∀ (v0 : Nat) (v1 : Nat) (v2 : Nat) (v3 : Nat) (v4 : Int) (h : gaH) (kc ks : Nat), K27 v0 v1 v2 v3 v4 h kc ks → gaP p l e room_1 s m args below meth c G 7 Z 27 [some (.ref v0), some (.ref v1), some (.ref v2), some (.ref v3), some (gi v4), none, none] [] h kc ks), ∀ (v0 : Nat) (v1 : Nat) (v2 : Nat) (v3 : Nat) (v4 : Int) (t0 : Nat) (t1 : Int) (t2 : Int) (h : gaH) (kc ks : Nat), w_L_law_J1987 G K27 v0 v1 v2 v3 v4 t0 t1 t2 h kc ks → gaP p l e room_1 s m args below meth c G 7 Z 1987 [some (.ref v0), some (.ref v1), some (.ref v2), some (.ref v3), some (gi v4), none, none] [gi t2, gi t1, .ref t0] h kc ks := by
  intro K27 hK27
  intro v0 v1 v2 v3 v4 t0 t1 t2 h kc ks hw
  unfold w_L_law_J1987 at hw
  refine g_aload_n V dL_law_1987 rfl rfl ?_
  obtain ⟨hk, hj, c3, s4, ec, es, hw⟩ := hw
  refine g_callSX (st := []) V (k_L_size hst hw) ww_5_153 ww_5_154 ww_1_0 ww_5_155 hd_L_size ⟨by decide, by decide⟩ rfl rfl (ga_cat rfl) dL_law_1988 hk hj rfl ga_none (ga_ki (fun r2 hp1 hw => ?_))
  refine ga_re ec es ?_
  refine g_istore (lv2 := [some (.ref v0), some (.ref v1), some (.ref v2), some (.ref v3), some (gi v4), some (gi r2), none]) V dL_law_1991 (by decide) rfl rfl rfl ?_
  refine g_aload_n V dL_law_1993 rfl rfl ?_
  refine g_aload_n V dL_law_1994 rfl rfl ?_
  refine g_iload V dL_law_1995 rfl rfl ?_
  refine g_iconst V (Int32.ofInt 1) dL_law_1997 rfl rfl ?_
  refine gi_iadd V dL_law_1998 rfl ?_
  obtain ⟨t9, vs, r5, ha, ht, h0, h9, hv, hw⟩ := hw
  refine gi_iaload V ha ht h0 h9 hv dL_law_1999 rfl ?_
  refine g_aload_n V dL_law_2000 rfl rfl ?_
  refine g_iload V dL_law_2001 rfl rfl ?_
  refine g_iconst V (Int32.ofInt 2) dL_law_2003 rfl rfl ?_
  refine gi_iadd V dL_law_2004 rfl ?_
  obtain ⟨t9, vs, r6, ha, ht, h0, h9, hv, hw⟩ := hw
  refine gi_iaload V ha ht h0 h9 hv dL_law_2005 rfl ?_
  obtain ⟨hx0, hw⟩ := hw
  refine gi_if_eq V dL_law_2006 rfl rfl hx0 (fun q => ?_) (fun q => ?_)
  · have hw := ga_t q hw
    refine g_iconst V (Int32.ofInt 0) dL_law_2013 rfl rfl ?_
    refine g_less (bs := [true, true, true, true, true, false, true]) (lv2 := [some (.ref v0), some (.ref v1), some (.ref v2), some (.ref v3), some (gi v4), none, none]) rfl ?_
    exact hl_L_law_J2014 hst V hend K27 hK27 v0 v1 v2 v3 v4 v2 r5 0 hp1 c3 s4 hw
  · have hw := ga_f q hw
    refine g_iconst V (Int32.ofInt 1) dL_law_2009 rfl rfl ?_
    refine g_goto V dL_law_2010 rfl ?_
    refine g_less (bs := [true, true, true, true, true, false, true]) (lv2 := [some (.ref v0), some (.ref v1), some (.ref v2), some (.ref v3), some (gi v4), none, none]) rfl ?_
    exact hl_L_law_J2014 hst V hend K27 hK27 v0 v1 v2 v3 v4 v2 r5 1 hp1 c3 s4 hw
theorem hl_L_law_J1966 {p : Program} {l : Launch} {e : Env} {s : State} {m : MethodId} {args : Array Value} {below : List Frame} {meth : Method} {c : Code} {G : gaG} {nm : String} {Z : State → Prop} (hst : l.stackTraces = false) (V : gaV p l s m args meth c G code RL 7 gaW ret nm) (hend : ∀ (pc : Nat) (lv : List (Option Value)) (h : gaH) (k j : Nat), decode code pc = .ok (.ireturn, 1) → gaP p l e room_1 s m args below meth c G 7 Z pc lv [gi 1] h k j) : ∀ (K27 : Nat → Nat → Nat → Nat → Int → gaH → Nat → Nat → Prop), ∀ (hK27 : ∀ (v0 : Nat) (v1 : Nat) (v2 : Nat) (v3 : Nat) (v4 : Int) (h : gaH) (kc ks : Nat), K27 v0 v1 v2 v3 v4 h kc ks → gaP p l e room_1 s m args below meth c G 7 Z 27 [some (.ref v0), some (.ref v1), some (.ref v2), some (.ref v3), some (gi v4), none, none] [] h kc ks), ∀ (v0 : Nat) (v1 : Nat) (v2 : Nat) (v3 : Nat) (v4 : Int) (h : gaH) (kc ks : Nat), w_L_law_J1966 G K27 v0 v1 v2 v3 v4 h kc ks → gaP p l e room_1 s m args below meth c G 7 Z 1966 [some (.ref v0), some (.ref v1), some (.ref v2), some (.ref v3), some (gi v4), none, none] [] h kc ks := by
  intro K27 hK27
  intro v0 v1 v2 v3 v4 h kc ks hw
  unfold w_L_law_J1966 at hw
  refine g_aload_n V dL_law_1966 rfl rfl ?_
  refine g_aload_n V dL_law_1967 rfl rfl ?_
  refine g_iload V dL_law_1968 rfl rfl ?_
  refine g_iconst V (Int32.ofInt 1) dL_law_1970 rfl rfl ?_
  refine gi_iadd V dL_law_1971 rfl ?_
  obtain ⟨t9, vs, r1, ha, ht, h0, h9, hv, hw⟩ := hw
  refine gi_iaload V ha ht h0 h9 hv dL_law_1972 rfl ?_
  refine g_aload_n V dL_law_1973 rfl rfl ?_
  refine g_iload V dL_law_1974 rfl rfl ?_
  refine g_iconst V (Int32.ofInt 2) dL_law_1976 rfl rfl ?_
  refine gi_iadd V dL_law_1977 rfl ?_
  obtain ⟨t9, vs, r2, ha, ht, h0, h9, hv, hw⟩ := hw
  refine gi_iaload V ha ht h0 h9 hv dL_law_1978 rfl ?_
  obtain ⟨hx0, hw⟩ := hw
  refine gi_if_eq V dL_law_1979 rfl rfl hx0 (fun q => ?_) (fun q => ?_)
  · have hw := ga_t q hw
    refine g_iconst V (Int32.ofInt 0) dL_law_1986 rfl rfl ?_
    exact hl_L_law_J1987 hst V hend K27 hK27 v0 v1 v2 v3 v4 v1 r1 0 h kc ks hw
  · have hw := ga_f q hw
    refine g_iconst V (Int32.ofInt 1) dL_law_1982 rfl rfl ?_
    refine g_goto V dL_law_1983 rfl ?_
    exact hl_L_law_J1987 hst V hend K27 hK27 v0 v1 v2 v3 v4 v1 r1 1 h kc ks hw
theorem hl_L_law_J1928 {p : Program} {l : Launch} {e : Env} {s : State} {m : MethodId} {args : Array Value} {below : List Frame} {meth : Method} {c : Code} {G : gaG} {nm : String} {Z : State → Prop} (hst : l.stackTraces = false) (V : gaV p l s m args meth c G code RL 7 gaW ret nm) (hend : ∀ (pc : Nat) (lv : List (Option Value)) (h : gaH) (k j : Nat), decode code pc = .ok (.ireturn, 1) → gaP p l e room_1 s m args below meth c G 7 Z pc lv [gi 1] h k j) : ∀ (K27 : Nat → Nat → Nat → Nat → Int → gaH → Nat → Nat → Prop), ∀ (hK27 : ∀ (v0 : Nat) (v1 : Nat) (v2 : Nat) (v3 : Nat) (v4 : Int) (h : gaH) (kc ks : Nat), K27 v0 v1 v2 v3 v4 h kc ks → gaP p l e room_1 s m args below meth c G 7 Z 27 [some (.ref v0), some (.ref v1), some (.ref v2), some (.ref v3), some (gi v4), none, none] [] h kc ks), ∀ (v0 : Nat) (v1 : Nat) (v2 : Nat) (v3 : Nat) (v4 : Int) (v5 : Int) (t0 : Nat) (t1 : Int) (t2 : Int) (h : gaH) (kc ks : Nat), w_L_law_J1928 G K27 v0 v1 v2 v3 v4 v5 t0 t1 t2 h kc ks → gaP p l e room_1 s m args below meth c G 7 Z 1928 [some (.ref v0), some (.ref v1), some (.ref v2), some (.ref v3), some (gi v4), some (gi v5), none] [gi t2, gi t1, .ref t0] h kc ks := by
  intro K27 hK27
  intro v0 v1 v2 v3 v4 v5 t0 t1 t2 h kc ks hw
  unfold w_L_law_J1928 at hw
  obtain ⟨hb, hw⟩ := hw
  obtain ⟨fb, hb⟩ := hb
  obtain ⟨hk, hj, c3, s4, ec, es, hw⟩ := hw
  refine g_callV (C := RX7) (T := TX7) (N := 8) (st := []) V (k_X7_grown hst hw) ww_7_15 ww_7_16 ww_7_17 ww_1_5 ww_7_18 hd_X7_grown ⟨by decide, by decide⟩ rfl (by decide) hb rfl rfl (ga_cat rfl) dL_law_1928 hk hj rfl ga_none (ga_ka (fun r2 hp1 hw => ?_))
  refine ga_re ec es ?_
  refine g_astore (lv2 := [some (.ref v0), some (.ref v1), some (.ref v2), some (.ref v3), some (gi v4), some (gi v5), some (.ref r2)]) V dL_law_1931 (by decide) rfl rfl rfl ?_
  refine g_aload_n V dL_law_1933 rfl rfl ?_
  obtain ⟨hb, hw⟩ := hw
  obtain ⟨fb, hb⟩ := hb
  refine g_callV (C := RX7) (T := TX7) (N := 8) (st := []) V (k_X7_thrown hst hw) ww_5_206 ww_5_207 ww_5_208 ww_1_5 ww_5_209 hd_X7_thrown ⟨by decide, by decide⟩ rfl (by decide) hb rfl rfl (ga_cat rfl) dL_law_1934 (Nat.zero_le _) (Nat.zero_le _) rfl ga_none (ga_ki (fun r6 hp5 hw => ?_))
  refine g_iload V dL_law_1937 rfl rfl ?_
  obtain ⟨hx0, hx1, hw⟩ := hw
  refine gi_icmp_eq V dL_law_1939 rfl rfl hx0 hx1 (fun q => ?_) (fun q => ?_)
  · have hw := ga_t q hw
    refine g_iload V dL_law_1944 rfl rfl ?_
    obtain ⟨hx0, hw⟩ := hw
    refine gi_if_ne V dL_law_1946 rfl rfl hx0 (fun q => ?_) (fun q => ?_)
    · have hw := ga_f q hw
      refine g_goto V dL_law_1963 rfl ?_
      refine g_less (bs := [true, true, true, true, true, false, false]) (lv2 := [some (.ref v0), some (.ref v1), some (.ref v2), some (.ref v3), some (gi v4), none, none]) rfl ?_
      exact hl_L_law_J2201 hst V hend K27 hK27 v0 v1 v2 v3 v4 hp5 c3 s4 hw
    · have hw := ga_t q hw
      refine g_aload_n V dL_law_1949 rfl rfl ?_
      obtain ⟨fs, r7, ha, hv, hw⟩ := hw
      refine g_getN (C := RX6) (T := TX6) (N := 2) (host := "WordgardenLaw") V 1 rfl hin_RX6 (by decide) (by decide) gn_23 rfl ha hv dL_law_1950 rfl ?_
      refine g_aload V dL_law_1953 rfl rfl ?_
      obtain ⟨hb, hw⟩ := hw
      obtain ⟨fb, hb⟩ := hb
      refine g_callV (C := RJ0) (T := TJ0) (N := 4) (st := []) V (k_J0_equals_9ea2d hst hw) ww_7_78 ww_7_79 ww_7_80 ww_1_19 ww_7_81 hd_J0_equals_9ea2d ⟨by decide, by decide⟩ rfl (by decide) hb rfl rfl (ga_cat rfl) dL_law_1955 (Nat.zero_le _) (Nat.zero_le _) rfl ga_none (ga_ki (fun r9 hp8 hw => ?_))
      obtain ⟨hx0, hw⟩ := hw
      refine gi_if_ne V dL_law_1958 rfl rfl hx0 (fun q => ?_) (fun q => ?_)
      · have hw := ga_f q hw
        refine g_goto V dL_law_1963 rfl ?_
        refine g_less (bs := [true, true, true, true, true, false, false]) (lv2 := [some (.ref v0), some (.ref v1), some (.ref v2), some (.ref v3), some (gi v4), none, none]) rfl ?_
        exact hl_L_law_J2201 hst V hend K27 hK27 v0 v1 v2 v3 v4 hp8 c3 s4 hw
      · have hw := ga_t q hw
        refine g_iconst V (Int32.ofInt 0) dL_law_1961 rfl rfl ?_
        exact hw.elim
  · have hw := ga_f q hw
    refine g_iconst V (Int32.ofInt 0) dL_law_1942 rfl rfl ?_
    exact hw.elim
theorem hl_L_law_J1901 {p : Program} {l : Launch} {e : Env} {s : State} {m : MethodId} {args : Array Value} {below : List Frame} {meth : Method} {c : Code} {G : gaG} {nm : String} {Z : State → Prop} (hst : l.stackTraces = false) (V : gaV p l s m args meth c G code RL 7 gaW ret nm) (hend : ∀ (pc : Nat) (lv : List (Option Value)) (h : gaH) (k j : Nat), decode code pc = .ok (.ireturn, 1) → gaP p l e room_1 s m args below meth c G 7 Z pc lv [gi 1] h k j) : ∀ (K27 : Nat → Nat → Nat → Nat → Int → gaH → Nat → Nat → Prop), ∀ (hK27 : ∀ (v0 : Nat) (v1 : Nat) (v2 : Nat) (v3 : Nat) (v4 : Int) (h : gaH) (kc ks : Nat), K27 v0 v1 v2 v3 v4 h kc ks → gaP p l e room_1 s m args below meth c G 7 Z 27 [some (.ref v0), some (.ref v1), some (.ref v2), some (.ref v3), some (gi v4), none, none] [] h kc ks), ∀ (v0 : Nat) (v1 : Nat) (v2 : Nat) (v3 : Nat) (v4 : Int) (t0 : Nat) (t1 : Int) (t2 : Int) (h : gaH) (kc ks : Nat), w_L_law_J1901 G K27 v0 v1 v2 v3 v4 t0 t1 t2 h kc ks → gaP p l e room_1 s m args below meth c G 7 Z 1901 [some (.ref v0), some (.ref v1), some (.ref v2), some (.ref v3), some (gi v4), none, none] [gi t2, gi t1, .ref t0] h kc ks := by
  intro K27 hK27
  intro v0 v1 v2 v3 v4 t0 t1 t2 h kc ks hw
  unfold w_L_law_J1901 at hw
  refine g_aload_n V dL_law_1901 rfl rfl ?_
  obtain ⟨hk, hj, c3, s4, ec, es, hw⟩ := hw
  refine g_callSX (st := []) V (k_L_grown hst hw) ww_5_146 ww_5_147 ww_1_0 ww_5_148 hd_L_grown ⟨by decide, by decide⟩ rfl rfl (ga_cat rfl) dL_law_1902 hk hj rfl ga_none (ga_ki (fun r2 hp1 hw => ?_))
  refine ga_re ec es ?_
  refine g_istore (lv2 := [some (.ref v0), some (.ref v1), some (.ref v2), some (.ref v3), some (gi v4), some (gi r2), none]) V dL_law_1905 (by decide) rfl rfl rfl ?_
  refine g_aload_n V dL_law_1907 rfl rfl ?_
  refine g_aload_n V dL_law_1908 rfl rfl ?_
  refine g_iload V dL_law_1909 rfl rfl ?_
  refine g_iconst V (Int32.ofInt 1) dL_law_1911 rfl rfl ?_
  refine gi_iadd V dL_law_1912 rfl ?_
  obtain ⟨t9, vs, r5, ha, ht, h0, h9, hv, hw⟩ := hw
  refine gi_iaload V ha ht h0 h9 hv dL_law_1913 rfl ?_
  refine g_aload_n V dL_law_1914 rfl rfl ?_
  refine g_iload V dL_law_1915 rfl rfl ?_
  refine g_iconst V (Int32.ofInt 2) dL_law_1917 rfl rfl ?_
  refine gi_iadd V dL_law_1918 rfl ?_
  obtain ⟨t9, vs, r6, ha, ht, h0, h9, hv, hw⟩ := hw
  refine gi_iaload V ha ht h0 h9 hv dL_law_1919 rfl ?_
  obtain ⟨hx0, hw⟩ := hw
  refine gi_if_eq V dL_law_1920 rfl rfl hx0 (fun q => ?_) (fun q => ?_)
  · have hw := ga_t q hw
    refine g_iconst V (Int32.ofInt 0) dL_law_1927 rfl rfl ?_
    exact hl_L_law_J1928 hst V hend K27 hK27 v0 v1 v2 v3 v4 r2 v2 r5 0 hp1 c3 s4 hw
  · have hw := ga_f q hw
    refine g_iconst V (Int32.ofInt 1) dL_law_1923 rfl rfl ?_
    refine g_goto V dL_law_1924 rfl ?_
    exact hl_L_law_J1928 hst V hend K27 hK27 v0 v1 v2 v3 v4 r2 v2 r5 1 hp1 c3 s4 hw
theorem hl_L_law_J1880 {p : Program} {l : Launch} {e : Env} {s : State} {m : MethodId} {args : Array Value} {below : List Frame} {meth : Method} {c : Code} {G : gaG} {nm : String} {Z : State → Prop} (hst : l.stackTraces = false) (V : gaV p l s m args meth c G code RL 7 gaW ret nm) (hend : ∀ (pc : Nat) (lv : List (Option Value)) (h : gaH) (k j : Nat), decode code pc = .ok (.ireturn, 1) → gaP p l e room_1 s m args below meth c G 7 Z pc lv [gi 1] h k j) : ∀ (K27 : Nat → Nat → Nat → Nat → Int → gaH → Nat → Nat → Prop), ∀ (hK27 : ∀ (v0 : Nat) (v1 : Nat) (v2 : Nat) (v3 : Nat) (v4 : Int) (h : gaH) (kc ks : Nat), K27 v0 v1 v2 v3 v4 h kc ks → gaP p l e room_1 s m args below meth c G 7 Z 27 [some (.ref v0), some (.ref v1), some (.ref v2), some (.ref v3), some (gi v4), none, none] [] h kc ks), ∀ (v0 : Nat) (v1 : Nat) (v2 : Nat) (v3 : Nat) (v4 : Int) (h : gaH) (kc ks : Nat), w_L_law_J1880 G K27 v0 v1 v2 v3 v4 h kc ks → gaP p l e room_1 s m args below meth c G 7 Z 1880 [some (.ref v0), some (.ref v1), some (.ref v2), some (.ref v3), some (gi v4), none, none] [] h kc ks := by
  intro K27 hK27
  intro v0 v1 v2 v3 v4 h kc ks hw
  unfold w_L_law_J1880 at hw
  refine g_aload_n V dL_law_1880 rfl rfl ?_
  refine g_aload_n V dL_law_1881 rfl rfl ?_
  refine g_iload V dL_law_1882 rfl rfl ?_
  refine g_iconst V (Int32.ofInt 1) dL_law_1884 rfl rfl ?_
  refine gi_iadd V dL_law_1885 rfl ?_
  obtain ⟨t9, vs, r1, ha, ht, h0, h9, hv, hw⟩ := hw
  refine gi_iaload V ha ht h0 h9 hv dL_law_1886 rfl ?_
  refine g_aload_n V dL_law_1887 rfl rfl ?_
  refine g_iload V dL_law_1888 rfl rfl ?_
  refine g_iconst V (Int32.ofInt 2) dL_law_1890 rfl rfl ?_
  refine gi_iadd V dL_law_1891 rfl ?_
  obtain ⟨t9, vs, r2, ha, ht, h0, h9, hv, hw⟩ := hw
  refine gi_iaload V ha ht h0 h9 hv dL_law_1892 rfl ?_
  obtain ⟨hx0, hw⟩ := hw
  refine gi_if_eq V dL_law_1893 rfl rfl hx0 (fun q => ?_) (fun q => ?_)
  · have hw := ga_t q hw
    refine g_iconst V (Int32.ofInt 0) dL_law_1900 rfl rfl ?_
    exact hl_L_law_J1901 hst V hend K27 hK27 v0 v1 v2 v3 v4 v1 r1 0 h kc ks hw
  · have hw := ga_f q hw
    refine g_iconst V (Int32.ofInt 1) dL_law_1896 rfl rfl ?_
    refine g_goto V dL_law_1897 rfl ?_
    exact hl_L_law_J1901 hst V hend K27 hK27 v0 v1 v2 v3 v4 v1 r1 1 h kc ks hw
theorem hl_L_law_J1852 {p : Program} {l : Launch} {e : Env} {s : State} {m : MethodId} {args : Array Value} {below : List Frame} {meth : Method} {c : Code} {G : gaG} {nm : String} {Z : State → Prop} (hst : l.stackTraces = false) (V : gaV p l s m args meth c G code RL 7 gaW ret nm) (hend : ∀ (pc : Nat) (lv : List (Option Value)) (h : gaH) (k j : Nat), decode code pc = .ok (.ireturn, 1) → gaP p l e room_1 s m args below meth c G 7 Z pc lv [gi 1] h k j) : ∀ (K27 : Nat → Nat → Nat → Nat → Int → gaH → Nat → Nat → Prop), ∀ (hK27 : ∀ (v0 : Nat) (v1 : Nat) (v2 : Nat) (v3 : Nat) (v4 : Int) (h : gaH) (kc ks : Nat), K27 v0 v1 v2 v3 v4 h kc ks → gaP p l e room_1 s m args below meth c G 7 Z 27 [some (.ref v0), some (.ref v1), some (.ref v2), some (.ref v3), some (gi v4), none, none] [] h kc ks), ∀ (v0 : Nat) (v1 : Nat) (v2 : Nat) (v3 : Nat) (v4 : Int) (h : gaH) (kc ks : Nat), w_L_law_J1852 G K27 v0 v1 v2 v3 v4 h kc ks → gaP p l e room_1 s m args below meth c G 7 Z 1852 [some (.ref v0), some (.ref v1), some (.ref v2), some (.ref v3), some (gi v4), none, none] [] h kc ks := by
  intro K27 hK27
  intro v0 v1 v2 v3 v4 h kc ks hw
  unfold w_L_law_J1852 at hw
  refine g_aload_n V dL_law_1852 rfl rfl ?_
  refine g_aload_n V dL_law_1853 rfl rfl ?_
  refine g_iload V dL_law_1854 rfl rfl ?_
  refine g_iconst V (Int32.ofInt 1) dL_law_1856 rfl rfl ?_
  refine gi_iadd V dL_law_1857 rfl ?_
  obtain ⟨t9, vs, r1, ha, ht, h0, h9, hv, hw⟩ := hw
  refine gi_iaload V ha ht h0 h9 hv dL_law_1858 rfl ?_
  refine g_aload_n V dL_law_1859 rfl rfl ?_
  obtain ⟨hk, hj, c4, s5, ec, es, hw⟩ := hw
  refine g_callSX (st := []) V (k_L_turns hst hw) ww_5_135 ww_5_136 ww_1_0 ww_5_137 hd_L_turns ⟨by decide, by decide⟩ rfl rfl (ga_cat rfl) dL_law_1860 hk hj rfl ga_none (ga_ki (fun r3 hp2 hw => ?_))
  refine ga_re ec es ?_
  refine g_istore (lv2 := [some (.ref v0), some (.ref v1), some (.ref v2), some (.ref v3), some (gi v4), some (gi r3), none]) V dL_law_1863 (by decide) rfl rfl rfl ?_
  refine g_aload_n V dL_law_1865 rfl rfl ?_
  refine g_aload_n V dL_law_1866 rfl rfl ?_
  refine g_iload V dL_law_1867 rfl rfl ?_
  refine g_iconst V (Int32.ofInt 1) dL_law_1869 rfl rfl ?_
  refine gi_iadd V dL_law_1870 rfl ?_
  obtain ⟨t9, vs, r6, ha, ht, h0, h9, hv, hw⟩ := hw
  refine gi_iaload V ha ht h0 h9 hv dL_law_1871 rfl ?_
  obtain ⟨hb, hw⟩ := hw
  obtain ⟨fb, hb⟩ := hb
  obtain ⟨hk, hj, c9, s10, ec, es, hw⟩ := hw
  refine g_callV (C := RX7) (T := TX7) (N := 8) (st := []) V (k_X7_turns hst hw) ww_7_10 ww_7_11 ww_7_12 ww_1_5 ww_7_13 hd_X7_turns ⟨by decide, by decide⟩ rfl (by decide) hb rfl rfl (ga_cat rfl) dL_law_1872 hk hj rfl ga_none (ga_ka (fun r8 hp7 hw => ?_))
  refine ga_re ec es ?_
  refine g_astore (lv2 := [some (.ref v0), some (.ref v1), some (.ref v2), some (.ref v3), some (gi v4), some (gi r3), some (.ref r8)]) V dL_law_1875 (by decide) rfl rfl rfl ?_
  refine g_goto V dL_law_1877 rfl ?_
  refine g_less (bs := [true, true, true, true, true, false, false]) (lv2 := [some (.ref v0), some (.ref v1), some (.ref v2), some (.ref v3), some (gi v4), none, none]) rfl ?_
  exact hl_L_law_J2201 hst V hend K27 hK27 v0 v1 v2 v3 v4 hp7 c9 s10 hw
theorem hl_L_law_J1812 {p : Program} {l : Launch} {e : Env} {s : State} {m : MethodId} {args : Array Value} {below : List Frame} {meth : Method} {c : Code} {G : gaG} {nm : String} {Z : State → Prop} (hst : l.stackTraces = false) (V : gaV p l s m args meth c G code RL 7 gaW ret nm) (hend : ∀ (pc : Nat) (lv : List (Option Value)) (h : gaH) (k j : Nat), decode code pc = .ok (.ireturn, 1) → gaP p l e room_1 s m args below meth c G 7 Z pc lv [gi 1] h k j) : ∀ (K27 : Nat → Nat → Nat → Nat → Int → gaH → Nat → Nat → Prop), ∀ (hK27 : ∀ (v0 : Nat) (v1 : Nat) (v2 : Nat) (v3 : Nat) (v4 : Int) (h : gaH) (kc ks : Nat), K27 v0 v1 v2 v3 v4 h kc ks → gaP p l e room_1 s m args below meth c G 7 Z 27 [some (.ref v0), some (.ref v1), some (.ref v2), some (.ref v3), some (gi v4), none, none] [] h kc ks), ∀ (v0 : Nat) (v1 : Nat) (v2 : Nat) (v3 : Nat) (v4 : Int) (h : gaH) (kc ks : Nat), w_L_law_J1812 G K27 v0 v1 v2 v3 v4 h kc ks → gaP p l e room_1 s m args below meth c G 7 Z 1812 [some (.ref v0), some (.ref v1), some (.ref v2), some (.ref v3), some (gi v4), none, none] [] h kc ks := by
  intro K27 hK27
  intro v0 v1 v2 v3 v4 h kc ks hw
  unfold w_L_law_J1812 at hw
  refine g_aload_n V dL_law_1812 rfl rfl ?_
  refine g_aload_n V dL_law_1813 rfl rfl ?_
  refine g_iload V dL_law_1814 rfl rfl ?_
  refine g_iconst V (Int32.ofInt 1) dL_law_1816 rfl rfl ?_
  refine gi_iadd V dL_law_1817 rfl ?_
  obtain ⟨t9, vs, r1, ha, ht, h0, h9, hv, hw⟩ := hw
  refine gi_iaload V ha ht h0 h9 hv dL_law_1818 rfl ?_
  refine g_aload_n V dL_law_1819 rfl rfl ?_
  refine g_iload V dL_law_1820 rfl rfl ?_
  refine g_iconst V (Int32.ofInt 2) dL_law_1822 rfl rfl ?_
  refine gi_iadd V dL_law_1823 rfl ?_
  obtain ⟨t9, vs, r2, ha, ht, h0, h9, hv, hw⟩ := hw
  refine gi_iaload V ha ht h0 h9 hv dL_law_1824 rfl ?_
  refine g_aload_n V dL_law_1825 rfl rfl ?_
  obtain ⟨hk, hj, c5, s6, ec, es, hw⟩ := hw
  refine g_callSX (st := []) V (k_L_isApart hst hw) ww_5_128 ww_5_129 ww_1_0 ww_5_130 hd_L_isApart ⟨by decide, by decide⟩ rfl rfl (ga_cat rfl) dL_law_1826 hk hj rfl ga_none (ga_ki (fun r4 hp3 hw => ?_))
  refine ga_re ec es ?_
  refine g_istore (lv2 := [some (.ref v0), some (.ref v1), some (.ref v2), some (.ref v3), some (gi v4), some (gi r4), none]) V dL_law_1829 (by decide) rfl rfl rfl ?_
  refine g_aload_n V dL_law_1831 rfl rfl ?_
  refine g_aload_n V dL_law_1832 rfl rfl ?_
  refine g_iload V dL_law_1833 rfl rfl ?_
  refine g_iconst V (Int32.ofInt 1) dL_law_1835 rfl rfl ?_
  refine gi_iadd V dL_law_1836 rfl ?_
  obtain ⟨t9, vs, r7, ha, ht, h0, h9, hv, hw⟩ := hw
  refine gi_iaload V ha ht h0 h9 hv dL_law_1837 rfl ?_
  refine g_aload_n V dL_law_1838 rfl rfl ?_
  refine g_iload V dL_law_1839 rfl rfl ?_
  refine g_iconst V (Int32.ofInt 2) dL_law_1841 rfl rfl ?_
  refine gi_iadd V dL_law_1842 rfl ?_
  obtain ⟨t9, vs, r8, ha, ht, h0, h9, hv, hw⟩ := hw
  refine gi_iaload V ha ht h0 h9 hv dL_law_1843 rfl ?_
  obtain ⟨hb, hw⟩ := hw
  obtain ⟨fb, hb⟩ := hb
  obtain ⟨hk, hj, c11, s12, ec, es, hw⟩ := hw
  refine g_callV (C := RX7) (T := TX7) (N := 8) (st := []) V (k_X7_isApart hst hw) ww_7_6 ww_7_7 ww_7_8 ww_1_5 ww_7_9 hd_X7_isApart ⟨by decide, by decide⟩ rfl (by decide) hb rfl rfl (ga_cat rfl) dL_law_1844 hk hj rfl ga_none (ga_ki (fun r10 hp9 hw => ?_))
  refine ga_re ec es ?_
  refine g_istore (lv2 := [some (.ref v0), some (.ref v1), some (.ref v2), some (.ref v3), some (gi v4), some (gi r4), some (gi r10)]) V dL_law_1847 (by decide) rfl rfl rfl ?_
  refine g_goto V dL_law_1849 rfl ?_
  refine g_less (bs := [true, true, true, true, true, false, false]) (lv2 := [some (.ref v0), some (.ref v1), some (.ref v2), some (.ref v3), some (gi v4), none, none]) rfl ?_
  exact hl_L_law_J2201 hst V hend K27 hK27 v0 v1 v2 v3 v4 hp9 c11 s12 hw
theorem hl_L_law_J1784 {p : Program} {l : Launch} {e : Env} {s : State} {m : MethodId} {args : Array Value} {below : List Frame} {meth : Method} {c : Code} {G : gaG} {nm : String} {Z : State → Prop} (hst : l.stackTraces = false) (V : gaV p l s m args meth c G code RL 7 gaW ret nm) (hend : ∀ (pc : Nat) (lv : List (Option Value)) (h : gaH) (k j : Nat), decode code pc = .ok (.ireturn, 1) → gaP p l e room_1 s m args below meth c G 7 Z pc lv [gi 1] h k j) : ∀ (K27 : Nat → Nat → Nat → Nat → Int → gaH → Nat → Nat → Prop), ∀ (hK27 : ∀ (v0 : Nat) (v1 : Nat) (v2 : Nat) (v3 : Nat) (v4 : Int) (h : gaH) (kc ks : Nat), K27 v0 v1 v2 v3 v4 h kc ks → gaP p l e room_1 s m args below meth c G 7 Z 27 [some (.ref v0), some (.ref v1), some (.ref v2), some (.ref v3), some (gi v4), none, none] [] h kc ks), ∀ (v0 : Nat) (v1 : Nat) (v2 : Nat) (v3 : Nat) (v4 : Int) (h : gaH) (kc ks : Nat), w_L_law_J1784 G K27 v0 v1 v2 v3 v4 h kc ks → gaP p l e room_1 s m args below meth c G 7 Z 1784 [some (.ref v0), some (.ref v1), some (.ref v2), some (.ref v3), some (gi v4), none, none] [] h kc ks := by
  intro K27 hK27
  intro v0 v1 v2 v3 v4 h kc ks hw
  unfold w_L_law_J1784 at hw
  refine g_aload_n V dL_law_1784 rfl rfl ?_
  refine g_aload_n V dL_law_1785 rfl rfl ?_
  refine g_iload V dL_law_1786 rfl rfl ?_
  refine g_iconst V (Int32.ofInt 1) dL_law_1788 rfl rfl ?_
  refine gi_iadd V dL_law_1789 rfl ?_
  obtain ⟨t9, vs, r1, ha, ht, h0, h9, hv, hw⟩ := hw
  refine gi_iaload V ha ht h0 h9 hv dL_law_1790 rfl ?_
  refine g_aload_n V dL_law_1791 rfl rfl ?_
  obtain ⟨hk, hj, c4, s5, ec, es, hw⟩ := hw
  refine g_callSX (st := []) V (k_L_least hst hw) ww_5_124 ww_5_125 ww_1_0 ww_5_126 hd_L_least ⟨by decide, by decide⟩ rfl rfl (ga_cat rfl) dL_law_1792 hk hj rfl ga_none (ga_ki (fun r3 hp2 hw => ?_))
  refine ga_re ec es ?_
  refine g_istore (lv2 := [some (.ref v0), some (.ref v1), some (.ref v2), some (.ref v3), some (gi v4), some (gi r3), none]) V dL_law_1795 (by decide) rfl rfl rfl ?_
  refine g_aload_n V dL_law_1797 rfl rfl ?_
  refine g_aload_n V dL_law_1798 rfl rfl ?_
  refine g_iload V dL_law_1799 rfl rfl ?_
  refine g_iconst V (Int32.ofInt 1) dL_law_1801 rfl rfl ?_
  refine gi_iadd V dL_law_1802 rfl ?_
  obtain ⟨t9, vs, r6, ha, ht, h0, h9, hv, hw⟩ := hw
  refine gi_iaload V ha ht h0 h9 hv dL_law_1803 rfl ?_
  obtain ⟨hb, hw⟩ := hw
  obtain ⟨fb, hb⟩ := hb
  refine g_callV (C := RX7) (T := TX7) (N := 8) (st := []) V (k_X7_least hst hw) ww_6_239 ww_7_0 ww_7_1 ww_1_5 ww_7_2 hd_X7_least ⟨by decide, by decide⟩ rfl (by decide) hb rfl rfl (ga_cat rfl) dL_law_1804 (Nat.zero_le _) (Nat.zero_le _) rfl ga_none (ga_ki (fun r8 hp7 hw => ?_))
  refine g_istore (lv2 := [some (.ref v0), some (.ref v1), some (.ref v2), some (.ref v3), some (gi v4), some (gi r3), some (gi r8)]) V dL_law_1807 (by decide) rfl rfl rfl ?_
  refine g_goto V dL_law_1809 rfl ?_
  refine g_less (bs := [true, true, true, true, true, false, false]) (lv2 := [some (.ref v0), some (.ref v1), some (.ref v2), some (.ref v3), some (gi v4), none, none]) rfl ?_
  exact hl_L_law_J2201 hst V hend K27 hK27 v0 v1 v2 v3 v4 hp7 c4 s5 hw
theorem hl_L_law_J1756 {p : Program} {l : Launch} {e : Env} {s : State} {m : MethodId} {args : Array Value} {below : List Frame} {meth : Method} {c : Code} {G : gaG} {nm : String} {Z : State → Prop} (hst : l.stackTraces = false) (V : gaV p l s m args meth c G code RL 7 gaW ret nm) (hend : ∀ (pc : Nat) (lv : List (Option Value)) (h : gaH) (k j : Nat), decode code pc = .ok (.ireturn, 1) → gaP p l e room_1 s m args below meth c G 7 Z pc lv [gi 1] h k j) : ∀ (K27 : Nat → Nat → Nat → Nat → Int → gaH → Nat → Nat → Prop), ∀ (hK27 : ∀ (v0 : Nat) (v1 : Nat) (v2 : Nat) (v3 : Nat) (v4 : Int) (h : gaH) (kc ks : Nat), K27 v0 v1 v2 v3 v4 h kc ks → gaP p l e room_1 s m args below meth c G 7 Z 27 [some (.ref v0), some (.ref v1), some (.ref v2), some (.ref v3), some (gi v4), none, none] [] h kc ks), ∀ (v0 : Nat) (v1 : Nat) (v2 : Nat) (v3 : Nat) (v4 : Int) (h : gaH) (kc ks : Nat), w_L_law_J1756 G K27 v0 v1 v2 v3 v4 h kc ks → gaP p l e room_1 s m args below meth c G 7 Z 1756 [some (.ref v0), some (.ref v1), some (.ref v2), some (.ref v3), some (gi v4), none, none] [] h kc ks := by
  intro K27 hK27
  intro v0 v1 v2 v3 v4 h kc ks hw
  unfold w_L_law_J1756 at hw
  refine g_aload_n V dL_law_1756 rfl rfl ?_
  refine g_aload_n V dL_law_1757 rfl rfl ?_
  refine g_iload V dL_law_1758 rfl rfl ?_
  refine g_iconst V (Int32.ofInt 1) dL_law_1760 rfl rfl ?_
  refine gi_iadd V dL_law_1761 rfl ?_
  obtain ⟨t9, vs, r1, ha, ht, h0, h9, hv, hw⟩ := hw
  refine gi_iaload V ha ht h0 h9 hv dL_law_1762 rfl ?_
  refine g_aload_n V dL_law_1763 rfl rfl ?_
  obtain ⟨hk, hj, c4, s5, ec, es, hw⟩ := hw
  refine g_callSX (st := []) V (k_L_folds hst hw) ww_5_120 ww_5_121 ww_1_0 ww_5_122 hd_L_folds ⟨by decide, by decide⟩ rfl rfl (ga_cat rfl) dL_law_1764 hk hj rfl ga_none (ga_ki (fun r3 hp2 hw => ?_))
  refine ga_re ec es ?_
  refine g_istore (lv2 := [some (.ref v0), some (.ref v1), some (.ref v2), some (.ref v3), some (gi v4), some (gi r3), none]) V dL_law_1767 (by decide) rfl rfl rfl ?_
  refine g_aload_n V dL_law_1769 rfl rfl ?_
  refine g_aload_n V dL_law_1770 rfl rfl ?_
  refine g_iload V dL_law_1771 rfl rfl ?_
  refine g_iconst V (Int32.ofInt 1) dL_law_1773 rfl rfl ?_
  refine gi_iadd V dL_law_1774 rfl ?_
  obtain ⟨t9, vs, r6, ha, ht, h0, h9, hv, hw⟩ := hw
  refine gi_iaload V ha ht h0 h9 hv dL_law_1775 rfl ?_
  obtain ⟨hb, hw⟩ := hw
  obtain ⟨fb, hb⟩ := hb
  refine g_callV (C := RX7) (T := TX7) (N := 8) (st := []) V (k_X7_folds hst hw) ww_6_232 ww_6_233 ww_6_234 ww_1_5 ww_6_235 hd_X7_folds ⟨by decide, by decide⟩ rfl (by decide) hb rfl rfl (ga_cat rfl) dL_law_1776 (Nat.zero_le _) (Nat.zero_le _) rfl ga_none (ga_ki (fun r8 hp7 hw => ?_))
  refine g_istore (lv2 := [some (.ref v0), some (.ref v1), some (.ref v2), some (.ref v3), some (gi v4), some (gi r3), some (gi r8)]) V dL_law_1779 (by decide) rfl rfl rfl ?_
  refine g_goto V dL_law_1781 rfl ?_
  refine g_less (bs := [true, true, true, true, true, false, false]) (lv2 := [some (.ref v0), some (.ref v1), some (.ref v2), some (.ref v3), some (gi v4), none, none]) rfl ?_
  exact hl_L_law_J2201 hst V hend K27 hK27 v0 v1 v2 v3 v4 hp7 c4 s5 hw
theorem hl_L_law_J1728 {p : Program} {l : Launch} {e : Env} {s : State} {m : MethodId} {args : Array Value} {below : List Frame} {meth : Method} {c : Code} {G : gaG} {nm : String} {Z : State → Prop} (hst : l.stackTraces = false) (V : gaV p l s m args meth c G code RL 7 gaW ret nm) (hend : ∀ (pc : Nat) (lv : List (Option Value)) (h : gaH) (k j : Nat), decode code pc = .ok (.ireturn, 1) → gaP p l e room_1 s m args below meth c G 7 Z pc lv [gi 1] h k j) : ∀ (K27 : Nat → Nat → Nat → Nat → Int → gaH → Nat → Nat → Prop), ∀ (hK27 : ∀ (v0 : Nat) (v1 : Nat) (v2 : Nat) (v3 : Nat) (v4 : Int) (h : gaH) (kc ks : Nat), K27 v0 v1 v2 v3 v4 h kc ks → gaP p l e room_1 s m args below meth c G 7 Z 27 [some (.ref v0), some (.ref v1), some (.ref v2), some (.ref v3), some (gi v4), none, none] [] h kc ks), ∀ (v0 : Nat) (v1 : Nat) (v2 : Nat) (v3 : Nat) (v4 : Int) (h : gaH) (kc ks : Nat), w_L_law_J1728 G K27 v0 v1 v2 v3 v4 h kc ks → gaP p l e room_1 s m args below meth c G 7 Z 1728 [some (.ref v0), some (.ref v1), some (.ref v2), some (.ref v3), some (gi v4), none, none] [] h kc ks := by
  intro K27 hK27
  intro v0 v1 v2 v3 v4 h kc ks hw
  unfold w_L_law_J1728 at hw
  refine g_aload_n V dL_law_1728 rfl rfl ?_
  refine g_aload_n V dL_law_1729 rfl rfl ?_
  refine g_iload V dL_law_1730 rfl rfl ?_
  refine g_iconst V (Int32.ofInt 1) dL_law_1732 rfl rfl ?_
  refine gi_iadd V dL_law_1733 rfl ?_
  obtain ⟨t9, vs, r1, ha, ht, h0, h9, hv, hw⟩ := hw
  refine gi_iaload V ha ht h0 h9 hv dL_law_1734 rfl ?_
  refine g_aload_n V dL_law_1735 rfl rfl ?_
  obtain ⟨hk, hj, c4, s5, ec, es, hw⟩ := hw
  refine g_callSX (st := []) V (k_L_mirrors hst hw) ww_5_110 ww_5_111 ww_1_0 ww_5_112 hd_L_mirrors ⟨by decide, by decide⟩ rfl rfl (ga_cat rfl) dL_law_1736 hk hj rfl ga_none (ga_ki (fun r3 hp2 hw => ?_))
  refine ga_re ec es ?_
  refine g_istore (lv2 := [some (.ref v0), some (.ref v1), some (.ref v2), some (.ref v3), some (gi v4), some (gi r3), none]) V dL_law_1739 (by decide) rfl rfl rfl ?_
  refine g_aload_n V dL_law_1741 rfl rfl ?_
  refine g_aload_n V dL_law_1742 rfl rfl ?_
  refine g_iload V dL_law_1743 rfl rfl ?_
  refine g_iconst V (Int32.ofInt 1) dL_law_1745 rfl rfl ?_
  refine gi_iadd V dL_law_1746 rfl ?_
  obtain ⟨t9, vs, r6, ha, ht, h0, h9, hv, hw⟩ := hw
  refine gi_iaload V ha ht h0 h9 hv dL_law_1747 rfl ?_
  obtain ⟨hb, hw⟩ := hw
  obtain ⟨fb, hb⟩ := hb
  refine g_callV (C := RX7) (T := TX7) (N := 8) (st := []) V (k_X7_mirrors hst hw) ww_6_228 ww_6_229 ww_6_230 ww_1_5 ww_6_231 hd_X7_mirrors ⟨by decide, by decide⟩ rfl (by decide) hb rfl rfl (ga_cat rfl) dL_law_1748 (Nat.zero_le _) (Nat.zero_le _) rfl ga_none (ga_ki (fun r8 hp7 hw => ?_))
  refine g_istore (lv2 := [some (.ref v0), some (.ref v1), some (.ref v2), some (.ref v3), some (gi v4), some (gi r3), some (gi r8)]) V dL_law_1751 (by decide) rfl rfl rfl ?_
  refine g_goto V dL_law_1753 rfl ?_
  refine g_less (bs := [true, true, true, true, true, false, false]) (lv2 := [some (.ref v0), some (.ref v1), some (.ref v2), some (.ref v3), some (gi v4), none, none]) rfl ?_
  exact hl_L_law_J2201 hst V hend K27 hK27 v0 v1 v2 v3 v4 hp7 c4 s5 hw
theorem hl_L_law_J1700 {p : Program} {l : Launch} {e : Env} {s : State} {m : MethodId} {args : Array Value} {below : List Frame} {meth : Method} {c : Code} {G : gaG} {nm : String} {Z : State → Prop} (hst : l.stackTraces = false) (V : gaV p l s m args meth c G code RL 7 gaW ret nm) (hend : ∀ (pc : Nat) (lv : List (Option Value)) (h : gaH) (k j : Nat), decode code pc = .ok (.ireturn, 1) → gaP p l e room_1 s m args below meth c G 7 Z pc lv [gi 1] h k j) : ∀ (K27 : Nat → Nat → Nat → Nat → Int → gaH → Nat → Nat → Prop), ∀ (hK27 : ∀ (v0 : Nat) (v1 : Nat) (v2 : Nat) (v3 : Nat) (v4 : Int) (h : gaH) (kc ks : Nat), K27 v0 v1 v2 v3 v4 h kc ks → gaP p l e room_1 s m args below meth c G 7 Z 27 [some (.ref v0), some (.ref v1), some (.ref v2), some (.ref v3), some (gi v4), none, none] [] h kc ks), ∀ (v0 : Nat) (v1 : Nat) (v2 : Nat) (v3 : Nat) (v4 : Int) (h : gaH) (kc ks : Nat), w_L_law_J1700 G K27 v0 v1 v2 v3 v4 h kc ks → gaP p l e room_1 s m args below meth c G 7 Z 1700 [some (.ref v0), some (.ref v1), some (.ref v2), some (.ref v3), some (gi v4), none, none] [] h kc ks := by
  intro K27 hK27
  intro v0 v1 v2 v3 v4 h kc ks hw
  unfold w_L_law_J1700 at hw
  refine g_aload_n V dL_law_1700 rfl rfl ?_
  refine g_aload_n V dL_law_1701 rfl rfl ?_
  refine g_iload V dL_law_1702 rfl rfl ?_
  refine g_iconst V (Int32.ofInt 1) dL_law_1704 rfl rfl ?_
  refine gi_iadd V dL_law_1705 rfl ?_
  obtain ⟨t9, vs, r1, ha, ht, h0, h9, hv, hw⟩ := hw
  refine gi_iaload V ha ht h0 h9 hv dL_law_1706 rfl ?_
  refine g_aload_n V dL_law_1707 rfl rfl ?_
  obtain ⟨hk, hj, c4, s5, ec, es, hw⟩ := hw
  refine g_callSX (st := []) V (k_L_overlaps hst hw) ww_5_106 ww_5_107 ww_1_0 ww_5_108 hd_L_overlaps ⟨by decide, by decide⟩ rfl rfl (ga_cat rfl) dL_law_1708 hk hj rfl ga_none (ga_ki (fun r3 hp2 hw => ?_))
  refine ga_re ec es ?_
  refine g_istore (lv2 := [some (.ref v0), some (.ref v1), some (.ref v2), some (.ref v3), some (gi v4), some (gi r3), none]) V dL_law_1711 (by decide) rfl rfl rfl ?_
  refine g_aload_n V dL_law_1713 rfl rfl ?_
  refine g_aload_n V dL_law_1714 rfl rfl ?_
  refine g_iload V dL_law_1715 rfl rfl ?_
  refine g_iconst V (Int32.ofInt 1) dL_law_1717 rfl rfl ?_
  refine gi_iadd V dL_law_1718 rfl ?_
  obtain ⟨t9, vs, r6, ha, ht, h0, h9, hv, hw⟩ := hw
  refine gi_iaload V ha ht h0 h9 hv dL_law_1719 rfl ?_
  obtain ⟨hb, hw⟩ := hw
  obtain ⟨fb, hb⟩ := hb
  refine g_callV (C := RX7) (T := TX7) (N := 8) (st := []) V (k_X7_overlaps hst hw) ww_6_221 ww_6_222 ww_6_223 ww_1_5 ww_6_224 hd_X7_overlaps ⟨by decide, by decide⟩ rfl (by decide) hb rfl rfl (ga_cat rfl) dL_law_1720 (Nat.zero_le _) (Nat.zero_le _) rfl ga_none (ga_ki (fun r8 hp7 hw => ?_))
  refine g_istore (lv2 := [some (.ref v0), some (.ref v1), some (.ref v2), some (.ref v3), some (gi v4), some (gi r3), some (gi r8)]) V dL_law_1723 (by decide) rfl rfl rfl ?_
  refine g_goto V dL_law_1725 rfl ?_
  refine g_less (bs := [true, true, true, true, true, false, false]) (lv2 := [some (.ref v0), some (.ref v1), some (.ref v2), some (.ref v3), some (gi v4), none, none]) rfl ?_
  exact hl_L_law_J2201 hst V hend K27 hK27 v0 v1 v2 v3 v4 hp7 c4 s5 hw
theorem hl_L_law_J1672 {p : Program} {l : Launch} {e : Env} {s : State} {m : MethodId} {args : Array Value} {below : List Frame} {meth : Method} {c : Code} {G : gaG} {nm : String} {Z : State → Prop} (hst : l.stackTraces = false) (V : gaV p l s m args meth c G code RL 7 gaW ret nm) (hend : ∀ (pc : Nat) (lv : List (Option Value)) (h : gaH) (k j : Nat), decode code pc = .ok (.ireturn, 1) → gaP p l e room_1 s m args below meth c G 7 Z pc lv [gi 1] h k j) : ∀ (K27 : Nat → Nat → Nat → Nat → Int → gaH → Nat → Nat → Prop), ∀ (hK27 : ∀ (v0 : Nat) (v1 : Nat) (v2 : Nat) (v3 : Nat) (v4 : Int) (h : gaH) (kc ks : Nat), K27 v0 v1 v2 v3 v4 h kc ks → gaP p l e room_1 s m args below meth c G 7 Z 27 [some (.ref v0), some (.ref v1), some (.ref v2), some (.ref v3), some (gi v4), none, none] [] h kc ks), ∀ (v0 : Nat) (v1 : Nat) (v2 : Nat) (v3 : Nat) (v4 : Int) (h : gaH) (kc ks : Nat), w_L_law_J1672 G K27 v0 v1 v2 v3 v4 h kc ks → gaP p l e room_1 s m args below meth c G 7 Z 1672 [some (.ref v0), some (.ref v1), some (.ref v2), some (.ref v3), some (gi v4), none, none] [] h kc ks := by
  intro K27 hK27
  intro v0 v1 v2 v3 v4 h kc ks hw
  unfold w_L_law_J1672 at hw
  refine g_aload_n V dL_law_1672 rfl rfl ?_
  refine g_aload_n V dL_law_1673 rfl rfl ?_
  refine g_iload V dL_law_1674 rfl rfl ?_
  refine g_iconst V (Int32.ofInt 1) dL_law_1676 rfl rfl ?_
  refine gi_iadd V dL_law_1677 rfl ?_
  obtain ⟨t9, vs, r1, ha, ht, h0, h9, hv, hw⟩ := hw
  refine gi_iaload V ha ht h0 h9 hv dL_law_1678 rfl ?_
  refine g_aload_n V dL_law_1679 rfl rfl ?_
  obtain ⟨hk, hj, c4, s5, ec, es, hw⟩ := hw
  refine g_callSX (st := []) V (k_L_times hst hw) ww_5_102 ww_5_103 ww_1_0 ww_5_104 hd_L_times ⟨by decide, by decide⟩ rfl rfl (ga_cat rfl) dL_law_1680 hk hj rfl ga_none (ga_ki (fun r3 hp2 hw => ?_))
  refine ga_re ec es ?_
  refine g_istore (lv2 := [some (.ref v0), some (.ref v1), some (.ref v2), some (.ref v3), some (gi v4), some (gi r3), none]) V dL_law_1683 (by decide) rfl rfl rfl ?_
  refine g_aload_n V dL_law_1685 rfl rfl ?_
  refine g_aload_n V dL_law_1686 rfl rfl ?_
  refine g_iload V dL_law_1687 rfl rfl ?_
  refine g_iconst V (Int32.ofInt 1) dL_law_1689 rfl rfl ?_
  refine gi_iadd V dL_law_1690 rfl ?_
  obtain ⟨t9, vs, r6, ha, ht, h0, h9, hv, hw⟩ := hw
  refine gi_iaload V ha ht h0 h9 hv dL_law_1691 rfl ?_
  obtain ⟨hb, hw⟩ := hw
  obtain ⟨fb, hb⟩ := hb
  refine g_callV (C := RX7) (T := TX7) (N := 8) (st := []) V (k_X7_times hst hw) ww_6_214 ww_6_215 ww_6_216 ww_1_5 ww_6_217 hd_X7_times ⟨by decide, by decide⟩ rfl (by decide) hb rfl rfl (ga_cat rfl) dL_law_1692 (Nat.zero_le _) (Nat.zero_le _) rfl ga_none (ga_ki (fun r8 hp7 hw => ?_))
  refine g_istore (lv2 := [some (.ref v0), some (.ref v1), some (.ref v2), some (.ref v3), some (gi v4), some (gi r3), some (gi r8)]) V dL_law_1695 (by decide) rfl rfl rfl ?_
  refine g_goto V dL_law_1697 rfl ?_
  refine g_less (bs := [true, true, true, true, true, false, false]) (lv2 := [some (.ref v0), some (.ref v1), some (.ref v2), some (.ref v3), some (gi v4), none, none]) rfl ?_
  exact hl_L_law_J2201 hst V hend K27 hK27 v0 v1 v2 v3 v4 hp7 c4 s5 hw
theorem hl_L_law_J1664 {p : Program} {l : Launch} {e : Env} {s : State} {m : MethodId} {args : Array Value} {below : List Frame} {meth : Method} {c : Code} {G : gaG} {nm : String} {Z : State → Prop} (hst : l.stackTraces = false) (V : gaV p l s m args meth c G code RL 7 gaW ret nm) (hend : ∀ (pc : Nat) (lv : List (Option Value)) (h : gaH) (k j : Nat), decode code pc = .ok (.ireturn, 1) → gaP p l e room_1 s m args below meth c G 7 Z pc lv [gi 1] h k j) : ∀ (K27 : Nat → Nat → Nat → Nat → Int → gaH → Nat → Nat → Prop), ∀ (hK27 : ∀ (v0 : Nat) (v1 : Nat) (v2 : Nat) (v3 : Nat) (v4 : Int) (h : gaH) (kc ks : Nat), K27 v0 v1 v2 v3 v4 h kc ks → gaP p l e room_1 s m args below meth c G 7 Z 27 [some (.ref v0), some (.ref v1), some (.ref v2), some (.ref v3), some (gi v4), none, none] [] h kc ks), ∀ (v0 : Nat) (v1 : Nat) (v2 : Nat) (v3 : Nat) (v4 : Int) (t0 : Nat) (t1 : Int) (t2 : Int) (t3 : Int) (h : gaH) (kc ks : Nat), w_L_law_J1664 G K27 v0 v1 v2 v3 v4 t0 t1 t2 t3 h kc ks → gaP p l e room_1 s m args below meth c G 7 Z 1664 [some (.ref v0), some (.ref v1), some (.ref v2), some (.ref v3), some (gi v4), none, none] [gi t3, gi t2, gi t1, .ref t0] h kc ks := by
  intro K27 hK27
  intro v0 v1 v2 v3 v4 t0 t1 t2 t3 h kc ks hw
  unfold w_L_law_J1664 at hw
  obtain ⟨hb, hw⟩ := hw
  obtain ⟨fb, hb⟩ := hb
  refine g_callV (C := RX7) (T := TX7) (N := 8) (st := []) V (k_X7_kinds hst hw) ww_6_207 ww_6_208 ww_6_209 ww_1_5 ww_6_210 hd_X7_kinds ⟨by decide, by decide⟩ rfl (by decide) hb rfl rfl (ga_cat rfl) dL_law_1664 (Nat.zero_le _) (Nat.zero_le _) rfl ga_none (ga_ki (fun r2 hp1 hw => ?_))
  refine g_istore (lv2 := [some (.ref v0), some (.ref v1), some (.ref v2), some (.ref v3), some (gi v4), none, some (gi r2)]) V dL_law_1667 (by decide) rfl rfl rfl ?_
  refine g_goto V dL_law_1669 rfl ?_
  refine g_less (bs := [true, true, true, true, true, true, false]) (lv2 := [some (.ref v0), some (.ref v1), some (.ref v2), some (.ref v3), some (gi v4), none, none]) rfl ?_
  exact hl_L_law_J2201 hst V hend K27 hK27 v0 v1 v2 v3 v4 hp1 kc ks hw
theorem hl_L_law_J1631 {p : Program} {l : Launch} {e : Env} {s : State} {m : MethodId} {args : Array Value} {below : List Frame} {meth : Method} {c : Code} {G : gaG} {nm : String} {Z : State → Prop} (hst : l.stackTraces = false) (V : gaV p l s m args meth c G code RL 7 gaW ret nm) (hend : ∀ (pc : Nat) (lv : List (Option Value)) (h : gaH) (k j : Nat), decode code pc = .ok (.ireturn, 1) → gaP p l e room_1 s m args below meth c G 7 Z pc lv [gi 1] h k j) : ∀ (K27 : Nat → Nat → Nat → Nat → Int → gaH → Nat → Nat → Prop), ∀ (hK27 : ∀ (v0 : Nat) (v1 : Nat) (v2 : Nat) (v3 : Nat) (v4 : Int) (h : gaH) (kc ks : Nat), K27 v0 v1 v2 v3 v4 h kc ks → gaP p l e room_1 s m args below meth c G 7 Z 27 [some (.ref v0), some (.ref v1), some (.ref v2), some (.ref v3), some (gi v4), none, none] [] h kc ks), ∀ (v0 : Nat) (v1 : Nat) (v2 : Nat) (v3 : Nat) (v4 : Int) (t0 : Nat) (t1 : Int) (t2 : Int) (t3 : Int) (h : gaH) (kc ks : Nat), w_L_law_J1631 G K27 v0 v1 v2 v3 v4 t0 t1 t2 t3 h kc ks → gaP p l e room_1 s m args below meth c G 7 Z 1631 [some (.ref v0), some (.ref v1), some (.ref v2), some (.ref v3), some (gi v4), none, none] [gi t3, gi t2, gi t1, .ref t0] h kc ks := by
  intro K27 hK27
  intro v0 v1 v2 v3 v4 t0 t1 t2 t3 h kc ks hw
  unfold w_L_law_J1631 at hw
  refine g_aload_n V dL_law_1631 rfl rfl ?_
  obtain ⟨hk, hj, c3, s4, ec, es, hw⟩ := hw
  refine g_callSX (st := []) V (k_L_kinds hst hw) ww_5_89 ww_5_90 ww_1_0 ww_5_91 hd_L_kinds ⟨by decide, by decide⟩ rfl rfl (ga_cat rfl) dL_law_1632 hk hj rfl ga_none (ga_ki (fun r2 hp1 hw => ?_))
  refine ga_re ec es ?_
  refine g_istore (lv2 := [some (.ref v0), some (.ref v1), some (.ref v2), some (.ref v3), some (gi v4), some (gi r2), none]) V dL_law_1635 (by decide) rfl rfl rfl ?_
  refine g_aload_n V dL_law_1637 rfl rfl ?_
  refine g_aload_n V dL_law_1638 rfl rfl ?_
  refine g_iload V dL_law_1639 rfl rfl ?_
  refine g_iconst V (Int32.ofInt 1) dL_law_1641 rfl rfl ?_
  refine gi_iadd V dL_law_1642 rfl ?_
  obtain ⟨t9, vs, r5, ha, ht, h0, h9, hv, hw⟩ := hw
  refine gi_iaload V ha ht h0 h9 hv dL_law_1643 rfl ?_
  refine g_aload_n V dL_law_1644 rfl rfl ?_
  refine g_iload V dL_law_1645 rfl rfl ?_
  refine g_iconst V (Int32.ofInt 2) dL_law_1647 rfl rfl ?_
  refine gi_iadd V dL_law_1648 rfl ?_
  obtain ⟨t9, vs, r6, ha, ht, h0, h9, hv, hw⟩ := hw
  refine gi_iaload V ha ht h0 h9 hv dL_law_1649 rfl ?_
  refine g_aload_n V dL_law_1650 rfl rfl ?_
  refine g_iload V dL_law_1651 rfl rfl ?_
  refine g_iconst V (Int32.ofInt 3) dL_law_1653 rfl rfl ?_
  refine gi_iadd V dL_law_1654 rfl ?_
  obtain ⟨t9, vs, r7, ha, ht, h0, h9, hv, hw⟩ := hw
  refine gi_iaload V ha ht h0 h9 hv dL_law_1655 rfl ?_
  obtain ⟨hx0, hw⟩ := hw
  refine gi_if_eq V dL_law_1656 rfl rfl hx0 (fun q => ?_) (fun q => ?_)
  · have hw := ga_t q hw
    refine g_iconst V (Int32.ofInt 0) dL_law_1663 rfl rfl ?_
    refine g_less (bs := [true, true, true, true, true, false, true]) (lv2 := [some (.ref v0), some (.ref v1), some (.ref v2), some (.ref v3), some (gi v4), none, none]) rfl ?_
    exact hl_L_law_J1664 hst V hend K27 hK27 v0 v1 v2 v3 v4 v2 r5 r6 0 hp1 c3 s4 hw
  · have hw := ga_f q hw
    refine g_iconst V (Int32.ofInt 1) dL_law_1659 rfl rfl ?_
    refine g_goto V dL_law_1660 rfl ?_
    refine g_less (bs := [true, true, true, true, true, false, true]) (lv2 := [some (.ref v0), some (.ref v1), some (.ref v2), some (.ref v3), some (gi v4), none, none]) rfl ?_
    exact hl_L_law_J1664 hst V hend K27 hK27 v0 v1 v2 v3 v4 v2 r5 r6 1 hp1 c3 s4 hw
theorem hl_L_law_J1604 {p : Program} {l : Launch} {e : Env} {s : State} {m : MethodId} {args : Array Value} {below : List Frame} {meth : Method} {c : Code} {G : gaG} {nm : String} {Z : State → Prop} (hst : l.stackTraces = false) (V : gaV p l s m args meth c G code RL 7 gaW ret nm) (hend : ∀ (pc : Nat) (lv : List (Option Value)) (h : gaH) (k j : Nat), decode code pc = .ok (.ireturn, 1) → gaP p l e room_1 s m args below meth c G 7 Z pc lv [gi 1] h k j) : ∀ (K27 : Nat → Nat → Nat → Nat → Int → gaH → Nat → Nat → Prop), ∀ (hK27 : ∀ (v0 : Nat) (v1 : Nat) (v2 : Nat) (v3 : Nat) (v4 : Int) (h : gaH) (kc ks : Nat), K27 v0 v1 v2 v3 v4 h kc ks → gaP p l e room_1 s m args below meth c G 7 Z 27 [some (.ref v0), some (.ref v1), some (.ref v2), some (.ref v3), some (gi v4), none, none] [] h kc ks), ∀ (v0 : Nat) (v1 : Nat) (v2 : Nat) (v3 : Nat) (v4 : Int) (h : gaH) (kc ks : Nat), w_L_law_J1604 G K27 v0 v1 v2 v3 v4 h kc ks → gaP p l e room_1 s m args below meth c G 7 Z 1604 [some (.ref v0), some (.ref v1), some (.ref v2), some (.ref v3), some (gi v4), none, none] [] h kc ks := by
  intro K27 hK27
  intro v0 v1 v2 v3 v4 h kc ks hw
  unfold w_L_law_J1604 at hw
  refine g_aload_n V dL_law_1604 rfl rfl ?_
  refine g_aload_n V dL_law_1605 rfl rfl ?_
  refine g_iload V dL_law_1606 rfl rfl ?_
  refine g_iconst V (Int32.ofInt 1) dL_law_1608 rfl rfl ?_
  refine gi_iadd V dL_law_1609 rfl ?_
  obtain ⟨t9, vs, r1, ha, ht, h0, h9, hv, hw⟩ := hw
  refine gi_iaload V ha ht h0 h9 hv dL_law_1610 rfl ?_
  refine g_aload_n V dL_law_1611 rfl rfl ?_
  refine g_iload V dL_law_1612 rfl rfl ?_
  refine g_iconst V (Int32.ofInt 2) dL_law_1614 rfl rfl ?_
  refine gi_iadd V dL_law_1615 rfl ?_
  obtain ⟨t9, vs, r2, ha, ht, h0, h9, hv, hw⟩ := hw
  refine gi_iaload V ha ht h0 h9 hv dL_law_1616 rfl ?_
  refine g_aload_n V dL_law_1617 rfl rfl ?_
  refine g_iload V dL_law_1618 rfl rfl ?_
  refine g_iconst V (Int32.ofInt 3) dL_law_1620 rfl rfl ?_
  refine gi_iadd V dL_law_1621 rfl ?_
  obtain ⟨t9, vs, r3, ha, ht, h0, h9, hv, hw⟩ := hw
  refine gi_iaload V ha ht h0 h9 hv dL_law_1622 rfl ?_
  obtain ⟨hx0, hw⟩ := hw
  refine gi_if_eq V dL_law_1623 rfl rfl hx0 (fun q => ?_) (fun q => ?_)
  · have hw := ga_t q hw
    refine g_iconst V (Int32.ofInt 0) dL_law_1630 rfl rfl ?_
    exact hl_L_law_J1631 hst V hend K27 hK27 v0 v1 v2 v3 v4 v1 r1 r2 0 h kc ks hw
  · have hw := ga_f q hw
    refine g_iconst V (Int32.ofInt 1) dL_law_1626 rfl rfl ?_
    refine g_goto V dL_law_1627 rfl ?_
    exact hl_L_law_J1631 hst V hend K27 hK27 v0 v1 v2 v3 v4 v1 r1 r2 1 h kc ks hw
theorem hl_L_law_J1596 {p : Program} {l : Launch} {e : Env} {s : State} {m : MethodId} {args : Array Value} {below : List Frame} {meth : Method} {c : Code} {G : gaG} {nm : String} {Z : State → Prop} (hst : l.stackTraces = false) (V : gaV p l s m args meth c G code RL 7 gaW ret nm) (hend : ∀ (pc : Nat) (lv : List (Option Value)) (h : gaH) (k j : Nat), decode code pc = .ok (.ireturn, 1) → gaP p l e room_1 s m args below meth c G 7 Z pc lv [gi 1] h k j) : ∀ (K27 : Nat → Nat → Nat → Nat → Int → gaH → Nat → Nat → Prop), ∀ (hK27 : ∀ (v0 : Nat) (v1 : Nat) (v2 : Nat) (v3 : Nat) (v4 : Int) (h : gaH) (kc ks : Nat), K27 v0 v1 v2 v3 v4 h kc ks → gaP p l e room_1 s m args below meth c G 7 Z 27 [some (.ref v0), some (.ref v1), some (.ref v2), some (.ref v3), some (gi v4), none, none] [] h kc ks), ∀ (v0 : Nat) (v1 : Nat) (v2 : Nat) (v3 : Nat) (v4 : Int) (t0 : Nat) (t1 : Int) (t2 : Int) (t3 : Int) (h : gaH) (kc ks : Nat), w_L_law_J1596 G K27 v0 v1 v2 v3 v4 t0 t1 t2 t3 h kc ks → gaP p l e room_1 s m args below meth c G 7 Z 1596 [some (.ref v0), some (.ref v1), some (.ref v2), some (.ref v3), some (gi v4), none, none] [gi t3, gi t2, gi t1, .ref t0] h kc ks := by
  intro K27 hK27
  intro v0 v1 v2 v3 v4 t0 t1 t2 t3 h kc ks hw
  unfold w_L_law_J1596 at hw
  obtain ⟨hb, hw⟩ := hw
  obtain ⟨fb, hb⟩ := hb
  refine g_callV (C := RX7) (T := TX7) (N := 8) (st := []) V (k_X7_spread hst hw) ww_6_198 ww_6_199 ww_6_200 ww_1_5 ww_6_201 hd_X7_spread ⟨by decide, by decide⟩ rfl (by decide) hb rfl rfl (ga_cat rfl) dL_law_1596 (Nat.zero_le _) (Nat.zero_le _) rfl ga_none (ga_ki (fun r2 hp1 hw => ?_))
  refine g_istore (lv2 := [some (.ref v0), some (.ref v1), some (.ref v2), some (.ref v3), some (gi v4), none, some (gi r2)]) V dL_law_1599 (by decide) rfl rfl rfl ?_
  refine g_goto V dL_law_1601 rfl ?_
  refine g_less (bs := [true, true, true, true, true, true, false]) (lv2 := [some (.ref v0), some (.ref v1), some (.ref v2), some (.ref v3), some (gi v4), none, none]) rfl ?_
  exact hl_L_law_J2201 hst V hend K27 hK27 v0 v1 v2 v3 v4 hp1 kc ks hw
theorem hl_L_law_J1563 {p : Program} {l : Launch} {e : Env} {s : State} {m : MethodId} {args : Array Value} {below : List Frame} {meth : Method} {c : Code} {G : gaG} {nm : String} {Z : State → Prop} (hst : l.stackTraces = false) (V : gaV p l s m args meth c G code RL 7 gaW ret nm) (hend : ∀ (pc : Nat) (lv : List (Option Value)) (h : gaH) (k j : Nat), decode code pc = .ok (.ireturn, 1) → gaP p l e room_1 s m args below meth c G 7 Z pc lv [gi 1] h k j) : ∀ (K27 : Nat → Nat → Nat → Nat → Int → gaH → Nat → Nat → Prop), ∀ (hK27 : ∀ (v0 : Nat) (v1 : Nat) (v2 : Nat) (v3 : Nat) (v4 : Int) (h : gaH) (kc ks : Nat), K27 v0 v1 v2 v3 v4 h kc ks → gaP p l e room_1 s m args below meth c G 7 Z 27 [some (.ref v0), some (.ref v1), some (.ref v2), some (.ref v3), some (gi v4), none, none] [] h kc ks), ∀ (v0 : Nat) (v1 : Nat) (v2 : Nat) (v3 : Nat) (v4 : Int) (t0 : Nat) (t1 : Int) (t2 : Int) (t3 : Int) (h : gaH) (kc ks : Nat), w_L_law_J1563 G K27 v0 v1 v2 v3 v4 t0 t1 t2 t3 h kc ks → gaP p l e room_1 s m args below meth c G 7 Z 1563 [some (.ref v0), some (.ref v1), some (.ref v2), some (.ref v3), some (gi v4), none, none] [gi t3, gi t2, gi t1, .ref t0] h kc ks := by
  intro K27 hK27
  intro v0 v1 v2 v3 v4 t0 t1 t2 t3 h kc ks hw
  unfold w_L_law_J1563 at hw
  refine g_aload_n V dL_law_1563 rfl rfl ?_
  obtain ⟨hk, hj, c3, s4, ec, es, hw⟩ := hw
  refine g_callSX (st := []) V (k_L_spread hst hw) ww_5_75 ww_5_76 ww_1_0 ww_5_77 hd_L_spread ⟨by decide, by decide⟩ rfl rfl (ga_cat rfl) dL_law_1564 hk hj rfl ga_none (ga_ki (fun r2 hp1 hw => ?_))
  refine ga_re ec es ?_
  refine g_istore (lv2 := [some (.ref v0), some (.ref v1), some (.ref v2), some (.ref v3), some (gi v4), some (gi r2), none]) V dL_law_1567 (by decide) rfl rfl rfl ?_
  refine g_aload_n V dL_law_1569 rfl rfl ?_
  refine g_aload_n V dL_law_1570 rfl rfl ?_
  refine g_iload V dL_law_1571 rfl rfl ?_
  refine g_iconst V (Int32.ofInt 1) dL_law_1573 rfl rfl ?_
  refine gi_iadd V dL_law_1574 rfl ?_
  obtain ⟨t9, vs, r5, ha, ht, h0, h9, hv, hw⟩ := hw
  refine gi_iaload V ha ht h0 h9 hv dL_law_1575 rfl ?_
  refine g_aload_n V dL_law_1576 rfl rfl ?_
  refine g_iload V dL_law_1577 rfl rfl ?_
  refine g_iconst V (Int32.ofInt 2) dL_law_1579 rfl rfl ?_
  refine gi_iadd V dL_law_1580 rfl ?_
  obtain ⟨t9, vs, r6, ha, ht, h0, h9, hv, hw⟩ := hw
  refine gi_iaload V ha ht h0 h9 hv dL_law_1581 rfl ?_
  refine g_aload_n V dL_law_1582 rfl rfl ?_
  refine g_iload V dL_law_1583 rfl rfl ?_
  refine g_iconst V (Int32.ofInt 3) dL_law_1585 rfl rfl ?_
  refine gi_iadd V dL_law_1586 rfl ?_
  obtain ⟨t9, vs, r7, ha, ht, h0, h9, hv, hw⟩ := hw
  refine gi_iaload V ha ht h0 h9 hv dL_law_1587 rfl ?_
  obtain ⟨hx0, hw⟩ := hw
  refine gi_if_eq V dL_law_1588 rfl rfl hx0 (fun q => ?_) (fun q => ?_)
  · have hw := ga_t q hw
    refine g_iconst V (Int32.ofInt 0) dL_law_1595 rfl rfl ?_
    refine g_less (bs := [true, true, true, true, true, false, true]) (lv2 := [some (.ref v0), some (.ref v1), some (.ref v2), some (.ref v3), some (gi v4), none, none]) rfl ?_
    exact hl_L_law_J1596 hst V hend K27 hK27 v0 v1 v2 v3 v4 v2 r5 r6 0 hp1 c3 s4 hw
  · have hw := ga_f q hw
    refine g_iconst V (Int32.ofInt 1) dL_law_1591 rfl rfl ?_
    refine g_goto V dL_law_1592 rfl ?_
    refine g_less (bs := [true, true, true, true, true, false, true]) (lv2 := [some (.ref v0), some (.ref v1), some (.ref v2), some (.ref v3), some (gi v4), none, none]) rfl ?_
    exact hl_L_law_J1596 hst V hend K27 hK27 v0 v1 v2 v3 v4 v2 r5 r6 1 hp1 c3 s4 hw
theorem hl_L_law_J1536 {p : Program} {l : Launch} {e : Env} {s : State} {m : MethodId} {args : Array Value} {below : List Frame} {meth : Method} {c : Code} {G : gaG} {nm : String} {Z : State → Prop} (hst : l.stackTraces = false) (V : gaV p l s m args meth c G code RL 7 gaW ret nm) (hend : ∀ (pc : Nat) (lv : List (Option Value)) (h : gaH) (k j : Nat), decode code pc = .ok (.ireturn, 1) → gaP p l e room_1 s m args below meth c G 7 Z pc lv [gi 1] h k j) : ∀ (K27 : Nat → Nat → Nat → Nat → Int → gaH → Nat → Nat → Prop), ∀ (hK27 : ∀ (v0 : Nat) (v1 : Nat) (v2 : Nat) (v3 : Nat) (v4 : Int) (h : gaH) (kc ks : Nat), K27 v0 v1 v2 v3 v4 h kc ks → gaP p l e room_1 s m args below meth c G 7 Z 27 [some (.ref v0), some (.ref v1), some (.ref v2), some (.ref v3), some (gi v4), none, none] [] h kc ks), ∀ (v0 : Nat) (v1 : Nat) (v2 : Nat) (v3 : Nat) (v4 : Int) (h : gaH) (kc ks : Nat), w_L_law_J1536 G K27 v0 v1 v2 v3 v4 h kc ks → gaP p l e room_1 s m args below meth c G 7 Z 1536 [some (.ref v0), some (.ref v1), some (.ref v2), some (.ref v3), some (gi v4), none, none] [] h kc ks := by
  intro K27 hK27
  intro v0 v1 v2 v3 v4 h kc ks hw
  unfold w_L_law_J1536 at hw
  refine g_aload_n V dL_law_1536 rfl rfl ?_
  refine g_aload_n V dL_law_1537 rfl rfl ?_
  refine g_iload V dL_law_1538 rfl rfl ?_
  refine g_iconst V (Int32.ofInt 1) dL_law_1540 rfl rfl ?_
  refine gi_iadd V dL_law_1541 rfl ?_
  obtain ⟨t9, vs, r1, ha, ht, h0, h9, hv, hw⟩ := hw
  refine gi_iaload V ha ht h0 h9 hv dL_law_1542 rfl ?_
  refine g_aload_n V dL_law_1543 rfl rfl ?_
  refine g_iload V dL_law_1544 rfl rfl ?_
  refine g_iconst V (Int32.ofInt 2) dL_law_1546 rfl rfl ?_
  refine gi_iadd V dL_law_1547 rfl ?_
  obtain ⟨t9, vs, r2, ha, ht, h0, h9, hv, hw⟩ := hw
  refine gi_iaload V ha ht h0 h9 hv dL_law_1548 rfl ?_
  refine g_aload_n V dL_law_1549 rfl rfl ?_
  refine g_iload V dL_law_1550 rfl rfl ?_
  refine g_iconst V (Int32.ofInt 3) dL_law_1552 rfl rfl ?_
  refine gi_iadd V dL_law_1553 rfl ?_
  obtain ⟨t9, vs, r3, ha, ht, h0, h9, hv, hw⟩ := hw
  refine gi_iaload V ha ht h0 h9 hv dL_law_1554 rfl ?_
  obtain ⟨hx0, hw⟩ := hw
  refine gi_if_eq V dL_law_1555 rfl rfl hx0 (fun q => ?_) (fun q => ?_)
  · have hw := ga_t q hw
    refine g_iconst V (Int32.ofInt 0) dL_law_1562 rfl rfl ?_
    exact hl_L_law_J1563 hst V hend K27 hK27 v0 v1 v2 v3 v4 v1 r1 r2 0 h kc ks hw
  · have hw := ga_f q hw
    refine g_iconst V (Int32.ofInt 1) dL_law_1558 rfl rfl ?_
    refine g_goto V dL_law_1559 rfl ?_
    exact hl_L_law_J1563 hst V hend K27 hK27 v0 v1 v2 v3 v4 v1 r1 r2 1 h kc ks hw
theorem hl_L_law_J1508 {p : Program} {l : Launch} {e : Env} {s : State} {m : MethodId} {args : Array Value} {below : List Frame} {meth : Method} {c : Code} {G : gaG} {nm : String} {Z : State → Prop} (hst : l.stackTraces = false) (V : gaV p l s m args meth c G code RL 7 gaW ret nm) (hend : ∀ (pc : Nat) (lv : List (Option Value)) (h : gaH) (k j : Nat), decode code pc = .ok (.ireturn, 1) → gaP p l e room_1 s m args below meth c G 7 Z pc lv [gi 1] h k j) : ∀ (K27 : Nat → Nat → Nat → Nat → Int → gaH → Nat → Nat → Prop), ∀ (hK27 : ∀ (v0 : Nat) (v1 : Nat) (v2 : Nat) (v3 : Nat) (v4 : Int) (h : gaH) (kc ks : Nat), K27 v0 v1 v2 v3 v4 h kc ks → gaP p l e room_1 s m args below meth c G 7 Z 27 [some (.ref v0), some (.ref v1), some (.ref v2), some (.ref v3), some (gi v4), none, none] [] h kc ks), ∀ (v0 : Nat) (v1 : Nat) (v2 : Nat) (v3 : Nat) (v4 : Int) (h : gaH) (kc ks : Nat), w_L_law_J1508 G K27 v0 v1 v2 v3 v4 h kc ks → gaP p l e room_1 s m args below meth c G 7 Z 1508 [some (.ref v0), some (.ref v1), some (.ref v2), some (.ref v3), some (gi v4), none, none] [] h kc ks := by
  intro K27 hK27
  intro v0 v1 v2 v3 v4 h kc ks hw
  unfold w_L_law_J1508 at hw
  refine g_aload_n V dL_law_1508 rfl rfl ?_
  refine g_aload_n V dL_law_1509 rfl rfl ?_
  refine g_iload V dL_law_1510 rfl rfl ?_
  refine g_iconst V (Int32.ofInt 1) dL_law_1512 rfl rfl ?_
  refine gi_iadd V dL_law_1513 rfl ?_
  obtain ⟨t9, vs, r1, ha, ht, h0, h9, hv, hw⟩ := hw
  refine gi_iaload V ha ht h0 h9 hv dL_law_1514 rfl ?_
  refine g_aload_n V dL_law_1515 rfl rfl ?_
  obtain ⟨hk, hj, c4, s5, ec, es, hw⟩ := hw
  refine g_callSX (st := []) V (k_L_isMirrored hst hw) ww_5_71 ww_5_72 ww_1_0 ww_5_73 hd_L_isMirrored ⟨by decide, by decide⟩ rfl rfl (ga_cat rfl) dL_law_1516 hk hj rfl ga_none (ga_ki (fun r3 hp2 hw => ?_))
  refine ga_re ec es ?_
  refine g_istore (lv2 := [some (.ref v0), some (.ref v1), some (.ref v2), some (.ref v3), some (gi v4), some (gi r3), none]) V dL_law_1519 (by decide) rfl rfl rfl ?_
  refine g_aload_n V dL_law_1521 rfl rfl ?_
  refine g_aload_n V dL_law_1522 rfl rfl ?_
  refine g_iload V dL_law_1523 rfl rfl ?_
  refine g_iconst V (Int32.ofInt 1) dL_law_1525 rfl rfl ?_
  refine gi_iadd V dL_law_1526 rfl ?_
  obtain ⟨t9, vs, r6, ha, ht, h0, h9, hv, hw⟩ := hw
  refine gi_iaload V ha ht h0 h9 hv dL_law_1527 rfl ?_
  obtain ⟨hb, hw⟩ := hw
  obtain ⟨fb, hb⟩ := hb
  refine g_callV (C := RX7) (T := TX7) (N := 8) (st := []) V (k_X7_isMirrored_ hst hw) ww_6_191 ww_6_192 ww_6_193 ww_1_5 ww_6_194 hd_X7_isMirrored_ ⟨by decide, by decide⟩ rfl (by decide) hb rfl rfl (ga_cat rfl) dL_law_1528 (Nat.zero_le _) (Nat.zero_le _) rfl ga_none (ga_ki (fun r8 hp7 hw => ?_))
  refine g_istore (lv2 := [some (.ref v0), some (.ref v1), some (.ref v2), some (.ref v3), some (gi v4), some (gi r3), some (gi r8)]) V dL_law_1531 (by decide) rfl rfl rfl ?_
  refine g_goto V dL_law_1533 rfl ?_
  refine g_less (bs := [true, true, true, true, true, false, false]) (lv2 := [some (.ref v0), some (.ref v1), some (.ref v2), some (.ref v3), some (gi v4), none, none]) rfl ?_
  exact hl_L_law_J2201 hst V hend K27 hK27 v0 v1 v2 v3 v4 hp7 c4 s5 hw
theorem hl_L_law_J1468 {p : Program} {l : Launch} {e : Env} {s : State} {m : MethodId} {args : Array Value} {below : List Frame} {meth : Method} {c : Code} {G : gaG} {nm : String} {Z : State → Prop} (hst : l.stackTraces = false) (V : gaV p l s m args meth c G code RL 7 gaW ret nm) (hend : ∀ (pc : Nat) (lv : List (Option Value)) (h : gaH) (k j : Nat), decode code pc = .ok (.ireturn, 1) → gaP p l e room_1 s m args below meth c G 7 Z pc lv [gi 1] h k j) : ∀ (K27 : Nat → Nat → Nat → Nat → Int → gaH → Nat → Nat → Prop), ∀ (hK27 : ∀ (v0 : Nat) (v1 : Nat) (v2 : Nat) (v3 : Nat) (v4 : Int) (h : gaH) (kc ks : Nat), K27 v0 v1 v2 v3 v4 h kc ks → gaP p l e room_1 s m args below meth c G 7 Z 27 [some (.ref v0), some (.ref v1), some (.ref v2), some (.ref v3), some (gi v4), none, none] [] h kc ks), ∀ (v0 : Nat) (v1 : Nat) (v2 : Nat) (v3 : Nat) (v4 : Int) (h : gaH) (kc ks : Nat), w_L_law_J1468 G K27 v0 v1 v2 v3 v4 h kc ks → gaP p l e room_1 s m args below meth c G 7 Z 1468 [some (.ref v0), some (.ref v1), some (.ref v2), some (.ref v3), some (gi v4), none, none] [] h kc ks := by
  intro K27 hK27
  intro v0 v1 v2 v3 v4 h kc ks hw
  unfold w_L_law_J1468 at hw
  refine g_aload_n V dL_law_1468 rfl rfl ?_
  refine g_aload_n V dL_law_1469 rfl rfl ?_
  refine g_iload V dL_law_1470 rfl rfl ?_
  refine g_iconst V (Int32.ofInt 1) dL_law_1472 rfl rfl ?_
  refine gi_iadd V dL_law_1473 rfl ?_
  obtain ⟨t9, vs, r1, ha, ht, h0, h9, hv, hw⟩ := hw
  refine gi_iaload V ha ht h0 h9 hv dL_law_1474 rfl ?_
  refine g_aload_n V dL_law_1475 rfl rfl ?_
  refine g_iload V dL_law_1476 rfl rfl ?_
  refine g_iconst V (Int32.ofInt 2) dL_law_1478 rfl rfl ?_
  refine gi_iadd V dL_law_1479 rfl ?_
  obtain ⟨t9, vs, r2, ha, ht, h0, h9, hv, hw⟩ := hw
  refine gi_iaload V ha ht h0 h9 hv dL_law_1480 rfl ?_
  refine g_aload_n V dL_law_1481 rfl rfl ?_
  obtain ⟨hk, hj, c5, s6, ec, es, hw⟩ := hw
  refine g_callSX (st := []) V (k_L_order hst hw) ww_5_64 ww_5_65 ww_1_0 ww_5_66 hd_L_order ⟨by decide, by decide⟩ rfl rfl (ga_cat rfl) dL_law_1482 hk hj rfl ga_none (ga_ki (fun r4 hp3 hw => ?_))
  refine ga_re ec es ?_
  refine g_istore (lv2 := [some (.ref v0), some (.ref v1), some (.ref v2), some (.ref v3), some (gi v4), some (gi r4), none]) V dL_law_1485 (by decide) rfl rfl rfl ?_
  refine g_aload_n V dL_law_1487 rfl rfl ?_
  refine g_aload_n V dL_law_1488 rfl rfl ?_
  refine g_iload V dL_law_1489 rfl rfl ?_
  refine g_iconst V (Int32.ofInt 1) dL_law_1491 rfl rfl ?_
  refine gi_iadd V dL_law_1492 rfl ?_
  obtain ⟨t9, vs, r7, ha, ht, h0, h9, hv, hw⟩ := hw
  refine gi_iaload V ha ht h0 h9 hv dL_law_1493 rfl ?_
  refine g_aload_n V dL_law_1494 rfl rfl ?_
  refine g_iload V dL_law_1495 rfl rfl ?_
  refine g_iconst V (Int32.ofInt 2) dL_law_1497 rfl rfl ?_
  refine gi_iadd V dL_law_1498 rfl ?_
  obtain ⟨t9, vs, r8, ha, ht, h0, h9, hv, hw⟩ := hw
  refine gi_iaload V ha ht h0 h9 hv dL_law_1499 rfl ?_
  obtain ⟨hb, hw⟩ := hw
  obtain ⟨fb, hb⟩ := hb
  refine g_callV (C := RX7) (T := TX7) (N := 8) (st := []) V (k_X7_order hst hw) ww_6_187 ww_6_188 ww_6_189 ww_1_5 ww_6_190 hd_X7_order ⟨by decide, by decide⟩ rfl (by decide) hb rfl rfl (ga_cat rfl) dL_law_1500 (Nat.zero_le _) (Nat.zero_le _) rfl ga_none (ga_ki (fun r10 hp9 hw => ?_))
  refine g_istore (lv2 := [some (.ref v0), some (.ref v1), some (.ref v2), some (.ref v3), some (gi v4), some (gi r4), some (gi r10)]) V dL_law_1503 (by decide) rfl rfl rfl ?_
  refine g_goto V dL_law_1505 rfl ?_
  refine g_less (bs := [true, true, true, true, true, false, false]) (lv2 := [some (.ref v0), some (.ref v1), some (.ref v2), some (.ref v3), some (gi v4), none, none]) rfl ?_
  exact hl_L_law_J2201 hst V hend K27 hK27 v0 v1 v2 v3 v4 hp9 c5 s6 hw
theorem hl_L_law_J1416 {p : Program} {l : Launch} {e : Env} {s : State} {m : MethodId} {args : Array Value} {below : List Frame} {meth : Method} {c : Code} {G : gaG} {nm : String} {Z : State → Prop} (hst : l.stackTraces = false) (V : gaV p l s m args meth c G code RL 7 gaW ret nm) (hend : ∀ (pc : Nat) (lv : List (Option Value)) (h : gaH) (k j : Nat), decode code pc = .ok (.ireturn, 1) → gaP p l e room_1 s m args below meth c G 7 Z pc lv [gi 1] h k j) : ∀ (K27 : Nat → Nat → Nat → Nat → Int → gaH → Nat → Nat → Prop), ∀ (hK27 : ∀ (v0 : Nat) (v1 : Nat) (v2 : Nat) (v3 : Nat) (v4 : Int) (h : gaH) (kc ks : Nat), K27 v0 v1 v2 v3 v4 h kc ks → gaP p l e room_1 s m args below meth c G 7 Z 27 [some (.ref v0), some (.ref v1), some (.ref v2), some (.ref v3), some (gi v4), none, none] [] h kc ks), ∀ (v0 : Nat) (v1 : Nat) (v2 : Nat) (v3 : Nat) (v4 : Int) (h : gaH) (kc ks : Nat), w_L_law_J1416 G K27 v0 v1 v2 v3 v4 h kc ks → gaP p l e room_1 s m args below meth c G 7 Z 1416 [some (.ref v0), some (.ref v1), some (.ref v2), some (.ref v3), some (gi v4), none, none] [] h kc ks := by
  intro K27 hK27
  intro v0 v1 v2 v3 v4 h kc ks hw
  unfold w_L_law_J1416 at hw
  refine g_aload_n V dL_law_1416 rfl rfl ?_
  refine g_aload_n V dL_law_1417 rfl rfl ?_
  refine g_iload V dL_law_1418 rfl rfl ?_
  refine g_iconst V (Int32.ofInt 1) dL_law_1420 rfl rfl ?_
  refine gi_iadd V dL_law_1421 rfl ?_
  obtain ⟨t9, vs, r1, ha, ht, h0, h9, hv, hw⟩ := hw
  refine gi_iaload V ha ht h0 h9 hv dL_law_1422 rfl ?_
  refine g_aload_n V dL_law_1423 rfl rfl ?_
  refine g_iload V dL_law_1424 rfl rfl ?_
  refine g_iconst V (Int32.ofInt 2) dL_law_1426 rfl rfl ?_
  refine gi_iadd V dL_law_1427 rfl ?_
  obtain ⟨t9, vs, r2, ha, ht, h0, h9, hv, hw⟩ := hw
  refine gi_iaload V ha ht h0 h9 hv dL_law_1428 rfl ?_
  refine g_aload_n V dL_law_1429 rfl rfl ?_
  refine g_iload V dL_law_1430 rfl rfl ?_
  refine g_iconst V (Int32.ofInt 3) dL_law_1432 rfl rfl ?_
  refine gi_iadd V dL_law_1433 rfl ?_
  obtain ⟨t9, vs, r3, ha, ht, h0, h9, hv, hw⟩ := hw
  refine gi_iaload V ha ht h0 h9 hv dL_law_1434 rfl ?_
  refine g_aload_n V dL_law_1435 rfl rfl ?_
  obtain ⟨hk, hj, c6, s7, ec, es, hw⟩ := hw
  refine g_callSX (st := []) V (k_L_findLast hst hw) ww_5_57 ww_5_58 ww_1_0 ww_5_59 hd_L_findLast ⟨by decide, by decide⟩ rfl rfl (ga_cat rfl) dL_law_1436 hk hj rfl ga_none (ga_ki (fun r5 hp4 hw => ?_))
  refine ga_re ec es ?_
  refine g_istore (lv2 := [some (.ref v0), some (.ref v1), some (.ref v2), some (.ref v3), some (gi v4), some (gi r5), none]) V dL_law_1439 (by decide) rfl rfl rfl ?_
  refine g_aload_n V dL_law_1441 rfl rfl ?_
  refine g_aload_n V dL_law_1442 rfl rfl ?_
  refine g_iload V dL_law_1443 rfl rfl ?_
  refine g_iconst V (Int32.ofInt 1) dL_law_1445 rfl rfl ?_
  refine gi_iadd V dL_law_1446 rfl ?_
  obtain ⟨t9, vs, r8, ha, ht, h0, h9, hv, hw⟩ := hw
  refine gi_iaload V ha ht h0 h9 hv dL_law_1447 rfl ?_
  refine g_aload_n V dL_law_1448 rfl rfl ?_
  refine g_iload V dL_law_1449 rfl rfl ?_
  refine g_iconst V (Int32.ofInt 2) dL_law_1451 rfl rfl ?_
  refine gi_iadd V dL_law_1452 rfl ?_
  obtain ⟨t9, vs, r9, ha, ht, h0, h9, hv, hw⟩ := hw
  refine gi_iaload V ha ht h0 h9 hv dL_law_1453 rfl ?_
  refine g_aload_n V dL_law_1454 rfl rfl ?_
  refine g_iload V dL_law_1455 rfl rfl ?_
  refine g_iconst V (Int32.ofInt 3) dL_law_1457 rfl rfl ?_
  refine gi_iadd V dL_law_1458 rfl ?_
  obtain ⟨t9, vs, r10, ha, ht, h0, h9, hv, hw⟩ := hw
  refine gi_iaload V ha ht h0 h9 hv dL_law_1459 rfl ?_
  obtain ⟨hb, hw⟩ := hw
  obtain ⟨fb, hb⟩ := hb
  refine g_callV (C := RX7) (T := TX7) (N := 8) (st := []) V (k_X7_findLast hst hw) ww_6_183 ww_6_184 ww_6_185 ww_1_5 ww_6_186 hd_X7_findLast ⟨by decide, by decide⟩ rfl (by decide) hb rfl rfl (ga_cat rfl) dL_law_1460 (Nat.zero_le _) (Nat.zero_le _) rfl ga_none (ga_ki (fun r12 hp11 hw => ?_))
  refine g_istore (lv2 := [some (.ref v0), some (.ref v1), some (.ref v2), some (.ref v3), some (gi v4), some (gi r5), some (gi r12)]) V dL_law_1463 (by decide) rfl rfl rfl ?_
  refine g_goto V dL_law_1465 rfl ?_
  refine g_less (bs := [true, true, true, true, true, false, false]) (lv2 := [some (.ref v0), some (.ref v1), some (.ref v2), some (.ref v3), some (gi v4), none, none]) rfl ?_
  exact hl_L_law_J2201 hst V hend K27 hK27 v0 v1 v2 v3 v4 hp11 c6 s7 hw
theorem hl_L_law_J1364 {p : Program} {l : Launch} {e : Env} {s : State} {m : MethodId} {args : Array Value} {below : List Frame} {meth : Method} {c : Code} {G : gaG} {nm : String} {Z : State → Prop} (hst : l.stackTraces = false) (V : gaV p l s m args meth c G code RL 7 gaW ret nm) (hend : ∀ (pc : Nat) (lv : List (Option Value)) (h : gaH) (k j : Nat), decode code pc = .ok (.ireturn, 1) → gaP p l e room_1 s m args below meth c G 7 Z pc lv [gi 1] h k j) : ∀ (K27 : Nat → Nat → Nat → Nat → Int → gaH → Nat → Nat → Prop), ∀ (hK27 : ∀ (v0 : Nat) (v1 : Nat) (v2 : Nat) (v3 : Nat) (v4 : Int) (h : gaH) (kc ks : Nat), K27 v0 v1 v2 v3 v4 h kc ks → gaP p l e room_1 s m args below meth c G 7 Z 27 [some (.ref v0), some (.ref v1), some (.ref v2), some (.ref v3), some (gi v4), none, none] [] h kc ks), ∀ (v0 : Nat) (v1 : Nat) (v2 : Nat) (v3 : Nat) (v4 : Int) (h : gaH) (kc ks : Nat), w_L_law_J1364 G K27 v0 v1 v2 v3 v4 h kc ks → gaP p l e room_1 s m args below meth c G 7 Z 1364 [some (.ref v0), some (.ref v1), some (.ref v2), some (.ref v3), some (gi v4), none, none] [] h kc ks := by
  intro K27 hK27
  intro v0 v1 v2 v3 v4 h kc ks hw
  unfold w_L_law_J1364 at hw
  refine g_aload_n V dL_law_1364 rfl rfl ?_
  refine g_aload_n V dL_law_1365 rfl rfl ?_
  refine g_iload V dL_law_1366 rfl rfl ?_
  refine g_iconst V (Int32.ofInt 1) dL_law_1368 rfl rfl ?_
  refine gi_iadd V dL_law_1369 rfl ?_
  obtain ⟨t9, vs, r1, ha, ht, h0, h9, hv, hw⟩ := hw
  refine gi_iaload V ha ht h0 h9 hv dL_law_1370 rfl ?_
  refine g_aload_n V dL_law_1371 rfl rfl ?_
  refine g_iload V dL_law_1372 rfl rfl ?_
  refine g_iconst V (Int32.ofInt 2) dL_law_1374 rfl rfl ?_
  refine gi_iadd V dL_law_1375 rfl ?_
  obtain ⟨t9, vs, r2, ha, ht, h0, h9, hv, hw⟩ := hw
  refine gi_iaload V ha ht h0 h9 hv dL_law_1376 rfl ?_
  refine g_aload_n V dL_law_1377 rfl rfl ?_
  refine g_iload V dL_law_1378 rfl rfl ?_
  refine g_iconst V (Int32.ofInt 3) dL_law_1380 rfl rfl ?_
  refine gi_iadd V dL_law_1381 rfl ?_
  obtain ⟨t9, vs, r3, ha, ht, h0, h9, hv, hw⟩ := hw
  refine gi_iaload V ha ht h0 h9 hv dL_law_1382 rfl ?_
  refine g_aload_n V dL_law_1383 rfl rfl ?_
  obtain ⟨hk, hj, c6, s7, ec, es, hw⟩ := hw
  refine g_callSX (st := []) V (k_L_find hst hw) ww_5_49 ww_5_50 ww_1_0 ww_5_51 hd_L_find ⟨by decide, by decide⟩ rfl rfl (ga_cat rfl) dL_law_1384 hk hj rfl ga_none (ga_ki (fun r5 hp4 hw => ?_))
  refine ga_re ec es ?_
  refine g_istore (lv2 := [some (.ref v0), some (.ref v1), some (.ref v2), some (.ref v3), some (gi v4), some (gi r5), none]) V dL_law_1387 (by decide) rfl rfl rfl ?_
  refine g_aload_n V dL_law_1389 rfl rfl ?_
  refine g_aload_n V dL_law_1390 rfl rfl ?_
  refine g_iload V dL_law_1391 rfl rfl ?_
  refine g_iconst V (Int32.ofInt 1) dL_law_1393 rfl rfl ?_
  refine gi_iadd V dL_law_1394 rfl ?_
  obtain ⟨t9, vs, r8, ha, ht, h0, h9, hv, hw⟩ := hw
  refine gi_iaload V ha ht h0 h9 hv dL_law_1395 rfl ?_
  refine g_aload_n V dL_law_1396 rfl rfl ?_
  refine g_iload V dL_law_1397 rfl rfl ?_
  refine g_iconst V (Int32.ofInt 2) dL_law_1399 rfl rfl ?_
  refine gi_iadd V dL_law_1400 rfl ?_
  obtain ⟨t9, vs, r9, ha, ht, h0, h9, hv, hw⟩ := hw
  refine gi_iaload V ha ht h0 h9 hv dL_law_1401 rfl ?_
  refine g_aload_n V dL_law_1402 rfl rfl ?_
  refine g_iload V dL_law_1403 rfl rfl ?_
  refine g_iconst V (Int32.ofInt 3) dL_law_1405 rfl rfl ?_
  refine gi_iadd V dL_law_1406 rfl ?_
  obtain ⟨t9, vs, r10, ha, ht, h0, h9, hv, hw⟩ := hw
  refine gi_iaload V ha ht h0 h9 hv dL_law_1407 rfl ?_
  obtain ⟨hb, hw⟩ := hw
  obtain ⟨fb, hb⟩ := hb
  refine g_callV (C := RX7) (T := TX7) (N := 8) (st := []) V (k_X7_find hst hw) ww_6_179 ww_6_180 ww_6_181 ww_1_5 ww_6_182 hd_X7_find ⟨by decide, by decide⟩ rfl (by decide) hb rfl rfl (ga_cat rfl) dL_law_1408 (Nat.zero_le _) (Nat.zero_le _) rfl ga_none (ga_ki (fun r12 hp11 hw => ?_))
  refine g_istore (lv2 := [some (.ref v0), some (.ref v1), some (.ref v2), some (.ref v3), some (gi v4), some (gi r5), some (gi r12)]) V dL_law_1411 (by decide) rfl rfl rfl ?_
  refine g_goto V dL_law_1413 rfl ?_
  refine g_less (bs := [true, true, true, true, true, false, false]) (lv2 := [some (.ref v0), some (.ref v1), some (.ref v2), some (.ref v3), some (gi v4), none, none]) rfl ?_
  exact hl_L_law_J2201 hst V hend K27 hK27 v0 v1 v2 v3 v4 hp11 c6 s7 hw
theorem hl_L_law_J1356 {p : Program} {l : Launch} {e : Env} {s : State} {m : MethodId} {args : Array Value} {below : List Frame} {meth : Method} {c : Code} {G : gaG} {nm : String} {Z : State → Prop} (hst : l.stackTraces = false) (V : gaV p l s m args meth c G code RL 7 gaW ret nm) (hend : ∀ (pc : Nat) (lv : List (Option Value)) (h : gaH) (k j : Nat), decode code pc = .ok (.ireturn, 1) → gaP p l e room_1 s m args below meth c G 7 Z pc lv [gi 1] h k j) : ∀ (K27 : Nat → Nat → Nat → Nat → Int → gaH → Nat → Nat → Prop), ∀ (hK27 : ∀ (v0 : Nat) (v1 : Nat) (v2 : Nat) (v3 : Nat) (v4 : Int) (h : gaH) (kc ks : Nat), K27 v0 v1 v2 v3 v4 h kc ks → gaP p l e room_1 s m args below meth c G 7 Z 27 [some (.ref v0), some (.ref v1), some (.ref v2), some (.ref v3), some (gi v4), none, none] [] h kc ks), ∀ (v0 : Nat) (v1 : Nat) (v2 : Nat) (v3 : Nat) (v4 : Int) (t0 : Nat) (t1 : Int) (t2 : Int) (h : gaH) (kc ks : Nat), w_L_law_J1356 G K27 v0 v1 v2 v3 v4 t0 t1 t2 h kc ks → gaP p l e room_1 s m args below meth c G 7 Z 1356 [some (.ref v0), some (.ref v1), some (.ref v2), some (.ref v3), some (gi v4), none, none] [gi t2, gi t1, .ref t0] h kc ks := by
  intro K27 hK27
  intro v0 v1 v2 v3 v4 t0 t1 t2 h kc ks hw
  unfold w_L_law_J1356 at hw
  obtain ⟨hb, hw⟩ := hw
  obtain ⟨fb, hb⟩ := hb
  refine g_callV (C := RX7) (T := TX7) (N := 8) (st := []) V (k_X7_count hst hw) ww_6_175 ww_6_176 ww_6_177 ww_1_5 ww_6_178 hd_X7_count ⟨by decide, by decide⟩ rfl (by decide) hb rfl rfl (ga_cat rfl) dL_law_1356 (Nat.zero_le _) (Nat.zero_le _) rfl ga_none (ga_ki (fun r2 hp1 hw => ?_))
  refine g_istore (lv2 := [some (.ref v0), some (.ref v1), some (.ref v2), some (.ref v3), some (gi v4), none, some (gi r2)]) V dL_law_1359 (by decide) rfl rfl rfl ?_
  refine g_goto V dL_law_1361 rfl ?_
  refine g_less (bs := [true, true, true, true, true, true, false]) (lv2 := [some (.ref v0), some (.ref v1), some (.ref v2), some (.ref v3), some (gi v4), none, none]) rfl ?_
  exact hl_L_law_J2201 hst V hend K27 hK27 v0 v1 v2 v3 v4 hp1 kc ks hw
theorem hl_L_law_J1329 {p : Program} {l : Launch} {e : Env} {s : State} {m : MethodId} {args : Array Value} {below : List Frame} {meth : Method} {c : Code} {G : gaG} {nm : String} {Z : State → Prop} (hst : l.stackTraces = false) (V : gaV p l s m args meth c G code RL 7 gaW ret nm) (hend : ∀ (pc : Nat) (lv : List (Option Value)) (h : gaH) (k j : Nat), decode code pc = .ok (.ireturn, 1) → gaP p l e room_1 s m args below meth c G 7 Z pc lv [gi 1] h k j) : ∀ (K27 : Nat → Nat → Nat → Nat → Int → gaH → Nat → Nat → Prop), ∀ (hK27 : ∀ (v0 : Nat) (v1 : Nat) (v2 : Nat) (v3 : Nat) (v4 : Int) (h : gaH) (kc ks : Nat), K27 v0 v1 v2 v3 v4 h kc ks → gaP p l e room_1 s m args below meth c G 7 Z 27 [some (.ref v0), some (.ref v1), some (.ref v2), some (.ref v3), some (gi v4), none, none] [] h kc ks), ∀ (v0 : Nat) (v1 : Nat) (v2 : Nat) (v3 : Nat) (v4 : Int) (t0 : Nat) (t1 : Int) (t2 : Int) (h : gaH) (kc ks : Nat), w_L_law_J1329 G K27 v0 v1 v2 v3 v4 t0 t1 t2 h kc ks → gaP p l e room_1 s m args below meth c G 7 Z 1329 [some (.ref v0), some (.ref v1), some (.ref v2), some (.ref v3), some (gi v4), none, none] [gi t2, gi t1, .ref t0] h kc ks := by
  intro K27 hK27
  intro v0 v1 v2 v3 v4 t0 t1 t2 h kc ks hw
  unfold w_L_law_J1329 at hw
  refine g_aload_n V dL_law_1329 rfl rfl ?_
  obtain ⟨hk, hj, c3, s4, ec, es, hw⟩ := hw
  refine g_callSX (st := []) V (k_L_count hst hw) ww_5_45 ww_5_46 ww_1_0 ww_5_47 hd_L_count ⟨by decide, by decide⟩ rfl rfl (ga_cat rfl) dL_law_1330 hk hj rfl ga_none (ga_ki (fun r2 hp1 hw => ?_))
  refine ga_re ec es ?_
  refine g_istore (lv2 := [some (.ref v0), some (.ref v1), some (.ref v2), some (.ref v3), some (gi v4), some (gi r2), none]) V dL_law_1333 (by decide) rfl rfl rfl ?_
  refine g_aload_n V dL_law_1335 rfl rfl ?_
  refine g_aload_n V dL_law_1336 rfl rfl ?_
  refine g_iload V dL_law_1337 rfl rfl ?_
  refine g_iconst V (Int32.ofInt 1) dL_law_1339 rfl rfl ?_
  refine gi_iadd V dL_law_1340 rfl ?_
  obtain ⟨t9, vs, r5, ha, ht, h0, h9, hv, hw⟩ := hw
  refine gi_iaload V ha ht h0 h9 hv dL_law_1341 rfl ?_
  refine g_aload_n V dL_law_1342 rfl rfl ?_
  refine g_iload V dL_law_1343 rfl rfl ?_
  refine g_iconst V (Int32.ofInt 2) dL_law_1345 rfl rfl ?_
  refine gi_iadd V dL_law_1346 rfl ?_
  obtain ⟨t9, vs, r6, ha, ht, h0, h9, hv, hw⟩ := hw
  refine gi_iaload V ha ht h0 h9 hv dL_law_1347 rfl ?_
  obtain ⟨hx0, hw⟩ := hw
  refine gi_if_eq V dL_law_1348 rfl rfl hx0 (fun q => ?_) (fun q => ?_)
  · have hw := ga_t q hw
    refine g_iconst V (Int32.ofInt 0) dL_law_1355 rfl rfl ?_
    refine g_less (bs := [true, true, true, true, true, false, true]) (lv2 := [some (.ref v0), some (.ref v1), some (.ref v2), some (.ref v3), some (gi v4), none, none]) rfl ?_
    exact hl_L_law_J1356 hst V hend K27 hK27 v0 v1 v2 v3 v4 v2 r5 0 hp1 c3 s4 hw
  · have hw := ga_f q hw
    refine g_iconst V (Int32.ofInt 1) dL_law_1351 rfl rfl ?_
    refine g_goto V dL_law_1352 rfl ?_
    refine g_less (bs := [true, true, true, true, true, false, true]) (lv2 := [some (.ref v0), some (.ref v1), some (.ref v2), some (.ref v3), some (gi v4), none, none]) rfl ?_
    exact hl_L_law_J1356 hst V hend K27 hK27 v0 v1 v2 v3 v4 v2 r5 1 hp1 c3 s4 hw
theorem hl_L_law_J1308 {p : Program} {l : Launch} {e : Env} {s : State} {m : MethodId} {args : Array Value} {below : List Frame} {meth : Method} {c : Code} {G : gaG} {nm : String} {Z : State → Prop} (hst : l.stackTraces = false) (V : gaV p l s m args meth c G code RL 7 gaW ret nm) (hend : ∀ (pc : Nat) (lv : List (Option Value)) (h : gaH) (k j : Nat), decode code pc = .ok (.ireturn, 1) → gaP p l e room_1 s m args below meth c G 7 Z pc lv [gi 1] h k j) : ∀ (K27 : Nat → Nat → Nat → Nat → Int → gaH → Nat → Nat → Prop), ∀ (hK27 : ∀ (v0 : Nat) (v1 : Nat) (v2 : Nat) (v3 : Nat) (v4 : Int) (h : gaH) (kc ks : Nat), K27 v0 v1 v2 v3 v4 h kc ks → gaP p l e room_1 s m args below meth c G 7 Z 27 [some (.ref v0), some (.ref v1), some (.ref v2), some (.ref v3), some (gi v4), none, none] [] h kc ks), ∀ (v0 : Nat) (v1 : Nat) (v2 : Nat) (v3 : Nat) (v4 : Int) (h : gaH) (kc ks : Nat), w_L_law_J1308 G K27 v0 v1 v2 v3 v4 h kc ks → gaP p l e room_1 s m args below meth c G 7 Z 1308 [some (.ref v0), some (.ref v1), some (.ref v2), some (.ref v3), some (gi v4), none, none] [] h kc ks := by
  intro K27 hK27
  intro v0 v1 v2 v3 v4 h kc ks hw
  unfold w_L_law_J1308 at hw
  refine g_aload_n V dL_law_1308 rfl rfl ?_
  refine g_aload_n V dL_law_1309 rfl rfl ?_
  refine g_iload V dL_law_1310 rfl rfl ?_
  refine g_iconst V (Int32.ofInt 1) dL_law_1312 rfl rfl ?_
  refine gi_iadd V dL_law_1313 rfl ?_
  obtain ⟨t9, vs, r1, ha, ht, h0, h9, hv, hw⟩ := hw
  refine gi_iaload V ha ht h0 h9 hv dL_law_1314 rfl ?_
  refine g_aload_n V dL_law_1315 rfl rfl ?_
  refine g_iload V dL_law_1316 rfl rfl ?_
  refine g_iconst V (Int32.ofInt 2) dL_law_1318 rfl rfl ?_
  refine gi_iadd V dL_law_1319 rfl ?_
  obtain ⟨t9, vs, r2, ha, ht, h0, h9, hv, hw⟩ := hw
  refine gi_iaload V ha ht h0 h9 hv dL_law_1320 rfl ?_
  obtain ⟨hx0, hw⟩ := hw
  refine gi_if_eq V dL_law_1321 rfl rfl hx0 (fun q => ?_) (fun q => ?_)
  · have hw := ga_t q hw
    refine g_iconst V (Int32.ofInt 0) dL_law_1328 rfl rfl ?_
    exact hl_L_law_J1329 hst V hend K27 hK27 v0 v1 v2 v3 v4 v1 r1 0 h kc ks hw
  · have hw := ga_f q hw
    refine g_iconst V (Int32.ofInt 1) dL_law_1324 rfl rfl ?_
    refine g_goto V dL_law_1325 rfl ?_
    exact hl_L_law_J1329 hst V hend K27 hK27 v0 v1 v2 v3 v4 v1 r1 1 h kc ks hw
theorem hl_L_law_J1280 {p : Program} {l : Launch} {e : Env} {s : State} {m : MethodId} {args : Array Value} {below : List Frame} {meth : Method} {c : Code} {G : gaG} {nm : String} {Z : State → Prop} (hst : l.stackTraces = false) (V : gaV p l s m args meth c G code RL 7 gaW ret nm) (hend : ∀ (pc : Nat) (lv : List (Option Value)) (h : gaH) (k j : Nat), decode code pc = .ok (.ireturn, 1) → gaP p l e room_1 s m args below meth c G 7 Z pc lv [gi 1] h k j) : ∀ (K27 : Nat → Nat → Nat → Nat → Int → gaH → Nat → Nat → Prop), ∀ (hK27 : ∀ (v0 : Nat) (v1 : Nat) (v2 : Nat) (v3 : Nat) (v4 : Int) (h : gaH) (kc ks : Nat), K27 v0 v1 v2 v3 v4 h kc ks → gaP p l e room_1 s m args below meth c G 7 Z 27 [some (.ref v0), some (.ref v1), some (.ref v2), some (.ref v3), some (gi v4), none, none] [] h kc ks), ∀ (v0 : Nat) (v1 : Nat) (v2 : Nat) (v3 : Nat) (v4 : Int) (h : gaH) (kc ks : Nat), w_L_law_J1280 G K27 v0 v1 v2 v3 v4 h kc ks → gaP p l e room_1 s m args below meth c G 7 Z 1280 [some (.ref v0), some (.ref v1), some (.ref v2), some (.ref v3), some (gi v4), none, none] [] h kc ks := by
  intro K27 hK27
  intro v0 v1 v2 v3 v4 h kc ks hw
  unfold w_L_law_J1280 at hw
  refine g_aload_n V dL_law_1280 rfl rfl ?_
  refine g_aload_n V dL_law_1281 rfl rfl ?_
  refine g_iload V dL_law_1282 rfl rfl ?_
  refine g_iconst V (Int32.ofInt 1) dL_law_1284 rfl rfl ?_
  refine gi_iadd V dL_law_1285 rfl ?_
  obtain ⟨t9, vs, r1, ha, ht, h0, h9, hv, hw⟩ := hw
  refine gi_iaload V ha ht h0 h9 hv dL_law_1286 rfl ?_
  refine g_aload_n V dL_law_1287 rfl rfl ?_
  obtain ⟨hk, hj, c4, s5, ec, es, hw⟩ := hw
  refine g_callSX (st := []) V (k_L_text hst hw) ww_4_15 ww_4_16 ww_1_0 ww_4_17 hd_L_text ⟨by decide, by decide⟩ rfl rfl (ga_cat rfl) dL_law_1288 hk hj rfl ga_none (ga_ki (fun r3 hp2 hw => ?_))
  refine ga_re ec es ?_
  refine g_istore (lv2 := [some (.ref v0), some (.ref v1), some (.ref v2), some (.ref v3), some (gi v4), some (gi r3), none]) V dL_law_1291 (by decide) rfl rfl rfl ?_
  refine g_aload_n V dL_law_1293 rfl rfl ?_
  refine g_aload_n V dL_law_1294 rfl rfl ?_
  refine g_iload V dL_law_1295 rfl rfl ?_
  refine g_iconst V (Int32.ofInt 1) dL_law_1297 rfl rfl ?_
  refine gi_iadd V dL_law_1298 rfl ?_
  obtain ⟨t9, vs, r6, ha, ht, h0, h9, hv, hw⟩ := hw
  refine gi_iaload V ha ht h0 h9 hv dL_law_1299 rfl ?_
  obtain ⟨hb, hw⟩ := hw
  obtain ⟨fb, hb⟩ := hb
  obtain ⟨hk, hj, c9, s10, ec, es, hw⟩ := hw
  refine g_callV (C := RX7) (T := TX7) (N := 8) (st := []) V (k_X7_text hst hw) ww_6_163 ww_6_164 ww_6_165 ww_1_5 ww_6_166 hd_X7_text ⟨by decide, by decide⟩ rfl (by decide) hb rfl rfl (ga_cat rfl) dL_law_1300 hk hj rfl ga_none (ga_ka (fun r8 hp7 hw => ?_))
  refine ga_re ec es ?_
  refine g_astore (lv2 := [some (.ref v0), some (.ref v1), some (.ref v2), some (.ref v3), some (gi v4), some (gi r3), some (.ref r8)]) V dL_law_1303 (by decide) rfl rfl rfl ?_
  refine g_goto V dL_law_1305 rfl ?_
  refine g_less (bs := [true, true, true, true, true, false, false]) (lv2 := [some (.ref v0), some (.ref v1), some (.ref v2), some (.ref v3), some (gi v4), none, none]) rfl ?_
  exact hl_L_law_J2201 hst V hend K27 hK27 v0 v1 v2 v3 v4 hp7 c9 s10 hw
theorem hl_L_law_J1240 {p : Program} {l : Launch} {e : Env} {s : State} {m : MethodId} {args : Array Value} {below : List Frame} {meth : Method} {c : Code} {G : gaG} {nm : String} {Z : State → Prop} (hst : l.stackTraces = false) (V : gaV p l s m args meth c G code RL 7 gaW ret nm) (hend : ∀ (pc : Nat) (lv : List (Option Value)) (h : gaH) (k j : Nat), decode code pc = .ok (.ireturn, 1) → gaP p l e room_1 s m args below meth c G 7 Z pc lv [gi 1] h k j) : ∀ (K27 : Nat → Nat → Nat → Nat → Int → gaH → Nat → Nat → Prop), ∀ (hK27 : ∀ (v0 : Nat) (v1 : Nat) (v2 : Nat) (v3 : Nat) (v4 : Int) (h : gaH) (kc ks : Nat), K27 v0 v1 v2 v3 v4 h kc ks → gaP p l e room_1 s m args below meth c G 7 Z 27 [some (.ref v0), some (.ref v1), some (.ref v2), some (.ref v3), some (gi v4), none, none] [] h kc ks), ∀ (v0 : Nat) (v1 : Nat) (v2 : Nat) (v3 : Nat) (v4 : Int) (h : gaH) (kc ks : Nat), w_L_law_J1240 G K27 v0 v1 v2 v3 v4 h kc ks → gaP p l e room_1 s m args below meth c G 7 Z 1240 [some (.ref v0), some (.ref v1), some (.ref v2), some (.ref v3), some (gi v4), none, none] [] h kc ks := by
  intro K27 hK27
  intro v0 v1 v2 v3 v4 h kc ks hw
  unfold w_L_law_J1240 at hw
  refine g_aload_n V dL_law_1240 rfl rfl ?_
  refine g_aload_n V dL_law_1241 rfl rfl ?_
  refine g_iload V dL_law_1242 rfl rfl ?_
  refine g_iconst V (Int32.ofInt 1) dL_law_1244 rfl rfl ?_
  refine gi_iadd V dL_law_1245 rfl ?_
  obtain ⟨t9, vs, r1, ha, ht, h0, h9, hv, hw⟩ := hw
  refine gi_iaload V ha ht h0 h9 hv dL_law_1246 rfl ?_
  refine g_aload_n V dL_law_1247 rfl rfl ?_
  refine g_iload V dL_law_1248 rfl rfl ?_
  refine g_iconst V (Int32.ofInt 2) dL_law_1250 rfl rfl ?_
  refine gi_iadd V dL_law_1251 rfl ?_
  obtain ⟨t9, vs, r2, ha, ht, h0, h9, hv, hw⟩ := hw
  refine gi_iaload V ha ht h0 h9 hv dL_law_1252 rfl ?_
  refine g_aload_n V dL_law_1253 rfl rfl ?_
  obtain ⟨hk, hj, c5, s6, ec, es, hw⟩ := hw
  refine g_callSX (st := []) V (k_L_isB hst hw) ww_4_8 ww_4_9 ww_1_0 ww_4_10 hd_L_isB ⟨by decide, by decide⟩ rfl rfl (ga_cat rfl) dL_law_1254 hk hj rfl ga_none (ga_ki (fun r4 hp3 hw => ?_))
  refine ga_re ec es ?_
  refine g_istore (lv2 := [some (.ref v0), some (.ref v1), some (.ref v2), some (.ref v3), some (gi v4), some (gi r4), none]) V dL_law_1257 (by decide) rfl rfl rfl ?_
  refine g_aload_n V dL_law_1259 rfl rfl ?_
  refine g_aload_n V dL_law_1260 rfl rfl ?_
  refine g_iload V dL_law_1261 rfl rfl ?_
  refine g_iconst V (Int32.ofInt 1) dL_law_1263 rfl rfl ?_
  refine gi_iadd V dL_law_1264 rfl ?_
  obtain ⟨t9, vs, r7, ha, ht, h0, h9, hv, hw⟩ := hw
  refine gi_iaload V ha ht h0 h9 hv dL_law_1265 rfl ?_
  refine g_aload_n V dL_law_1266 rfl rfl ?_
  refine g_iload V dL_law_1267 rfl rfl ?_
  refine g_iconst V (Int32.ofInt 2) dL_law_1269 rfl rfl ?_
  refine gi_iadd V dL_law_1270 rfl ?_
  obtain ⟨t9, vs, r8, ha, ht, h0, h9, hv, hw⟩ := hw
  refine gi_iaload V ha ht h0 h9 hv dL_law_1271 rfl ?_
  obtain ⟨hb, hw⟩ := hw
  obtain ⟨fb, hb⟩ := hb
  refine g_callV (C := RX7) (T := TX7) (N := 8) (st := []) V (k_X7_isB hst hw) ww_6_159 ww_6_160 ww_6_161 ww_1_5 ww_6_162 hd_X7_isB ⟨by decide, by decide⟩ rfl (by decide) hb rfl rfl (ga_cat rfl) dL_law_1272 (Nat.zero_le _) (Nat.zero_le _) rfl ga_none (ga_ki (fun r10 hp9 hw => ?_))
  refine g_istore (lv2 := [some (.ref v0), some (.ref v1), some (.ref v2), some (.ref v3), some (gi v4), some (gi r4), some (gi r10)]) V dL_law_1275 (by decide) rfl rfl rfl ?_
  refine g_goto V dL_law_1277 rfl ?_
  refine g_less (bs := [true, true, true, true, true, false, false]) (lv2 := [some (.ref v0), some (.ref v1), some (.ref v2), some (.ref v3), some (gi v4), none, none]) rfl ?_
  exact hl_L_law_J2201 hst V hend K27 hK27 v0 v1 v2 v3 v4 hp9 c5 s6 hw
theorem hl_L_law_J1212 {p : Program} {l : Launch} {e : Env} {s : State} {m : MethodId} {args : Array Value} {below : List Frame} {meth : Method} {c : Code} {G : gaG} {nm : String} {Z : State → Prop} (hst : l.stackTraces = false) (V : gaV p l s m args meth c G code RL 7 gaW ret nm) (hend : ∀ (pc : Nat) (lv : List (Option Value)) (h : gaH) (k j : Nat), decode code pc = .ok (.ireturn, 1) → gaP p l e room_1 s m args below meth c G 7 Z pc lv [gi 1] h k j) : ∀ (K27 : Nat → Nat → Nat → Nat → Int → gaH → Nat → Nat → Prop), ∀ (hK27 : ∀ (v0 : Nat) (v1 : Nat) (v2 : Nat) (v3 : Nat) (v4 : Int) (h : gaH) (kc ks : Nat), K27 v0 v1 v2 v3 v4 h kc ks → gaP p l e room_1 s m args below meth c G 7 Z 27 [some (.ref v0), some (.ref v1), some (.ref v2), some (.ref v3), some (gi v4), none, none] [] h kc ks), ∀ (v0 : Nat) (v1 : Nat) (v2 : Nat) (v3 : Nat) (v4 : Int) (h : gaH) (kc ks : Nat), w_L_law_J1212 G K27 v0 v1 v2 v3 v4 h kc ks → gaP p l e room_1 s m args below meth c G 7 Z 1212 [some (.ref v0), some (.ref v1), some (.ref v2), some (.ref v3), some (gi v4), none, none] [] h kc ks := by
  intro K27 hK27
  intro v0 v1 v2 v3 v4 h kc ks hw
  unfold w_L_law_J1212 at hw
  refine g_aload_n V dL_law_1212 rfl rfl ?_
  refine g_aload_n V dL_law_1213 rfl rfl ?_
  refine g_iload V dL_law_1214 rfl rfl ?_
  refine g_iconst V (Int32.ofInt 1) dL_law_1216 rfl rfl ?_
  refine gi_iadd V dL_law_1217 rfl ?_
  obtain ⟨t9, vs, r1, ha, ht, h0, h9, hv, hw⟩ := hw
  refine gi_iaload V ha ht h0 h9 hv dL_law_1218 rfl ?_
  refine g_aload_n V dL_law_1219 rfl rfl ?_
  obtain ⟨hk, hj, c4, s5, ec, es, hw⟩ := hw
  refine g_callSX (st := []) V (k_L_length hst hw) ww_4_1 ww_4_2 ww_1_0 ww_4_3 hd_L_length ⟨by decide, by decide⟩ rfl rfl (ga_cat rfl) dL_law_1220 hk hj rfl ga_none (ga_ki (fun r3 hp2 hw => ?_))
  refine ga_re ec es ?_
  refine g_istore (lv2 := [some (.ref v0), some (.ref v1), some (.ref v2), some (.ref v3), some (gi v4), some (gi r3), none]) V dL_law_1223 (by decide) rfl rfl rfl ?_
  refine g_aload_n V dL_law_1225 rfl rfl ?_
  refine g_aload_n V dL_law_1226 rfl rfl ?_
  refine g_iload V dL_law_1227 rfl rfl ?_
  refine g_iconst V (Int32.ofInt 1) dL_law_1229 rfl rfl ?_
  refine gi_iadd V dL_law_1230 rfl ?_
  obtain ⟨t9, vs, r6, ha, ht, h0, h9, hv, hw⟩ := hw
  refine gi_iaload V ha ht h0 h9 hv dL_law_1231 rfl ?_
  obtain ⟨hb, hw⟩ := hw
  obtain ⟨fb, hb⟩ := hb
  refine g_callV (C := RX7) (T := TX7) (N := 8) (st := []) V (k_X7_length hst hw) ww_6_155 ww_6_156 ww_6_157 ww_1_5 ww_6_158 hd_X7_length ⟨by decide, by decide⟩ rfl (by decide) hb rfl rfl (ga_cat rfl) dL_law_1232 (Nat.zero_le _) (Nat.zero_le _) rfl ga_none (ga_ki (fun r8 hp7 hw => ?_))
  refine g_istore (lv2 := [some (.ref v0), some (.ref v1), some (.ref v2), some (.ref v3), some (gi v4), some (gi r3), some (gi r8)]) V dL_law_1235 (by decide) rfl rfl rfl ?_
  refine g_goto V dL_law_1237 rfl ?_
  refine g_less (bs := [true, true, true, true, true, false, false]) (lv2 := [some (.ref v0), some (.ref v1), some (.ref v2), some (.ref v3), some (gi v4), none, none]) rfl ?_
  exact hl_L_law_J2201 hst V hend K27 hK27 v0 v1 v2 v3 v4 hp7 c4 s5 hw
theorem hl_L_law_J1184 {p : Program} {l : Launch} {e : Env} {s : State} {m : MethodId} {args : Array Value} {below : List Frame} {meth : Method} {c : Code} {G : gaG} {nm : String} {Z : State → Prop} (hst : l.stackTraces = false) (V : gaV p l s m args meth c G code RL 7 gaW ret nm) (hend : ∀ (pc : Nat) (lv : List (Option Value)) (h : gaH) (k j : Nat), decode code pc = .ok (.ireturn, 1) → gaP p l e room_1 s m args below meth c G 7 Z pc lv [gi 1] h k j) : ∀ (K27 : Nat → Nat → Nat → Nat → Int → gaH → Nat → Nat → Prop), ∀ (hK27 : ∀ (v0 : Nat) (v1 : Nat) (v2 : Nat) (v3 : Nat) (v4 : Int) (h : gaH) (kc ks : Nat), K27 v0 v1 v2 v3 v4 h kc ks → gaP p l e room_1 s m args below meth c G 7 Z 27 [some (.ref v0), some (.ref v1), some (.ref v2), some (.ref v3), some (gi v4), none, none] [] h kc ks), ∀ (v0 : Nat) (v1 : Nat) (v2 : Nat) (v3 : Nat) (v4 : Int) (h : gaH) (kc ks : Nat), w_L_law_J1184 G K27 v0 v1 v2 v3 v4 h kc ks → gaP p l e room_1 s m args below meth c G 7 Z 1184 [some (.ref v0), some (.ref v1), some (.ref v2), some (.ref v3), some (gi v4), none, none] [] h kc ks := by
  intro K27 hK27
  intro v0 v1 v2 v3 v4 h kc ks hw
  unfold w_L_law_J1184 at hw
  refine g_aload_n V dL_law_1184 rfl rfl ?_
  refine g_aload_n V dL_law_1185 rfl rfl ?_
  refine g_iload V dL_law_1186 rfl rfl ?_
  refine g_iconst V (Int32.ofInt 1) dL_law_1188 rfl rfl ?_
  refine gi_iadd V dL_law_1189 rfl ?_
  obtain ⟨t9, vs, r1, ha, ht, h0, h9, hv, hw⟩ := hw
  refine gi_iaload V ha ht h0 h9 hv dL_law_1190 rfl ?_
  refine g_aload_n V dL_law_1191 rfl rfl ?_
  obtain ⟨hk, hj, c4, s5, ec, es, hw⟩ := hw
  refine g_callSX (st := []) V (k_L_fresh hst hw) ww_3_233 ww_3_234 ww_1_0 ww_3_235 hd_L_fresh ⟨by decide, by decide⟩ rfl rfl (ga_cat rfl) dL_law_1192 hk hj rfl ga_none (ga_ki (fun r3 hp2 hw => ?_))
  refine ga_re ec es ?_
  refine g_istore (lv2 := [some (.ref v0), some (.ref v1), some (.ref v2), some (.ref v3), some (gi v4), some (gi r3), none]) V dL_law_1195 (by decide) rfl rfl rfl ?_
  refine g_aload_n V dL_law_1197 rfl rfl ?_
  refine g_aload_n V dL_law_1198 rfl rfl ?_
  refine g_iload V dL_law_1199 rfl rfl ?_
  refine g_iconst V (Int32.ofInt 1) dL_law_1201 rfl rfl ?_
  refine gi_iadd V dL_law_1202 rfl ?_
  obtain ⟨t9, vs, r6, ha, ht, h0, h9, hv, hw⟩ := hw
  refine gi_iaload V ha ht h0 h9 hv dL_law_1203 rfl ?_
  obtain ⟨hb, hw⟩ := hw
  obtain ⟨fb, hb⟩ := hb
  refine g_callV (C := RX7) (T := TX7) (N := 8) (st := []) V (k_X7_fresh hst hw) ww_6_151 ww_6_152 ww_6_153 ww_1_5 ww_6_154 hd_X7_fresh ⟨by decide, by decide⟩ rfl (by decide) hb rfl rfl (ga_cat rfl) dL_law_1204 (Nat.zero_le _) (Nat.zero_le _) rfl ga_none (ga_ki (fun r8 hp7 hw => ?_))
  refine g_istore (lv2 := [some (.ref v0), some (.ref v1), some (.ref v2), some (.ref v3), some (gi v4), some (gi r3), some (gi r8)]) V dL_law_1207 (by decide) rfl rfl rfl ?_
  refine g_goto V dL_law_1209 rfl ?_
  refine g_less (bs := [true, true, true, true, true, false, false]) (lv2 := [some (.ref v0), some (.ref v1), some (.ref v2), some (.ref v3), some (gi v4), none, none]) rfl ?_
  exact hl_L_law_J2201 hst V hend K27 hK27 v0 v1 v2 v3 v4 hp7 c4 s5 hw
theorem hl_L_law_J1156 {p : Program} {l : Launch} {e : Env} {s : State} {m : MethodId} {args : Array Value} {below : List Frame} {meth : Method} {c : Code} {G : gaG} {nm : String} {Z : State → Prop} (hst : l.stackTraces = false) (V : gaV p l s m args meth c G code RL 7 gaW ret nm) (hend : ∀ (pc : Nat) (lv : List (Option Value)) (h : gaH) (k j : Nat), decode code pc = .ok (.ireturn, 1) → gaP p l e room_1 s m args below meth c G 7 Z pc lv [gi 1] h k j) : ∀ (K27 : Nat → Nat → Nat → Nat → Int → gaH → Nat → Nat → Prop), ∀ (hK27 : ∀ (v0 : Nat) (v1 : Nat) (v2 : Nat) (v3 : Nat) (v4 : Int) (h : gaH) (kc ks : Nat), K27 v0 v1 v2 v3 v4 h kc ks → gaP p l e room_1 s m args below meth c G 7 Z 27 [some (.ref v0), some (.ref v1), some (.ref v2), some (.ref v3), some (gi v4), none, none] [] h kc ks), ∀ (v0 : Nat) (v1 : Nat) (v2 : Nat) (v3 : Nat) (v4 : Int) (h : gaH) (kc ks : Nat), w_L_law_J1156 G K27 v0 v1 v2 v3 v4 h kc ks → gaP p l e room_1 s m args below meth c G 7 Z 1156 [some (.ref v0), some (.ref v1), some (.ref v2), some (.ref v3), some (gi v4), none, none] [] h kc ks := by
  intro K27 hK27
  intro v0 v1 v2 v3 v4 h kc ks hw
  unfold w_L_law_J1156 at hw
  refine g_aload_n V dL_law_1156 rfl rfl ?_
  refine g_aload_n V dL_law_1157 rfl rfl ?_
  refine g_iload V dL_law_1158 rfl rfl ?_
  refine g_iconst V (Int32.ofInt 1) dL_law_1160 rfl rfl ?_
  refine gi_iadd V dL_law_1161 rfl ?_
  obtain ⟨t9, vs, r1, ha, ht, h0, h9, hv, hw⟩ := hw
  refine gi_iaload V ha ht h0 h9 hv dL_law_1162 rfl ?_
  refine g_aload_n V dL_law_1163 rfl rfl ?_
  obtain ⟨hk, hj, c4, s5, ec, es, hw⟩ := hw
  refine g_callSX (st := []) V (k_L_shrink hst hw) ww_3_222 ww_3_223 ww_1_0 ww_3_224 hd_L_shrink ⟨by decide, by decide⟩ rfl rfl (ga_cat rfl) dL_law_1164 hk hj rfl ga_none (ga_ki (fun r3 hp2 hw => ?_))
  refine ga_re ec es ?_
  refine g_istore (lv2 := [some (.ref v0), some (.ref v1), some (.ref v2), some (.ref v3), some (gi v4), some (gi r3), none]) V dL_law_1167 (by decide) rfl rfl rfl ?_
  refine g_aload_n V dL_law_1169 rfl rfl ?_
  refine g_aload_n V dL_law_1170 rfl rfl ?_
  refine g_iload V dL_law_1171 rfl rfl ?_
  refine g_iconst V (Int32.ofInt 1) dL_law_1173 rfl rfl ?_
  refine gi_iadd V dL_law_1174 rfl ?_
  obtain ⟨t9, vs, r6, ha, ht, h0, h9, hv, hw⟩ := hw
  refine gi_iaload V ha ht h0 h9 hv dL_law_1175 rfl ?_
  obtain ⟨hb, hw⟩ := hw
  obtain ⟨fb, hb⟩ := hb
  refine g_callV (C := RX7) (T := TX7) (N := 8) (st := []) V (k_X7_shrink hst hw) ww_6_147 ww_6_148 ww_6_149 ww_1_5 ww_6_150 hd_X7_shrink ⟨by decide, by decide⟩ rfl (by decide) hb rfl rfl (ga_cat rfl) dL_law_1176 (Nat.zero_le _) (Nat.zero_le _) rfl ga_none (ga_ki (fun r8 hp7 hw => ?_))
  refine g_istore (lv2 := [some (.ref v0), some (.ref v1), some (.ref v2), some (.ref v3), some (gi v4), some (gi r3), some (gi r8)]) V dL_law_1179 (by decide) rfl rfl rfl ?_
  refine g_goto V dL_law_1181 rfl ?_
  refine g_less (bs := [true, true, true, true, true, false, false]) (lv2 := [some (.ref v0), some (.ref v1), some (.ref v2), some (.ref v3), some (gi v4), none, none]) rfl ?_
  exact hl_L_law_J2201 hst V hend K27 hK27 v0 v1 v2 v3 v4 hp7 c4 s5 hw
theorem hl_L_law_J1116 {p : Program} {l : Launch} {e : Env} {s : State} {m : MethodId} {args : Array Value} {below : List Frame} {meth : Method} {c : Code} {G : gaG} {nm : String} {Z : State → Prop} (hst : l.stackTraces = false) (V : gaV p l s m args meth c G code RL 7 gaW ret nm) (hend : ∀ (pc : Nat) (lv : List (Option Value)) (h : gaH) (k j : Nat), decode code pc = .ok (.ireturn, 1) → gaP p l e room_1 s m args below meth c G 7 Z pc lv [gi 1] h k j) : ∀ (K27 : Nat → Nat → Nat → Nat → Int → gaH → Nat → Nat → Prop), ∀ (hK27 : ∀ (v0 : Nat) (v1 : Nat) (v2 : Nat) (v3 : Nat) (v4 : Int) (h : gaH) (kc ks : Nat), K27 v0 v1 v2 v3 v4 h kc ks → gaP p l e room_1 s m args below meth c G 7 Z 27 [some (.ref v0), some (.ref v1), some (.ref v2), some (.ref v3), some (gi v4), none, none] [] h kc ks), ∀ (v0 : Nat) (v1 : Nat) (v2 : Nat) (v3 : Nat) (v4 : Int) (h : gaH) (kc ks : Nat), w_L_law_J1116 G K27 v0 v1 v2 v3 v4 h kc ks → gaP p l e room_1 s m args below meth c G 7 Z 1116 [some (.ref v0), some (.ref v1), some (.ref v2), some (.ref v3), some (gi v4), none, none] [] h kc ks := by
  intro K27 hK27
  intro v0 v1 v2 v3 v4 h kc ks hw
  unfold w_L_law_J1116 at hw
  refine g_aload_n V dL_law_1116 rfl rfl ?_
  refine g_aload_n V dL_law_1117 rfl rfl ?_
  refine g_iload V dL_law_1118 rfl rfl ?_
  refine g_iconst V (Int32.ofInt 1) dL_law_1120 rfl rfl ?_
  refine gi_iadd V dL_law_1121 rfl ?_
  obtain ⟨t9, vs, r1, ha, ht, h0, h9, hv, hw⟩ := hw
  refine gi_iaload V ha ht h0 h9 hv dL_law_1122 rfl ?_
  refine g_aload_n V dL_law_1123 rfl rfl ?_
  refine g_iload V dL_law_1124 rfl rfl ?_
  refine g_iconst V (Int32.ofInt 2) dL_law_1126 rfl rfl ?_
  refine gi_iadd V dL_law_1127 rfl ?_
  obtain ⟨t9, vs, r2, ha, ht, h0, h9, hv, hw⟩ := hw
  refine gi_iaload V ha ht h0 h9 hv dL_law_1128 rfl ?_
  refine g_aload_n V dL_law_1129 rfl rfl ?_
  obtain ⟨hk, hj, c5, s6, ec, es, hw⟩ := hw
  refine g_callSX (st := []) V (k_L_grow hst hw) ww_3_206 ww_3_207 ww_1_0 ww_3_208 hd_L_grow ⟨by decide, by decide⟩ rfl rfl (ga_cat rfl) dL_law_1130 hk hj rfl ga_none (ga_ki (fun r4 hp3 hw => ?_))
  refine ga_re ec es ?_
  refine g_istore (lv2 := [some (.ref v0), some (.ref v1), some (.ref v2), some (.ref v3), some (gi v4), some (gi r4), none]) V dL_law_1133 (by decide) rfl rfl rfl ?_
  refine g_aload_n V dL_law_1135 rfl rfl ?_
  refine g_aload_n V dL_law_1136 rfl rfl ?_
  refine g_iload V dL_law_1137 rfl rfl ?_
  refine g_iconst V (Int32.ofInt 1) dL_law_1139 rfl rfl ?_
  refine gi_iadd V dL_law_1140 rfl ?_
  obtain ⟨t9, vs, r7, ha, ht, h0, h9, hv, hw⟩ := hw
  refine gi_iaload V ha ht h0 h9 hv dL_law_1141 rfl ?_
  refine g_aload_n V dL_law_1142 rfl rfl ?_
  refine g_iload V dL_law_1143 rfl rfl ?_
  refine g_iconst V (Int32.ofInt 2) dL_law_1145 rfl rfl ?_
  refine gi_iadd V dL_law_1146 rfl ?_
  obtain ⟨t9, vs, r8, ha, ht, h0, h9, hv, hw⟩ := hw
  refine gi_iaload V ha ht h0 h9 hv dL_law_1147 rfl ?_
  obtain ⟨hb, hw⟩ := hw
  obtain ⟨fb, hb⟩ := hb
  obtain ⟨hk, hj, c11, s12, ec, es, hw⟩ := hw
  refine g_callV (C := RX7) (T := TX7) (N := 8) (st := []) V (k_X7_grow hst hw) ww_6_139 ww_6_140 ww_6_141 ww_1_5 ww_6_142 hd_X7_grow ⟨by decide, by decide⟩ rfl (by decide) hb rfl rfl (ga_cat rfl) dL_law_1148 hk hj rfl ga_none (ga_ki (fun r10 hp9 hw => ?_))
  refine ga_re ec es ?_
  refine g_istore (lv2 := [some (.ref v0), some (.ref v1), some (.ref v2), some (.ref v3), some (gi v4), some (gi r4), some (gi r10)]) V dL_law_1151 (by decide) rfl rfl rfl ?_
  refine g_goto V dL_law_1153 rfl ?_
  refine g_less (bs := [true, true, true, true, true, false, false]) (lv2 := [some (.ref v0), some (.ref v1), some (.ref v2), some (.ref v3), some (gi v4), none, none]) rfl ?_
  exact hl_L_law_J2201 hst V hend K27 hK27 v0 v1 v2 v3 v4 hp9 c11 s12 hw
theorem hl_L_law_J1052 {p : Program} {l : Launch} {e : Env} {s : State} {m : MethodId} {args : Array Value} {below : List Frame} {meth : Method} {c : Code} {G : gaG} {nm : String} {Z : State → Prop} (hst : l.stackTraces = false) (V : gaV p l s m args meth c G code RL 7 gaW ret nm) (hend : ∀ (pc : Nat) (lv : List (Option Value)) (h : gaH) (k j : Nat), decode code pc = .ok (.ireturn, 1) → gaP p l e room_1 s m args below meth c G 7 Z pc lv [gi 1] h k j) : ∀ (K27 : Nat → Nat → Nat → Nat → Int → gaH → Nat → Nat → Prop), ∀ (hK27 : ∀ (v0 : Nat) (v1 : Nat) (v2 : Nat) (v3 : Nat) (v4 : Int) (h : gaH) (kc ks : Nat), K27 v0 v1 v2 v3 v4 h kc ks → gaP p l e room_1 s m args below meth c G 7 Z 27 [some (.ref v0), some (.ref v1), some (.ref v2), some (.ref v3), some (gi v4), none, none] [] h kc ks), ∀ (v0 : Nat) (v1 : Nat) (v2 : Nat) (v3 : Nat) (v4 : Int) (h : gaH) (kc ks : Nat), w_L_law_J1052 G K27 v0 v1 v2 v3 v4 h kc ks → gaP p l e room_1 s m args below meth c G 7 Z 1052 [some (.ref v0), some (.ref v1), some (.ref v2), some (.ref v3), some (gi v4), none, none] [] h kc ks := by
  intro K27 hK27
  intro v0 v1 v2 v3 v4 h kc ks hw
  unfold w_L_law_J1052 at hw
  refine g_aload_n V dL_law_1052 rfl rfl ?_
  refine g_aload_n V dL_law_1053 rfl rfl ?_
  refine g_iload V dL_law_1054 rfl rfl ?_
  refine g_iconst V (Int32.ofInt 1) dL_law_1056 rfl rfl ?_
  refine gi_iadd V dL_law_1057 rfl ?_
  obtain ⟨t9, vs, r1, ha, ht, h0, h9, hv, hw⟩ := hw
  refine gi_iaload V ha ht h0 h9 hv dL_law_1058 rfl ?_
  refine g_aload_n V dL_law_1059 rfl rfl ?_
  refine g_iload V dL_law_1060 rfl rfl ?_
  refine g_iconst V (Int32.ofInt 2) dL_law_1062 rfl rfl ?_
  refine gi_iadd V dL_law_1063 rfl ?_
  obtain ⟨t9, vs, r2, ha, ht, h0, h9, hv, hw⟩ := hw
  refine gi_iaload V ha ht h0 h9 hv dL_law_1064 rfl ?_
  refine g_aload_n V dL_law_1065 rfl rfl ?_
  refine g_iload V dL_law_1066 rfl rfl ?_
  refine g_iconst V (Int32.ofInt 3) dL_law_1068 rfl rfl ?_
  refine gi_iadd V dL_law_1069 rfl ?_
  obtain ⟨t9, vs, r3, ha, ht, h0, h9, hv, hw⟩ := hw
  refine gi_iaload V ha ht h0 h9 hv dL_law_1070 rfl ?_
  refine g_aload_n V dL_law_1071 rfl rfl ?_
  refine g_iload V dL_law_1072 rfl rfl ?_
  refine g_iconst V (Int32.ofInt 4) dL_law_1074 rfl rfl ?_
  refine gi_iadd V dL_law_1075 rfl ?_
  obtain ⟨t9, vs, r4, ha, ht, h0, h9, hv, hw⟩ := hw
  refine gi_iaload V ha ht h0 h9 hv dL_law_1076 rfl ?_
  refine g_aload_n V dL_law_1077 rfl rfl ?_
  obtain ⟨hk, hj, c7, s8, ec, es, hw⟩ := hw
  refine g_callSX (st := []) V (k_L_line hst hw) ww_3_198 ww_3_199 ww_1_0 ww_3_200 hd_L_line ⟨by decide, by decide⟩ rfl rfl (ga_cat rfl) dL_law_1078 hk hj rfl ga_none (ga_ki (fun r6 hp5 hw => ?_))
  refine ga_re ec es ?_
  refine g_istore (lv2 := [some (.ref v0), some (.ref v1), some (.ref v2), some (.ref v3), some (gi v4), some (gi r6), none]) V dL_law_1081 (by decide) rfl rfl rfl ?_
  refine g_aload_n V dL_law_1083 rfl rfl ?_
  refine g_aload_n V dL_law_1084 rfl rfl ?_
  refine g_iload V dL_law_1085 rfl rfl ?_
  refine g_iconst V (Int32.ofInt 1) dL_law_1087 rfl rfl ?_
  refine gi_iadd V dL_law_1088 rfl ?_
  obtain ⟨t9, vs, r9, ha, ht, h0, h9, hv, hw⟩ := hw
  refine gi_iaload V ha ht h0 h9 hv dL_law_1089 rfl ?_
  refine g_aload_n V dL_law_1090 rfl rfl ?_
  refine g_iload V dL_law_1091 rfl rfl ?_
  refine g_iconst V (Int32.ofInt 2) dL_law_1093 rfl rfl ?_
  refine gi_iadd V dL_law_1094 rfl ?_
  obtain ⟨t9, vs, r10, ha, ht, h0, h9, hv, hw⟩ := hw
  refine gi_iaload V ha ht h0 h9 hv dL_law_1095 rfl ?_
  refine g_aload_n V dL_law_1096 rfl rfl ?_
  refine g_iload V dL_law_1097 rfl rfl ?_
  refine g_iconst V (Int32.ofInt 3) dL_law_1099 rfl rfl ?_
  refine gi_iadd V dL_law_1100 rfl ?_
  obtain ⟨t9, vs, r11, ha, ht, h0, h9, hv, hw⟩ := hw
  refine gi_iaload V ha ht h0 h9 hv dL_law_1101 rfl ?_
  refine g_aload_n V dL_law_1102 rfl rfl ?_
  refine g_iload V dL_law_1103 rfl rfl ?_
  refine g_iconst V (Int32.ofInt 4) dL_law_1105 rfl rfl ?_
  refine gi_iadd V dL_law_1106 rfl ?_
  obtain ⟨t9, vs, r12, ha, ht, h0, h9, hv, hw⟩ := hw
  refine gi_iaload V ha ht h0 h9 hv dL_law_1107 rfl ?_
  obtain ⟨hb, hw⟩ := hw
  obtain ⟨fb, hb⟩ := hb
  obtain ⟨hk, hj, c15, s16, ec, es, hw⟩ := hw
  refine g_callV (C := RX7) (T := TX7) (N := 8) (st := []) V (k_X7_line hst hw) ww_6_135 ww_6_136 ww_6_137 ww_1_5 ww_6_138 hd_X7_line ⟨by decide, by decide⟩ rfl (by decide) hb rfl rfl (ga_cat rfl) dL_law_1108 hk hj rfl ga_none (ga_ki (fun r14 hp13 hw => ?_))
  refine ga_re ec es ?_
  refine g_istore (lv2 := [some (.ref v0), some (.ref v1), some (.ref v2), some (.ref v3), some (gi v4), some (gi r6), some (gi r14)]) V dL_law_1111 (by decide) rfl rfl rfl ?_
  refine g_goto V dL_law_1113 rfl ?_
  refine g_less (bs := [true, true, true, true, true, false, false]) (lv2 := [some (.ref v0), some (.ref v1), some (.ref v2), some (.ref v3), some (gi v4), none, none]) rfl ?_
  exact hl_L_law_J2201 hst V hend K27 hK27 v0 v1 v2 v3 v4 hp13 c15 s16 hw
theorem hl_L_law_J1000 {p : Program} {l : Launch} {e : Env} {s : State} {m : MethodId} {args : Array Value} {below : List Frame} {meth : Method} {c : Code} {G : gaG} {nm : String} {Z : State → Prop} (hst : l.stackTraces = false) (V : gaV p l s m args meth c G code RL 7 gaW ret nm) (hend : ∀ (pc : Nat) (lv : List (Option Value)) (h : gaH) (k j : Nat), decode code pc = .ok (.ireturn, 1) → gaP p l e room_1 s m args below meth c G 7 Z pc lv [gi 1] h k j) : ∀ (K27 : Nat → Nat → Nat → Nat → Int → gaH → Nat → Nat → Prop), ∀ (hK27 : ∀ (v0 : Nat) (v1 : Nat) (v2 : Nat) (v3 : Nat) (v4 : Int) (h : gaH) (kc ks : Nat), K27 v0 v1 v2 v3 v4 h kc ks → gaP p l e room_1 s m args below meth c G 7 Z 27 [some (.ref v0), some (.ref v1), some (.ref v2), some (.ref v3), some (gi v4), none, none] [] h kc ks), ∀ (v0 : Nat) (v1 : Nat) (v2 : Nat) (v3 : Nat) (v4 : Int) (h : gaH) (kc ks : Nat), w_L_law_J1000 G K27 v0 v1 v2 v3 v4 h kc ks → gaP p l e room_1 s m args below meth c G 7 Z 1000 [some (.ref v0), some (.ref v1), some (.ref v2), some (.ref v3), some (gi v4), none, none] [] h kc ks := by
  intro K27 hK27
  intro v0 v1 v2 v3 v4 h kc ks hw
  unfold w_L_law_J1000 at hw
  refine g_aload_n V dL_law_1000 rfl rfl ?_
  refine g_aload_n V dL_law_1001 rfl rfl ?_
  refine g_iload V dL_law_1002 rfl rfl ?_
  refine g_iconst V (Int32.ofInt 1) dL_law_1004 rfl rfl ?_
  refine gi_iadd V dL_law_1005 rfl ?_
  obtain ⟨t9, vs, r1, ha, ht, h0, h9, hv, hw⟩ := hw
  refine gi_iaload V ha ht h0 h9 hv dL_law_1006 rfl ?_
  refine g_aload_n V dL_law_1007 rfl rfl ?_
  refine g_iload V dL_law_1008 rfl rfl ?_
  refine g_iconst V (Int32.ofInt 2) dL_law_1010 rfl rfl ?_
  refine gi_iadd V dL_law_1011 rfl ?_
  obtain ⟨t9, vs, r2, ha, ht, h0, h9, hv, hw⟩ := hw
  refine gi_iaload V ha ht h0 h9 hv dL_law_1012 rfl ?_
  refine g_aload_n V dL_law_1013 rfl rfl ?_
  refine g_iload V dL_law_1014 rfl rfl ?_
  refine g_iconst V (Int32.ofInt 3) dL_law_1016 rfl rfl ?_
  refine gi_iadd V dL_law_1017 rfl ?_
  obtain ⟨t9, vs, r3, ha, ht, h0, h9, hv, hw⟩ := hw
  refine gi_iaload V ha ht h0 h9 hv dL_law_1018 rfl ?_
  refine g_aload_n V dL_law_1019 rfl rfl ?_
  obtain ⟨hk, hj, c6, s7, ec, es, hw⟩ := hw
  refine g_callSX (st := []) V (k_L_twos hst hw) ww_3_170 ww_3_171 ww_1_0 ww_3_172 hd_L_twos ⟨by decide, by decide⟩ rfl rfl (ga_cat rfl) dL_law_1020 hk hj rfl ga_none (ga_ki (fun r5 hp4 hw => ?_))
  refine ga_re ec es ?_
  refine g_istore (lv2 := [some (.ref v0), some (.ref v1), some (.ref v2), some (.ref v3), some (gi v4), some (gi r5), none]) V dL_law_1023 (by decide) rfl rfl rfl ?_
  refine g_aload_n V dL_law_1025 rfl rfl ?_
  refine g_aload_n V dL_law_1026 rfl rfl ?_
  refine g_iload V dL_law_1027 rfl rfl ?_
  refine g_iconst V (Int32.ofInt 1) dL_law_1029 rfl rfl ?_
  refine gi_iadd V dL_law_1030 rfl ?_
  obtain ⟨t9, vs, r8, ha, ht, h0, h9, hv, hw⟩ := hw
  refine gi_iaload V ha ht h0 h9 hv dL_law_1031 rfl ?_
  refine g_aload_n V dL_law_1032 rfl rfl ?_
  refine g_iload V dL_law_1033 rfl rfl ?_
  refine g_iconst V (Int32.ofInt 2) dL_law_1035 rfl rfl ?_
  refine gi_iadd V dL_law_1036 rfl ?_
  obtain ⟨t9, vs, r9, ha, ht, h0, h9, hv, hw⟩ := hw
  refine gi_iaload V ha ht h0 h9 hv dL_law_1037 rfl ?_
  refine g_aload_n V dL_law_1038 rfl rfl ?_
  refine g_iload V dL_law_1039 rfl rfl ?_
  refine g_iconst V (Int32.ofInt 3) dL_law_1041 rfl rfl ?_
  refine gi_iadd V dL_law_1042 rfl ?_
  obtain ⟨t9, vs, r10, ha, ht, h0, h9, hv, hw⟩ := hw
  refine gi_iaload V ha ht h0 h9 hv dL_law_1043 rfl ?_
  obtain ⟨hb, hw⟩ := hw
  obtain ⟨fb, hb⟩ := hb
  obtain ⟨hk, hj, c13, s14, ec, es, hw⟩ := hw
  refine g_callV (C := RX7) (T := TX7) (N := 8) (st := []) V (k_X7_twos hst hw) ww_6_128 ww_6_129 ww_6_130 ww_1_5 ww_6_131 hd_X7_twos ⟨by decide, by decide⟩ rfl (by decide) hb rfl rfl (ga_cat rfl) dL_law_1044 hk hj rfl ga_none (ga_ki (fun r12 hp11 hw => ?_))
  refine ga_re ec es ?_
  refine g_istore (lv2 := [some (.ref v0), some (.ref v1), some (.ref v2), some (.ref v3), some (gi v4), some (gi r5), some (gi r12)]) V dL_law_1047 (by decide) rfl rfl rfl ?_
  refine g_goto V dL_law_1049 rfl ?_
  refine g_less (bs := [true, true, true, true, true, false, false]) (lv2 := [some (.ref v0), some (.ref v1), some (.ref v2), some (.ref v3), some (gi v4), none, none]) rfl ?_
  exact hl_L_law_J2201 hst V hend K27 hK27 v0 v1 v2 v3 v4 hp11 c13 s14 hw
theorem hl_L_law_J948 {p : Program} {l : Launch} {e : Env} {s : State} {m : MethodId} {args : Array Value} {below : List Frame} {meth : Method} {c : Code} {G : gaG} {nm : String} {Z : State → Prop} (hst : l.stackTraces = false) (V : gaV p l s m args meth c G code RL 7 gaW ret nm) (hend : ∀ (pc : Nat) (lv : List (Option Value)) (h : gaH) (k j : Nat), decode code pc = .ok (.ireturn, 1) → gaP p l e room_1 s m args below meth c G 7 Z pc lv [gi 1] h k j) : ∀ (K27 : Nat → Nat → Nat → Nat → Int → gaH → Nat → Nat → Prop), ∀ (hK27 : ∀ (v0 : Nat) (v1 : Nat) (v2 : Nat) (v3 : Nat) (v4 : Int) (h : gaH) (kc ks : Nat), K27 v0 v1 v2 v3 v4 h kc ks → gaP p l e room_1 s m args below meth c G 7 Z 27 [some (.ref v0), some (.ref v1), some (.ref v2), some (.ref v3), some (gi v4), none, none] [] h kc ks), ∀ (v0 : Nat) (v1 : Nat) (v2 : Nat) (v3 : Nat) (v4 : Int) (h : gaH) (kc ks : Nat), w_L_law_J948 G K27 v0 v1 v2 v3 v4 h kc ks → gaP p l e room_1 s m args below meth c G 7 Z 948 [some (.ref v0), some (.ref v1), some (.ref v2), some (.ref v3), some (gi v4), none, none] [] h kc ks := by
  intro K27 hK27
  intro v0 v1 v2 v3 v4 h kc ks hw
  unfold w_L_law_J948 at hw
  refine g_aload_n V dL_law_948 rfl rfl ?_
  refine g_aload_n V dL_law_949 rfl rfl ?_
  refine g_iload V dL_law_950 rfl rfl ?_
  refine g_iconst V (Int32.ofInt 1) dL_law_952 rfl rfl ?_
  refine gi_iadd V dL_law_953 rfl ?_
  obtain ⟨t9, vs, r1, ha, ht, h0, h9, hv, hw⟩ := hw
  refine gi_iaload V ha ht h0 h9 hv dL_law_954 rfl ?_
  refine g_aload_n V dL_law_955 rfl rfl ?_
  refine g_iload V dL_law_956 rfl rfl ?_
  refine g_iconst V (Int32.ofInt 2) dL_law_958 rfl rfl ?_
  refine gi_iadd V dL_law_959 rfl ?_
  obtain ⟨t9, vs, r2, ha, ht, h0, h9, hv, hw⟩ := hw
  refine gi_iaload V ha ht h0 h9 hv dL_law_960 rfl ?_
  refine g_aload_n V dL_law_961 rfl rfl ?_
  refine g_iload V dL_law_962 rfl rfl ?_
  refine g_iconst V (Int32.ofInt 3) dL_law_964 rfl rfl ?_
  refine gi_iadd V dL_law_965 rfl ?_
  obtain ⟨t9, vs, r3, ha, ht, h0, h9, hv, hw⟩ := hw
  refine gi_iaload V ha ht h0 h9 hv dL_law_966 rfl ?_
  refine g_aload_n V dL_law_967 rfl rfl ?_
  obtain ⟨hk, hj, c6, s7, ec, es, hw⟩ := hw
  refine g_callSX (st := []) V (k_L_lay hst hw) ww_3_163 ww_3_164 ww_1_0 ww_3_165 hd_L_lay ⟨by decide, by decide⟩ rfl rfl (ga_cat rfl) dL_law_968 hk hj rfl ga_none (ga_ki (fun r5 hp4 hw => ?_))
  refine ga_re ec es ?_
  refine g_istore (lv2 := [some (.ref v0), some (.ref v1), some (.ref v2), some (.ref v3), some (gi v4), some (gi r5), none]) V dL_law_971 (by decide) rfl rfl rfl ?_
  refine g_aload_n V dL_law_973 rfl rfl ?_
  refine g_aload_n V dL_law_974 rfl rfl ?_
  refine g_iload V dL_law_975 rfl rfl ?_
  refine g_iconst V (Int32.ofInt 1) dL_law_977 rfl rfl ?_
  refine gi_iadd V dL_law_978 rfl ?_
  obtain ⟨t9, vs, r8, ha, ht, h0, h9, hv, hw⟩ := hw
  refine gi_iaload V ha ht h0 h9 hv dL_law_979 rfl ?_
  refine g_aload_n V dL_law_980 rfl rfl ?_
  refine g_iload V dL_law_981 rfl rfl ?_
  refine g_iconst V (Int32.ofInt 2) dL_law_983 rfl rfl ?_
  refine gi_iadd V dL_law_984 rfl ?_
  obtain ⟨t9, vs, r9, ha, ht, h0, h9, hv, hw⟩ := hw
  refine gi_iaload V ha ht h0 h9 hv dL_law_985 rfl ?_
  refine g_aload_n V dL_law_986 rfl rfl ?_
  refine g_iload V dL_law_987 rfl rfl ?_
  refine g_iconst V (Int32.ofInt 3) dL_law_989 rfl rfl ?_
  refine gi_iadd V dL_law_990 rfl ?_
  obtain ⟨t9, vs, r10, ha, ht, h0, h9, hv, hw⟩ := hw
  refine gi_iaload V ha ht h0 h9 hv dL_law_991 rfl ?_
  obtain ⟨hb, hw⟩ := hw
  obtain ⟨fb, hb⟩ := hb
  obtain ⟨hk, hj, c13, s14, ec, es, hw⟩ := hw
  refine g_callV (C := RX7) (T := TX7) (N := 8) (st := []) V (k_X7_lay hst hw) ww_6_106 ww_6_107 ww_6_108 ww_1_5 ww_6_109 hd_X7_lay ⟨by decide, by decide⟩ rfl (by decide) hb rfl rfl (ga_cat rfl) dL_law_992 hk hj rfl ga_none (ga_ki (fun r12 hp11 hw => ?_))
  refine ga_re ec es ?_
  refine g_istore (lv2 := [some (.ref v0), some (.ref v1), some (.ref v2), some (.ref v3), some (gi v4), some (gi r5), some (gi r12)]) V dL_law_995 (by decide) rfl rfl rfl ?_
  refine g_goto V dL_law_997 rfl ?_
  refine g_less (bs := [true, true, true, true, true, false, false]) (lv2 := [some (.ref v0), some (.ref v1), some (.ref v2), some (.ref v3), some (gi v4), none, none]) rfl ?_
  exact hl_L_law_J2201 hst V hend K27 hK27 v0 v1 v2 v3 v4 hp11 c13 s14 hw
theorem hl_L_law_J896 {p : Program} {l : Launch} {e : Env} {s : State} {m : MethodId} {args : Array Value} {below : List Frame} {meth : Method} {c : Code} {G : gaG} {nm : String} {Z : State → Prop} (hst : l.stackTraces = false) (V : gaV p l s m args meth c G code RL 7 gaW ret nm) (hend : ∀ (pc : Nat) (lv : List (Option Value)) (h : gaH) (k j : Nat), decode code pc = .ok (.ireturn, 1) → gaP p l e room_1 s m args below meth c G 7 Z pc lv [gi 1] h k j) : ∀ (K27 : Nat → Nat → Nat → Nat → Int → gaH → Nat → Nat → Prop), ∀ (hK27 : ∀ (v0 : Nat) (v1 : Nat) (v2 : Nat) (v3 : Nat) (v4 : Int) (h : gaH) (kc ks : Nat), K27 v0 v1 v2 v3 v4 h kc ks → gaP p l e room_1 s m args below meth c G 7 Z 27 [some (.ref v0), some (.ref v1), some (.ref v2), some (.ref v3), some (gi v4), none, none] [] h kc ks), ∀ (v0 : Nat) (v1 : Nat) (v2 : Nat) (v3 : Nat) (v4 : Int) (h : gaH) (kc ks : Nat), w_L_law_J896 G K27 v0 v1 v2 v3 v4 h kc ks → gaP p l e room_1 s m args below meth c G 7 Z 896 [some (.ref v0), some (.ref v1), some (.ref v2), some (.ref v3), some (gi v4), none, none] [] h kc ks := by
  intro K27 hK27
  intro v0 v1 v2 v3 v4 h kc ks hw
  unfold w_L_law_J896 at hw
  refine g_aload_n V dL_law_896 rfl rfl ?_
  refine g_aload_n V dL_law_897 rfl rfl ?_
  refine g_iload V dL_law_898 rfl rfl ?_
  refine g_iconst V (Int32.ofInt 1) dL_law_900 rfl rfl ?_
  refine gi_iadd V dL_law_901 rfl ?_
  obtain ⟨t9, vs, r1, ha, ht, h0, h9, hv, hw⟩ := hw
  refine gi_iaload V ha ht h0 h9 hv dL_law_902 rfl ?_
  refine g_aload_n V dL_law_903 rfl rfl ?_
  refine g_iload V dL_law_904 rfl rfl ?_
  refine g_iconst V (Int32.ofInt 2) dL_law_906 rfl rfl ?_
  refine gi_iadd V dL_law_907 rfl ?_
  obtain ⟨t9, vs, r2, ha, ht, h0, h9, hv, hw⟩ := hw
  refine gi_iaload V ha ht h0 h9 hv dL_law_908 rfl ?_
  refine g_aload_n V dL_law_909 rfl rfl ?_
  refine g_iload V dL_law_910 rfl rfl ?_
  refine g_iconst V (Int32.ofInt 3) dL_law_912 rfl rfl ?_
  refine gi_iadd V dL_law_913 rfl ?_
  obtain ⟨t9, vs, r3, ha, ht, h0, h9, hv, hw⟩ := hw
  refine gi_iaload V ha ht h0 h9 hv dL_law_914 rfl ?_
  refine g_aload_n V dL_law_915 rfl rfl ?_
  obtain ⟨hk, hj, c6, s7, ec, es, hw⟩ := hw
  refine g_callSX (st := []) V (k_L_undo hst hw) ww_3_111 ww_3_112 ww_1_0 ww_3_113 hd_L_undo ⟨by decide, by decide⟩ rfl rfl (ga_cat rfl) dL_law_916 hk hj rfl ga_none (ga_ki (fun r5 hp4 hw => ?_))
  refine ga_re ec es ?_
  refine g_istore (lv2 := [some (.ref v0), some (.ref v1), some (.ref v2), some (.ref v3), some (gi v4), some (gi r5), none]) V dL_law_919 (by decide) rfl rfl rfl ?_
  refine g_aload_n V dL_law_921 rfl rfl ?_
  refine g_aload_n V dL_law_922 rfl rfl ?_
  refine g_iload V dL_law_923 rfl rfl ?_
  refine g_iconst V (Int32.ofInt 1) dL_law_925 rfl rfl ?_
  refine gi_iadd V dL_law_926 rfl ?_
  obtain ⟨t9, vs, r8, ha, ht, h0, h9, hv, hw⟩ := hw
  refine gi_iaload V ha ht h0 h9 hv dL_law_927 rfl ?_
  refine g_aload_n V dL_law_928 rfl rfl ?_
  refine g_iload V dL_law_929 rfl rfl ?_
  refine g_iconst V (Int32.ofInt 2) dL_law_931 rfl rfl ?_
  refine gi_iadd V dL_law_932 rfl ?_
  obtain ⟨t9, vs, r9, ha, ht, h0, h9, hv, hw⟩ := hw
  refine gi_iaload V ha ht h0 h9 hv dL_law_933 rfl ?_
  refine g_aload_n V dL_law_934 rfl rfl ?_
  refine g_iload V dL_law_935 rfl rfl ?_
  refine g_iconst V (Int32.ofInt 3) dL_law_937 rfl rfl ?_
  refine gi_iadd V dL_law_938 rfl ?_
  obtain ⟨t9, vs, r10, ha, ht, h0, h9, hv, hw⟩ := hw
  refine gi_iaload V ha ht h0 h9 hv dL_law_939 rfl ?_
  obtain ⟨hb, hw⟩ := hw
  obtain ⟨fb, hb⟩ := hb
  obtain ⟨hk, hj, c13, s14, ec, es, hw⟩ := hw
  refine g_callV (C := RX7) (T := TX7) (N := 8) (st := []) V (k_X7_undo hst hw) ww_6_96 ww_6_97 ww_6_98 ww_1_5 ww_6_99 hd_X7_undo ⟨by decide, by decide⟩ rfl (by decide) hb rfl rfl (ga_cat rfl) dL_law_940 hk hj rfl ga_none (ga_ki (fun r12 hp11 hw => ?_))
  refine ga_re ec es ?_
  refine g_istore (lv2 := [some (.ref v0), some (.ref v1), some (.ref v2), some (.ref v3), some (gi v4), some (gi r5), some (gi r12)]) V dL_law_943 (by decide) rfl rfl rfl ?_
  refine g_goto V dL_law_945 rfl ?_
  refine g_less (bs := [true, true, true, true, true, false, false]) (lv2 := [some (.ref v0), some (.ref v1), some (.ref v2), some (.ref v3), some (gi v4), none, none]) rfl ?_
  exact hl_L_law_J2201 hst V hend K27 hK27 v0 v1 v2 v3 v4 hp11 c13 s14 hw
theorem hl_L_law_J844 {p : Program} {l : Launch} {e : Env} {s : State} {m : MethodId} {args : Array Value} {below : List Frame} {meth : Method} {c : Code} {G : gaG} {nm : String} {Z : State → Prop} (hst : l.stackTraces = false) (V : gaV p l s m args meth c G code RL 7 gaW ret nm) (hend : ∀ (pc : Nat) (lv : List (Option Value)) (h : gaH) (k j : Nat), decode code pc = .ok (.ireturn, 1) → gaP p l e room_1 s m args below meth c G 7 Z pc lv [gi 1] h k j) : ∀ (K27 : Nat → Nat → Nat → Nat → Int → gaH → Nat → Nat → Prop), ∀ (hK27 : ∀ (v0 : Nat) (v1 : Nat) (v2 : Nat) (v3 : Nat) (v4 : Int) (h : gaH) (kc ks : Nat), K27 v0 v1 v2 v3 v4 h kc ks → gaP p l e room_1 s m args below meth c G 7 Z 27 [some (.ref v0), some (.ref v1), some (.ref v2), some (.ref v3), some (gi v4), none, none] [] h kc ks), ∀ (v0 : Nat) (v1 : Nat) (v2 : Nat) (v3 : Nat) (v4 : Int) (h : gaH) (kc ks : Nat), w_L_law_J844 G K27 v0 v1 v2 v3 v4 h kc ks → gaP p l e room_1 s m args below meth c G 7 Z 844 [some (.ref v0), some (.ref v1), some (.ref v2), some (.ref v3), some (gi v4), none, none] [] h kc ks := by
  intro K27 hK27
  intro v0 v1 v2 v3 v4 h kc ks hw
  unfold w_L_law_J844 at hw
  refine g_aload_n V dL_law_844 rfl rfl ?_
  refine g_aload_n V dL_law_845 rfl rfl ?_
  refine g_iload V dL_law_846 rfl rfl ?_
  refine g_iconst V (Int32.ofInt 1) dL_law_848 rfl rfl ?_
  refine gi_iadd V dL_law_849 rfl ?_
  obtain ⟨t9, vs, r1, ha, ht, h0, h9, hv, hw⟩ := hw
  refine gi_iaload V ha ht h0 h9 hv dL_law_850 rfl ?_
  refine g_aload_n V dL_law_851 rfl rfl ?_
  refine g_iload V dL_law_852 rfl rfl ?_
  refine g_iconst V (Int32.ofInt 2) dL_law_854 rfl rfl ?_
  refine gi_iadd V dL_law_855 rfl ?_
  obtain ⟨t9, vs, r2, ha, ht, h0, h9, hv, hw⟩ := hw
  refine gi_iaload V ha ht h0 h9 hv dL_law_856 rfl ?_
  refine g_aload_n V dL_law_857 rfl rfl ?_
  refine g_iload V dL_law_858 rfl rfl ?_
  refine g_iconst V (Int32.ofInt 3) dL_law_860 rfl rfl ?_
  refine gi_iadd V dL_law_861 rfl ?_
  obtain ⟨t9, vs, r3, ha, ht, h0, h9, hv, hw⟩ := hw
  refine gi_iaload V ha ht h0 h9 hv dL_law_862 rfl ?_
  refine g_aload_n V dL_law_863 rfl rfl ?_
  obtain ⟨hk, hj, c6, s7, ec, es, hw⟩ := hw
  refine g_callSX (st := []) V (k_L_apply hst hw) ww_3_93 ww_3_94 ww_1_0 ww_3_95 hd_L_apply ⟨by decide, by decide⟩ rfl rfl (ga_cat rfl) dL_law_864 hk hj rfl ga_none (ga_ki (fun r5 hp4 hw => ?_))
  refine ga_re ec es ?_
  refine g_istore (lv2 := [some (.ref v0), some (.ref v1), some (.ref v2), some (.ref v3), some (gi v4), some (gi r5), none]) V dL_law_867 (by decide) rfl rfl rfl ?_
  refine g_aload_n V dL_law_869 rfl rfl ?_
  refine g_aload_n V dL_law_870 rfl rfl ?_
  refine g_iload V dL_law_871 rfl rfl ?_
  refine g_iconst V (Int32.ofInt 1) dL_law_873 rfl rfl ?_
  refine gi_iadd V dL_law_874 rfl ?_
  obtain ⟨t9, vs, r8, ha, ht, h0, h9, hv, hw⟩ := hw
  refine gi_iaload V ha ht h0 h9 hv dL_law_875 rfl ?_
  refine g_aload_n V dL_law_876 rfl rfl ?_
  refine g_iload V dL_law_877 rfl rfl ?_
  refine g_iconst V (Int32.ofInt 2) dL_law_879 rfl rfl ?_
  refine gi_iadd V dL_law_880 rfl ?_
  obtain ⟨t9, vs, r9, ha, ht, h0, h9, hv, hw⟩ := hw
  refine gi_iaload V ha ht h0 h9 hv dL_law_881 rfl ?_
  refine g_aload_n V dL_law_882 rfl rfl ?_
  refine g_iload V dL_law_883 rfl rfl ?_
  refine g_iconst V (Int32.ofInt 3) dL_law_885 rfl rfl ?_
  refine gi_iadd V dL_law_886 rfl ?_
  obtain ⟨t9, vs, r10, ha, ht, h0, h9, hv, hw⟩ := hw
  refine gi_iaload V ha ht h0 h9 hv dL_law_887 rfl ?_
  obtain ⟨hb, hw⟩ := hw
  obtain ⟨fb, hb⟩ := hb
  obtain ⟨hk, hj, c13, s14, ec, es, hw⟩ := hw
  refine g_callV (C := RX7) (T := TX7) (N := 8) (st := []) V (k_X7_apply hst hw) ww_6_89 ww_6_90 ww_6_91 ww_1_5 ww_6_92 hd_X7_apply ⟨by decide, by decide⟩ rfl (by decide) hb rfl rfl (ga_cat rfl) dL_law_888 hk hj rfl ga_none (ga_ki (fun r12 hp11 hw => ?_))
  refine ga_re ec es ?_
  refine g_istore (lv2 := [some (.ref v0), some (.ref v1), some (.ref v2), some (.ref v3), some (gi v4), some (gi r5), some (gi r12)]) V dL_law_891 (by decide) rfl rfl rfl ?_
  refine g_goto V dL_law_893 rfl ?_
  refine g_less (bs := [true, true, true, true, true, false, false]) (lv2 := [some (.ref v0), some (.ref v1), some (.ref v2), some (.ref v3), some (gi v4), none, none]) rfl ?_
  exact hl_L_law_J2201 hst V hend K27 hK27 v0 v1 v2 v3 v4 hp11 c13 s14 hw
theorem hl_L_law_J804 {p : Program} {l : Launch} {e : Env} {s : State} {m : MethodId} {args : Array Value} {below : List Frame} {meth : Method} {c : Code} {G : gaG} {nm : String} {Z : State → Prop} (hst : l.stackTraces = false) (V : gaV p l s m args meth c G code RL 7 gaW ret nm) (hend : ∀ (pc : Nat) (lv : List (Option Value)) (h : gaH) (k j : Nat), decode code pc = .ok (.ireturn, 1) → gaP p l e room_1 s m args below meth c G 7 Z pc lv [gi 1] h k j) : ∀ (K27 : Nat → Nat → Nat → Nat → Int → gaH → Nat → Nat → Prop), ∀ (hK27 : ∀ (v0 : Nat) (v1 : Nat) (v2 : Nat) (v3 : Nat) (v4 : Int) (h : gaH) (kc ks : Nat), K27 v0 v1 v2 v3 v4 h kc ks → gaP p l e room_1 s m args below meth c G 7 Z 27 [some (.ref v0), some (.ref v1), some (.ref v2), some (.ref v3), some (gi v4), none, none] [] h kc ks), ∀ (v0 : Nat) (v1 : Nat) (v2 : Nat) (v3 : Nat) (v4 : Int) (h : gaH) (kc ks : Nat), w_L_law_J804 G K27 v0 v1 v2 v3 v4 h kc ks → gaP p l e room_1 s m args below meth c G 7 Z 804 [some (.ref v0), some (.ref v1), some (.ref v2), some (.ref v3), some (gi v4), none, none] [] h kc ks := by
  intro K27 hK27
  intro v0 v1 v2 v3 v4 h kc ks hw
  unfold w_L_law_J804 at hw
  refine g_aload_n V dL_law_804 rfl rfl ?_
  refine g_aload_n V dL_law_805 rfl rfl ?_
  refine g_iload V dL_law_806 rfl rfl ?_
  refine g_iconst V (Int32.ofInt 1) dL_law_808 rfl rfl ?_
  refine gi_iadd V dL_law_809 rfl ?_
  obtain ⟨t9, vs, r1, ha, ht, h0, h9, hv, hw⟩ := hw
  refine gi_iaload V ha ht h0 h9 hv dL_law_810 rfl ?_
  refine g_aload_n V dL_law_811 rfl rfl ?_
  refine g_iload V dL_law_812 rfl rfl ?_
  refine g_iconst V (Int32.ofInt 2) dL_law_814 rfl rfl ?_
  refine gi_iadd V dL_law_815 rfl ?_
  obtain ⟨t9, vs, r2, ha, ht, h0, h9, hv, hw⟩ := hw
  refine gi_iaload V ha ht h0 h9 hv dL_law_816 rfl ?_
  refine g_aload_n V dL_law_817 rfl rfl ?_
  obtain ⟨hk, hj, c5, s6, ec, es, hw⟩ := hw
  refine g_callSX (st := []) V (k_L_copy hst hw) ww_3_86 ww_3_87 ww_1_0 ww_3_88 hd_L_copy ⟨by decide, by decide⟩ rfl rfl (ga_cat rfl) dL_law_818 hk hj rfl ga_none (ga_ki (fun r4 hp3 hw => ?_))
  refine ga_re ec es ?_
  refine g_istore (lv2 := [some (.ref v0), some (.ref v1), some (.ref v2), some (.ref v3), some (gi v4), some (gi r4), none]) V dL_law_821 (by decide) rfl rfl rfl ?_
  refine g_aload_n V dL_law_823 rfl rfl ?_
  refine g_aload_n V dL_law_824 rfl rfl ?_
  refine g_iload V dL_law_825 rfl rfl ?_
  refine g_iconst V (Int32.ofInt 1) dL_law_827 rfl rfl ?_
  refine gi_iadd V dL_law_828 rfl ?_
  obtain ⟨t9, vs, r7, ha, ht, h0, h9, hv, hw⟩ := hw
  refine gi_iaload V ha ht h0 h9 hv dL_law_829 rfl ?_
  refine g_aload_n V dL_law_830 rfl rfl ?_
  refine g_iload V dL_law_831 rfl rfl ?_
  refine g_iconst V (Int32.ofInt 2) dL_law_833 rfl rfl ?_
  refine gi_iadd V dL_law_834 rfl ?_
  obtain ⟨t9, vs, r8, ha, ht, h0, h9, hv, hw⟩ := hw
  refine gi_iaload V ha ht h0 h9 hv dL_law_835 rfl ?_
  obtain ⟨hb, hw⟩ := hw
  obtain ⟨fb, hb⟩ := hb
  refine g_callV (C := RX7) (T := TX7) (N := 8) (st := []) V (k_X7_copy hst hw) ww_6_85 ww_6_86 ww_6_87 ww_1_5 ww_6_88 hd_X7_copy ⟨by decide, by decide⟩ rfl (by decide) hb rfl rfl (ga_cat rfl) dL_law_836 (Nat.zero_le _) (Nat.zero_le _) rfl ga_none (ga_ki (fun r10 hp9 hw => ?_))
  refine g_istore (lv2 := [some (.ref v0), some (.ref v1), some (.ref v2), some (.ref v3), some (gi v4), some (gi r4), some (gi r10)]) V dL_law_839 (by decide) rfl rfl rfl ?_
  refine g_goto V dL_law_841 rfl ?_
  refine g_less (bs := [true, true, true, true, true, false, false]) (lv2 := [some (.ref v0), some (.ref v1), some (.ref v2), some (.ref v3), some (gi v4), none, none]) rfl ?_
  exact hl_L_law_J2201 hst V hend K27 hK27 v0 v1 v2 v3 v4 hp9 c5 s6 hw
theorem hl_L_law_J764 {p : Program} {l : Launch} {e : Env} {s : State} {m : MethodId} {args : Array Value} {below : List Frame} {meth : Method} {c : Code} {G : gaG} {nm : String} {Z : State → Prop} (hst : l.stackTraces = false) (V : gaV p l s m args meth c G code RL 7 gaW ret nm) (hend : ∀ (pc : Nat) (lv : List (Option Value)) (h : gaH) (k j : Nat), decode code pc = .ok (.ireturn, 1) → gaP p l e room_1 s m args below meth c G 7 Z pc lv [gi 1] h k j) : ∀ (K27 : Nat → Nat → Nat → Nat → Int → gaH → Nat → Nat → Prop), ∀ (hK27 : ∀ (v0 : Nat) (v1 : Nat) (v2 : Nat) (v3 : Nat) (v4 : Int) (h : gaH) (kc ks : Nat), K27 v0 v1 v2 v3 v4 h kc ks → gaP p l e room_1 s m args below meth c G 7 Z 27 [some (.ref v0), some (.ref v1), some (.ref v2), some (.ref v3), some (gi v4), none, none] [] h kc ks), ∀ (v0 : Nat) (v1 : Nat) (v2 : Nat) (v3 : Nat) (v4 : Int) (h : gaH) (kc ks : Nat), w_L_law_J764 G K27 v0 v1 v2 v3 v4 h kc ks → gaP p l e room_1 s m args below meth c G 7 Z 764 [some (.ref v0), some (.ref v1), some (.ref v2), some (.ref v3), some (gi v4), none, none] [] h kc ks := by
  intro K27 hK27
  intro v0 v1 v2 v3 v4 h kc ks hw
  unfold w_L_law_J764 at hw
  refine g_aload_n V dL_law_764 rfl rfl ?_
  refine g_aload_n V dL_law_765 rfl rfl ?_
  refine g_iload V dL_law_766 rfl rfl ?_
  refine g_iconst V (Int32.ofInt 1) dL_law_768 rfl rfl ?_
  refine gi_iadd V dL_law_769 rfl ?_
  obtain ⟨t9, vs, r1, ha, ht, h0, h9, hv, hw⟩ := hw
  refine gi_iaload V ha ht h0 h9 hv dL_law_770 rfl ?_
  refine g_aload_n V dL_law_771 rfl rfl ?_
  refine g_iload V dL_law_772 rfl rfl ?_
  refine g_iconst V (Int32.ofInt 2) dL_law_774 rfl rfl ?_
  refine gi_iadd V dL_law_775 rfl ?_
  obtain ⟨t9, vs, r2, ha, ht, h0, h9, hv, hw⟩ := hw
  refine gi_iaload V ha ht h0 h9 hv dL_law_776 rfl ?_
  refine g_aload_n V dL_law_777 rfl rfl ?_
  obtain ⟨hk, hj, c5, s6, ec, es, hw⟩ := hw
  refine g_callSX (st := []) V (k_L_rotate hst hw) ww_3_79 ww_3_80 ww_1_0 ww_3_81 hd_L_rotate ⟨by decide, by decide⟩ rfl rfl (ga_cat rfl) dL_law_778 hk hj rfl ga_none (ga_ki (fun r4 hp3 hw => ?_))
  refine ga_re ec es ?_
  refine g_istore (lv2 := [some (.ref v0), some (.ref v1), some (.ref v2), some (.ref v3), some (gi v4), some (gi r4), none]) V dL_law_781 (by decide) rfl rfl rfl ?_
  refine g_aload_n V dL_law_783 rfl rfl ?_
  refine g_aload_n V dL_law_784 rfl rfl ?_
  refine g_iload V dL_law_785 rfl rfl ?_
  refine g_iconst V (Int32.ofInt 1) dL_law_787 rfl rfl ?_
  refine gi_iadd V dL_law_788 rfl ?_
  obtain ⟨t9, vs, r7, ha, ht, h0, h9, hv, hw⟩ := hw
  refine gi_iaload V ha ht h0 h9 hv dL_law_789 rfl ?_
  refine g_aload_n V dL_law_790 rfl rfl ?_
  refine g_iload V dL_law_791 rfl rfl ?_
  refine g_iconst V (Int32.ofInt 2) dL_law_793 rfl rfl ?_
  refine gi_iadd V dL_law_794 rfl ?_
  obtain ⟨t9, vs, r8, ha, ht, h0, h9, hv, hw⟩ := hw
  refine gi_iaload V ha ht h0 h9 hv dL_law_795 rfl ?_
  obtain ⟨hb, hw⟩ := hw
  obtain ⟨fb, hb⟩ := hb
  obtain ⟨hk, hj, c11, s12, ec, es, hw⟩ := hw
  refine g_callV (C := RX7) (T := TX7) (N := 8) (st := []) V (k_X7_rotate hst hw) ww_6_81 ww_6_82 ww_6_83 ww_1_5 ww_6_84 hd_X7_rotate ⟨by decide, by decide⟩ rfl (by decide) hb rfl rfl (ga_cat rfl) dL_law_796 hk hj rfl ga_none (ga_ki (fun r10 hp9 hw => ?_))
  refine ga_re ec es ?_
  refine g_istore (lv2 := [some (.ref v0), some (.ref v1), some (.ref v2), some (.ref v3), some (gi v4), some (gi r4), some (gi r10)]) V dL_law_799 (by decide) rfl rfl rfl ?_
  refine g_goto V dL_law_801 rfl ?_
  refine g_less (bs := [true, true, true, true, true, false, false]) (lv2 := [some (.ref v0), some (.ref v1), some (.ref v2), some (.ref v3), some (gi v4), none, none]) rfl ?_
  exact hl_L_law_J2201 hst V hend K27 hK27 v0 v1 v2 v3 v4 hp9 c11 s12 hw
theorem hl_L_law_J736 {p : Program} {l : Launch} {e : Env} {s : State} {m : MethodId} {args : Array Value} {below : List Frame} {meth : Method} {c : Code} {G : gaG} {nm : String} {Z : State → Prop} (hst : l.stackTraces = false) (V : gaV p l s m args meth c G code RL 7 gaW ret nm) (hend : ∀ (pc : Nat) (lv : List (Option Value)) (h : gaH) (k j : Nat), decode code pc = .ok (.ireturn, 1) → gaP p l e room_1 s m args below meth c G 7 Z pc lv [gi 1] h k j) : ∀ (K27 : Nat → Nat → Nat → Nat → Int → gaH → Nat → Nat → Prop), ∀ (hK27 : ∀ (v0 : Nat) (v1 : Nat) (v2 : Nat) (v3 : Nat) (v4 : Int) (h : gaH) (kc ks : Nat), K27 v0 v1 v2 v3 v4 h kc ks → gaP p l e room_1 s m args below meth c G 7 Z 27 [some (.ref v0), some (.ref v1), some (.ref v2), some (.ref v3), some (gi v4), none, none] [] h kc ks), ∀ (v0 : Nat) (v1 : Nat) (v2 : Nat) (v3 : Nat) (v4 : Int) (h : gaH) (kc ks : Nat), w_L_law_J736 G K27 v0 v1 v2 v3 v4 h kc ks → gaP p l e room_1 s m args below meth c G 7 Z 736 [some (.ref v0), some (.ref v1), some (.ref v2), some (.ref v3), some (gi v4), none, none] [] h kc ks := by
  intro K27 hK27
  intro v0 v1 v2 v3 v4 h kc ks hw
  unfold w_L_law_J736 at hw
  refine g_aload_n V dL_law_736 rfl rfl ?_
  refine g_aload_n V dL_law_737 rfl rfl ?_
  refine g_iload V dL_law_738 rfl rfl ?_
  refine g_iconst V (Int32.ofInt 1) dL_law_740 rfl rfl ?_
  refine gi_iadd V dL_law_741 rfl ?_
  obtain ⟨t9, vs, r1, ha, ht, h0, h9, hv, hw⟩ := hw
  refine gi_iaload V ha ht h0 h9 hv dL_law_742 rfl ?_
  refine g_aload_n V dL_law_743 rfl rfl ?_
  obtain ⟨hk, hj, c4, s5, ec, es, hw⟩ := hw
  refine g_callSX (st := []) V (k_L_exchange hst hw) ww_3_72 ww_3_73 ww_1_0 ww_3_74 hd_L_exchange ⟨by decide, by decide⟩ rfl rfl (ga_cat rfl) dL_law_744 hk hj rfl ga_none (ga_ki (fun r3 hp2 hw => ?_))
  refine ga_re ec es ?_
  refine g_istore (lv2 := [some (.ref v0), some (.ref v1), some (.ref v2), some (.ref v3), some (gi v4), some (gi r3), none]) V dL_law_747 (by decide) rfl rfl rfl ?_
  refine g_aload_n V dL_law_749 rfl rfl ?_
  refine g_aload_n V dL_law_750 rfl rfl ?_
  refine g_iload V dL_law_751 rfl rfl ?_
  refine g_iconst V (Int32.ofInt 1) dL_law_753 rfl rfl ?_
  refine gi_iadd V dL_law_754 rfl ?_
  obtain ⟨t9, vs, r6, ha, ht, h0, h9, hv, hw⟩ := hw
  refine gi_iaload V ha ht h0 h9 hv dL_law_755 rfl ?_
  obtain ⟨hb, hw⟩ := hw
  obtain ⟨fb, hb⟩ := hb
  obtain ⟨hk, hj, c9, s10, ec, es, hw⟩ := hw
  refine g_callV (C := RX7) (T := TX7) (N := 8) (st := []) V (k_X7_exchange hst hw) ww_6_74 ww_6_75 ww_6_76 ww_1_5 ww_6_77 hd_X7_exchange ⟨by decide, by decide⟩ rfl (by decide) hb rfl rfl (ga_cat rfl) dL_law_756 hk hj rfl ga_none (ga_ki (fun r8 hp7 hw => ?_))
  refine ga_re ec es ?_
  refine g_istore (lv2 := [some (.ref v0), some (.ref v1), some (.ref v2), some (.ref v3), some (gi v4), some (gi r3), some (gi r8)]) V dL_law_759 (by decide) rfl rfl rfl ?_
  refine g_goto V dL_law_761 rfl ?_
  refine g_less (bs := [true, true, true, true, true, false, false]) (lv2 := [some (.ref v0), some (.ref v1), some (.ref v2), some (.ref v3), some (gi v4), none, none]) rfl ?_
  exact hl_L_law_J2201 hst V hend K27 hK27 v0 v1 v2 v3 v4 hp7 c9 s10 hw
theorem hl_L_law_J708 {p : Program} {l : Launch} {e : Env} {s : State} {m : MethodId} {args : Array Value} {below : List Frame} {meth : Method} {c : Code} {G : gaG} {nm : String} {Z : State → Prop} (hst : l.stackTraces = false) (V : gaV p l s m args meth c G code RL 7 gaW ret nm) (hend : ∀ (pc : Nat) (lv : List (Option Value)) (h : gaH) (k j : Nat), decode code pc = .ok (.ireturn, 1) → gaP p l e room_1 s m args below meth c G 7 Z pc lv [gi 1] h k j) : ∀ (K27 : Nat → Nat → Nat → Nat → Int → gaH → Nat → Nat → Prop), ∀ (hK27 : ∀ (v0 : Nat) (v1 : Nat) (v2 : Nat) (v3 : Nat) (v4 : Int) (h : gaH) (kc ks : Nat), K27 v0 v1 v2 v3 v4 h kc ks → gaP p l e room_1 s m args below meth c G 7 Z 27 [some (.ref v0), some (.ref v1), some (.ref v2), some (.ref v3), some (gi v4), none, none] [] h kc ks), ∀ (v0 : Nat) (v1 : Nat) (v2 : Nat) (v3 : Nat) (v4 : Int) (h : gaH) (kc ks : Nat), w_L_law_J708 G K27 v0 v1 v2 v3 v4 h kc ks → gaP p l e room_1 s m args below meth c G 7 Z 708 [some (.ref v0), some (.ref v1), some (.ref v2), some (.ref v3), some (gi v4), none, none] [] h kc ks := by
  intro K27 hK27
  intro v0 v1 v2 v3 v4 h kc ks hw
  unfold w_L_law_J708 at hw
  refine g_aload_n V dL_law_708 rfl rfl ?_
  refine g_aload_n V dL_law_709 rfl rfl ?_
  refine g_iload V dL_law_710 rfl rfl ?_
  refine g_iconst V (Int32.ofInt 1) dL_law_712 rfl rfl ?_
  refine gi_iadd V dL_law_713 rfl ?_
  obtain ⟨t9, vs, r1, ha, ht, h0, h9, hv, hw⟩ := hw
  refine gi_iaload V ha ht h0 h9 hv dL_law_714 rfl ?_
  refine g_aload_n V dL_law_715 rfl rfl ?_
  obtain ⟨hk, hj, c4, s5, ec, es, hw⟩ := hw
  refine g_callSX (st := []) V (k_L_turn hst hw) ww_3_61 ww_3_62 ww_1_0 ww_3_63 hd_L_turn ⟨by decide, by decide⟩ rfl rfl (ga_cat rfl) dL_law_716 hk hj rfl ga_none (ga_ki (fun r3 hp2 hw => ?_))
  refine ga_re ec es ?_
  refine g_istore (lv2 := [some (.ref v0), some (.ref v1), some (.ref v2), some (.ref v3), some (gi v4), some (gi r3), none]) V dL_law_719 (by decide) rfl rfl rfl ?_
  refine g_aload_n V dL_law_721 rfl rfl ?_
  refine g_aload_n V dL_law_722 rfl rfl ?_
  refine g_iload V dL_law_723 rfl rfl ?_
  refine g_iconst V (Int32.ofInt 1) dL_law_725 rfl rfl ?_
  refine gi_iadd V dL_law_726 rfl ?_
  obtain ⟨t9, vs, r6, ha, ht, h0, h9, hv, hw⟩ := hw
  refine gi_iaload V ha ht h0 h9 hv dL_law_727 rfl ?_
  obtain ⟨hb, hw⟩ := hw
  obtain ⟨fb, hb⟩ := hb
  obtain ⟨hk, hj, c9, s10, ec, es, hw⟩ := hw
  refine g_callV (C := RX7) (T := TX7) (N := 8) (st := []) V (k_X7_turn hst hw) ww_6_57 ww_6_58 ww_6_59 ww_1_5 ww_6_60 hd_X7_turn ⟨by decide, by decide⟩ rfl (by decide) hb rfl rfl (ga_cat rfl) dL_law_728 hk hj rfl ga_none (ga_ki (fun r8 hp7 hw => ?_))
  refine ga_re ec es ?_
  refine g_istore (lv2 := [some (.ref v0), some (.ref v1), some (.ref v2), some (.ref v3), some (gi v4), some (gi r3), some (gi r8)]) V dL_law_731 (by decide) rfl rfl rfl ?_
  refine g_goto V dL_law_733 rfl ?_
  refine g_less (bs := [true, true, true, true, true, false, false]) (lv2 := [some (.ref v0), some (.ref v1), some (.ref v2), some (.ref v3), some (gi v4), none, none]) rfl ?_
  exact hl_L_law_J2201 hst V hend K27 hK27 v0 v1 v2 v3 v4 hp7 c9 s10 hw
theorem hl_L_law_J668 {p : Program} {l : Launch} {e : Env} {s : State} {m : MethodId} {args : Array Value} {below : List Frame} {meth : Method} {c : Code} {G : gaG} {nm : String} {Z : State → Prop} (hst : l.stackTraces = false) (V : gaV p l s m args meth c G code RL 7 gaW ret nm) (hend : ∀ (pc : Nat) (lv : List (Option Value)) (h : gaH) (k j : Nat), decode code pc = .ok (.ireturn, 1) → gaP p l e room_1 s m args below meth c G 7 Z pc lv [gi 1] h k j) : ∀ (K27 : Nat → Nat → Nat → Nat → Int → gaH → Nat → Nat → Prop), ∀ (hK27 : ∀ (v0 : Nat) (v1 : Nat) (v2 : Nat) (v3 : Nat) (v4 : Int) (h : gaH) (kc ks : Nat), K27 v0 v1 v2 v3 v4 h kc ks → gaP p l e room_1 s m args below meth c G 7 Z 27 [some (.ref v0), some (.ref v1), some (.ref v2), some (.ref v3), some (gi v4), none, none] [] h kc ks), ∀ (v0 : Nat) (v1 : Nat) (v2 : Nat) (v3 : Nat) (v4 : Int) (h : gaH) (kc ks : Nat), w_L_law_J668 G K27 v0 v1 v2 v3 v4 h kc ks → gaP p l e room_1 s m args below meth c G 7 Z 668 [some (.ref v0), some (.ref v1), some (.ref v2), some (.ref v3), some (gi v4), none, none] [] h kc ks := by
  intro K27 hK27
  intro v0 v1 v2 v3 v4 h kc ks hw
  unfold w_L_law_J668 at hw
  refine g_aload_n V dL_law_668 rfl rfl ?_
  refine g_aload_n V dL_law_669 rfl rfl ?_
  refine g_iload V dL_law_670 rfl rfl ?_
  refine g_iconst V (Int32.ofInt 1) dL_law_672 rfl rfl ?_
  refine gi_iadd V dL_law_673 rfl ?_
  obtain ⟨t9, vs, r1, ha, ht, h0, h9, hv, hw⟩ := hw
  refine gi_iaload V ha ht h0 h9 hv dL_law_674 rfl ?_
  refine g_aload_n V dL_law_675 rfl rfl ?_
  refine g_iload V dL_law_676 rfl rfl ?_
  refine g_iconst V (Int32.ofInt 2) dL_law_678 rfl rfl ?_
  refine gi_iadd V dL_law_679 rfl ?_
  obtain ⟨t9, vs, r2, ha, ht, h0, h9, hv, hw⟩ := hw
  refine gi_iaload V ha ht h0 h9 hv dL_law_680 rfl ?_
  refine g_aload_n V dL_law_681 rfl rfl ?_
  obtain ⟨hk, hj, c5, s6, ec, es, hw⟩ := hw
  refine g_callSX (st := []) V (k_L_cutTo hst hw) ww_3_53 ww_3_54 ww_1_0 ww_3_55 hd_L_cutTo ⟨by decide, by decide⟩ rfl rfl (ga_cat rfl) dL_law_682 hk hj rfl ga_none (ga_ki (fun r4 hp3 hw => ?_))
  refine ga_re ec es ?_
  refine g_istore (lv2 := [some (.ref v0), some (.ref v1), some (.ref v2), some (.ref v3), some (gi v4), some (gi r4), none]) V dL_law_685 (by decide) rfl rfl rfl ?_
  refine g_aload_n V dL_law_687 rfl rfl ?_
  refine g_aload_n V dL_law_688 rfl rfl ?_
  refine g_iload V dL_law_689 rfl rfl ?_
  refine g_iconst V (Int32.ofInt 1) dL_law_691 rfl rfl ?_
  refine gi_iadd V dL_law_692 rfl ?_
  obtain ⟨t9, vs, r7, ha, ht, h0, h9, hv, hw⟩ := hw
  refine gi_iaload V ha ht h0 h9 hv dL_law_693 rfl ?_
  refine g_aload_n V dL_law_694 rfl rfl ?_
  refine g_iload V dL_law_695 rfl rfl ?_
  refine g_iconst V (Int32.ofInt 2) dL_law_697 rfl rfl ?_
  refine gi_iadd V dL_law_698 rfl ?_
  obtain ⟨t9, vs, r8, ha, ht, h0, h9, hv, hw⟩ := hw
  refine gi_iaload V ha ht h0 h9 hv dL_law_699 rfl ?_
  obtain ⟨hb, hw⟩ := hw
  obtain ⟨fb, hb⟩ := hb
  obtain ⟨hk, hj, c11, s12, ec, es, hw⟩ := hw
  refine g_callV (C := RX7) (T := TX7) (N := 8) (st := []) V (k_X7_cutTo hst hw) ww_6_53 ww_6_54 ww_6_55 ww_1_5 ww_6_56 hd_X7_cutTo ⟨by decide, by decide⟩ rfl (by decide) hb rfl rfl (ga_cat rfl) dL_law_700 hk hj rfl ga_none (ga_ki (fun r10 hp9 hw => ?_))
  refine ga_re ec es ?_
  refine g_istore (lv2 := [some (.ref v0), some (.ref v1), some (.ref v2), some (.ref v3), some (gi v4), some (gi r4), some (gi r10)]) V dL_law_703 (by decide) rfl rfl rfl ?_
  refine g_goto V dL_law_705 rfl ?_
  refine g_less (bs := [true, true, true, true, true, false, false]) (lv2 := [some (.ref v0), some (.ref v1), some (.ref v2), some (.ref v3), some (gi v4), none, none]) rfl ?_
  exact hl_L_law_J2201 hst V hend K27 hK27 v0 v1 v2 v3 v4 hp9 c11 s12 hw
theorem hl_L_law_J604 {p : Program} {l : Launch} {e : Env} {s : State} {m : MethodId} {args : Array Value} {below : List Frame} {meth : Method} {c : Code} {G : gaG} {nm : String} {Z : State → Prop} (hst : l.stackTraces = false) (V : gaV p l s m args meth c G code RL 7 gaW ret nm) (hend : ∀ (pc : Nat) (lv : List (Option Value)) (h : gaH) (k j : Nat), decode code pc = .ok (.ireturn, 1) → gaP p l e room_1 s m args below meth c G 7 Z pc lv [gi 1] h k j) : ∀ (K27 : Nat → Nat → Nat → Nat → Int → gaH → Nat → Nat → Prop), ∀ (hK27 : ∀ (v0 : Nat) (v1 : Nat) (v2 : Nat) (v3 : Nat) (v4 : Int) (h : gaH) (kc ks : Nat), K27 v0 v1 v2 v3 v4 h kc ks → gaP p l e room_1 s m args below meth c G 7 Z 27 [some (.ref v0), some (.ref v1), some (.ref v2), some (.ref v3), some (gi v4), none, none] [] h kc ks), ∀ (v0 : Nat) (v1 : Nat) (v2 : Nat) (v3 : Nat) (v4 : Int) (h : gaH) (kc ks : Nat), w_L_law_J604 G K27 v0 v1 v2 v3 v4 h kc ks → gaP p l e room_1 s m args below meth c G 7 Z 604 [some (.ref v0), some (.ref v1), some (.ref v2), some (.ref v3), some (gi v4), none, none] [] h kc ks := by
  intro K27 hK27
  intro v0 v1 v2 v3 v4 h kc ks hw
  unfold w_L_law_J604 at hw
  refine g_aload_n V dL_law_604 rfl rfl ?_
  refine g_aload_n V dL_law_605 rfl rfl ?_
  refine g_iload V dL_law_606 rfl rfl ?_
  refine g_iconst V (Int32.ofInt 1) dL_law_608 rfl rfl ?_
  refine gi_iadd V dL_law_609 rfl ?_
  obtain ⟨t9, vs, r1, ha, ht, h0, h9, hv, hw⟩ := hw
  refine gi_iaload V ha ht h0 h9 hv dL_law_610 rfl ?_
  refine g_aload_n V dL_law_611 rfl rfl ?_
  refine g_iload V dL_law_612 rfl rfl ?_
  refine g_iconst V (Int32.ofInt 2) dL_law_614 rfl rfl ?_
  refine gi_iadd V dL_law_615 rfl ?_
  obtain ⟨t9, vs, r2, ha, ht, h0, h9, hv, hw⟩ := hw
  refine gi_iaload V ha ht h0 h9 hv dL_law_616 rfl ?_
  refine g_aload_n V dL_law_617 rfl rfl ?_
  refine g_iload V dL_law_618 rfl rfl ?_
  refine g_iconst V (Int32.ofInt 3) dL_law_620 rfl rfl ?_
  refine gi_iadd V dL_law_621 rfl ?_
  obtain ⟨t9, vs, r3, ha, ht, h0, h9, hv, hw⟩ := hw
  refine gi_iaload V ha ht h0 h9 hv dL_law_622 rfl ?_
  refine g_aload_n V dL_law_623 rfl rfl ?_
  refine g_iload V dL_law_624 rfl rfl ?_
  refine g_iconst V (Int32.ofInt 4) dL_law_626 rfl rfl ?_
  refine gi_iadd V dL_law_627 rfl ?_
  obtain ⟨t9, vs, r4, ha, ht, h0, h9, hv, hw⟩ := hw
  refine gi_iaload V ha ht h0 h9 hv dL_law_628 rfl ?_
  refine g_aload_n V dL_law_629 rfl rfl ?_
  obtain ⟨hk, hj, c7, s8, ec, es, hw⟩ := hw
  refine g_callSX (st := []) V (k_L_replace hst hw) ww_3_46 ww_3_47 ww_1_0 ww_3_48 hd_L_replace ⟨by decide, by decide⟩ rfl rfl (ga_cat rfl) dL_law_630 hk hj rfl ga_none (ga_ki (fun r6 hp5 hw => ?_))
  refine ga_re ec es ?_
  refine g_istore (lv2 := [some (.ref v0), some (.ref v1), some (.ref v2), some (.ref v3), some (gi v4), some (gi r6), none]) V dL_law_633 (by decide) rfl rfl rfl ?_
  refine g_aload_n V dL_law_635 rfl rfl ?_
  refine g_aload_n V dL_law_636 rfl rfl ?_
  refine g_iload V dL_law_637 rfl rfl ?_
  refine g_iconst V (Int32.ofInt 1) dL_law_639 rfl rfl ?_
  refine gi_iadd V dL_law_640 rfl ?_
  obtain ⟨t9, vs, r9, ha, ht, h0, h9, hv, hw⟩ := hw
  refine gi_iaload V ha ht h0 h9 hv dL_law_641 rfl ?_
  refine g_aload_n V dL_law_642 rfl rfl ?_
  refine g_iload V dL_law_643 rfl rfl ?_
  refine g_iconst V (Int32.ofInt 2) dL_law_645 rfl rfl ?_
  refine gi_iadd V dL_law_646 rfl ?_
  obtain ⟨t9, vs, r10, ha, ht, h0, h9, hv, hw⟩ := hw
  refine gi_iaload V ha ht h0 h9 hv dL_law_647 rfl ?_
  refine g_aload_n V dL_law_648 rfl rfl ?_
  refine g_iload V dL_law_649 rfl rfl ?_
  refine g_iconst V (Int32.ofInt 3) dL_law_651 rfl rfl ?_
  refine gi_iadd V dL_law_652 rfl ?_
  obtain ⟨t9, vs, r11, ha, ht, h0, h9, hv, hw⟩ := hw
  refine gi_iaload V ha ht h0 h9 hv dL_law_653 rfl ?_
  refine g_aload_n V dL_law_654 rfl rfl ?_
  refine g_iload V dL_law_655 rfl rfl ?_
  refine g_iconst V (Int32.ofInt 4) dL_law_657 rfl rfl ?_
  refine gi_iadd V dL_law_658 rfl ?_
  obtain ⟨t9, vs, r12, ha, ht, h0, h9, hv, hw⟩ := hw
  refine gi_iaload V ha ht h0 h9 hv dL_law_659 rfl ?_
  obtain ⟨hb, hw⟩ := hw
  obtain ⟨fb, hb⟩ := hb
  obtain ⟨hk, hj, c15, s16, ec, es, hw⟩ := hw
  refine g_callV (C := RX7) (T := TX7) (N := 8) (st := []) V (k_X7_replace hst hw) ww_6_49 ww_6_50 ww_6_51 ww_1_5 ww_6_52 hd_X7_replace ⟨by decide, by decide⟩ rfl (by decide) hb rfl rfl (ga_cat rfl) dL_law_660 hk hj rfl ga_none (ga_ki (fun r14 hp13 hw => ?_))
  refine ga_re ec es ?_
  refine g_istore (lv2 := [some (.ref v0), some (.ref v1), some (.ref v2), some (.ref v3), some (gi v4), some (gi r6), some (gi r14)]) V dL_law_663 (by decide) rfl rfl rfl ?_
  refine g_goto V dL_law_665 rfl ?_
  refine g_less (bs := [true, true, true, true, true, false, false]) (lv2 := [some (.ref v0), some (.ref v1), some (.ref v2), some (.ref v3), some (gi v4), none, none]) rfl ?_
  exact hl_L_law_J2201 hst V hend K27 hK27 v0 v1 v2 v3 v4 hp13 c15 s16 hw
theorem hl_L_law_J552 {p : Program} {l : Launch} {e : Env} {s : State} {m : MethodId} {args : Array Value} {below : List Frame} {meth : Method} {c : Code} {G : gaG} {nm : String} {Z : State → Prop} (hst : l.stackTraces = false) (V : gaV p l s m args meth c G code RL 7 gaW ret nm) (hend : ∀ (pc : Nat) (lv : List (Option Value)) (h : gaH) (k j : Nat), decode code pc = .ok (.ireturn, 1) → gaP p l e room_1 s m args below meth c G 7 Z pc lv [gi 1] h k j) : ∀ (K27 : Nat → Nat → Nat → Nat → Int → gaH → Nat → Nat → Prop), ∀ (hK27 : ∀ (v0 : Nat) (v1 : Nat) (v2 : Nat) (v3 : Nat) (v4 : Int) (h : gaH) (kc ks : Nat), K27 v0 v1 v2 v3 v4 h kc ks → gaP p l e room_1 s m args below meth c G 7 Z 27 [some (.ref v0), some (.ref v1), some (.ref v2), some (.ref v3), some (gi v4), none, none] [] h kc ks), ∀ (v0 : Nat) (v1 : Nat) (v2 : Nat) (v3 : Nat) (v4 : Int) (h : gaH) (kc ks : Nat), w_L_law_J552 G K27 v0 v1 v2 v3 v4 h kc ks → gaP p l e room_1 s m args below meth c G 7 Z 552 [some (.ref v0), some (.ref v1), some (.ref v2), some (.ref v3), some (gi v4), none, none] [] h kc ks := by
  intro K27 hK27
  intro v0 v1 v2 v3 v4 h kc ks hw
  unfold w_L_law_J552 at hw
  refine g_aload_n V dL_law_552 rfl rfl ?_
  refine g_aload_n V dL_law_553 rfl rfl ?_
  refine g_iload V dL_law_554 rfl rfl ?_
  refine g_iconst V (Int32.ofInt 1) dL_law_556 rfl rfl ?_
  refine gi_iadd V dL_law_557 rfl ?_
  obtain ⟨t9, vs, r1, ha, ht, h0, h9, hv, hw⟩ := hw
  refine gi_iaload V ha ht h0 h9 hv dL_law_558 rfl ?_
  refine g_aload_n V dL_law_559 rfl rfl ?_
  refine g_iload V dL_law_560 rfl rfl ?_
  refine g_iconst V (Int32.ofInt 2) dL_law_562 rfl rfl ?_
  refine gi_iadd V dL_law_563 rfl ?_
  obtain ⟨t9, vs, r2, ha, ht, h0, h9, hv, hw⟩ := hw
  refine gi_iaload V ha ht h0 h9 hv dL_law_564 rfl ?_
  refine g_aload_n V dL_law_565 rfl rfl ?_
  refine g_iload V dL_law_566 rfl rfl ?_
  refine g_iconst V (Int32.ofInt 3) dL_law_568 rfl rfl ?_
  refine gi_iadd V dL_law_569 rfl ?_
  obtain ⟨t9, vs, r3, ha, ht, h0, h9, hv, hw⟩ := hw
  refine gi_iaload V ha ht h0 h9 hv dL_law_570 rfl ?_
  refine g_aload_n V dL_law_571 rfl rfl ?_
  obtain ⟨hk, hj, c6, s7, ec, es, hw⟩ := hw
  refine g_callSX (st := []) V (k_L_remove hst hw) ww_3_39 ww_3_40 ww_1_0 ww_3_41 hd_L_remove ⟨by decide, by decide⟩ rfl rfl (ga_cat rfl) dL_law_572 hk hj rfl ga_none (ga_ki (fun r5 hp4 hw => ?_))
  refine ga_re ec es ?_
  refine g_istore (lv2 := [some (.ref v0), some (.ref v1), some (.ref v2), some (.ref v3), some (gi v4), some (gi r5), none]) V dL_law_575 (by decide) rfl rfl rfl ?_
  refine g_aload_n V dL_law_577 rfl rfl ?_
  refine g_aload_n V dL_law_578 rfl rfl ?_
  refine g_iload V dL_law_579 rfl rfl ?_
  refine g_iconst V (Int32.ofInt 1) dL_law_581 rfl rfl ?_
  refine gi_iadd V dL_law_582 rfl ?_
  obtain ⟨t9, vs, r8, ha, ht, h0, h9, hv, hw⟩ := hw
  refine gi_iaload V ha ht h0 h9 hv dL_law_583 rfl ?_
  refine g_aload_n V dL_law_584 rfl rfl ?_
  refine g_iload V dL_law_585 rfl rfl ?_
  refine g_iconst V (Int32.ofInt 2) dL_law_587 rfl rfl ?_
  refine gi_iadd V dL_law_588 rfl ?_
  obtain ⟨t9, vs, r9, ha, ht, h0, h9, hv, hw⟩ := hw
  refine gi_iaload V ha ht h0 h9 hv dL_law_589 rfl ?_
  refine g_aload_n V dL_law_590 rfl rfl ?_
  refine g_iload V dL_law_591 rfl rfl ?_
  refine g_iconst V (Int32.ofInt 3) dL_law_593 rfl rfl ?_
  refine gi_iadd V dL_law_594 rfl ?_
  obtain ⟨t9, vs, r10, ha, ht, h0, h9, hv, hw⟩ := hw
  refine gi_iaload V ha ht h0 h9 hv dL_law_595 rfl ?_
  obtain ⟨hb, hw⟩ := hw
  obtain ⟨fb, hb⟩ := hb
  obtain ⟨hk, hj, c13, s14, ec, es, hw⟩ := hw
  refine g_callV (C := RX7) (T := TX7) (N := 8) (st := []) V (k_X7_remove hst hw) ww_6_38 ww_6_39 ww_6_40 ww_1_5 ww_6_41 hd_X7_remove ⟨by decide, by decide⟩ rfl (by decide) hb rfl rfl (ga_cat rfl) dL_law_596 hk hj rfl ga_none (ga_ki (fun r12 hp11 hw => ?_))
  refine ga_re ec es ?_
  refine g_istore (lv2 := [some (.ref v0), some (.ref v1), some (.ref v2), some (.ref v3), some (gi v4), some (gi r5), some (gi r12)]) V dL_law_599 (by decide) rfl rfl rfl ?_
  refine g_goto V dL_law_601 rfl ?_
  refine g_less (bs := [true, true, true, true, true, false, false]) (lv2 := [some (.ref v0), some (.ref v1), some (.ref v2), some (.ref v3), some (gi v4), none, none]) rfl ?_
  exact hl_L_law_J2201 hst V hend K27 hK27 v0 v1 v2 v3 v4 hp11 c13 s14 hw
theorem hl_L_law_J512 {p : Program} {l : Launch} {e : Env} {s : State} {m : MethodId} {args : Array Value} {below : List Frame} {meth : Method} {c : Code} {G : gaG} {nm : String} {Z : State → Prop} (hst : l.stackTraces = false) (V : gaV p l s m args meth c G code RL 7 gaW ret nm) (hend : ∀ (pc : Nat) (lv : List (Option Value)) (h : gaH) (k j : Nat), decode code pc = .ok (.ireturn, 1) → gaP p l e room_1 s m args below meth c G 7 Z pc lv [gi 1] h k j) : ∀ (K27 : Nat → Nat → Nat → Nat → Int → gaH → Nat → Nat → Prop), ∀ (hK27 : ∀ (v0 : Nat) (v1 : Nat) (v2 : Nat) (v3 : Nat) (v4 : Int) (h : gaH) (kc ks : Nat), K27 v0 v1 v2 v3 v4 h kc ks → gaP p l e room_1 s m args below meth c G 7 Z 27 [some (.ref v0), some (.ref v1), some (.ref v2), some (.ref v3), some (gi v4), none, none] [] h kc ks), ∀ (v0 : Nat) (v1 : Nat) (v2 : Nat) (v3 : Nat) (v4 : Int) (h : gaH) (kc ks : Nat), w_L_law_J512 G K27 v0 v1 v2 v3 v4 h kc ks → gaP p l e room_1 s m args below meth c G 7 Z 512 [some (.ref v0), some (.ref v1), some (.ref v2), some (.ref v3), some (gi v4), none, none] [] h kc ks := by
  intro K27 hK27
  intro v0 v1 v2 v3 v4 h kc ks hw
  unfold w_L_law_J512 at hw
  refine g_aload_n V dL_law_512 rfl rfl ?_
  refine g_aload_n V dL_law_513 rfl rfl ?_
  refine g_iload V dL_law_514 rfl rfl ?_
  refine g_iconst V (Int32.ofInt 1) dL_law_516 rfl rfl ?_
  refine gi_iadd V dL_law_517 rfl ?_
  obtain ⟨t9, vs, r1, ha, ht, h0, h9, hv, hw⟩ := hw
  refine gi_iaload V ha ht h0 h9 hv dL_law_518 rfl ?_
  refine g_aload_n V dL_law_519 rfl rfl ?_
  refine g_iload V dL_law_520 rfl rfl ?_
  refine g_iconst V (Int32.ofInt 2) dL_law_522 rfl rfl ?_
  refine gi_iadd V dL_law_523 rfl ?_
  obtain ⟨t9, vs, r2, ha, ht, h0, h9, hv, hw⟩ := hw
  refine gi_iaload V ha ht h0 h9 hv dL_law_524 rfl ?_
  refine g_aload_n V dL_law_525 rfl rfl ?_
  obtain ⟨hk, hj, c5, s6, ec, es, hw⟩ := hw
  refine g_callSX (st := []) V (k_L_removeSign hst hw) ww_3_25 ww_3_26 ww_1_0 ww_3_27 hd_L_removeSign ⟨by decide, by decide⟩ rfl rfl (ga_cat rfl) dL_law_526 hk hj rfl ga_none (ga_ki (fun r4 hp3 hw => ?_))
  refine ga_re ec es ?_
  refine g_istore (lv2 := [some (.ref v0), some (.ref v1), some (.ref v2), some (.ref v3), some (gi v4), some (gi r4), none]) V dL_law_529 (by decide) rfl rfl rfl ?_
  refine g_aload_n V dL_law_531 rfl rfl ?_
  refine g_aload_n V dL_law_532 rfl rfl ?_
  refine g_iload V dL_law_533 rfl rfl ?_
  refine g_iconst V (Int32.ofInt 1) dL_law_535 rfl rfl ?_
  refine gi_iadd V dL_law_536 rfl ?_
  obtain ⟨t9, vs, r7, ha, ht, h0, h9, hv, hw⟩ := hw
  refine gi_iaload V ha ht h0 h9 hv dL_law_537 rfl ?_
  refine g_aload_n V dL_law_538 rfl rfl ?_
  refine g_iload V dL_law_539 rfl rfl ?_
  refine g_iconst V (Int32.ofInt 2) dL_law_541 rfl rfl ?_
  refine gi_iadd V dL_law_542 rfl ?_
  obtain ⟨t9, vs, r8, ha, ht, h0, h9, hv, hw⟩ := hw
  refine gi_iaload V ha ht h0 h9 hv dL_law_543 rfl ?_
  obtain ⟨hb, hw⟩ := hw
  obtain ⟨fb, hb⟩ := hb
  obtain ⟨hk, hj, c11, s12, ec, es, hw⟩ := hw
  refine g_callV (C := RX7) (T := TX7) (N := 8) (st := []) V (k_X7_removeSign hst hw) ww_6_34 ww_6_35 ww_6_36 ww_1_5 ww_6_37 hd_X7_removeSign ⟨by decide, by decide⟩ rfl (by decide) hb rfl rfl (ga_cat rfl) dL_law_544 hk hj rfl ga_none (ga_ki (fun r10 hp9 hw => ?_))
  refine ga_re ec es ?_
  refine g_istore (lv2 := [some (.ref v0), some (.ref v1), some (.ref v2), some (.ref v3), some (gi v4), some (gi r4), some (gi r10)]) V dL_law_547 (by decide) rfl rfl rfl ?_
  refine g_goto V dL_law_549 rfl ?_
  refine g_less (bs := [true, true, true, true, true, false, false]) (lv2 := [some (.ref v0), some (.ref v1), some (.ref v2), some (.ref v3), some (gi v4), none, none]) rfl ?_
  exact hl_L_law_J2201 hst V hend K27 hK27 v0 v1 v2 v3 v4 hp9 c11 s12 hw
theorem hl_L_law_J504 {p : Program} {l : Launch} {e : Env} {s : State} {m : MethodId} {args : Array Value} {below : List Frame} {meth : Method} {c : Code} {G : gaG} {nm : String} {Z : State → Prop} (hst : l.stackTraces = false) (V : gaV p l s m args meth c G code RL 7 gaW ret nm) (hend : ∀ (pc : Nat) (lv : List (Option Value)) (h : gaH) (k j : Nat), decode code pc = .ok (.ireturn, 1) → gaP p l e room_1 s m args below meth c G 7 Z pc lv [gi 1] h k j) : ∀ (K27 : Nat → Nat → Nat → Nat → Int → gaH → Nat → Nat → Prop), ∀ (hK27 : ∀ (v0 : Nat) (v1 : Nat) (v2 : Nat) (v3 : Nat) (v4 : Int) (h : gaH) (kc ks : Nat), K27 v0 v1 v2 v3 v4 h kc ks → gaP p l e room_1 s m args below meth c G 7 Z 27 [some (.ref v0), some (.ref v1), some (.ref v2), some (.ref v3), some (gi v4), none, none] [] h kc ks), ∀ (v0 : Nat) (v1 : Nat) (v2 : Nat) (v3 : Nat) (v4 : Int) (t0 : Nat) (t1 : Int) (t2 : Int) (t3 : Int) (h : gaH) (kc ks : Nat), w_L_law_J504 G K27 v0 v1 v2 v3 v4 t0 t1 t2 t3 h kc ks → gaP p l e room_1 s m args below meth c G 7 Z 504 [some (.ref v0), some (.ref v1), some (.ref v2), some (.ref v3), some (gi v4), none, none] [gi t3, gi t2, gi t1, .ref t0] h kc ks := by
  intro K27 hK27
  intro v0 v1 v2 v3 v4 t0 t1 t2 t3 h kc ks hw
  unfold w_L_law_J504 at hw
  obtain ⟨hb, hw⟩ := hw
  obtain ⟨fb, hb⟩ := hb
  obtain ⟨hk, hj, c3, s4, ec, es, hw⟩ := hw
  refine g_callV (C := RX7) (T := TX7) (N := 8) (st := []) V (k_X7_setSign hst hw) ww_6_26 ww_6_27 ww_6_28 ww_1_5 ww_6_29 hd_X7_setSign ⟨by decide, by decide⟩ rfl (by decide) hb rfl rfl (ga_cat rfl) dL_law_504 hk hj rfl ga_none (ga_ki (fun r2 hp1 hw => ?_))
  refine ga_re ec es ?_
  refine g_istore (lv2 := [some (.ref v0), some (.ref v1), some (.ref v2), some (.ref v3), some (gi v4), none, some (gi r2)]) V dL_law_507 (by decide) rfl rfl rfl ?_
  refine g_goto V dL_law_509 rfl ?_
  refine g_less (bs := [true, true, true, true, true, true, false]) (lv2 := [some (.ref v0), some (.ref v1), some (.ref v2), some (.ref v3), some (gi v4), none, none]) rfl ?_
  exact hl_L_law_J2201 hst V hend K27 hK27 v0 v1 v2 v3 v4 hp1 c3 s4 hw
theorem hl_L_law_J471 {p : Program} {l : Launch} {e : Env} {s : State} {m : MethodId} {args : Array Value} {below : List Frame} {meth : Method} {c : Code} {G : gaG} {nm : String} {Z : State → Prop} (hst : l.stackTraces = false) (V : gaV p l s m args meth c G code RL 7 gaW ret nm) (hend : ∀ (pc : Nat) (lv : List (Option Value)) (h : gaH) (k j : Nat), decode code pc = .ok (.ireturn, 1) → gaP p l e room_1 s m args below meth c G 7 Z pc lv [gi 1] h k j) : ∀ (K27 : Nat → Nat → Nat → Nat → Int → gaH → Nat → Nat → Prop), ∀ (hK27 : ∀ (v0 : Nat) (v1 : Nat) (v2 : Nat) (v3 : Nat) (v4 : Int) (h : gaH) (kc ks : Nat), K27 v0 v1 v2 v3 v4 h kc ks → gaP p l e room_1 s m args below meth c G 7 Z 27 [some (.ref v0), some (.ref v1), some (.ref v2), some (.ref v3), some (gi v4), none, none] [] h kc ks), ∀ (v0 : Nat) (v1 : Nat) (v2 : Nat) (v3 : Nat) (v4 : Int) (t0 : Nat) (t1 : Int) (t2 : Int) (t3 : Int) (h : gaH) (kc ks : Nat), w_L_law_J471 G K27 v0 v1 v2 v3 v4 t0 t1 t2 t3 h kc ks → gaP p l e room_1 s m args below meth c G 7 Z 471 [some (.ref v0), some (.ref v1), some (.ref v2), some (.ref v3), some (gi v4), none, none] [gi t3, gi t2, gi t1, .ref t0] h kc ks := by
  intro K27 hK27
  intro v0 v1 v2 v3 v4 t0 t1 t2 t3 h kc ks hw
  unfold w_L_law_J471 at hw
  refine g_aload_n V dL_law_471 rfl rfl ?_
  obtain ⟨hk, hj, c3, s4, ec, es, hw⟩ := hw
  refine g_callSX (st := []) V (k_L_setSign hst hw) ww_3_17 ww_3_18 ww_1_0 ww_3_19 hd_L_setSign ⟨by decide, by decide⟩ rfl rfl (ga_cat rfl) dL_law_472 hk hj rfl ga_none (ga_ki (fun r2 hp1 hw => ?_))
  refine ga_re ec es ?_
  refine g_istore (lv2 := [some (.ref v0), some (.ref v1), some (.ref v2), some (.ref v3), some (gi v4), some (gi r2), none]) V dL_law_475 (by decide) rfl rfl rfl ?_
  refine g_aload_n V dL_law_477 rfl rfl ?_
  refine g_aload_n V dL_law_478 rfl rfl ?_
  refine g_iload V dL_law_479 rfl rfl ?_
  refine g_iconst V (Int32.ofInt 1) dL_law_481 rfl rfl ?_
  refine gi_iadd V dL_law_482 rfl ?_
  obtain ⟨t9, vs, r5, ha, ht, h0, h9, hv, hw⟩ := hw
  refine gi_iaload V ha ht h0 h9 hv dL_law_483 rfl ?_
  refine g_aload_n V dL_law_484 rfl rfl ?_
  refine g_iload V dL_law_485 rfl rfl ?_
  refine g_iconst V (Int32.ofInt 2) dL_law_487 rfl rfl ?_
  refine gi_iadd V dL_law_488 rfl ?_
  obtain ⟨t9, vs, r6, ha, ht, h0, h9, hv, hw⟩ := hw
  refine gi_iaload V ha ht h0 h9 hv dL_law_489 rfl ?_
  refine g_aload_n V dL_law_490 rfl rfl ?_
  refine g_iload V dL_law_491 rfl rfl ?_
  refine g_iconst V (Int32.ofInt 3) dL_law_493 rfl rfl ?_
  refine gi_iadd V dL_law_494 rfl ?_
  obtain ⟨t9, vs, r7, ha, ht, h0, h9, hv, hw⟩ := hw
  refine gi_iaload V ha ht h0 h9 hv dL_law_495 rfl ?_
  obtain ⟨hx0, hw⟩ := hw
  refine gi_if_eq V dL_law_496 rfl rfl hx0 (fun q => ?_) (fun q => ?_)
  · have hw := ga_t q hw
    refine g_iconst V (Int32.ofInt 0) dL_law_503 rfl rfl ?_
    refine g_less (bs := [true, true, true, true, true, false, true]) (lv2 := [some (.ref v0), some (.ref v1), some (.ref v2), some (.ref v3), some (gi v4), none, none]) rfl ?_
    exact hl_L_law_J504 hst V hend K27 hK27 v0 v1 v2 v3 v4 v2 r5 r6 0 hp1 c3 s4 hw
  · have hw := ga_f q hw
    refine g_iconst V (Int32.ofInt 1) dL_law_499 rfl rfl ?_
    refine g_goto V dL_law_500 rfl ?_
    refine g_less (bs := [true, true, true, true, true, false, true]) (lv2 := [some (.ref v0), some (.ref v1), some (.ref v2), some (.ref v3), some (gi v4), none, none]) rfl ?_
    exact hl_L_law_J504 hst V hend K27 hK27 v0 v1 v2 v3 v4 v2 r5 r6 1 hp1 c3 s4 hw
theorem hl_L_law_J444 {p : Program} {l : Launch} {e : Env} {s : State} {m : MethodId} {args : Array Value} {below : List Frame} {meth : Method} {c : Code} {G : gaG} {nm : String} {Z : State → Prop} (hst : l.stackTraces = false) (V : gaV p l s m args meth c G code RL 7 gaW ret nm) (hend : ∀ (pc : Nat) (lv : List (Option Value)) (h : gaH) (k j : Nat), decode code pc = .ok (.ireturn, 1) → gaP p l e room_1 s m args below meth c G 7 Z pc lv [gi 1] h k j) : ∀ (K27 : Nat → Nat → Nat → Nat → Int → gaH → Nat → Nat → Prop), ∀ (hK27 : ∀ (v0 : Nat) (v1 : Nat) (v2 : Nat) (v3 : Nat) (v4 : Int) (h : gaH) (kc ks : Nat), K27 v0 v1 v2 v3 v4 h kc ks → gaP p l e room_1 s m args below meth c G 7 Z 27 [some (.ref v0), some (.ref v1), some (.ref v2), some (.ref v3), some (gi v4), none, none] [] h kc ks), ∀ (v0 : Nat) (v1 : Nat) (v2 : Nat) (v3 : Nat) (v4 : Int) (h : gaH) (kc ks : Nat), w_L_law_J444 G K27 v0 v1 v2 v3 v4 h kc ks → gaP p l e room_1 s m args below meth c G 7 Z 444 [some (.ref v0), some (.ref v1), some (.ref v2), some (.ref v3), some (gi v4), none, none] [] h kc ks := by
  intro K27 hK27
  intro v0 v1 v2 v3 v4 h kc ks hw
  unfold w_L_law_J444 at hw
  refine g_aload_n V dL_law_444 rfl rfl ?_
  refine g_aload_n V dL_law_445 rfl rfl ?_
  refine g_iload V dL_law_446 rfl rfl ?_
  refine g_iconst V (Int32.ofInt 1) dL_law_448 rfl rfl ?_
  refine gi_iadd V dL_law_449 rfl ?_
  obtain ⟨t9, vs, r1, ha, ht, h0, h9, hv, hw⟩ := hw
  refine gi_iaload V ha ht h0 h9 hv dL_law_450 rfl ?_
  refine g_aload_n V dL_law_451 rfl rfl ?_
  refine g_iload V dL_law_452 rfl rfl ?_
  refine g_iconst V (Int32.ofInt 2) dL_law_454 rfl rfl ?_
  refine gi_iadd V dL_law_455 rfl ?_
  obtain ⟨t9, vs, r2, ha, ht, h0, h9, hv, hw⟩ := hw
  refine gi_iaload V ha ht h0 h9 hv dL_law_456 rfl ?_
  refine g_aload_n V dL_law_457 rfl rfl ?_
  refine g_iload V dL_law_458 rfl rfl ?_
  refine g_iconst V (Int32.ofInt 3) dL_law_460 rfl rfl ?_
  refine gi_iadd V dL_law_461 rfl ?_
  obtain ⟨t9, vs, r3, ha, ht, h0, h9, hv, hw⟩ := hw
  refine gi_iaload V ha ht h0 h9 hv dL_law_462 rfl ?_
  obtain ⟨hx0, hw⟩ := hw
  refine gi_if_eq V dL_law_463 rfl rfl hx0 (fun q => ?_) (fun q => ?_)
  · have hw := ga_t q hw
    refine g_iconst V (Int32.ofInt 0) dL_law_470 rfl rfl ?_
    exact hl_L_law_J471 hst V hend K27 hK27 v0 v1 v2 v3 v4 v1 r1 r2 0 h kc ks hw
  · have hw := ga_f q hw
    refine g_iconst V (Int32.ofInt 1) dL_law_466 rfl rfl ?_
    refine g_goto V dL_law_467 rfl ?_
    exact hl_L_law_J471 hst V hend K27 hK27 v0 v1 v2 v3 v4 v1 r1 r2 1 h kc ks hw
theorem hl_L_law_J392 {p : Program} {l : Launch} {e : Env} {s : State} {m : MethodId} {args : Array Value} {below : List Frame} {meth : Method} {c : Code} {G : gaG} {nm : String} {Z : State → Prop} (hst : l.stackTraces = false) (V : gaV p l s m args meth c G code RL 7 gaW ret nm) (hend : ∀ (pc : Nat) (lv : List (Option Value)) (h : gaH) (k j : Nat), decode code pc = .ok (.ireturn, 1) → gaP p l e room_1 s m args below meth c G 7 Z pc lv [gi 1] h k j) : ∀ (K27 : Nat → Nat → Nat → Nat → Int → gaH → Nat → Nat → Prop), ∀ (hK27 : ∀ (v0 : Nat) (v1 : Nat) (v2 : Nat) (v3 : Nat) (v4 : Int) (h : gaH) (kc ks : Nat), K27 v0 v1 v2 v3 v4 h kc ks → gaP p l e room_1 s m args below meth c G 7 Z 27 [some (.ref v0), some (.ref v1), some (.ref v2), some (.ref v3), some (gi v4), none, none] [] h kc ks), ∀ (v0 : Nat) (v1 : Nat) (v2 : Nat) (v3 : Nat) (v4 : Int) (h : gaH) (kc ks : Nat), w_L_law_J392 G K27 v0 v1 v2 v3 v4 h kc ks → gaP p l e room_1 s m args below meth c G 7 Z 392 [some (.ref v0), some (.ref v1), some (.ref v2), some (.ref v3), some (gi v4), none, none] [] h kc ks := by
  intro K27 hK27
  intro v0 v1 v2 v3 v4 h kc ks hw
  unfold w_L_law_J392 at hw
  refine g_aload_n V dL_law_392 rfl rfl ?_
  refine g_aload_n V dL_law_393 rfl rfl ?_
  refine g_iload V dL_law_394 rfl rfl ?_
  refine g_iconst V (Int32.ofInt 1) dL_law_396 rfl rfl ?_
  refine gi_iadd V dL_law_397 rfl ?_
  obtain ⟨t9, vs, r1, ha, ht, h0, h9, hv, hw⟩ := hw
  refine gi_iaload V ha ht h0 h9 hv dL_law_398 rfl ?_
  refine g_aload_n V dL_law_399 rfl rfl ?_
  refine g_iload V dL_law_400 rfl rfl ?_
  refine g_iconst V (Int32.ofInt 2) dL_law_402 rfl rfl ?_
  refine gi_iadd V dL_law_403 rfl ?_
  obtain ⟨t9, vs, r2, ha, ht, h0, h9, hv, hw⟩ := hw
  refine gi_iaload V ha ht h0 h9 hv dL_law_404 rfl ?_
  refine g_aload_n V dL_law_405 rfl rfl ?_
  refine g_iload V dL_law_406 rfl rfl ?_
  refine g_iconst V (Int32.ofInt 3) dL_law_408 rfl rfl ?_
  refine gi_iadd V dL_law_409 rfl ?_
  obtain ⟨t9, vs, r3, ha, ht, h0, h9, hv, hw⟩ := hw
  refine gi_iaload V ha ht h0 h9 hv dL_law_410 rfl ?_
  refine g_aload_n V dL_law_411 rfl rfl ?_
  obtain ⟨hk, hj, c6, s7, ec, es, hw⟩ := hw
  refine g_callSX (st := []) V (k_L_insertSheet hst hw) ww_3_10 ww_3_11 ww_1_0 ww_3_12 hd_L_insertSheet ⟨by decide, by decide⟩ rfl rfl (ga_cat rfl) dL_law_412 hk hj rfl ga_none (ga_ki (fun r5 hp4 hw => ?_))
  refine ga_re ec es ?_
  refine g_istore (lv2 := [some (.ref v0), some (.ref v1), some (.ref v2), some (.ref v3), some (gi v4), some (gi r5), none]) V dL_law_415 (by decide) rfl rfl rfl ?_
  refine g_aload_n V dL_law_417 rfl rfl ?_
  refine g_aload_n V dL_law_418 rfl rfl ?_
  refine g_iload V dL_law_419 rfl rfl ?_
  refine g_iconst V (Int32.ofInt 1) dL_law_421 rfl rfl ?_
  refine gi_iadd V dL_law_422 rfl ?_
  obtain ⟨t9, vs, r8, ha, ht, h0, h9, hv, hw⟩ := hw
  refine gi_iaload V ha ht h0 h9 hv dL_law_423 rfl ?_
  refine g_aload_n V dL_law_424 rfl rfl ?_
  refine g_iload V dL_law_425 rfl rfl ?_
  refine g_iconst V (Int32.ofInt 2) dL_law_427 rfl rfl ?_
  refine gi_iadd V dL_law_428 rfl ?_
  obtain ⟨t9, vs, r9, ha, ht, h0, h9, hv, hw⟩ := hw
  refine gi_iaload V ha ht h0 h9 hv dL_law_429 rfl ?_
  refine g_aload_n V dL_law_430 rfl rfl ?_
  refine g_iload V dL_law_431 rfl rfl ?_
  refine g_iconst V (Int32.ofInt 3) dL_law_433 rfl rfl ?_
  refine gi_iadd V dL_law_434 rfl ?_
  obtain ⟨t9, vs, r10, ha, ht, h0, h9, hv, hw⟩ := hw
  refine gi_iaload V ha ht h0 h9 hv dL_law_435 rfl ?_
  obtain ⟨hb, hw⟩ := hw
  obtain ⟨fb, hb⟩ := hb
  obtain ⟨hk, hj, c13, s14, ec, es, hw⟩ := hw
  refine g_callV (C := RX7) (T := TX7) (N := 8) (st := []) V (k_X7_insertSheet hst hw) ww_6_22 ww_6_23 ww_6_24 ww_1_5 ww_6_25 hd_X7_insertSheet ⟨by decide, by decide⟩ rfl (by decide) hb rfl rfl (ga_cat rfl) dL_law_436 hk hj rfl ga_none (ga_ki (fun r12 hp11 hw => ?_))
  refine ga_re ec es ?_
  refine g_istore (lv2 := [some (.ref v0), some (.ref v1), some (.ref v2), some (.ref v3), some (gi v4), some (gi r5), some (gi r12)]) V dL_law_439 (by decide) rfl rfl rfl ?_
  refine g_goto V dL_law_441 rfl ?_
  refine g_less (bs := [true, true, true, true, true, false, false]) (lv2 := [some (.ref v0), some (.ref v1), some (.ref v2), some (.ref v3), some (gi v4), none, none]) rfl ?_
  exact hl_L_law_J2201 hst V hend K27 hK27 v0 v1 v2 v3 v4 hp11 c13 s14 hw
theorem hl_L_law_J384 {p : Program} {l : Launch} {e : Env} {s : State} {m : MethodId} {args : Array Value} {below : List Frame} {meth : Method} {c : Code} {G : gaG} {nm : String} {Z : State → Prop} (hst : l.stackTraces = false) (V : gaV p l s m args meth c G code RL 7 gaW ret nm) (hend : ∀ (pc : Nat) (lv : List (Option Value)) (h : gaH) (k j : Nat), decode code pc = .ok (.ireturn, 1) → gaP p l e room_1 s m args below meth c G 7 Z pc lv [gi 1] h k j) : ∀ (K27 : Nat → Nat → Nat → Nat → Int → gaH → Nat → Nat → Prop), ∀ (hK27 : ∀ (v0 : Nat) (v1 : Nat) (v2 : Nat) (v3 : Nat) (v4 : Int) (h : gaH) (kc ks : Nat), K27 v0 v1 v2 v3 v4 h kc ks → gaP p l e room_1 s m args below meth c G 7 Z 27 [some (.ref v0), some (.ref v1), some (.ref v2), some (.ref v3), some (gi v4), none, none] [] h kc ks), ∀ (v0 : Nat) (v1 : Nat) (v2 : Nat) (v3 : Nat) (v4 : Int) (t0 : Nat) (t1 : Int) (t2 : Int) (t3 : Int) (h : gaH) (kc ks : Nat), w_L_law_J384 G K27 v0 v1 v2 v3 v4 t0 t1 t2 t3 h kc ks → gaP p l e room_1 s m args below meth c G 7 Z 384 [some (.ref v0), some (.ref v1), some (.ref v2), some (.ref v3), some (gi v4), none, none] [gi t3, gi t2, gi t1, .ref t0] h kc ks := by
  intro K27 hK27
  intro v0 v1 v2 v3 v4 t0 t1 t2 t3 h kc ks hw
  unfold w_L_law_J384 at hw
  obtain ⟨hb, hw⟩ := hw
  obtain ⟨fb, hb⟩ := hb
  obtain ⟨hk, hj, c3, s4, ec, es, hw⟩ := hw
  refine g_callV (C := RX7) (T := TX7) (N := 8) (st := []) V (k_X7_insertSign hst hw) ww_6_11 ww_6_12 ww_6_13 ww_1_5 ww_6_14 hd_X7_insertSign ⟨by decide, by decide⟩ rfl (by decide) hb rfl rfl (ga_cat rfl) dL_law_384 hk hj rfl ga_none (ga_ki (fun r2 hp1 hw => ?_))
  refine ga_re ec es ?_
  refine g_istore (lv2 := [some (.ref v0), some (.ref v1), some (.ref v2), some (.ref v3), some (gi v4), none, some (gi r2)]) V dL_law_387 (by decide) rfl rfl rfl ?_
  refine g_goto V dL_law_389 rfl ?_
  refine g_less (bs := [true, true, true, true, true, true, false]) (lv2 := [some (.ref v0), some (.ref v1), some (.ref v2), some (.ref v3), some (gi v4), none, none]) rfl ?_
  exact hl_L_law_J2201 hst V hend K27 hK27 v0 v1 v2 v3 v4 hp1 c3 s4 hw
theorem hl_L_law_J351 {p : Program} {l : Launch} {e : Env} {s : State} {m : MethodId} {args : Array Value} {below : List Frame} {meth : Method} {c : Code} {G : gaG} {nm : String} {Z : State → Prop} (hst : l.stackTraces = false) (V : gaV p l s m args meth c G code RL 7 gaW ret nm) (hend : ∀ (pc : Nat) (lv : List (Option Value)) (h : gaH) (k j : Nat), decode code pc = .ok (.ireturn, 1) → gaP p l e room_1 s m args below meth c G 7 Z pc lv [gi 1] h k j) : ∀ (K27 : Nat → Nat → Nat → Nat → Int → gaH → Nat → Nat → Prop), ∀ (hK27 : ∀ (v0 : Nat) (v1 : Nat) (v2 : Nat) (v3 : Nat) (v4 : Int) (h : gaH) (kc ks : Nat), K27 v0 v1 v2 v3 v4 h kc ks → gaP p l e room_1 s m args below meth c G 7 Z 27 [some (.ref v0), some (.ref v1), some (.ref v2), some (.ref v3), some (gi v4), none, none] [] h kc ks), ∀ (v0 : Nat) (v1 : Nat) (v2 : Nat) (v3 : Nat) (v4 : Int) (t0 : Nat) (t1 : Int) (t2 : Int) (t3 : Int) (h : gaH) (kc ks : Nat), w_L_law_J351 G K27 v0 v1 v2 v3 v4 t0 t1 t2 t3 h kc ks → gaP p l e room_1 s m args below meth c G 7 Z 351 [some (.ref v0), some (.ref v1), some (.ref v2), some (.ref v3), some (gi v4), none, none] [gi t3, gi t2, gi t1, .ref t0] h kc ks := by
  intro K27 hK27
  intro v0 v1 v2 v3 v4 t0 t1 t2 t3 h kc ks hw
  unfold w_L_law_J351 at hw
  refine g_aload_n V dL_law_351 rfl rfl ?_
  obtain ⟨hk, hj, c3, s4, ec, es, hw⟩ := hw
  refine g_callSX (st := []) V (k_L_insertSign hst hw) ww_2_238 ww_2_239 ww_1_0 ww_3_0 hd_L_insertSign ⟨by decide, by decide⟩ rfl rfl (ga_cat rfl) dL_law_352 hk hj rfl ga_none (ga_ki (fun r2 hp1 hw => ?_))
  refine ga_re ec es ?_
  refine g_istore (lv2 := [some (.ref v0), some (.ref v1), some (.ref v2), some (.ref v3), some (gi v4), some (gi r2), none]) V dL_law_355 (by decide) rfl rfl rfl ?_
  refine g_aload_n V dL_law_357 rfl rfl ?_
  refine g_aload_n V dL_law_358 rfl rfl ?_
  refine g_iload V dL_law_359 rfl rfl ?_
  refine g_iconst V (Int32.ofInt 1) dL_law_361 rfl rfl ?_
  refine gi_iadd V dL_law_362 rfl ?_
  obtain ⟨t9, vs, r5, ha, ht, h0, h9, hv, hw⟩ := hw
  refine gi_iaload V ha ht h0 h9 hv dL_law_363 rfl ?_
  refine g_aload_n V dL_law_364 rfl rfl ?_
  refine g_iload V dL_law_365 rfl rfl ?_
  refine g_iconst V (Int32.ofInt 2) dL_law_367 rfl rfl ?_
  refine gi_iadd V dL_law_368 rfl ?_
  obtain ⟨t9, vs, r6, ha, ht, h0, h9, hv, hw⟩ := hw
  refine gi_iaload V ha ht h0 h9 hv dL_law_369 rfl ?_
  refine g_aload_n V dL_law_370 rfl rfl ?_
  refine g_iload V dL_law_371 rfl rfl ?_
  refine g_iconst V (Int32.ofInt 3) dL_law_373 rfl rfl ?_
  refine gi_iadd V dL_law_374 rfl ?_
  obtain ⟨t9, vs, r7, ha, ht, h0, h9, hv, hw⟩ := hw
  refine gi_iaload V ha ht h0 h9 hv dL_law_375 rfl ?_
  obtain ⟨hx0, hw⟩ := hw
  refine gi_if_eq V dL_law_376 rfl rfl hx0 (fun q => ?_) (fun q => ?_)
  · have hw := ga_t q hw
    refine g_iconst V (Int32.ofInt 0) dL_law_383 rfl rfl ?_
    refine g_less (bs := [true, true, true, true, true, false, true]) (lv2 := [some (.ref v0), some (.ref v1), some (.ref v2), some (.ref v3), some (gi v4), none, none]) rfl ?_
    exact hl_L_law_J384 hst V hend K27 hK27 v0 v1 v2 v3 v4 v2 r5 r6 0 hp1 c3 s4 hw
  · have hw := ga_f q hw
    refine g_iconst V (Int32.ofInt 1) dL_law_379 rfl rfl ?_
    refine g_goto V dL_law_380 rfl ?_
    refine g_less (bs := [true, true, true, true, true, false, true]) (lv2 := [some (.ref v0), some (.ref v1), some (.ref v2), some (.ref v3), some (gi v4), none, none]) rfl ?_
    exact hl_L_law_J384 hst V hend K27 hK27 v0 v1 v2 v3 v4 v2 r5 r6 1 hp1 c3 s4 hw
theorem hl_L_law_J324 {p : Program} {l : Launch} {e : Env} {s : State} {m : MethodId} {args : Array Value} {below : List Frame} {meth : Method} {c : Code} {G : gaG} {nm : String} {Z : State → Prop} (hst : l.stackTraces = false) (V : gaV p l s m args meth c G code RL 7 gaW ret nm) (hend : ∀ (pc : Nat) (lv : List (Option Value)) (h : gaH) (k j : Nat), decode code pc = .ok (.ireturn, 1) → gaP p l e room_1 s m args below meth c G 7 Z pc lv [gi 1] h k j) : ∀ (K27 : Nat → Nat → Nat → Nat → Int → gaH → Nat → Nat → Prop), ∀ (hK27 : ∀ (v0 : Nat) (v1 : Nat) (v2 : Nat) (v3 : Nat) (v4 : Int) (h : gaH) (kc ks : Nat), K27 v0 v1 v2 v3 v4 h kc ks → gaP p l e room_1 s m args below meth c G 7 Z 27 [some (.ref v0), some (.ref v1), some (.ref v2), some (.ref v3), some (gi v4), none, none] [] h kc ks), ∀ (v0 : Nat) (v1 : Nat) (v2 : Nat) (v3 : Nat) (v4 : Int) (h : gaH) (kc ks : Nat), w_L_law_J324 G K27 v0 v1 v2 v3 v4 h kc ks → gaP p l e room_1 s m args below meth c G 7 Z 324 [some (.ref v0), some (.ref v1), some (.ref v2), some (.ref v3), some (gi v4), none, none] [] h kc ks := by
  intro K27 hK27
  intro v0 v1 v2 v3 v4 h kc ks hw
  unfold w_L_law_J324 at hw
  refine g_aload_n V dL_law_324 rfl rfl ?_
  refine g_aload_n V dL_law_325 rfl rfl ?_
  refine g_iload V dL_law_326 rfl rfl ?_
  refine g_iconst V (Int32.ofInt 1) dL_law_328 rfl rfl ?_
  refine gi_iadd V dL_law_329 rfl ?_
  obtain ⟨t9, vs, r1, ha, ht, h0, h9, hv, hw⟩ := hw
  refine gi_iaload V ha ht h0 h9 hv dL_law_330 rfl ?_
  refine g_aload_n V dL_law_331 rfl rfl ?_
  refine g_iload V dL_law_332 rfl rfl ?_
  refine g_iconst V (Int32.ofInt 2) dL_law_334 rfl rfl ?_
  refine gi_iadd V dL_law_335 rfl ?_
  obtain ⟨t9, vs, r2, ha, ht, h0, h9, hv, hw⟩ := hw
  refine gi_iaload V ha ht h0 h9 hv dL_law_336 rfl ?_
  refine g_aload_n V dL_law_337 rfl rfl ?_
  refine g_iload V dL_law_338 rfl rfl ?_
  refine g_iconst V (Int32.ofInt 3) dL_law_340 rfl rfl ?_
  refine gi_iadd V dL_law_341 rfl ?_
  obtain ⟨t9, vs, r3, ha, ht, h0, h9, hv, hw⟩ := hw
  refine gi_iaload V ha ht h0 h9 hv dL_law_342 rfl ?_
  obtain ⟨hx0, hw⟩ := hw
  refine gi_if_eq V dL_law_343 rfl rfl hx0 (fun q => ?_) (fun q => ?_)
  · have hw := ga_t q hw
    refine g_iconst V (Int32.ofInt 0) dL_law_350 rfl rfl ?_
    exact hl_L_law_J351 hst V hend K27 hK27 v0 v1 v2 v3 v4 v1 r1 r2 0 h kc ks hw
  · have hw := ga_f q hw
    refine g_iconst V (Int32.ofInt 1) dL_law_346 rfl rfl ?_
    refine g_goto V dL_law_347 rfl ?_
    exact hl_L_law_J351 hst V hend K27 hK27 v0 v1 v2 v3 v4 v1 r1 r2 1 h kc ks hw
theorem hl_L_law_J284 {p : Program} {l : Launch} {e : Env} {s : State} {m : MethodId} {args : Array Value} {below : List Frame} {meth : Method} {c : Code} {G : gaG} {nm : String} {Z : State → Prop} (hst : l.stackTraces = false) (V : gaV p l s m args meth c G code RL 7 gaW ret nm) (hend : ∀ (pc : Nat) (lv : List (Option Value)) (h : gaH) (k j : Nat), decode code pc = .ok (.ireturn, 1) → gaP p l e room_1 s m args below meth c G 7 Z pc lv [gi 1] h k j) : ∀ (K27 : Nat → Nat → Nat → Nat → Int → gaH → Nat → Nat → Prop), ∀ (hK27 : ∀ (v0 : Nat) (v1 : Nat) (v2 : Nat) (v3 : Nat) (v4 : Int) (h : gaH) (kc ks : Nat), K27 v0 v1 v2 v3 v4 h kc ks → gaP p l e room_1 s m args below meth c G 7 Z 27 [some (.ref v0), some (.ref v1), some (.ref v2), some (.ref v3), some (gi v4), none, none] [] h kc ks), ∀ (v0 : Nat) (v1 : Nat) (v2 : Nat) (v3 : Nat) (v4 : Int) (h : gaH) (kc ks : Nat), w_L_law_J284 G K27 v0 v1 v2 v3 v4 h kc ks → gaP p l e room_1 s m args below meth c G 7 Z 284 [some (.ref v0), some (.ref v1), some (.ref v2), some (.ref v3), some (gi v4), none, none] [] h kc ks := by
  intro K27 hK27
  intro v0 v1 v2 v3 v4 h kc ks hw
  unfold w_L_law_J284 at hw
  refine g_aload_n V dL_law_284 rfl rfl ?_
  refine g_aload_n V dL_law_285 rfl rfl ?_
  refine g_iload V dL_law_286 rfl rfl ?_
  refine g_iconst V (Int32.ofInt 1) dL_law_288 rfl rfl ?_
  refine gi_iadd V dL_law_289 rfl ?_
  obtain ⟨t9, vs, r1, ha, ht, h0, h9, hv, hw⟩ := hw
  refine gi_iaload V ha ht h0 h9 hv dL_law_290 rfl ?_
  refine g_aload_n V dL_law_291 rfl rfl ?_
  refine g_iload V dL_law_292 rfl rfl ?_
  refine g_iconst V (Int32.ofInt 2) dL_law_294 rfl rfl ?_
  refine gi_iadd V dL_law_295 rfl ?_
  obtain ⟨t9, vs, r2, ha, ht, h0, h9, hv, hw⟩ := hw
  refine gi_iaload V ha ht h0 h9 hv dL_law_296 rfl ?_
  refine g_aload_n V dL_law_297 rfl rfl ?_
  obtain ⟨hk, hj, c5, s6, ec, es, hw⟩ := hw
  refine g_callSX (st := []) V (k_L_append hst hw) ww_2_220 ww_2_221 ww_1_0 ww_2_222 hd_L_append ⟨by decide, by decide⟩ rfl rfl (ga_cat rfl) dL_law_298 hk hj rfl ga_none (ga_ki (fun r4 hp3 hw => ?_))
  refine ga_re ec es ?_
  refine g_istore (lv2 := [some (.ref v0), some (.ref v1), some (.ref v2), some (.ref v3), some (gi v4), some (gi r4), none]) V dL_law_301 (by decide) rfl rfl rfl ?_
  refine g_aload_n V dL_law_303 rfl rfl ?_
  refine g_aload_n V dL_law_304 rfl rfl ?_
  refine g_iload V dL_law_305 rfl rfl ?_
  refine g_iconst V (Int32.ofInt 1) dL_law_307 rfl rfl ?_
  refine gi_iadd V dL_law_308 rfl ?_
  obtain ⟨t9, vs, r7, ha, ht, h0, h9, hv, hw⟩ := hw
  refine gi_iaload V ha ht h0 h9 hv dL_law_309 rfl ?_
  refine g_aload_n V dL_law_310 rfl rfl ?_
  refine g_iload V dL_law_311 rfl rfl ?_
  refine g_iconst V (Int32.ofInt 2) dL_law_313 rfl rfl ?_
  refine gi_iadd V dL_law_314 rfl ?_
  obtain ⟨t9, vs, r8, ha, ht, h0, h9, hv, hw⟩ := hw
  refine gi_iaload V ha ht h0 h9 hv dL_law_315 rfl ?_
  obtain ⟨hb, hw⟩ := hw
  obtain ⟨fb, hb⟩ := hb
  obtain ⟨hk, hj, c11, s12, ec, es, hw⟩ := hw
  refine g_callV (C := RX7) (T := TX7) (N := 8) (st := []) V (k_X7_append hst hw) ww_5_236 ww_5_237 ww_5_238 ww_1_5 ww_5_239 hd_X7_append ⟨by decide, by decide⟩ rfl (by decide) hb rfl rfl (ga_cat rfl) dL_law_316 hk hj rfl ga_none (ga_ki (fun r10 hp9 hw => ?_))
  refine ga_re ec es ?_
  refine g_istore (lv2 := [some (.ref v0), some (.ref v1), some (.ref v2), some (.ref v3), some (gi v4), some (gi r4), some (gi r10)]) V dL_law_319 (by decide) rfl rfl rfl ?_
  refine g_goto V dL_law_321 rfl ?_
  refine g_less (bs := [true, true, true, true, true, false, false]) (lv2 := [some (.ref v0), some (.ref v1), some (.ref v2), some (.ref v3), some (gi v4), none, none]) rfl ?_
  exact hl_L_law_J2201 hst V hend K27 hK27 v0 v1 v2 v3 v4 hp9 c11 s12 hw
theorem hl_L_law_J244 {p : Program} {l : Launch} {e : Env} {s : State} {m : MethodId} {args : Array Value} {below : List Frame} {meth : Method} {c : Code} {G : gaG} {nm : String} {Z : State → Prop} (hst : l.stackTraces = false) (V : gaV p l s m args meth c G code RL 7 gaW ret nm) (hend : ∀ (pc : Nat) (lv : List (Option Value)) (h : gaH) (k j : Nat), decode code pc = .ok (.ireturn, 1) → gaP p l e room_1 s m args below meth c G 7 Z pc lv [gi 1] h k j) : ∀ (K27 : Nat → Nat → Nat → Nat → Int → gaH → Nat → Nat → Prop), ∀ (hK27 : ∀ (v0 : Nat) (v1 : Nat) (v2 : Nat) (v3 : Nat) (v4 : Int) (h : gaH) (kc ks : Nat), K27 v0 v1 v2 v3 v4 h kc ks → gaP p l e room_1 s m args below meth c G 7 Z 27 [some (.ref v0), some (.ref v1), some (.ref v2), some (.ref v3), some (gi v4), none, none] [] h kc ks), ∀ (v0 : Nat) (v1 : Nat) (v2 : Nat) (v3 : Nat) (v4 : Int) (h : gaH) (kc ks : Nat), w_L_law_J244 G K27 v0 v1 v2 v3 v4 h kc ks → gaP p l e room_1 s m args below meth c G 7 Z 244 [some (.ref v0), some (.ref v1), some (.ref v2), some (.ref v3), some (gi v4), none, none] [] h kc ks := by
  intro K27 hK27
  intro v0 v1 v2 v3 v4 h kc ks hw
  unfold w_L_law_J244 at hw
  refine g_aload_n V dL_law_244 rfl rfl ?_
  refine g_aload_n V dL_law_245 rfl rfl ?_
  refine g_iload V dL_law_246 rfl rfl ?_
  refine g_iconst V (Int32.ofInt 1) dL_law_248 rfl rfl ?_
  refine gi_iadd V dL_law_249 rfl ?_
  obtain ⟨t9, vs, r1, ha, ht, h0, h9, hv, hw⟩ := hw
  refine gi_iaload V ha ht h0 h9 hv dL_law_250 rfl ?_
  refine g_aload_n V dL_law_251 rfl rfl ?_
  refine g_iload V dL_law_252 rfl rfl ?_
  refine g_iconst V (Int32.ofInt 2) dL_law_254 rfl rfl ?_
  refine gi_iadd V dL_law_255 rfl ?_
  obtain ⟨t9, vs, r2, ha, ht, h0, h9, hv, hw⟩ := hw
  refine gi_iaload V ha ht h0 h9 hv dL_law_256 rfl ?_
  refine g_aload_n V dL_law_257 rfl rfl ?_
  obtain ⟨hk, hj, c5, s6, ec, es, hw⟩ := hw
  refine g_callSX (st := []) V (k_L_write hst hw) ww_2_205 ww_2_206 ww_1_0 ww_2_207 hd_L_write ⟨by decide, by decide⟩ rfl rfl (ga_cat rfl) dL_law_258 hk hj rfl ga_none (ga_ki (fun r4 hp3 hw => ?_))
  refine ga_re ec es ?_
  refine g_istore (lv2 := [some (.ref v0), some (.ref v1), some (.ref v2), some (.ref v3), some (gi v4), some (gi r4), none]) V dL_law_261 (by decide) rfl rfl rfl ?_
  refine g_aload_n V dL_law_263 rfl rfl ?_
  refine g_aload_n V dL_law_264 rfl rfl ?_
  refine g_iload V dL_law_265 rfl rfl ?_
  refine g_iconst V (Int32.ofInt 1) dL_law_267 rfl rfl ?_
  refine gi_iadd V dL_law_268 rfl ?_
  obtain ⟨t9, vs, r7, ha, ht, h0, h9, hv, hw⟩ := hw
  refine gi_iaload V ha ht h0 h9 hv dL_law_269 rfl ?_
  refine g_aload_n V dL_law_270 rfl rfl ?_
  refine g_iload V dL_law_271 rfl rfl ?_
  refine g_iconst V (Int32.ofInt 2) dL_law_273 rfl rfl ?_
  refine gi_iadd V dL_law_274 rfl ?_
  obtain ⟨t9, vs, r8, ha, ht, h0, h9, hv, hw⟩ := hw
  refine gi_iaload V ha ht h0 h9 hv dL_law_275 rfl ?_
  obtain ⟨hb, hw⟩ := hw
  obtain ⟨fb, hb⟩ := hb
  obtain ⟨hk, hj, c11, s12, ec, es, hw⟩ := hw
  refine g_callV (C := RX7) (T := TX7) (N := 8) (st := []) V (k_X7_write hst hw) ww_5_210 ww_5_211 ww_5_212 ww_1_5 ww_5_213 hd_X7_write ⟨by decide, by decide⟩ rfl (by decide) hb rfl rfl (ga_cat rfl) dL_law_276 hk hj rfl ga_none (ga_ki (fun r10 hp9 hw => ?_))
  refine ga_re ec es ?_
  refine g_istore (lv2 := [some (.ref v0), some (.ref v1), some (.ref v2), some (.ref v3), some (gi v4), some (gi r4), some (gi r10)]) V dL_law_279 (by decide) rfl rfl rfl ?_
  refine g_goto V dL_law_281 rfl ?_
  refine g_less (bs := [true, true, true, true, true, false, false]) (lv2 := [some (.ref v0), some (.ref v1), some (.ref v2), some (.ref v3), some (gi v4), none, none]) rfl ?_
  exact hl_L_law_J2201 hst V hend K27 hK27 v0 v1 v2 v3 v4 hp9 c11 s12 hw
theorem hl_L_law_L27 {p : Program} {l : Launch} {e : Env} {s : State} {m : MethodId} {args : Array Value} {below : List Frame} {meth : Method} {c : Code} {G : gaG} {nm : String} {Z : State → Prop} (hst : l.stackTraces = false) (V : gaV p l s m args meth c G code RL 7 gaW ret nm) (hend : ∀ (pc : Nat) (lv : List (Option Value)) (h : gaH) (k j : Nat), decode code pc = .ok (.ireturn, 1) → gaP p l e room_1 s m args below meth c G 7 Z pc lv [gi 1] h k j) : ∀ (n : Nat), ∀ (v0 : Nat) (v1 : Nat) (v2 : Nat) (v3 : Nat) (v4 : Int) (h : gaH) (kc ks : Nat), w_L_law_L27 G n v0 v1 v2 v3 v4 h kc ks → gaP p l e room_1 s m args below meth c G 7 Z 27 [some (.ref v0), some (.ref v1), some (.ref v2), some (.ref v3), some (gi v4), none, none] [] h kc ks := by
  intro n
  induction n with
  | zero =>
    intro v0 v1 v2 v3 v4 h kc ks hw
    exact hw.elim
  | succ n ih =>
    intro v0 v1 v2 v3 v4 h kc ks hw
    unfold w_L_law_L27 at hw
    refine g_iload V dL_law_27 rfl rfl ?_
    refine g_aload_n V dL_law_29 rfl rfl ?_
    obtain ⟨t9, vs, ha, ht, hw⟩ := hw
    refine gi_arraylength (t0 := 102) V (by simp [gaT]) ha ht dL_law_30 rfl ?_
    generalize (vs.length : Int) = r1 at hw ⊢
    refine g_iconst V (Int32.ofInt 5) dL_law_31 rfl rfl ?_
    refine gi_isub V dL_law_32 rfl ?_
    obtain ⟨hx0, hx1, hw⟩ := hw
    refine gi_icmp_gt V dL_law_33 rfl rfl hx0 hx1 (fun q => ?_) (fun q => ?_)
    · have hw := ga_t q hw
      refine g_iconst V (Int32.ofInt 1) dL_law_2207 rfl rfl ?_
      exact hend _ _ _ _ _ dL_law_2208
    · have hw := ga_f q hw
      refine g_aload_n V dL_law_36 rfl rfl ?_
      refine g_iload V dL_law_37 rfl rfl ?_
      obtain ⟨t9, vs, r2, ha, ht, h0, h9, hv, hw⟩ := hw
      refine gi_iaload V ha ht h0 h9 hv dL_law_39 rfl ?_
      refine g_bipush V (Int32.ofInt 63) dL_law_40 rfl rfl ?_
      refine gi_iand V dL_law_42 rfl ?_
      obtain ⟨hx, hs0, hs1, hs2, hs3, hs4, hs5, hs6, hs7, hs8, hs9, hs10, hs11, hs12, hs13, hs14, hs15, hs16, hs17, hs18, hs19, hs20, hs21, hs22, hs23, hs24, hs25, hs26, hs27, hs28, hs29, hs30, hs31, hs32, hs33, hs34, hs35, hs36, hs37, hs38, hs39, hs40, hs41, hs42, hs43, hs44, hs45, hs46, hsd⟩ := hw
      by_cases q0 : (gAnd r2 63) = 0
      · have hw := hs0 q0
        refine gi_tableIn V dL_law_43 hx q0 (by decide) (by decide) rfl rfl ?_
        exact hl_L_law_J244 hst V hend (w_L_law_L27 G n) ih v0 v1 v2 v3 v4 h kc ks hw
      by_cases q1 : (gAnd r2 63) = 1
      · have hw := hs1 q1
        refine gi_tableIn V dL_law_43 hx q1 (by decide) (by decide) rfl rfl ?_
        exact hl_L_law_J284 hst V hend (w_L_law_L27 G n) ih v0 v1 v2 v3 v4 h kc ks hw
      by_cases q2 : (gAnd r2 63) = 2
      · have hw := hs2 q2
        refine gi_tableIn V dL_law_43 hx q2 (by decide) (by decide) rfl rfl ?_
        exact hl_L_law_J324 hst V hend (w_L_law_L27 G n) ih v0 v1 v2 v3 v4 h kc ks hw
      by_cases q3 : (gAnd r2 63) = 3
      · have hw := hs3 q3
        refine gi_tableIn V dL_law_43 hx q3 (by decide) (by decide) rfl rfl ?_
        exact hl_L_law_J392 hst V hend (w_L_law_L27 G n) ih v0 v1 v2 v3 v4 h kc ks hw
      by_cases q4 : (gAnd r2 63) = 4
      · have hw := hs4 q4
        refine gi_tableIn V dL_law_43 hx q4 (by decide) (by decide) rfl rfl ?_
        exact hl_L_law_J444 hst V hend (w_L_law_L27 G n) ih v0 v1 v2 v3 v4 h kc ks hw
      by_cases q5 : (gAnd r2 63) = 5
      · have hw := hs5 q5
        refine gi_tableIn V dL_law_43 hx q5 (by decide) (by decide) rfl rfl ?_
        exact hl_L_law_J512 hst V hend (w_L_law_L27 G n) ih v0 v1 v2 v3 v4 h kc ks hw
      by_cases q6 : (gAnd r2 63) = 6
      · have hw := hs6 q6
        refine gi_tableIn V dL_law_43 hx q6 (by decide) (by decide) rfl rfl ?_
        exact hl_L_law_J552 hst V hend (w_L_law_L27 G n) ih v0 v1 v2 v3 v4 h kc ks hw
      by_cases q7 : (gAnd r2 63) = 7
      · have hw := hs7 q7
        refine gi_tableIn V dL_law_43 hx q7 (by decide) (by decide) rfl rfl ?_
        exact hl_L_law_J604 hst V hend (w_L_law_L27 G n) ih v0 v1 v2 v3 v4 h kc ks hw
      by_cases q8 : (gAnd r2 63) = 8
      · have hw := hs8 q8
        refine gi_tableIn V dL_law_43 hx q8 (by decide) (by decide) rfl rfl ?_
        exact hl_L_law_J668 hst V hend (w_L_law_L27 G n) ih v0 v1 v2 v3 v4 h kc ks hw
      by_cases q9 : (gAnd r2 63) = 9
      · have hw := hs9 q9
        refine gi_tableIn V dL_law_43 hx q9 (by decide) (by decide) rfl rfl ?_
        exact hl_L_law_J708 hst V hend (w_L_law_L27 G n) ih v0 v1 v2 v3 v4 h kc ks hw
      by_cases q10 : (gAnd r2 63) = 10
      · have hw := hs10 q10
        refine gi_tableIn V dL_law_43 hx q10 (by decide) (by decide) rfl rfl ?_
        exact hl_L_law_J736 hst V hend (w_L_law_L27 G n) ih v0 v1 v2 v3 v4 h kc ks hw
      by_cases q11 : (gAnd r2 63) = 11
      · have hw := hs11 q11
        refine gi_tableIn V dL_law_43 hx q11 (by decide) (by decide) rfl rfl ?_
        exact hl_L_law_J764 hst V hend (w_L_law_L27 G n) ih v0 v1 v2 v3 v4 h kc ks hw
      by_cases q12 : (gAnd r2 63) = 12
      · have hw := hs12 q12
        refine gi_tableIn V dL_law_43 hx q12 (by decide) (by decide) rfl rfl ?_
        exact hl_L_law_J804 hst V hend (w_L_law_L27 G n) ih v0 v1 v2 v3 v4 h kc ks hw
      by_cases q13 : (gAnd r2 63) = 13
      · have hw := hs13 q13
        refine gi_tableIn V dL_law_43 hx q13 (by decide) (by decide) rfl rfl ?_
        exact hl_L_law_J844 hst V hend (w_L_law_L27 G n) ih v0 v1 v2 v3 v4 h kc ks hw
      by_cases q14 : (gAnd r2 63) = 14
      · have hw := hs14 q14
        refine gi_tableIn V dL_law_43 hx q14 (by decide) (by decide) rfl rfl ?_
        exact hl_L_law_J896 hst V hend (w_L_law_L27 G n) ih v0 v1 v2 v3 v4 h kc ks hw
      by_cases q15 : (gAnd r2 63) = 15
      · have hw := hs15 q15
        refine gi_tableIn V dL_law_43 hx q15 (by decide) (by decide) rfl rfl ?_
        exact hl_L_law_J948 hst V hend (w_L_law_L27 G n) ih v0 v1 v2 v3 v4 h kc ks hw
      by_cases q16 : (gAnd r2 63) = 16
      · have hw := hs16 q16
        refine gi_tableIn V dL_law_43 hx q16 (by decide) (by decide) rfl rfl ?_
        exact hl_L_law_J1000 hst V hend (w_L_law_L27 G n) ih v0 v1 v2 v3 v4 h kc ks hw
      by_cases q17 : (gAnd r2 63) = 17
      · have hw := hs17 q17
        refine gi_tableIn V dL_law_43 hx q17 (by decide) (by decide) rfl rfl ?_
        exact hl_L_law_J1052 hst V hend (w_L_law_L27 G n) ih v0 v1 v2 v3 v4 h kc ks hw
      by_cases q18 : (gAnd r2 63) = 18
      · have hw := hs18 q18
        refine gi_tableIn V dL_law_43 hx q18 (by decide) (by decide) rfl rfl ?_
        exact hl_L_law_J1116 hst V hend (w_L_law_L27 G n) ih v0 v1 v2 v3 v4 h kc ks hw
      by_cases q19 : (gAnd r2 63) = 19
      · have hw := hs19 q19
        refine gi_tableIn V dL_law_43 hx q19 (by decide) (by decide) rfl rfl ?_
        exact hl_L_law_J1156 hst V hend (w_L_law_L27 G n) ih v0 v1 v2 v3 v4 h kc ks hw
      by_cases q20 : (gAnd r2 63) = 20
      · have hw := hs20 q20
        refine gi_tableIn V dL_law_43 hx q20 (by decide) (by decide) rfl rfl ?_
        exact hl_L_law_J1184 hst V hend (w_L_law_L27 G n) ih v0 v1 v2 v3 v4 h kc ks hw
      by_cases q21 : (gAnd r2 63) = 21
      · have hw := hs21 q21
        refine gi_tableIn V dL_law_43 hx q21 (by decide) (by decide) rfl rfl ?_
        exact hl_L_law_J1212 hst V hend (w_L_law_L27 G n) ih v0 v1 v2 v3 v4 h kc ks hw
      by_cases q22 : (gAnd r2 63) = 22
      · have hw := hs22 q22
        refine gi_tableIn V dL_law_43 hx q22 (by decide) (by decide) rfl rfl ?_
        exact hl_L_law_J1240 hst V hend (w_L_law_L27 G n) ih v0 v1 v2 v3 v4 h kc ks hw
      by_cases q23 : (gAnd r2 63) = 23
      · have hw := hs23 q23
        refine gi_tableIn V dL_law_43 hx q23 (by decide) (by decide) rfl rfl ?_
        exact hl_L_law_J1280 hst V hend (w_L_law_L27 G n) ih v0 v1 v2 v3 v4 h kc ks hw
      by_cases q24 : (gAnd r2 63) = 24
      · have hw := hs24 q24
        refine gi_tableIn V dL_law_43 hx q24 (by decide) (by decide) rfl rfl ?_
        exact hl_L_law_J1308 hst V hend (w_L_law_L27 G n) ih v0 v1 v2 v3 v4 h kc ks hw
      by_cases q25 : (gAnd r2 63) = 25
      · have hw := hs25 q25
        refine gi_tableIn V dL_law_43 hx q25 (by decide) (by decide) rfl rfl ?_
        exact hl_L_law_J1364 hst V hend (w_L_law_L27 G n) ih v0 v1 v2 v3 v4 h kc ks hw
      by_cases q26 : (gAnd r2 63) = 26
      · have hw := hs26 q26
        refine gi_tableIn V dL_law_43 hx q26 (by decide) (by decide) rfl rfl ?_
        exact hl_L_law_J1416 hst V hend (w_L_law_L27 G n) ih v0 v1 v2 v3 v4 h kc ks hw
      by_cases q27 : (gAnd r2 63) = 27
      · have hw := hs27 q27
        refine gi_tableIn V dL_law_43 hx q27 (by decide) (by decide) rfl rfl ?_
        exact hl_L_law_J1468 hst V hend (w_L_law_L27 G n) ih v0 v1 v2 v3 v4 h kc ks hw
      by_cases q28 : (gAnd r2 63) = 28
      · have hw := hs28 q28
        refine gi_tableIn V dL_law_43 hx q28 (by decide) (by decide) rfl rfl ?_
        exact hl_L_law_J1508 hst V hend (w_L_law_L27 G n) ih v0 v1 v2 v3 v4 h kc ks hw
      by_cases q29 : (gAnd r2 63) = 29
      · have hw := hs29 q29
        refine gi_tableIn V dL_law_43 hx q29 (by decide) (by decide) rfl rfl ?_
        exact hl_L_law_J1536 hst V hend (w_L_law_L27 G n) ih v0 v1 v2 v3 v4 h kc ks hw
      by_cases q30 : (gAnd r2 63) = 30
      · have hw := hs30 q30
        refine gi_tableIn V dL_law_43 hx q30 (by decide) (by decide) rfl rfl ?_
        exact hl_L_law_J1604 hst V hend (w_L_law_L27 G n) ih v0 v1 v2 v3 v4 h kc ks hw
      by_cases q31 : (gAnd r2 63) = 31
      · have hw := hs31 q31
        refine gi_tableIn V dL_law_43 hx q31 (by decide) (by decide) rfl rfl ?_
        exact hl_L_law_J1672 hst V hend (w_L_law_L27 G n) ih v0 v1 v2 v3 v4 h kc ks hw
      by_cases q32 : (gAnd r2 63) = 32
      · have hw := hs32 q32
        refine gi_tableIn V dL_law_43 hx q32 (by decide) (by decide) rfl rfl ?_
        exact hl_L_law_J1700 hst V hend (w_L_law_L27 G n) ih v0 v1 v2 v3 v4 h kc ks hw
      by_cases q33 : (gAnd r2 63) = 33
      · have hw := hs33 q33
        refine gi_tableIn V dL_law_43 hx q33 (by decide) (by decide) rfl rfl ?_
        exact hl_L_law_J1728 hst V hend (w_L_law_L27 G n) ih v0 v1 v2 v3 v4 h kc ks hw
      by_cases q34 : (gAnd r2 63) = 34
      · have hw := hs34 q34
        refine gi_tableIn V dL_law_43 hx q34 (by decide) (by decide) rfl rfl ?_
        exact hl_L_law_J1756 hst V hend (w_L_law_L27 G n) ih v0 v1 v2 v3 v4 h kc ks hw
      by_cases q35 : (gAnd r2 63) = 35
      · have hw := hs35 q35
        refine gi_tableIn V dL_law_43 hx q35 (by decide) (by decide) rfl rfl ?_
        exact hl_L_law_J1784 hst V hend (w_L_law_L27 G n) ih v0 v1 v2 v3 v4 h kc ks hw
      by_cases q36 : (gAnd r2 63) = 36
      · have hw := hs36 q36
        refine gi_tableIn V dL_law_43 hx q36 (by decide) (by decide) rfl rfl ?_
        exact hl_L_law_J1812 hst V hend (w_L_law_L27 G n) ih v0 v1 v2 v3 v4 h kc ks hw
      by_cases q37 : (gAnd r2 63) = 37
      · have hw := hs37 q37
        refine gi_tableIn V dL_law_43 hx q37 (by decide) (by decide) rfl rfl ?_
        exact hl_L_law_J1852 hst V hend (w_L_law_L27 G n) ih v0 v1 v2 v3 v4 h kc ks hw
      by_cases q38 : (gAnd r2 63) = 38
      · have hw := hs38 q38
        refine gi_tableIn V dL_law_43 hx q38 (by decide) (by decide) rfl rfl ?_
        exact hl_L_law_J1880 hst V hend (w_L_law_L27 G n) ih v0 v1 v2 v3 v4 h kc ks hw
      by_cases q39 : (gAnd r2 63) = 39
      · have hw := hs39 q39
        refine gi_tableIn V dL_law_43 hx q39 (by decide) (by decide) rfl rfl ?_
        exact hl_L_law_J1966 hst V hend (w_L_law_L27 G n) ih v0 v1 v2 v3 v4 h kc ks hw
      by_cases q40 : (gAnd r2 63) = 40
      · have hw := hs40 q40
        refine gi_tableIn V dL_law_43 hx q40 (by decide) (by decide) rfl rfl ?_
        exact hl_L_law_J2022 hst V hend (w_L_law_L27 G n) ih v0 v1 v2 v3 v4 h kc ks hw
      by_cases q41 : (gAnd r2 63) = 41
      · have hw := hs41 q41
        refine gi_tableIn V dL_law_43 hx q41 (by decide) (by decide) rfl rfl ?_
        exact hl_L_law_J2078 hst V hend (w_L_law_L27 G n) ih v0 v1 v2 v3 v4 h kc ks hw
      by_cases q42 : (gAnd r2 63) = 42
      · have hw := hs42 q42
        refine gi_tableIn V dL_law_43 hx q42 (by decide) (by decide) rfl rfl ?_
        exact hl_L_law_J2106 hst V hend (w_L_law_L27 G n) ih v0 v1 v2 v3 v4 h kc ks hw
      by_cases q43 : (gAnd r2 63) = 43
      · have hw := hs43 q43
        refine gi_tableIn V dL_law_43 hx q43 (by decide) (by decide) rfl rfl ?_
        exact hl_L_law_J2134 hst V hend (w_L_law_L27 G n) ih v0 v1 v2 v3 v4 h kc ks hw
      by_cases q44 : (gAnd r2 63) = 44
      · have hw := hs44 q44
        refine gi_tableIn V dL_law_43 hx q44 (by decide) (by decide) rfl rfl ?_
        exact hl_L_law_J2162 hst V hend (w_L_law_L27 G n) ih v0 v1 v2 v3 v4 h kc ks hw
      by_cases q45 : (gAnd r2 63) = 45
      · have hw := hs45 q45
        refine gi_tableIn V dL_law_43 hx q45 (by decide) (by decide) rfl rfl ?_
        exact hl_L_law_J2175 hst V hend (w_L_law_L27 G n) ih v0 v1 v2 v3 v4 h kc ks hw
      by_cases q46 : (gAnd r2 63) = 46
      · have hw := hs46 q46
        refine gi_tableIn V dL_law_43 hx q46 (by decide) (by decide) rfl rfl ?_
        exact hl_L_law_J2188 hst V hend (w_L_law_L27 G n) ih v0 v1 v2 v3 v4 h kc ks hw
      have qd : (gAnd r2 63) < 0 ∨ 46 < (gAnd r2 63) := by omega
      have hw := hsd qd
      refine gi_tableOut V dL_law_43 hx qd rfl ?_
      exact hl_L_law_J2201 hst V hend (w_L_law_L27 G n) ih v0 v1 v2 v3 v4 h kc ks hw
theorem k_law {p : Program} {l : Launch} {e : Env} {s : State} {m : MethodId} {args : Array Value} {below : List Frame} {meth : Method} {c : Code} {G : gaG} {nm : String} {Z : State → Prop} (hst : l.stackTraces = false) (V : gaV p l s m args meth c G code RL 7 gaW ret nm)
    (hend : ∀ (pc : Nat) (lv : List (Option Value)) (h : gaH) (k j : Nat), decode code pc = .ok (.ireturn, 1) → gaP p l e room_1 s m args below meth c G 7 Z pc lv [gi 1] h k j) {a0 : Nat} {h : gaH} {kc ks : Nat} (hw : w_L_law G a0 h kc ks) : gaP p l e room_1 s m args below meth c G 7 Z 0 [some (.ref a0), none, none, none, none, none, none] [] h kc ks := by
  unfold w_L_law at hw
  obtain ⟨hk, hj, hw⟩ := hw
  refine g_new (ci := 5) (C := RX5) (T := TX5) (N := 9) (fs := [.null, .null, .null, .null, .null, gi 0, gi 0, gi 0, gi 0]) V tyX5 tyX5_ok rfl hin_RX5 (by decide) ww_1_26 ww_1_27 ww_1_1 hdf_RX5 dL_law_0 rfl hk hj (fun o1 hf => ?_)
  obtain ⟨c3, s4, ec, es, hw⟩ := hw o1 hf
  refine ga_re ec es ?_
  generalize gaUp h o1 _ = hp2 at hw ⊢
  refine g_dup V dL_law_3 rfl rfl ?_
  obtain ⟨hk, hj, c7, s8, ec, es, hw⟩ := hw
  refine g_callI (st := [.ref o1]) V (k_X5_init hst hw) ww_1_28 ww_1_29 ww_1_1 ww_1_30 rfl hd_X5_init ⟨by decide, by decide⟩ rfl rfl (ga_cat rfl) dL_law_4 hk hj rfl ga_none (ga_kv (fun hp5 hw => ?_))
  refine ga_re ec es ?_
  refine g_astore_n (lv2 := [some (.ref a0), some (.ref o1), none, none, none, none, none]) V dL_law_7 (by decide) rfl rfl rfl ?_
  obtain ⟨hk, hj, hw⟩ := hw
  refine g_new (ci := 7) (C := RX7) (T := TX7) (N := 8) (fs := [.null, .null, .null, gi 0, gi 0, gi 0, gi 0, gi 0]) V tyX7 tyX7_ok rfl hin_RX7 (by decide) ww_5_173 ww_5_174 ww_1_5 hdf_RX7 dL_law_8 rfl hk hj (fun o9 hf => ?_)
  obtain ⟨c11, s12, ec, es, hw⟩ := hw o9 hf
  refine ga_re ec es ?_
  generalize gaUp hp5 o9 _ = hp10 at hw ⊢
  refine g_dup V dL_law_11 rfl rfl ?_
  obtain ⟨hk, hj, c15, s16, ec, es, hw⟩ := hw
  refine g_callI (st := [.ref o9]) V (k_X7_init hst hw) ww_5_175 ww_5_176 ww_1_5 ww_5_177 rfl hd_X7_init ⟨by decide, by decide⟩ rfl rfl (ga_cat rfl) dL_law_12 hk hj rfl ga_none (ga_kv (fun hp13 hw => ?_))
  refine ga_re ec es ?_
  refine g_astore_n (lv2 := [some (.ref a0), some (.ref o1), some (.ref o9), none, none, none, none]) V dL_law_15 (by decide) rfl rfl rfl ?_
  obtain ⟨hk, hj, hw⟩ := hw
  refine g_new (ci := 6) (C := RX6) (T := TX6) (N := 2) (fs := [.long 0, .null]) V tyX6 tyX6_ok rfl hin_RX6 (by decide) ww_2_192 ww_2_193 ww_1_6 hdf_RX6 dL_law_16 rfl hk hj (fun o17 hf => ?_)
  obtain ⟨c19, s20, ec, es, hw⟩ := hw o17 hf
  refine ga_re ec es ?_
  generalize gaUp hp13 o17 _ = hp18 at hw ⊢
  refine g_dup V dL_law_19 rfl rfl ?_
  refine g_callIN (host := "WordgardenLaw") (st := [.ref o17]) V (k_X6_init hst hw) gn_21 ww_2_195 ww_1_6 ww_2_196 rfl hd_X6_init ⟨by decide, by decide⟩ rfl rfl (ga_cat rfl) dL_law_20 (Nat.zero_le _) (Nat.zero_le _) rfl ga_none (ga_kv (fun hp21 hw => ?_))
  refine g_astore_n (lv2 := [some (.ref a0), some (.ref o1), some (.ref o9), some (.ref o17), none, none, none]) V dL_law_23 (by decide) rfl rfl rfl ?_
  refine g_iconst V (Int32.ofInt 0) dL_law_24 rfl rfl ?_
  refine g_istore (lv2 := [some (.ref a0), some (.ref o1), some (.ref o9), some (.ref o17), some (gi 0), none, none]) V dL_law_25 (by decide) rfl rfl rfl ?_
  obtain ⟨z, hw⟩ := hw
  exact hl_L_law_L27 hst V hend z a0 o1 o9 o17 0 hp21 c19 s20 hw
/-! The law's start: where its classes' fields lie, its statics, its texts. -/
def gaCodes : List Value := [gi 0, gi 5, gi 9, gi 17]
def gaOnes : List Value := (List.range 100).map (fun i => gi ((48 + i % 10 : Nat) : Int))
theorem ga_T {s : State} {ty : FieldType} {t : Nat} {vs : List Value} {A : Nat → Prop} {x : Nat} (h : va_T ty t vs.length (fun j => vs.getD j .null) A s s.heap) (hx : gaTy (x - 1000) = ty) : gaRo s t (x, vs) s.heap := by
  obtain ⟨cell, h1, h2, h3, h4, h5, h6, h7⟩ := h
  refine ⟨cell, h1, by rw [hx]; exact h2, h3, h5, h4, fun j v hj => ?_⟩
  have hl : j < vs.length := (List.getElem?_eq_some_iff.mp hj).1
  rw [h6 j hl]
  show some (vs.getD j .null) = some v
  have hj2 : vs[j]? = some v := hj
  rw [List.getD_eq_getElem?_getD, hj2]
  rfl
theorem ga_tydiff {s : State} {c1 c2 : Cell} {t1 t2 : FieldType} {a b : Nat} {H : Heap} (h1 : H[a]? = some c1) (h2 : H[b]? = some c2) (k1 : s.isArrayOf c1 t1) (k2 : s.isArrayOf c2 t2) (hne : t1 ≠ t2) : a ≠ b := by
  rintro rfl
  cases h1.symm.trans h2
  obtain ⟨-, kA, q1, comp, q2⟩ := k1
  obtain ⟨-, kB, q3, comp2, q4⟩ := k2
  cases q1.symm.trans q3
  rw [q2] at q4
  cases q4
  exact hne rfl
theorem ga_arr {s : State} {args : Array Value} {ty : FieldType} (h : (Cond.arrayClass ty).before args s = true) : ∃ (c : ClassId) (k : Class) (comp : ClassId), s.vm.findClass ("[" ++ ty.toString) = some c ∧ s.vm.classes[c]? = some k ∧ k.kind = .array comp ty := by
  obtain ⟨cA, kA, comp, h1, h2, h3⟩ := Cond.arrayClass_spec h
  exact ⟨cA, kA, comp, h1, h2, h3⟩
theorem ga_selP {y : MethodName} {s : State} {args : Array Value} {C : String} {n : Nat} (hy : y.cls ≠ "java/lang/invoke/MethodHandle" ∧ y.cls ≠ "java/lang/invoke/VarHandle") (hins : (Cond.instantiable C n).before args s = true) (hsame : (Cond.sameMethod y.cls y.cls y.name y.desc).before args s = true)
    (hpriv : (Cond.privateMethod y).before args s = true) (hinst : (Cond.instanceMethod y).before args s = true) : (Cond.selects C y y).before args s = true := by
  obtain ⟨c, k, hc, hk, -, -, -, -⟩ := Cond.instantiable_spec hins
  obtain ⟨mk, methM, hnamed, hmethM, -, -⟩ := Cond.instanceMethod_spec hinst
  have hfound : s.methodFound? y.cls y.name y.desc = some mk := State.methodFound?_of_named hnamed hy
  obtain ⟨-, k2, hk2, hni⟩ := Cond.sameMethod_spec (findClass_of_methodNamed hnamed) hfound hsame
  have hsel : selectMethod {} s.vm c mk = .method mk := selectMethod_private hmethM (Cond.privateMethod_at hpriv mk methM hnamed hmethM)
  simp only [Cond.before, Cond.holds, Cond.value, hc, hfound, hnamed, hsel, hk2]
  simp; exact hni
theorem gaIx1 {w : Cond} {i : Nat} (h0 : tables_1_1[i]? = some w) : w ∈ tables_1 := by
  have h : w ∈ tables_1_1 := List.mem_of_getElem? h0
  exact List.mem_append_left _ h
theorem gaIx2 {w : Cond} {i : Nat} (h0 : tables_1_2[i]? = some w) : w ∈ tables_1 := by
  have h : w ∈ tables_1_2 := List.mem_of_getElem? h0
  exact List.mem_append_right _ (List.mem_append_left _ h)
theorem gaIx3 {w : Cond} {i : Nat} (h0 : tables_1_3[i]? = some w) : w ∈ tables_1 := by
  have h : w ∈ tables_1_3 := List.mem_of_getElem? h0
  exact List.mem_append_right _ (List.mem_append_right _ (List.mem_append_left _ h))
theorem gaIx4 {w : Cond} {i : Nat} (h0 : tables_1_4[i]? = some w) : w ∈ tables_1 := by
  have h : w ∈ tables_1_4 := List.mem_of_getElem? h0
  exact List.mem_append_right _ (List.mem_append_right _ (List.mem_append_right _ (List.mem_append_left _ h)))
theorem gaIx5 {w : Cond} {i : Nat} (h0 : tables_1_5[i]? = some w) : w ∈ tables_1 := by
  have h : w ∈ tables_1_5 := List.mem_of_getElem? h0
  exact List.mem_append_right _ (List.mem_append_right _ (List.mem_append_right _ (List.mem_append_right _ (List.mem_append_left _ h))))
theorem gaIx6 {w : Cond} {i : Nat} (h0 : tables_1_6[i]? = some w) : w ∈ tables_1 := by
  have h : w ∈ tables_1_6 := List.mem_of_getElem? h0
  exact List.mem_append_right _ (List.mem_append_right _ (List.mem_append_right _ (List.mem_append_right _ (List.mem_append_right _ (List.mem_append_left _ h)))))
theorem gaIx7 {w : Cond} {i : Nat} (h0 : tables_1_7[i]? = some w) : w ∈ tables_1 := by
  have h : w ∈ tables_1_7 := List.mem_of_getElem? h0
  exact List.mem_append_right _ (List.mem_append_right _ (List.mem_append_right _ (List.mem_append_right _ (List.mem_append_right _ (List.mem_append_right _ (h))))))
theorem ga_str {s : State} {args : Array Value} {t : Term} {C : String} (h : (Cond.exactly t C).before args s = true) : ∃ u : Nat, t.eval args s none [] s = some (.ref u) := by
  cases hv : t.eval args s none [] s with
  | none => simp [Cond.before, Cond.holds, Cond.value, hv] at h
  | some w =>
    cases w with
    | ref u => exact ⟨u, rfl⟩
    | _ =>
      exfalso
      revert h
      simp only [Cond.before, Cond.holds, Cond.value, hv]
      cases s.vm.findClass C <;> simp
theorem ga_strR {own tx : String} {k a : Nat} {A : Array Value} {U : State} (h1 : (Cond.stringRef own k tx).before A U = true) (h2 : (Term.string own k).eval A U none [] U = some (.ref a)) : vk_R own k tx a U := vk_R.of h1 h2
theorem ga_noteq {s : State} {args : Array Value} {t u : Term} (h : (Cond.not (.eq t u)).before args s = true) {x : Nat} (h1 : t.eval args s none [] s = some (.ref x)) (h2 : u.eval args s none [] s = some (.ref x)) : False := by
  simp [Cond.before, Cond.holds, Cond.value, h1, h2] at h
theorem gaOverA {ty : FieldType} {A : Array Value} {U : State} (h : (Cond.arrayOver ty).before A U = true) : (Cond.arrayOver ty).before #[] U = true := h
theorem ga_nestsSub : gaSub gaNests tables_1 = true := by decide +kernel
theorem ga_nestsIn : ∀ w ∈ gaNests, w ∈ tables_1 := gaSub_mem _ _ ga_nestsSub
section GST
variable {s : State} {b L : Nat} {xs : Nat → Int32}
theorem ga_hsel (hts : ∀ w ∈ lw_tbl, w.before #[Value.ref b] s = true) : ∀ w ∈ gaSel, w.before #[Value.ref b] s = true := by
  refine List.forall_mem_cons.mpr ⟨?_, List.forall_mem_cons.mpr ⟨?_, fun _ h => absurd h List.not_mem_nil⟩⟩
  · exact ga_selP ⟨by decide, by decide⟩ (hts _ (List.mem_append_right _ (gaIx4 (i := 26) rfl))) (hts _ (List.mem_append_right _ (gaIx7 (i := 88) rfl))) (hts _ (List.mem_append_right _ (gaIx4 (i := 64) rfl))) (hts _ (List.mem_append_right _ (gaIx4 (i := 65) rfl)))
  · exact ga_selP ⟨by decide, by decide⟩ (hts _ (List.mem_append_right _ (gaIx4 (i := 26) rfl))) (hts _ (List.mem_append_right _ (gaIx7 (i := 89) rfl))) (hts _ (List.mem_append_right _ (gaIx4 (i := 68) rfl))) (hts _ (List.mem_append_right _ (gaIx4 (i := 69) rfl)))
theorem ga_vaK (hts : ∀ w ∈ lw_tbl, w.before #[Value.ref b] s = true) : ∃ D : va_G, va_K D vwCl [] s := by
  have hW := gaW_hts (ga_hsel hts) hts
  obtain ⟨c0, iS0, hKn0⟩ := u_known (C := RJ0) (T := TJ0) (N := 4) (n := 4) hW hin_RJ0 (hts _ (List.mem_append_right _ (gaIx4 (i := 152) rfl)))
  obtain ⟨c1, iS1, hKn1⟩ := u_known (C := RJ4) (T := TJ4) (N := 4) (n := 4) hW hin_RJ4 (hts _ (List.mem_append_right _ (gaIx4 (i := 26) rfl)))
  obtain ⟨c2, iS2, hKn2⟩ := u_known (C := RX0) (T := TX0) (N := 4) (n := 4) hW hin_RX0 (hts _ (List.mem_append_right _ (gaIx1 (i := 74) rfl)))
  obtain ⟨c3, iS3, hKn3⟩ := u_known (C := RX2) (T := TX2) (N := 3) (n := 3) hW hin_RX2 (hts _ (List.mem_append_right _ (gaIx1 (i := 39) rfl)))
  obtain ⟨c4, iS4, hKn4⟩ := u_known (C := RX4) (T := TX4) (N := 2) (n := 2) hW hin_RX4 (hts _ (List.mem_append_right _ (gaIx1 (i := 45) rfl)))
  obtain ⟨c5, iS5, hKn5⟩ := u_known (C := RX5) (T := TX5) (N := 9) (n := 9) hW hin_RX5 (hts _ (List.mem_append_right _ (gaIx1 (i := 27) rfl)))
  obtain ⟨c6, iS6, hKn6⟩ := u_known (C := RX6) (T := TX6) (N := 2) (n := 2) hW hin_RX6 (hts _ (List.mem_append_right _ (gaIx2 (i := 193) rfl)))
  obtain ⟨c7, iS7, hKn7⟩ := u_known (C := RX7) (T := TX7) (N := 8) (n := 8) hW hin_RX7 (hts _ (List.mem_append_right _ (gaIx5 (i := 174) rfl)))
  refine ⟨(fun k => if k = 0 then c0 else if k = 1 then c1 else if k = 2 then c2 else if k = 3 then c3 else if k = 4 then c4 else if k = 5 then c5 else if k = 6 then c6 else c7, fun k => if k = 0 then iS0 else if k = 1 then iS1 else if k = 2 then iS2 else if k = 3 then iS3 else if k = 4 then iS4 else if k = 5 then iS5 else if k = 6 then iS6 else iS7), fun k q hq => ?_, fun k q h => by simp at h⟩
  match k, hq with
  | 0, hq => cases hq; exact hKn0
  | 1, hq => cases hq; exact hKn1
  | 2, hq => cases hq; exact hKn2
  | 3, hq => cases hq; exact hKn3
  | 4, hq => cases hq; exact hKn4
  | 5, hq => cases hq; exact hKn5
  | 6, hq => cases hq; exact hKn6
  | 7, hq => cases hq; exact hKn7
  | k + 8, hq => simp [vwCl] at hq
theorem ga_gaK (hts : ∀ w ∈ lw_tbl, w.before #[Value.ref b] s = true) : ∃ dA : Nat → ClassId, ∀ (D : va_G) (B : Nat) (f : Nat → Nat), gaK (D, dA, B, f) s := by
  obtain ⟨c0, k0, m0, z1, z2, z3⟩ := ga_arr (hts _ (List.mem_append_right _ (gaIx1 (i := 62) rfl)))
  obtain ⟨c1, k1, m1, i1, i2, i3⟩ := ga_arr (hts _ (List.mem_append_right _ (gaIx1 (i := 221) rfl)))
  obtain ⟨c2, k2, m2, j1, j2, j3⟩ := ga_arr (hts _ (List.mem_append_right _ (gaIx1 (i := 109) rfl)))
  obtain ⟨p3, c3, k3, f3, -, g3, q3, r3⟩ := Cond.arrayOver_spec (hts _ (List.mem_append_right _ (gaIx1 (i := 35) rfl)))
  obtain ⟨p4, c4, k4, f4, -, g4, q4, r4⟩ := Cond.arrayOver_spec (hts _ (List.mem_append_right _ (gaIx1 (i := 37) rfl)))
  obtain ⟨p5, c5, k5, f5, -, g5, q5, r5⟩ := arrayOverA_spec (hts _ (List.mem_append_right _ (gaIx5 (i := 180) rfl)))
  refine ⟨fun t => if t = 100 then c0 else if t = 101 then c1 else if t = 102 then c2 else if t = 110 then c3 else if t = 111 then c4 else c5, fun D B f t ht => ?_⟩
  rcases ht with rfl | rfl | rfl | rfl | rfl | rfl
  · exact ⟨k0, m0, z1, z2, z3, fun q => by omega⟩
  · exact ⟨k1, m1, i1, i2, i3, fun q => by omega⟩
  · exact ⟨k2, m2, j1, j2, j3, fun q => by omega⟩
  · exact ⟨k3, p3, r3, g3, q3, fun _ => f3⟩
  · exact ⟨k4, p4, r4, g4, q4, fun _ => f4⟩
  · exact ⟨k5, p5, r5, g5, q5, fun _ => f5⟩
abbrev gaNar : Cond := Jvm.Cond.and given_1 narrow_1
def stPre : List Cond := [Cond.isRef (.static "java/lang/Throwable" "UNASSIGNED_STACK" "[Ljava/lang/StackTraceElement;"), Cond.isRef (.static "java/lang/Throwable" "SUPPRESSED_SENTINEL" "Ljava/util/List;"), Cond.arrayOf (.static "Wordgarden$Growth" "CODES_FOR_A" "[I") .int, Cond.eq (.length (.static "Wordgarden$Growth" "CODES_FOR_A" "[I")) (.int (Int32.ofNat 4)), Cond.eq (.elem (.static "Wordgarden$Growth" "CODES_FOR_A" "[I") (.int (Int32.ofNat 0))) (.int (Int32.ofNat 0)), Cond.eq (.elem (.static "Wordgarden$Growth" "CODES_FOR_A" "[I") (.int (Int32.ofNat 1))) (.int (Int32.ofNat 5)), Cond.eq (.elem (.static "Wordgarden$Growth" "CODES_FOR_A" "[I") (.int (Int32.ofNat 2))) (.int (Int32.ofNat 9)), Cond.eq (.elem (.static "Wordgarden$Growth" "CODES_FOR_A" "[I") (.int (Int32.ofNat 3))) (.int (Int32.ofNat 17)), Cond.eq (.static "java/lang/String" "COMPACT_STRINGS" "Z") (.int 1), Cond.arrayOf (.static "java/lang/Integer" "DigitOnes" "[B") .byte, Cond.eq (.length (.static "java/lang/Integer" "DigitOnes" "[B")) (.int (Int32.ofNat 100))]
def stDig : List Cond := (List.range 100).map (fun j => Cond.eq (.elem (.static "java/lang/Integer" "DigitOnes" "[B") (.int (Int32.ofNat j))) (.int (Int32.ofNat (48 + j % 10))))
def stPost : List Cond := [Cond.eq (.length (.static "java/lang/Integer" "DigitTens" "[B")) (.int (Int32.ofNat 100)), Cond.not (.castable "java/lang/IllegalArgumentException" "java/lang/IndexOutOfBoundsException"), Cond.not (.castable "java/lang/IllegalStateException" "java/lang/IndexOutOfBoundsException"), Cond.not (.castable "java/lang/IllegalStateException" "java/lang/IllegalArgumentException"), Cond.exactly (.string "Wordgarden" 287) "java/lang/String", Cond.exactly (.string "Wordgarden" 292) "java/lang/String", Cond.exactly (.string "Wordgarden" 298) "java/lang/String", Cond.exactly (.string "Wordgarden" 294) "java/lang/String", Cond.exactly (.string "Wordgarden" 303) "java/lang/String", Cond.exactly (.string "WordgardenModel" 150) "java/lang/String", Cond.not (.eq (.arg 0) (.static "Wordgarden$Growth" "CODES_FOR_A" "[I"))]
theorem stNeed_sub : gaSub (stPre ++ (stDig ++ stPost)) (flatC gaNar) = true := by decide +kernel
theorem stNeed_in {w : Cond} (h : w ∈ stPre ++ (stDig ++ stPost)) : w ∈ flatC gaNar := gaSub_mem _ _ stNeed_sub w h
theorem stPre_in {w : Cond} (i : Nat) (h : stPre[i]? = some w) : w ∈ flatC gaNar := stNeed_in (List.mem_append_left _ (List.mem_of_getElem? h))
theorem stPost_in {w : Cond} (i : Nat) (h : stPost[i]? = some w) : w ∈ flatC gaNar := stNeed_in (List.mem_append_right _ (List.mem_append_right _ (List.mem_of_getElem? h)))
theorem ga_dig : ∀ j, j < 100 → Cond.eq (.elem (.static "java/lang/Integer" "DigitOnes" "[B") (.int (Int32.ofNat j))) (.int (Int32.ofNat (48 + j % 10))) ∈ flatC gaNar := fun j hj => stNeed_in (List.mem_append_right _ (List.mem_append_left _ (List.mem_map.mpr ⟨j, List.mem_range.mpr hj, rfl⟩)))
theorem ga_cod : ∀ j, j < 4 → Cond.eq (.elem (.static "Wordgarden$Growth" "CODES_FOR_A" "[I") (.int (Int32.ofNat j))) (.int (if j = 0 then 0 else if j = 1 then 5 else if j = 2 then 9 else 17)) ∈ flatC gaNar := fun j hj => by
  match j, hj with
  | 0, _ => exact (stPre_in 4 rfl)
  | 1, _ => exact (stPre_in 5 rfl)
  | 2, _ => exact (stPre_in 6 rfl)
  | 3, _ => exact (stPre_in 7 rfl)
  | j + 4, h => omega
theorem ga_ones : ∀ j, j < 100 → gaOnes.getD j .null = .int (Int32.ofNat (48 + j % 10)) := by decide +kernel
theorem ga_cods : ∀ j, j < 4 → gaCodes.getD j .null = .int (if j = 0 then 0 else if j = 1 then 5 else if j = 2 then 9 else 17) := by decide +kernel
theorem ga_begin (hts : ∀ w ∈ lw_tbl, w.before #[Value.ref b] s = true) (hX : va_X b L xs s s.heap) (hgv : gaNar.before #[Value.ref b] s = true) (hL : L ≤ 320) :
    ∃ (G : gaG) (h0 : gaH), gaF G s s.heap ∧ G.2.2.1 = s.heap.size ∧ gaR G s h0 s.heap ∧ h0 b = some (1102, (List.range L).map (fun i => Value.int (xs i))) ∧ h0 (G.2.2.2 0) = some (1102, gaCodes) ∧ h0 (G.2.2.2 1) = some (1101, gaOnes) := by
  obtain ⟨D, hD⟩ := ga_vaK hts
  obtain ⟨dA, hdA⟩ := ga_gaK hts
  have hfl := flat_of_before _ hgv
  have hA : ∀ q : Nat, q < s.heap.size → ¬ (fun q : Nat => s.heap.size ≤ q) q := fun q hq => Nat.not_le.mpr hq
  obtain ⟨t0, e0, T0⟩ := va_Tof (args := #[Value.ref b]) (s := s) (tm := (.static "Wordgarden$Growth" "CODES_FOR_A" "[I")) (ty := .int) (N := 4) (f := fun j => gaCodes.getD j .null) (A := fun q : Nat => s.heap.size ≤ q) (by decide) (hfl _ (stPre_in 2 rfl)) (va_eqt (z := Int32.ofNat 4) (hfl _ (stPre_in 3 rfl))) (fun j hj => by rw [ga_cods j hj]; exact va_eqt (hfl _ (ga_cod j hj))) hA
  obtain ⟨t1, e1, T1⟩ := va_Tof (args := #[Value.ref b]) (s := s) (tm := (.static "java/lang/Integer" "DigitOnes" "[B")) (ty := .byte) (N := 100) (f := fun j => gaOnes.getD j .null) (A := fun q : Nat => s.heap.size ≤ q) (by decide) (hfl _ (stPre_in 9 rfl)) (va_eqt (z := Int32.ofNat 100) (hfl _ (stPre_in 10 rfl))) (fun j hj => by rw [ga_ones j hj]; exact va_eqt (hfl _ (ga_dig j hj))) hA
  obtain ⟨t2, c2, e2, -, -⟩ := Term.length_spec (va_eqt (z := Int32.ofNat 100) (hfl (Cond.eq (.length (.static "java/lang/Integer" "DigitTens" "[B")) (.int (Int32.ofNat 100))) (stPost_in 0 rfl)))
  obtain ⟨u0, v0⟩ : ∃ u : Nat, (Term.string "Wordgarden" 287).eval #[Value.ref b] s none [] s = some (.ref u) := ga_str (hfl (Cond.exactly (.string "Wordgarden" 287) "java/lang/String") (stPost_in 4 rfl))
  obtain ⟨u1, v1⟩ : ∃ u : Nat, (Term.string "Wordgarden" 292).eval #[Value.ref b] s none [] s = some (.ref u) := ga_str (hfl (Cond.exactly (.string "Wordgarden" 292) "java/lang/String") (stPost_in 5 rfl))
  obtain ⟨u2, v2⟩ : ∃ u : Nat, (Term.string "Wordgarden" 298).eval #[Value.ref b] s none [] s = some (.ref u) := ga_str (hfl (Cond.exactly (.string "Wordgarden" 298) "java/lang/String") (stPost_in 6 rfl))
  obtain ⟨u3, v3⟩ : ∃ u : Nat, (Term.string "Wordgarden" 294).eval #[Value.ref b] s none [] s = some (.ref u) := ga_str (hfl (Cond.exactly (.string "Wordgarden" 294) "java/lang/String") (stPost_in 7 rfl))
  obtain ⟨u4, v4⟩ : ∃ u : Nat, (Term.string "Wordgarden" 303).eval #[Value.ref b] s none [] s = some (.ref u) := ga_str (hfl (Cond.exactly (.string "Wordgarden" 303) "java/lang/String") (stPost_in 8 rfl))
  obtain ⟨u5, v5⟩ : ∃ u : Nat, (Term.string "WordgardenModel" 150).eval #[Value.ref b] s none [] s = some (.ref u) := ga_str (hfl (Cond.exactly (.string "WordgardenModel" 150) "java/lang/String") (stPost_in 9 rfl))
  obtain ⟨cb, b1, b2, b3, b4, b5⟩ := id hX
  obtain ⟨cc0, y1, y2, -⟩ := id T0
  obtain ⟨cc1, w1, w2, -⟩ := id T1
  have n0 : b ≠ t0 := fun hq => by
    have hne : (Cond.not (.eq (.arg 0) (.static "Wordgarden$Growth" "CODES_FOR_A" "[I"))).before #[Value.ref b] s = true := hfl _ (stPost_in 10 rfl)
    exact ga_noteq hne (x := b) rfl (by rw [e0, hq])
  have n1 : b ≠ t1 := ga_tydiff b1 w1 b2 w2 (by decide)
  have n2 : t0 ≠ t1 := ga_tydiff y1 w1 y2 w2 (by decide)
  refine ⟨(D, dA, s.heap.size, fun k => if k = 0 then t0 else if k = 1 then t1 else if k = 2 then t2 else if k = 10 then u0 else if k = 11 then u1 else if k = 12 then u2 else if k = 13 then u3 else if k = 14 then u4 else u5), fun a => if a = b then some (1102, (List.range L).map (fun i => Value.int (xs i))) else if a = t0 then some (1102, gaCodes) else if a = t1 then some (1101, gaOnes) else none, ⟨hD, hdA _ _ _, Nat.le_refl _, ⟨?_, ?_, ?_, ?_⟩, ⟨?_, ?_⟩, ?_, ?_, ?_, ?_⟩, rfl, ?_, ?_, ?_, ?_⟩
  · exact va_Zref (hts _ (List.mem_append_right _ (gaIx2 (i := 30) rfl))) (hts _ (List.mem_append_right _ (gaIx1 (i := 4) rfl))) e0 hA
  · exact va_Zof (hts _ (List.mem_append_right _ (gaIx4 (i := 35) rfl))) (hts _ (List.mem_append_right _ (gaIx1 (i := 19) rfl))) (va_eqt (hfl _ (stPre_in 8 rfl))) hA
  · exact va_Zref (hts _ (List.mem_append_right _ (gaIx4 (i := 200) rfl))) (hts _ (List.mem_append_right _ (gaIx1 (i := 14) rfl))) e1 hA
  · exact va_Zref (hts _ (List.mem_append_right _ (gaIx4 (i := 202) rfl))) (hts _ (List.mem_append_right _ (gaIx1 (i := 14) rfl))) e2 hA
  · exact vx_Zqof (hts _ (List.mem_append_right _ (gaIx1 (i := 181) rfl))) (hts _ (List.mem_append_right _ (gaIx1 (i := 7) rfl))) (hfl _ (stPre_in 0 rfl)) hA
  · exact vx_Zqof (hts _ (List.mem_append_right _ (gaIx1 (i := 183) rfl))) (hts _ (List.mem_append_right _ (gaIx1 (i := 7) rfl))) (hfl _ (stPre_in 1 rfl)) hA
  · refine List.forall_mem_cons.mpr ⟨?_, List.forall_mem_cons.mpr ⟨?_, List.forall_mem_cons.mpr ⟨?_, List.forall_mem_cons.mpr ⟨?_, List.forall_mem_cons.mpr ⟨?_, List.forall_mem_cons.mpr ⟨?_, fun _ h => absurd h List.not_mem_nil⟩⟩⟩⟩⟩⟩
    · exact ga_strR (hts _ (List.mem_append_right _ (gaIx1 (i := 195) rfl))) v0
    · exact ga_strR (hts _ (List.mem_append_right _ (gaIx2 (i := 17) rfl))) v1
    · exact ga_strR (hts _ (List.mem_append_right _ (gaIx2 (i := 184) rfl))) v2
    · exact ga_strR (hts _ (List.mem_append_right _ (gaIx3 (i := 8) rfl))) v3
    · exact ga_strR (hts _ (List.mem_append_right _ (gaIx3 (i := 136) rfl))) v4
    · exact ga_strR (hts _ (List.mem_append_right _ (gaIx6 (i := 167) rfl))) v5
  · exact fun w hw => va_Nw.of (gaNest_tab (gaNests_ok w hw)) (hts _ (List.mem_append_right _ (ga_nestsIn w hw)))
  · refine List.forall_mem_cons.mpr ⟨va_Nc.of (hfl _ (stPost_in 1 rfl)), List.forall_mem_cons.mpr ⟨va_Nc.of (hfl _ (stPost_in 2 rfl)), List.forall_mem_cons.mpr ⟨va_Nc.of (hfl _ (stPost_in 3 rfl)), fun _ h => absurd h List.not_mem_nil⟩⟩⟩
  · intro t ht
    rcases (show t = 110 ∨ t = 111 ∨ t = 112 by omega) with rfl | rfl | rfl
    · exact gaOverA (hts _ (List.mem_append_right _ (gaIx1 (i := 35) rfl)))
    · exact gaOverA (hts _ (List.mem_append_right _ (gaIx1 (i := 37) rfl)))
    · exact gaOverA (hts _ (List.mem_append_right _ (gaIx5 (i := 180) rfl)))
  · intro a e9 ha
    have ha : (if a = b then some (1102, (List.range L).map (fun i => Value.int (xs i))) else if a = t0 then some (1102, gaCodes) else if a = t1 then some (1101, gaOnes) else none) = some e9 := ha
    by_cases h1 : a = b
    · subst h1
      rw [if_pos rfl] at ha
      cases ha
      have hlen : ((List.range L).map (fun i => Value.int (xs i))).length = L := by rw [List.length_map, List.length_range]
      have b2 : s.isArrayOf cb (gaTy (1102 - 1000)) := by rw [show gaTy (1102 - 1000) = .int by simp [gaTy]]; exact b2
      refine Or.inr ⟨show 1000 ≤ 1102 by decide, ⟨cb, b1, b2, b3, ?_, ?_, fun j v hj => ?_⟩⟩
      · show cb.slots.size.toInt32 = Int32.ofNat ((List.range L).map (fun i => Value.int (xs i))).length
        rw [hlen, b4]
      · show ((List.range L).map (fun i => Value.int (xs i))).length ≤ cb.slots.size
        rw [hlen, b4]
        exact Nat.le_refl _
      have hl : j < L := by
        have := (List.getElem?_eq_some_iff.mp hj).1
        simpa using this
      have e := b5 j hl
      simp [List.getElem?_map, List.getElem?_range hl] at hj
      rw [e, hj]
    · rw [if_neg h1] at ha
      by_cases h2 : a = t0
      · subst h2
        rw [if_pos rfl] at ha
        cases ha
        exact Or.inr ⟨show 1000 ≤ 1102 by decide, ga_T (x := 1102) T0 rfl⟩
      · rw [if_neg h2] at ha
        by_cases h3 : a = t1
        · subst h3
          rw [if_pos rfl] at ha
          cases ha
          exact Or.inr ⟨show 1000 ≤ 1101 by decide, ga_T (x := 1101) (vs := gaOnes) T1 rfl⟩
        · rw [if_neg h3] at ha
          cases ha
  · exact if_pos rfl
  · show (if t0 = b then some (1102, (List.range L).map (fun i => Value.int (xs i))) else if t0 = t0 then some (1102, gaCodes) else if t0 = t1 then some (1101, gaOnes) else none) = some (1102, gaCodes)
    rw [if_neg n0.symm, if_pos rfl]
  · show (if t1 = b then some (1102, (List.range L).map (fun i => Value.int (xs i))) else if t1 = t0 then some (1102, gaCodes) else if t1 = t1 then some (1101, gaOnes) else none) = some (1101, gaOnes)
    rw [if_neg n1.symm, if_neg n2.symm, if_pos rfl]
end GST
